set_option maxRecDepth 100000
def bOK (T : List Tok) (s : PS) (x : PE (Nat × PS)) : Prop := ∀ q, x = .ok q → s.1 < q.2.1 ∧ q.2.1 ≤ T.length ∧ q.2.2.2.2.1 + 1 + 2 * s.1 ≤ s.2.2.2.1 + 2 * q.2.1 ∧ q.1 + 1 = q.2.2.2.2.1 ∧ s.2.2.2.1 ≤ q.1 ∧ s.2.2.1.1 ≤ q.2.2.2.1.1 ∧ q.2.2.2.1.1 ≤ 24
def bR (T : List Tok) (r : PR) : Prop := ∀ sc s, s.1 ≤ T.length → s.2.2.1.1 ≤ 24 → bOK T s (r sc s)
theorem bR_u {T : List Tok} {r : PR} (hr : bR T r) {sc : Sc} {s : PS} {q : Nat × PS} (hq : r sc s = .ok q) (hs : s.1 ≤ T.length) (h24 : s.2.2.1.1 ≤ 24) : s.1 < q.2.1 ∧ q.2.1 ≤ T.length ∧ q.2.2.2.2.1 + 1 + 2 * s.1 ≤ s.2.2.2.1 + 2 * q.2.1 ∧ q.1 + 1 = q.2.2.2.2.1 ∧ s.2.2.2.1 ≤ q.1 ∧ s.2.2.1.1 ≤ q.2.2.2.1.1 ∧ q.2.2.2.1.1 ≤ 24 := hr sc s hs h24 q hq
theorem pB_ok {α β : Type} {x : PE α} {f : α → PE β} {b : β} (h : pB x f = .ok b) : ∃ a, x = .ok a ∧ f a = .ok b := by
  cases x with
  | error q => cases h
  | ok a => exact ⟨a, rfl, h⟩
theorem pX_ok {T : List Tok} {k : Nat} (hk : k ≠ 0) {s z : PS} (h : pX T k s = .ok z) : z = sAt s (s.1 + 1) ∧ s.1 < T.length ∧ tkK T s.1 = k := by
  unfold pX at h
  by_cases h1 : tkK T s.1 = k
  · rw [if_pos h1] at h; cases h; exact ⟨rfl, tkK_lt (by omega), h1⟩
  · rw [if_neg h1] at h; cases h
theorem pDecl_ok {T : List Tok} {s : PS} {z : Nat × PS} (h : pDecl T s = .ok z) : z.1 = s.2.2.1.1 ∧ s.2.2.1.1 < 24 ∨ s.2.2.1.1 > 24 ∧ z.1 = s.2.2.1.1 := by
  unfold pDecl at h
  by_cases h1 : tkK T s.1 = 1
  · rw [if_pos h1] at h
    by_cases h2 : s.2.2.1.1 = 24
    · rw [if_pos h2] at h; cases h
    · rw [if_neg h2] at h; cases h; show _ ∧ _ ∨ _ ∧ _; simp; omega
  · rw [if_neg h1] at h; cases h
theorem pDecl_eq {T : List Tok} {s : PS} {z : Nat × PS} (h : pDecl T s = .ok z) : z = (s.2.2.1.1, sAt (sLc s (s.2.2.1.1 + 1, pu_upd s.2.2.1.2.1 s.2.2.1.1 none, pu_upd s.2.2.1.2.2 s.2.2.1.1 (-1))) (s.1 + 1)) ∧ tkK T s.1 = 1 ∧ s.1 < T.length ∧ s.2.2.1.1 ≠ 24 := by
  unfold pDecl at h
  by_cases h1 : tkK T s.1 = 1
  · rw [if_pos h1] at h
    by_cases h2 : s.2.2.1.1 = 24
    · rw [if_pos h2] at h; cases h
    · rw [if_neg h2] at h; cases h; exact ⟨rfl, h1, tkK_lt (by omega), h2⟩
  · rw [if_neg h1] at h; cases h
theorem b_leaf {T : List Tok} {k : Nat} {l : Int} {s : PS} (h : s.1 < T.length) (h24 : s.2.2.1.1 ≤ 24) : bOK T s (.ok (pLeaf T k l s)) := by
  intro q hq; cases hq
  refine ⟨?_, ?_, ?_, ?_, ?_, ?_, ?_⟩
  · show s.1 < s.1 + 1; omega
  · show s.1 + 1 ≤ _; omega
  · show s.2.2.2.1 + 1 + 1 + 2 * s.1 ≤ s.2.2.2.1 + 2 * (s.1 + 1); omega
  · rfl
  · exact Nat.le_refl _
  · exact Nat.le_refl _
  · exact h24
theorem b_atom {T : List Tok} {r : PR} (hr : bR T r) (sc : Sc) (hd : Bool) (s : PS) (h24 : s.2.2.1.1 ≤ 24) : bOK T s (pAtom r T sc hd s) := by
  unfold pAtom
  by_cases e2 : tkK T s.1 = 2
  · rw [if_pos e2]; exact b_leaf (tkK_lt (by omega)) h24
  rw [if_neg e2]
  by_cases e3 : tkK T s.1 = 3
  · rw [if_pos e3]; exact b_leaf (tkK_lt (by omega)) h24
  rw [if_neg e3]
  by_cases e1 : tkK T s.1 = 1
  · rw [if_pos e1]
    cases fnd sc (tkV T s.1) with
    | some l => exact b_leaf (tkK_lt (by omega)) h24
    | none => exact b_leaf (tkK_lt (by omega)) h24
  rw [if_neg e1]
  by_cases e15 : tkK T s.1 = 15
  · rw [if_pos e15]
    intro z hz
    have hlt := tkK_lt (show tkK T s.1 ≠ 0 by omega)
    obtain ⟨q, q1, q2⟩ := pB_ok hz
    obtain ⟨a1, a2, a3, a4, a5, a6, a7⟩ := hr sc (sAt s (s.1 + 1)) (by show s.1 + 1 ≤ _; omega) h24 q q1
    have a1' : s.1 + 1 < q.2.1 := a1
    have a3' : q.2.2.2.2.1 + 1 + 2 * (s.1 + 1) ≤ s.2.2.2.1 + 2 * q.2.1 := a3
    have a5' : s.2.2.2.1 ≤ q.1 := a5
    have a6' : s.2.2.1.1 ≤ q.2.2.2.1.1 := a6
    by_cases e20 : tkK T q.2.1 = 20
    · rw [if_pos e20] at q2
      have hlt2 := tkK_lt (show tkK T q.2.1 ≠ 0 by omega)
      obtain ⟨p, p1, p2⟩ := pB_ok q2
      obtain ⟨b1, b2, b3, b4, b5, b6, b7⟩ := hr sc (sAt q.2 (q.2.1 + 1)) (by show q.2.1 + 1 ≤ _; omega) a7 p p1
      have b1' : q.2.1 + 1 < p.2.1 := b1
      have b3' : p.2.2.2.2.1 + 1 + 2 * (q.2.1 + 1) ≤ q.2.2.2.2.1 + 2 * p.2.1 := b3
      have b5' : q.2.2.2.2.1 ≤ p.1 := b5
      have b6' : q.2.2.2.1.1 ≤ p.2.2.2.1.1 := b6
      obtain ⟨w, w1, w2⟩ := pB_ok p2
      obtain ⟨rfl, w3, w4⟩ := pX_ok (by omega) w1
      cases w2
      refine ⟨?_, ?_, ?_, ?_, ?_, ?_, ?_⟩
      · show s.1 < p.2.1 + 1; omega
      · show p.2.1 + 1 ≤ _; omega
      · show p.2.2.2.2.1 + 1 + 1 + 2 * s.1 ≤ s.2.2.2.1 + 2 * (p.2.1 + 1); omega
      · rfl
      · show s.2.2.2.1 ≤ p.2.2.2.2.1; omega
      · show s.2.2.1.1 ≤ p.2.2.2.1.1; omega
      · exact b7
    · rw [if_neg e20] at q2
      obtain ⟨w, w1, w2⟩ := pB_ok q2
      obtain ⟨rfl, w3, w4⟩ := pX_ok (by omega) w1
      cases w2
      refine ⟨?_, ?_, ?_, a4, a5', a6', a7⟩
      · show s.1 < q.2.1 + 1; omega
      · show q.2.1 + 1 ≤ _; omega
      · show q.2.2.2.2.1 + 1 + 2 * s.1 ≤ s.2.2.2.1 + 2 * (q.2.1 + 1); omega
  · rw [if_neg e15]; intro q hq; cases hq
theorem b_atoms {T : List Tok} {r : PR} (hr : bR T r) (sc : Sc) (h : Nat) (nm : Bool) (j : Nat) : ∀ (last : Nat) (acc : List Nat) (s : PS) (q : Nat × PS), s.2.2.1.1 ≤ 24 → s.1 ≤ T.length → pAtoms r T sc h nm j last acc s = .ok q →
    s.1 ≤ q.2.1 ∧ q.2.1 ≤ T.length ∧ q.2.2.2.2.1 + 2 * s.1 ≤ s.2.2.2.1 + 1 + 2 * q.2.1 ∧ q.1 + 1 = q.2.2.2.2.1 ∧ s.2.2.2.1 ≤ q.1 ∧ s.2.2.1.1 ≤ q.2.2.2.1.1 ∧ q.2.2.2.1.1 ≤ 24 ∧ (bgA (tkK T s.1) = true → s.1 < q.2.1 ∧ q.2.2.2.2.1 + 2 * s.1 ≤ s.2.2.2.1 + 2 * q.2.1) := by
  have fin : ∀ (last : Nat) (acc : List Nat) (s : PS) (q : Nat × PS), s.2.2.1.1 ≤ 24 → s.1 ≤ T.length → bgA (tkK T s.1) ≠ true → (.ok (s.2.2.2.1, sTr s (tAdd (tNr (tHr s.2.2.2 h nm) acc) (16, (s.2.2.2.2.1 h).2.1, h, -1, acc.length, 0, acc))) : PE (Nat × PS)) = .ok q → s.1 ≤ q.2.1 ∧ q.2.1 ≤ T.length ∧ q.2.2.2.2.1 + 2 * s.1 ≤ s.2.2.2.1 + 1 + 2 * q.2.1 ∧ q.1 + 1 = q.2.2.2.2.1 ∧ s.2.2.2.1 ≤ q.1 ∧ s.2.2.1.1 ≤ q.2.2.2.1.1 ∧ q.2.2.2.1.1 ≤ 24 ∧ (bgA (tkK T s.1) = true → s.1 < q.2.1 ∧ q.2.2.2.2.1 + 2 * s.1 ≤ s.2.2.2.1 + 2 * q.2.1) := by
    intro last acc s q h24 hs hb hq
    cases hq
    refine ⟨Nat.le_refl _, hs, ?_, rfl, Nat.le_refl _, Nat.le_refl _, h24, fun hh => absurd hh hb⟩
    show s.2.2.2.1 + 1 + 2 * s.1 ≤ s.2.2.2.1 + 1 + 2 * s.1; omega
  induction j with
  | zero =>
    intro last acc s q h24 hs hq
    rw [pAtoms] at hq
    by_cases hb : bgA (tkK T s.1) = true
    · rw [if_pos hb] at hq; cases hq
    · rw [if_neg hb] at hq; exact fin last acc s q h24 hs hb hq
  | succ j ih =>
    intro last acc s q h24 hs hq
    rw [pAtoms] at hq
    by_cases hb : bgA (tkK T s.1) = true
    · rw [if_pos hb] at hq
      obtain ⟨p, p1, p2⟩ := pB_ok hq
      obtain ⟨a1, a2, a3, a4, a5, a6, a7⟩ := b_atom hr sc false s h24 p p1
      obtain ⟨c1, c2, c3, c4, c5, c6, c7, c8⟩ := ih p.1 (acc ++ [p.1]) (sTr p.2 (tNx p.2.2.2.2 last p.1)) q a7 a2 p2
      have c1' : p.2.1 ≤ q.2.1 := c1
      have c3' : q.2.2.2.2.1 + 2 * p.2.1 ≤ p.2.2.2.2.1 + 1 + 2 * q.2.1 := c3
      have c5' : p.2.2.2.2.1 ≤ q.1 := c5
      have c6' : p.2.2.2.1.1 ≤ q.2.2.2.1.1 := c6
      refine ⟨by omega, c2, by omega, c4, by omega, by omega, c7, fun _ => by omega⟩
    · rw [if_neg hb] at hq; exact fin last acc s q h24 hs hb hq
theorem b_call {T : List Tok} {r : PR} (hr : bR T r) (sc : Sc) (s : PS) (hs : s.1 ≤ T.length) (h24 : s.2.2.1.1 ≤ 24) : bOK T s (pCall r T sc s) := by
  unfold pCall
  by_cases e : tkK T s.1 = 13 ∨ tkK T s.1 = 14
  · rw [if_pos e]
    have hlt := tkK_lt (show tkK T s.1 ≠ 0 by omega)
    intro z hz
    obtain ⟨q, q1, q2⟩ := pB_ok hz
    obtain ⟨a1, a2, a3, a4, a5, a6, a7⟩ := b_atom hr sc false (sAt s (s.1 + 1)) h24 q q1
    have a1' : s.1 + 1 < q.2.1 := a1
    have a3' : q.2.2.2.2.1 + 1 + 2 * (s.1 + 1) ≤ s.2.2.2.1 + 2 * q.2.1 := a3
    have a5' : s.2.2.2.1 ≤ q.1 := a5
    have a6' : s.2.2.1.1 ≤ q.2.2.2.1.1 := a6
    cases q2
    refine ⟨?_, a2, ?_, rfl, ?_, a6', a7⟩
    · show s.1 < q.2.1; omega
    · show q.2.2.2.2.1 + 1 + 1 + 2 * s.1 ≤ s.2.2.2.1 + 2 * q.2.1; omega
    · show s.2.2.2.1 ≤ q.2.2.2.2.1; omega
  · rw [if_neg e]
    intro z hz
    obtain ⟨q, q1, q2⟩ := pB_ok hz
    obtain ⟨a1, a2, a3, a4, a5, a6, a7⟩ := b_atom hr sc true s h24 q q1
    by_cases hb : bgA (tkK T q.2.1) = true
    · rw [if_pos hb] at q2
      obtain ⟨c1, c2, c3, c4, c5, c6, c7, c8⟩ := b_atoms hr sc q.1 _ 8 q.1 [] q.2 z a7 a2 q2
      have := c8 hb
      exact ⟨by omega, c2, by omega, c4, by omega, by omega, c7⟩
    · rw [if_neg hb] at q2; cases q2
      exact ⟨a1, a2, a3, a4, a5, a6, a7⟩
theorem b_sums {T : List Tok} {r : PR} (hr : bR T r) (sc : Sc) (j : Nat) : ∀ (e : Nat) (s : PS) (q : Nat × PS), s.2.2.1.1 ≤ 24 → s.1 ≤ T.length → e + 1 = s.2.2.2.1 → pSums r T sc j e s = .ok q →
    s.1 ≤ q.2.1 ∧ q.2.1 ≤ T.length ∧ q.2.2.2.2.1 + 2 * s.1 ≤ s.2.2.2.1 + 2 * q.2.1 ∧ q.1 + 1 = q.2.2.2.2.1 ∧ e ≤ q.1 ∧ s.2.2.1.1 ≤ q.2.2.2.1.1 ∧ q.2.2.2.1.1 ≤ 24 := by
  induction j with
  | zero =>
    intro e s q h24 hs he hq
    rw [pSums] at hq
    by_cases hb : tkK T s.1 = 22 ∨ tkK T s.1 = 23
    · rw [if_pos hb] at hq; cases hq
    · rw [if_neg hb] at hq; cases hq; exact ⟨Nat.le_refl _, hs, Nat.le_refl _, he, Nat.le_refl _, Nat.le_refl _, h24⟩
  | succ j ih =>
    intro e s q h24 hs he hq
    rw [pSums] at hq
    by_cases hb : tkK T s.1 = 22 ∨ tkK T s.1 = 23
    · rw [if_pos hb] at hq
      have hlt := tkK_lt (show tkK T s.1 ≠ 0 by omega)
      obtain ⟨p, p1, p2⟩ := pB_ok hq
      obtain ⟨a1, a2, a3, a4, a5, a6, a7⟩ := b_call hr sc (sAt s (s.1 + 1)) (by show s.1 + 1 ≤ _; omega) h24 p p1
      have a1' : s.1 + 1 < p.2.1 := a1
      have a3' : p.2.2.2.2.1 + 1 + 2 * (s.1 + 1) ≤ s.2.2.2.1 + 2 * p.2.1 := a3
      have a5' : s.2.2.2.1 ≤ p.1 := a5
      have a6' : s.2.2.1.1 ≤ p.2.2.2.1.1 := a6
      obtain ⟨c1, c2, c3, c4, c5, c6, c7⟩ := ih _ (sNode p.2 (tkK T s.1 - 12, s.1, e, p.1, -1, 0, [])) q a7 a2 rfl p2
      have c1' : p.2.1 ≤ q.2.1 := c1
      have c3' : q.2.2.2.2.1 + 2 * p.2.1 ≤ p.2.2.2.2.1 + 1 + 2 * q.2.1 := c3
      have c6' : p.2.2.2.1.1 ≤ q.2.2.2.1.1 := c6
      exact ⟨by omega, c2, by omega, c4, by omega, by omega, c7⟩
    · rw [if_neg hb] at hq; cases hq; exact ⟨Nat.le_refl _, hs, Nat.le_refl _, he, Nat.le_refl _, Nat.le_refl _, h24⟩
theorem b_sum {T : List Tok} {r : PR} (hr : bR T r) (sc : Sc) (s : PS) (hs : s.1 ≤ T.length) (h24 : s.2.2.1.1 ≤ 24) : bOK T s (pSum r T sc s) := by
  intro z hz
  unfold pSum at hz
  obtain ⟨q, q1, q2⟩ := pB_ok hz
  obtain ⟨a1, a2, a3, a4, a5, a6, a7⟩ := b_call hr sc s hs h24 q q1
  obtain ⟨c1, c2, c3, c4, c5, c6, c7⟩ := b_sums hr sc 8 q.1 q.2 z a7 a2 a4 q2
  exact ⟨by omega, c2, by omega, c4, by omega, by omega, c7⟩
theorem b_cmp {T : List Tok} {r : PR} (hr : bR T r) (sc : Sc) (s : PS) (hs : s.1 ≤ T.length) (h24 : s.2.2.1.1 ≤ 24) : bOK T s (pCmp r T sc s) := by
  intro z hz
  unfold pCmp at hz
  obtain ⟨q, q1, q2⟩ := pB_ok hz
  obtain ⟨a1, a2, a3, a4, a5, a6, a7⟩ := b_sum hr sc s hs h24 q q1
  by_cases e : tkK T q.2.1 = 24
  · rw [if_pos e] at q2
    have hlt := tkK_lt (show tkK T q.2.1 ≠ 0 by omega)
    obtain ⟨p, p1, p2⟩ := pB_ok q2
    obtain ⟨b1, b2, b3, b4, b5, b6, b7⟩ := b_sum hr sc (sAt q.2 (q.2.1 + 1)) (by show q.2.1 + 1 ≤ _; omega) a7 p p1
    have b1' : q.2.1 + 1 < p.2.1 := b1
    have b3' : p.2.2.2.2.1 + 1 + 2 * (q.2.1 + 1) ≤ q.2.2.2.2.1 + 2 * p.2.1 := b3
    have b5' : q.2.2.2.2.1 ≤ p.1 := b5
    have b6' : q.2.2.2.1.1 ≤ p.2.2.2.1.1 := b6
    cases p2
    refine ⟨?_, b2, ?_, rfl, ?_, ?_, b7⟩
    · show s.1 < p.2.1; omega
    · show p.2.2.2.2.1 + 1 + 1 + 2 * s.1 ≤ s.2.2.2.1 + 2 * p.2.1; omega
    · show s.2.2.2.1 ≤ p.2.2.2.2.1; omega
    · show s.2.2.1.1 ≤ p.2.2.2.1.1; omega
  · rw [if_neg e] at q2; cases q2; exact ⟨a1, a2, a3, a4, a5, a6, a7⟩
theorem pTy_at {T : List Tok} : ∀ (r a c : Nat) (t : PT), pTy T r a c = .ok t → a < t.2.1 ∧ t.2.1 ≤ T.length ∧ c < t.2.2 ∧ t.2.2 ≤ c + tyL t.1 ∧ c + tyL t.1 ≤ t.2.2 := by
  have base : ∀ (pr : Nat → Nat → PE PT), (∀ a c t, pr a c = .ok t → a < t.2.1 ∧ t.2.1 ≤ T.length ∧ c < t.2.2 ∧ t.2.2 ≤ c + tyL t.1 ∧ c + tyL t.1 ≤ t.2.2) → ∀ a c t, pBase pr T a c = .ok t → a < t.2.1 ∧ t.2.1 ≤ T.length ∧ c < t.2.2 ∧ t.2.2 ≤ c + tyL t.1 ∧ c + tyL t.1 ≤ t.2.2 := by
    intro pr hpr a c t h
    unfold pBase at h
    by_cases e : tkK T a = 5 ∨ tkK T a = 6 ∨ tkK T a = 4
    · rw [if_pos e] at h
      have hlt := tkK_lt (show tkK T a ≠ 0 by omega)
      by_cases hc : c = 100
      · rw [if_pos hc] at h; cases h
      · rw [if_neg hc] at h; cases h
        refine ⟨?_, ?_, ?_, ?_, ?_⟩
        · show a < a + 1; omega
        · show a + 1 ≤ _; omega
        · show c < c + 1; omega
        · show c + 1 ≤ c + 1; omega
        · show c + 1 ≤ c + 1; omega
    · rw [if_neg e] at h
      by_cases e15 : tkK T a = 15
      · rw [if_pos e15] at h
        obtain ⟨q, q1, q2⟩ := pB_ok h
        obtain ⟨a1, a2, a3, a4, a5⟩ := hpr _ _ _ q1
        by_cases e16 : tkK T q.2.1 = 16
        · rw [if_pos e16] at q2
          have hlt := tkK_lt (show tkK T q.2.1 ≠ 0 by omega)
          cases q2
          refine ⟨?_, ?_, a3, a4, a5⟩
          · show a < q.2.1 + 1; omega
          · show q.2.1 + 1 ≤ _; omega
        · rw [if_neg e16] at q2; cases q2
      · rw [if_neg e15] at h; cases h
  have part : ∀ (pr : Nat → Nat → PE PT), (∀ a c t, pr a c = .ok t → a < t.2.1 ∧ t.2.1 ≤ T.length ∧ c < t.2.2 ∧ t.2.2 ≤ c + tyL t.1 ∧ c + tyL t.1 ≤ t.2.2) → ∀ j a c t, pPart pr T j a c = .ok t → a < t.2.1 ∧ t.2.1 ≤ T.length ∧ c < t.2.2 ∧ t.2.2 ≤ c + tyL t.1 ∧ c + tyL t.1 ≤ t.2.2 := by
    intro pr hpr j
    induction j with
    | zero =>
      intro a c t h
      rw [pPart] at h
      obtain ⟨q, q1, q2⟩ := pB_ok h
      have := base pr hpr _ _ _ q1
      by_cases e : tkK T q.2.1 = 21
      · rw [if_pos e] at q2; cases q2
      · rw [if_neg e] at q2; cases q2; exact this
    | succ j ih =>
      intro a c t h
      rw [pPart] at h
      obtain ⟨q, q1, q2⟩ := pB_ok h
      obtain ⟨a1, a2, a3, a4, a5⟩ := base pr hpr _ _ _ q1
      by_cases e : tkK T q.2.1 = 21
      · rw [if_pos e] at q2
        obtain ⟨p, p1, p2⟩ := pB_ok q2
        obtain ⟨b1, b2, b3, b4, b5⟩ := ih _ _ _ p1
        cases p2
        refine ⟨?_, b2, ?_, ?_, ?_⟩
        · show a < p.2.1; omega
        · show c < p.2.2; omega
        · show p.2.2 ≤ c + (tyL q.1 + tyL p.1); omega
        · show c + (tyL q.1 + tyL p.1) ≤ p.2.2; omega
      · rw [if_neg e] at q2; cases q2; exact ⟨a1, a2, a3, a4, a5⟩
  intro r
  induction r with
  | zero => intro a c t h; cases h
  | succ r ih =>
    intro a c t h
    rw [pTy] at h
    obtain ⟨q, q1, q2⟩ := pB_ok h
    obtain ⟨a1, a2, a3, a4, a5⟩ := part (pTy T r) ih 8 _ _ _ q1
    by_cases e : tkK T q.2.1 = 25
    · rw [if_pos e] at q2
      obtain ⟨p, p1, p2⟩ := pB_ok q2
      obtain ⟨b1, b2, b3, b4, b5⟩ := ih _ _ _ p1
      cases p2
      refine ⟨?_, b2, ?_, ?_, ?_⟩
      · show a < p.2.1; omega
      · show c < p.2.2; omega
      · show p.2.2 ≤ c + (tyL q.1 + tyL p.1); omega
      · show c + (tyL q.1 + tyL p.1) ≤ p.2.2; omega
    · rw [if_neg e] at q2; cases q2; exact ⟨a1, a2, a3, a4, a5⟩
theorem b_E {T : List Tok} (d m : Nat) (r : Nat) : bR T (pE T d m r) := by
  induction r with
  | zero => intro sc s hs h24 q hq; cases hq
  | succ r ih =>
    intro sc s hs h24
    rw [pE]
    by_cases e7 : tkK T s.1 = 7
    · rw [if_pos e7]
      intro z hz
      unfold pLet at hz
      have hlt := tkK_lt (show tkK T s.1 ≠ 0 by omega)
      obtain ⟨l, l1, l2⟩ := pB_ok hz
      obtain ⟨rfl, l4, l5, l6⟩ := pDecl_eq l1
      obtain ⟨x, x1, x2⟩ := pB_ok l2
      obtain ⟨rfl, x4, x5⟩ := pX_ok (by omega) x1
      obtain ⟨q, q1, q2⟩ := pB_ok x2
      have l6' : s.2.2.1.1 ≠ 24 := l6
      obtain ⟨a1, a2, a3, a4, a5, a6, a7⟩ := bR_u ih q1 (by exact x4) (by show s.2.2.1.1 + 1 ≤ 24; omega)
      have a1' : s.1 + 1 + 1 + 1 < q.2.1 := a1
      have a3' : q.2.2.2.2.1 + 1 + 2 * (s.1 + 1 + 1 + 1) ≤ s.2.2.2.1 + 2 * q.2.1 := a3
      have a5' : s.2.2.2.1 ≤ q.1 := a5
      have a6' : s.2.2.1.1 + 1 ≤ q.2.2.2.1.1 := a6
      obtain ⟨y, y1, y2⟩ := pB_ok q2
      obtain ⟨rfl, y4, y5⟩ := pX_ok (by omega) y1
      obtain ⟨p, p1, p2⟩ := pB_ok y2
      obtain ⟨b1, b2, b3, b4, b5, b6, b7⟩ := bR_u ih p1 (by exact y4) a7
      have b1' : q.2.1 + 1 < p.2.1 := b1
      have b3' : p.2.2.2.2.1 + 1 + 2 * (q.2.1 + 1) ≤ q.2.2.2.2.1 + 2 * p.2.1 := b3
      have b5' : q.2.2.2.2.1 ≤ p.1 := b5
      have b6' : q.2.2.2.1.1 ≤ p.2.2.2.1.1 := b6
      cases p2
      refine ⟨?_, b2, ?_, rfl, ?_, ?_, b7⟩
      · show s.1 < p.2.1; omega
      · show p.2.2.2.2.1 + 1 + 1 + 2 * s.1 ≤ s.2.2.2.1 + 2 * p.2.1; omega
      · show s.2.2.2.1 ≤ p.2.2.2.2.1; omega
      · show s.2.2.1.1 ≤ p.2.2.2.1.1; omega
    rw [if_neg e7]
    by_cases e9 : tkK T s.1 = 9
    · rw [if_pos e9]
      intro z hz
      unfold pIf at hz
      have hlt := tkK_lt (show tkK T s.1 ≠ 0 by omega)
      obtain ⟨c, c1, c2⟩ := pB_ok hz
      obtain ⟨a1, a2, a3, a4, a5, a6, a7⟩ := bR_u ih c1 (by show s.1 + 1 ≤ _; omega) h24
      have a1' : s.1 + 1 < c.2.1 := a1
      have a3' : c.2.2.2.2.1 + 1 + 2 * (s.1 + 1) ≤ s.2.2.2.1 + 2 * c.2.1 := a3
      have a5' : s.2.2.2.1 ≤ c.1 := a5
      have a6' : s.2.2.1.1 ≤ c.2.2.2.1.1 := a6
      obtain ⟨x, x1, x2⟩ := pB_ok c2
      obtain ⟨rfl, x4, x5⟩ := pX_ok (by omega) x1
      obtain ⟨y, y1, y2⟩ := pB_ok x2
      obtain ⟨b1, b2, b3, b4, b5, b6, b7⟩ := bR_u ih y1 (by exact x4) a7
      have b1' : c.2.1 + 1 < y.2.1 := b1
      have b3' : y.2.2.2.2.1 + 1 + 2 * (c.2.1 + 1) ≤ c.2.2.2.2.1 + 2 * y.2.1 := b3
      have b5' : c.2.2.2.2.1 ≤ y.1 := b5
      have b6' : c.2.2.2.1.1 ≤ y.2.2.2.1.1 := b6
      obtain ⟨v, v1, v2⟩ := pB_ok y2
      obtain ⟨rfl, v4, v5⟩ := pX_ok (by omega) v1
      obtain ⟨w, w1, w2⟩ := pB_ok v2
      obtain ⟨d1, d2, d3, d4, d5, d6, d7⟩ := bR_u ih w1 (by exact v4) b7
      have d1' : y.2.1 + 1 < w.2.1 := d1
      have d3' : w.2.2.2.2.1 + 1 + 2 * (y.2.1 + 1) ≤ y.2.2.2.2.1 + 2 * w.2.1 := d3
      have d5' : y.2.2.2.2.1 ≤ w.1 := d5
      have d6' : y.2.2.2.1.1 ≤ w.2.2.2.1.1 := d6
      cases w2
      refine ⟨?_, d2, ?_, rfl, ?_, ?_, d7⟩
      · show s.1 < w.2.1; omega
      · show w.2.2.2.2.1 + 1 + 1 + 2 * s.1 ≤ s.2.2.2.1 + 2 * w.2.1; omega
      · show s.2.2.2.1 ≤ w.2.2.2.2.1; omega
      · show s.2.2.1.1 ≤ w.2.2.2.1.1; omega
    rw [if_neg e9]
    by_cases e12 : tkK T s.1 = 12
    · rw [if_pos e12]
      intro z hz
      unfold pFn at hz
      have hlt := tkK_lt (show tkK T s.1 ≠ 0 by omega)
      obtain ⟨o, o1, o2⟩ := pB_ok hz
      obtain ⟨rfl, o4, o5⟩ := pX_ok (by omega) o1
      obtain ⟨l, l1, l2⟩ := pB_ok o2
      obtain ⟨rfl, l4, l5, l6⟩ := pDecl_eq l1
      have l6' : s.2.2.1.1 ≠ 24 := l6
      obtain ⟨x, x1, x2⟩ := pB_ok l2
      obtain ⟨rfl, x4, x5⟩ := pX_ok (by omega) x1
      obtain ⟨t, t1, t2⟩ := pB_ok x2
      obtain ⟨t3, t4, t5⟩ := pTy_at _ _ _ _ t1
      have t3' : s.1 + 1 + 1 + 1 + 1 < t.2.1 := t3
      obtain ⟨y, y1, y2⟩ := pB_ok t2
      obtain ⟨rfl, y4, y5⟩ := pX_ok (by omega) y1
      obtain ⟨v, v1, v2⟩ := pB_ok y2
      obtain ⟨rfl, v4, v5⟩ := pX_ok (by omega) v1
      obtain ⟨p, p1, p2⟩ := pB_ok v2
      obtain ⟨b1, b2, b3, b4, b5, b6, b7⟩ := bR_u ih p1 (by exact v4) (by show s.2.2.1.1 + 1 ≤ 24; omega)
      have b1' : t.2.1 + 1 + 1 < p.2.1 := b1
      have b3' : p.2.2.2.2.1 + 1 + 2 * (t.2.1 + 1 + 1) ≤ s.2.2.2.1 + 2 * p.2.1 := b3
      have b5' : s.2.2.2.1 ≤ p.1 := b5
      have b6' : s.2.2.1.1 + 1 ≤ p.2.2.2.1.1 := b6
      cases p2
      refine ⟨?_, b2, ?_, rfl, ?_, ?_, b7⟩
      · show s.1 < p.2.1; omega
      · show p.2.2.2.2.1 + 1 + 1 + 2 * s.1 ≤ s.2.2.2.1 + 2 * p.2.1; omega
      · show s.2.2.2.1 ≤ p.2.2.2.2.1; omega
      · show s.2.2.1.1 ≤ p.2.2.2.1.1; omega
    rw [if_neg e12]
    exact b_cmp ih sc s hs h24
