set_option maxRecDepth 100000
def cnt (f : Nat → Nd) : Nat → Nat
  | 0 => 0
  | n + 1 => cnt f n + (if (f n).1 = 16 then 1 else 0)
theorem cnt_eq {f f' : Nat → Nd} : ∀ n, (∀ i, i < n → f' i = f i) → cnt f' n = cnt f n
  | 0, _ => rfl
  | n + 1, h => by rw [cnt, cnt, cnt_eq n (fun i hi => h i (by omega)), h n (by omega)]
def kT (t : Tr) : Nat := cnt t.2.1 t.1
theorem kT_add (t : Tr) (x : Nd) : kT (tAdd t x) = kT t + (if x.1 = 16 then 1 else 0) := by
  show cnt (pu_upd t.2.1 t.1 x) (t.1 + 1) = _
  rw [cnt, cnt_eq t.1 (fun i hi => upd_ne _ _ _ _ (by omega)), upd_same]; rfl
def vO (k : Nat) (s : PS) (q : Nat × PS) : Prop := (q.2.2.1 = none → s.2.1 = none) ∧ 2 * kT q.2.2.2.2 + s.1 + k ≤ 2 * kT s.2.2.2 + q.2.1
def vR (r : PR) : Prop := ∀ sc s q, r sc s = .ok q → vO 0 s q
theorem v_atom {T : List Tok} {r : PR} (hr : vR r) (sc : Sc) (hd : Bool) (s : PS) (q : Nat × PS) (hq : pAtom r T sc hd s = .ok q) : vO 1 s q := by
  have lf : ∀ (k : Nat) (l : Int), k ≤ 4 → vO 1 s (pLeaf T k l s) := fun k l hk => ⟨fun h => h, by
    show 2 * kT (tAdd s.2.2.2 _) + s.1 + 1 ≤ 2 * kT s.2.2.2 + (s.1 + 1)
    rw [kT_add, if_neg (by show k ≠ 16; omega)]; omega⟩
  unfold pAtom at hq
  by_cases e2 : tkK T s.1 = 2
  · rw [if_pos e2] at hq; cases hq; exact lf 0 _ (by omega)
  rw [if_neg e2] at hq
  by_cases e3 : tkK T s.1 = 3
  · rw [if_pos e3] at hq; cases hq; exact lf 1 _ (by omega)
  rw [if_neg e3] at hq
  by_cases e1 : tkK T s.1 = 1
  · rw [if_pos e1] at hq
    cases hfd : fnd sc (tkV T s.1) with
    | some l => rw [hfd] at hq; cases hq; exact lf 2 _ (by omega)
    | none =>
      rw [hfd] at hq
      have hq' : (.ok (pLeaf T (if hd = true ∧ bgA (tkK T (s.1 + 1)) = true then 4 else 3) (-1) s) : PE (Nat × PS)) = .ok q := hq
      cases hq'; exact lf _ _ (by split <;> omega)
  rw [if_neg e1] at hq
  by_cases e15 : tkK T s.1 = 15
  · rw [if_pos e15] at hq
    obtain ⟨p, p1, p2⟩ := pB_ok hq
    obtain ⟨a1, a2⟩ := hr _ _ _ p1
    have a2' : 2 * kT p.2.2.2.2 + (s.1 + 1) + 0 ≤ 2 * kT s.2.2.2 + p.2.1 := a2
    by_cases e20 : tkK T p.2.1 = 20
    · rw [if_pos e20] at p2
      obtain ⟨z, z1, z2⟩ := pB_ok p2
      obtain ⟨b1, b2⟩ := hr _ _ _ z1
      have b2' : 2 * kT z.2.2.2.2 + (p.2.1 + 1) + 0 ≤ 2 * kT p.2.2.2.2 + z.2.1 := b2
      obtain ⟨y, y1, y2⟩ := pB_ok z2
      obtain ⟨rfl, _, _⟩ := pX_ok (by omega) y1
      cases y2
      refine ⟨fun h => a1 (b1 h), ?_⟩
      show 2 * kT (tAdd z.2.2.2.2 _) + s.1 + 1 ≤ 2 * kT s.2.2.2 + (z.2.1 + 1)
      rw [kT_add, if_neg (by show 13 ≠ 16; omega)]; omega
    · rw [if_neg e20] at p2
      obtain ⟨y, y1, y2⟩ := pB_ok p2
      obtain ⟨rfl, _, _⟩ := pX_ok (by omega) y1
      cases y2
      refine ⟨a1, ?_⟩
      show 2 * kT p.2.2.2.2 + s.1 + 1 ≤ 2 * kT s.2.2.2 + (p.2.1 + 1); omega
  · rw [if_neg e15] at hq; cases hq
theorem v_atoms {T : List Tok} {r : PR} (hr : vR r) (sc : Sc) (h : Nat) (nm : Bool) (j : Nat) : ∀ (last : Nat) (acc : List Nat) (s : PS) (q : Nat × PS), pAtoms r T sc h nm j last acc s = .ok q → (q.2.2.1 = none → s.2.1 = none) ∧ 2 * kT q.2.2.2.2 + s.1 + (if bgA (tkK T s.1) = true then 1 else 0) ≤ 2 * kT s.2.2.2 + q.2.1 + 2 := by
  have fin : ∀ (acc : List Nat) (s : PS) (q : Nat × PS), ¬ (bgA (tkK T s.1) = true) → (.ok (s.2.2.2.1, sTr s (tAdd (tNr (tHr s.2.2.2 h nm) acc) (16, (s.2.2.2.2.1 h).2.1, h, -1, acc.length, 0, acc))) : PE (Nat × PS)) = .ok q → (q.2.2.1 = none → s.2.1 = none) ∧ 2 * kT q.2.2.2.2 + s.1 + (if bgA (tkK T s.1) = true then 1 else 0) ≤ 2 * kT s.2.2.2 + q.2.1 + 2 := by
    intro acc s q hb hq
    cases hq
    refine ⟨fun h => h, ?_⟩
    rw [if_neg hb]
    show 2 * kT (tAdd (tNr (tHr s.2.2.2 h nm) acc) _) + s.1 + 0 ≤ 2 * kT s.2.2.2 + s.1 + 2
    rw [kT_add, if_pos rfl]
    show 2 * (kT s.2.2.2 + 1) + s.1 + 0 ≤ _; omega
  induction j with
  | zero =>
    intro last acc s q hq
    rw [pAtoms] at hq
    by_cases hb : bgA (tkK T s.1) = true
    · rw [if_pos hb] at hq; cases hq
    · rw [if_neg hb] at hq; exact fin acc s q hb hq
  | succ j ih =>
    intro last acc s q hq
    rw [pAtoms] at hq
    by_cases hb : bgA (tkK T s.1) = true
    · rw [if_pos hb] at hq
      obtain ⟨p, p1, p2⟩ := pB_ok hq
      obtain ⟨a1, a2⟩ := v_atom hr sc false s p p1
      obtain ⟨b1, b2⟩ := ih _ _ _ _ p2
      have b2' : 2 * kT q.2.2.2.2 + p.2.1 + (if bgA (tkK T p.2.1) = true then 1 else 0) ≤ 2 * kT p.2.2.2.2 + q.2.1 + 2 := b2
      refine ⟨fun h => a1 (b1 h), ?_⟩
      rw [if_pos hb]
      have : 0 ≤ (if bgA (tkK T p.2.1) = true then 1 else 0) := Nat.zero_le _
      omega
    · rw [if_neg hb] at hq; exact fin acc s q hb hq
theorem v_call {T : List Tok} {r : PR} (hr : vR r) : vR (fun sc s => pCall r T sc s) := by
  intro sc s q hq
  have hq : pCall r T sc s = .ok q := hq
  unfold pCall at hq
  by_cases e : tkK T s.1 = 13 ∨ tkK T s.1 = 14
  · rw [if_pos e] at hq
    obtain ⟨p, p1, p2⟩ := pB_ok hq
    obtain ⟨a1, a2⟩ := v_atom hr sc false _ p p1
    have a2' : 2 * kT p.2.2.2.2 + (s.1 + 1) + 1 ≤ 2 * kT s.2.2.2 + p.2.1 := a2
    cases p2
    refine ⟨a1, ?_⟩
    show 2 * kT (tAdd p.2.2.2.2 _) + s.1 + 0 ≤ 2 * kT s.2.2.2 + p.2.1
    rw [kT_add, if_neg (by show tkK T s.1 + 1 ≠ 16; omega)]; omega
  · rw [if_neg e] at hq
    obtain ⟨p, p1, p2⟩ := pB_ok hq
    obtain ⟨a1, a2⟩ := v_atom hr sc true _ p p1
    by_cases hb : bgA (tkK T p.2.1) = true
    · rw [if_pos hb] at p2
      obtain ⟨b1, b2⟩ := v_atoms hr sc _ _ 8 _ _ _ _ p2
      rw [if_pos hb] at b2
      exact ⟨fun h => a1 (b1 h), by omega⟩
    · rw [if_neg hb] at p2; cases p2; exact ⟨a1, by omega⟩
theorem v_sums {T : List Tok} {r : PR} (hr : vR r) (sc : Sc) (j : Nat) : ∀ (e : Nat) (s : PS) (q : Nat × PS), pSums r T sc j e s = .ok q → vO 0 s q := by
  induction j with
  | zero =>
    intro e s q hq
    rw [pSums] at hq
    by_cases hbb : tkK T s.1 = 22 ∨ tkK T s.1 = 23
    · rw [if_pos hbb] at hq; cases hq
    · rw [if_neg hbb] at hq; cases hq; exact ⟨fun h => h, Nat.le_refl _⟩
  | succ j ih =>
    intro e s q hq
    rw [pSums] at hq
    by_cases hbb : tkK T s.1 = 22 ∨ tkK T s.1 = 23
    · rw [if_pos hbb] at hq
      obtain ⟨p, p1, p2⟩ := pB_ok hq
      obtain ⟨a1, a2⟩ := v_call (T := T) hr sc _ p p1
      have a2' : 2 * kT p.2.2.2.2 + (s.1 + 1) + 0 ≤ 2 * kT s.2.2.2 + p.2.1 := a2
      obtain ⟨b1, b2⟩ := ih _ _ _ p2
      have b2' : 2 * kT q.2.2.2.2 + p.2.1 + 0 ≤ 2 * kT (tAdd p.2.2.2.2 (tkK T s.1 - 12, s.1, e, p.1, -1, 0, [])) + q.2.1 := b2
      rw [kT_add, if_neg (by show tkK T s.1 - 12 ≠ 16; omega)] at b2'
      exact ⟨fun h => a1 (b1 h), by omega⟩
    · rw [if_neg hbb] at hq; cases hq; exact ⟨fun h => h, Nat.le_refl _⟩
theorem v_sum {T : List Tok} {r : PR} (hr : vR r) : vR (fun sc s => pSum r T sc s) := by
  intro sc s q hq
  have hq : pSum r T sc s = .ok q := hq
  unfold pSum at hq
  obtain ⟨p, p1, p2⟩ := pB_ok hq
  obtain ⟨a1, a2⟩ := v_call (T := T) hr sc _ p p1
  obtain ⟨b1, b2⟩ := v_sums hr sc 8 _ _ _ p2
  exact ⟨fun h => a1 (b1 h), by omega⟩
theorem v_cmp {T : List Tok} {r : PR} (hr : vR r) : vR (fun sc s => pCmp r T sc s) := by
  intro sc s q hq
  have hq : pCmp r T sc s = .ok q := hq
  unfold pCmp at hq
  obtain ⟨p, p1, p2⟩ := pB_ok hq
  obtain ⟨a1, a2⟩ := v_sum (T := T) hr sc _ p p1
  by_cases e : tkK T p.2.1 = 24
  · rw [if_pos e] at p2
    obtain ⟨z, z1, z2⟩ := pB_ok p2
    obtain ⟨b1, b2⟩ := v_sum (T := T) hr sc _ z z1
    have b2' : 2 * kT z.2.2.2.2 + (p.2.1 + 1) + 0 ≤ 2 * kT p.2.2.2.2 + z.2.1 := b2
    cases z2
    refine ⟨fun h => a1 (b1 h), ?_⟩
    show 2 * kT (tAdd z.2.2.2.2 _) + s.1 + 0 ≤ 2 * kT s.2.2.2 + z.2.1
    rw [kT_add, if_neg (by show 12 ≠ 16; omega)]; omega
  · rw [if_neg e] at p2; cases p2; exact ⟨a1, a2⟩
theorem oE_n2 {α : Type} {x y : Option α} (h : oE x y = none) : x = none ∧ y = none := by
  cases x with
  | none => exact ⟨rfl, h⟩
  | some a => cases h
theorem v_E {T : List Tok} (d m : Nat) (r : Nat) : vR (pE T d m r) := by
  induction r with
  | zero => intro sc s q hq; cases hq
  | succ r ih =>
    intro sc s q hq
    unfold pE at hq
    by_cases e7 : tkK T s.1 = 7
    · rw [if_pos e7] at hq
      unfold pLet at hq
      obtain ⟨l, l1, hq⟩ := pB_ok hq
      obtain ⟨x, x1, hq⟩ := pB_ok hq
      obtain ⟨a, a1, hq⟩ := pB_ok hq
      obtain ⟨y, y1, hq⟩ := pB_ok hq
      obtain ⟨p, p1, hfin⟩ := pB_ok hq
      obtain ⟨rfl, _, _, _⟩ := pDecl_eq l1
      obtain ⟨rfl, _, _⟩ := pX_ok (by omega) x1
      obtain ⟨rfl, _, _⟩ := pX_ok (by omega) y1
      obtain ⟨c1, c2⟩ := ih _ _ _ a1
      obtain ⟨d1, d2⟩ := ih _ _ _ p1
      have c2' : 2 * kT a.2.2.2.2 + (s.1 + 1 + 1 + 1) + 0 ≤ 2 * kT s.2.2.2 + a.2.1 := c2
      have d2' : 2 * kT p.2.2.2.2 + (a.2.1 + 1) + 0 ≤ 2 * kT a.2.2.2.2 + p.2.1 := d2
      cases hfin
      refine ⟨fun h => c1 (d1 h), ?_⟩
      show 2 * kT (tAdd p.2.2.2.2 _) + s.1 + 0 ≤ 2 * kT s.2.2.2 + p.2.1
      rw [kT_add, if_neg (by show 7 ≠ 16; omega)]; omega
    rw [if_neg e7] at hq
    by_cases e9 : tkK T s.1 = 9
    · rw [if_pos e9] at hq
      unfold pIf at hq
      obtain ⟨c, c1, hq⟩ := pB_ok hq
      obtain ⟨x, x1, hq⟩ := pB_ok hq
      obtain ⟨y, y1, hq⟩ := pB_ok hq
      obtain ⟨z, z1, hq⟩ := pB_ok hq
      obtain ⟨w, w1, hfin⟩ := pB_ok hq
      obtain ⟨rfl, x2, _⟩ := pX_ok (by omega) x1
      obtain ⟨rfl, z2, _⟩ := pX_ok (by omega) z1
      obtain ⟨f1, f2⟩ := ih _ _ _ c1
      obtain ⟨g1, g2⟩ := ih _ _ _ y1
      obtain ⟨h1, h2⟩ := ih _ _ _ w1
      have f2' : 2 * kT c.2.2.2.2 + (s.1 + 1) + 0 ≤ 2 * kT s.2.2.2 + c.2.1 := f2
      have g2' : 2 * kT y.2.2.2.2 + (c.2.1 + 1) + 0 ≤ 2 * kT c.2.2.2.2 + y.2.1 := g2
      have h2' : 2 * kT w.2.2.2.2 + (y.2.1 + 1) + 0 ≤ 2 * kT y.2.2.2.2 + w.2.1 := h2
      cases hfin
      refine ⟨fun h => f1 (g1 (h1 h)), ?_⟩
      show 2 * kT (tAdd w.2.2.2.2 _) + s.1 + 0 ≤ 2 * kT s.2.2.2 + w.2.1
      rw [kT_add, if_neg (by show 8 ≠ 16; omega)]; omega
    rw [if_neg e9] at hq
    by_cases e12 : tkK T s.1 = 12
    · rw [if_pos e12] at hq
      unfold pFn at hq
      obtain ⟨o, o1, hq⟩ := pB_ok hq
      obtain ⟨l, l1, hq⟩ := pB_ok hq
      obtain ⟨x, x1, hq⟩ := pB_ok hq
      obtain ⟨t, t1, hq⟩ := pB_ok hq
      obtain ⟨y, y1, hq⟩ := pB_ok hq
      obtain ⟨z, z1, hq⟩ := pB_ok hq
      obtain ⟨p, p1, hfin⟩ := pB_ok hq
      obtain ⟨rfl, _, _⟩ := pX_ok (by omega) o1
      obtain ⟨rfl, _, _, _⟩ := pDecl_eq l1
      obtain ⟨rfl, _, _⟩ := pX_ok (by omega) x1
      obtain ⟨rfl, _, _⟩ := pX_ok (by omega) y1
      obtain ⟨rfl, _, _⟩ := pX_ok (by omega) z1
      obtain ⟨f1, f2⟩ := ih _ _ _ p1
      have f2' : 2 * kT p.2.2.2.2 + (t.2.1 + 1 + 1) + 0 ≤ 2 * kT s.2.2.2 + p.2.1 := f2
      have ht : s.1 + 1 + 1 + 1 + 1 < t.2.1 := (pTy_at 20 _ 0 t t1).1
      cases hfin
      refine ⟨fun h => (oE_n2 (f1 h)).1, ?_⟩
      show 2 * kT (tAdd p.2.2.2.2 _) + s.1 + 0 ≤ 2 * kT s.2.2.2 + p.2.1
      rw [kT_add, if_neg (by show 9 ≠ 16; omega)]; omega
    rw [if_neg e12] at hq
    exact v_cmp (T := T) ih sc s q hq
def lIn (T : List Tok) (a b m : Nat) : Prop := ∀ i, Nat.testBit m i = true → ∃ j, a ≤ j ∧ j < b ∧ tkK T j = 4 ∧ (tkV T j).toInt.toNat = i
theorem lIn_or {T : List Tok} {a b m m' : Nat} (h : lIn T a b m) (h' : lIn T a b m') : lIn T a b (m ||| m') := fun i hi => by
  rw [Nat.testBit_or, Bool.or_eq_true] at hi
  rcases hi with hi | hi
  · exact h i hi
  · exact h' i hi
theorem lIn_w {T : List Tok} {a b a' b' m : Nat} (h : lIn T a b m) (ha : a' ≤ a) (hb : b ≤ b') : lIn T a' b' m := fun i hi => by
  obtain ⟨j, j1, j2, j3⟩ := h i hi
  exact ⟨j, by omega, by omega, j3⟩
theorem pTy_in {T : List Tok} : ∀ (r a c : Nat) (t : PT), pTy T r a c = .ok t → lIn T a t.2.1 (tyM t.1) := by
  have base : ∀ (pr : Nat → Nat → PE PT), (∀ a c t, pr a c = .ok t → lIn T a t.2.1 (tyM t.1)) → ∀ a c t, pBase pr T a c = .ok t → lIn T a t.2.1 (tyM t.1) := by
    intro pr hpr a c t h
    unfold pBase at h
    by_cases e : tkK T a = 5 ∨ tkK T a = 6 ∨ tkK T a = 4
    · rw [if_pos e] at h
      by_cases hc : c = 100
      · rw [if_pos hc] at h; cases h
      · rw [if_neg hc] at h; cases h
        show lIn T a (a + 1) (tyM (.num (if tkK T a = 5 then 0 else if tkK T a = 6 then 1 else 2 + (tkV T a).toInt.toNat)))
        intro i hi
        by_cases e5 : tkK T a = 5
        · rw [if_pos e5] at hi; simp [tyM] at hi
        · rw [if_neg e5] at hi
          by_cases e6 : tkK T a = 6
          · rw [if_pos e6] at hi; simp [tyM] at hi
          · rw [if_neg e6, tyM, if_neg (by omega), show 2 + (tkV T a).toInt.toNat - 2 = (tkV T a).toInt.toNat by omega, Nat.testBit_two_pow] at hi
            exact ⟨a, Nat.le_refl _, by omega, by omega, by simpa using hi⟩
    · rw [if_neg e] at h
      by_cases e15 : tkK T a = 15
      · rw [if_pos e15] at h
        obtain ⟨q, q1, q2⟩ := pB_ok h
        have := hpr _ _ _ q1
        by_cases e16 : tkK T q.2.1 = 16
        · rw [if_pos e16] at q2; cases q2
          exact lIn_w this (by omega) (by show q.2.1 ≤ q.2.1 + 1; omega)
        · rw [if_neg e16] at q2; cases q2
      · rw [if_neg e15] at h; cases h
  have part : ∀ (pr : Nat → Nat → PE PT), (∀ a c t, pr a c = .ok t → lIn T a t.2.1 (tyM t.1) ∧ a < t.2.1) → ∀ j a c t, pPart pr T j a c = .ok t → lIn T a t.2.1 (tyM t.1) ∧ a < t.2.1 := by
    intro pr hpr
    have hb2 : ∀ a c t, pBase pr T a c = .ok t → a < t.2.1 := by
      intro a c t h
      unfold pBase at h
      by_cases e : tkK T a = 5 ∨ tkK T a = 6 ∨ tkK T a = 4
      · rw [if_pos e] at h
        by_cases hc : c = 100
        · rw [if_pos hc] at h; cases h
        · rw [if_neg hc] at h; cases h; show a < a + 1; omega
      · rw [if_neg e] at h
        by_cases e15 : tkK T a = 15
        · rw [if_pos e15] at h
          obtain ⟨q, q1, q2⟩ := pB_ok h
          have := (hpr _ _ _ q1).2
          by_cases e16 : tkK T q.2.1 = 16
          · rw [if_pos e16] at q2; cases q2; show a < q.2.1 + 1; omega
          · rw [if_neg e16] at q2; cases q2
        · rw [if_neg e15] at h; cases h
    intro j
    induction j with
    | zero =>
      intro a c t h
      rw [pPart] at h
      obtain ⟨q, q1, q2⟩ := pB_ok h
      by_cases e : tkK T q.2.1 = 21
      · rw [if_pos e] at q2; cases q2
      · rw [if_neg e] at q2; cases q2; exact ⟨base pr (fun a c t h => (hpr a c t h).1) _ _ _ q1, hb2 _ _ _ q1⟩
    | succ j ih =>
      intro a c t h
      rw [pPart] at h
      obtain ⟨q, q1, q2⟩ := pB_ok h
      have b1 := base pr (fun a c t h => (hpr a c t h).1) _ _ _ q1
      have b2 := hb2 _ _ _ q1
      by_cases e : tkK T q.2.1 = 21
      · rw [if_pos e] at q2
        obtain ⟨p, p1, p2⟩ := pB_ok q2
        obtain ⟨c1, c2⟩ := ih _ _ _ p1
        cases p2
        exact ⟨lIn_or (lIn_w b1 (Nat.le_refl _) (by show q.2.1 ≤ p.2.1; omega)) (lIn_w c1 (by omega) (Nat.le_refl _)), by show a < p.2.1; omega⟩
      · rw [if_neg e] at q2; cases q2; exact ⟨b1, b2⟩
  have main : ∀ (r a c : Nat) (t : PT), pTy T r a c = .ok t → lIn T a t.2.1 (tyM t.1) ∧ a < t.2.1 := by
    intro r
    induction r with
    | zero => intro a c t h; cases h
    | succ r ih =>
      intro a c t h
      rw [pTy] at h
      obtain ⟨q, q1, q2⟩ := pB_ok h
      obtain ⟨b1, b2⟩ := part _ ih 8 _ _ _ q1
      by_cases e : tkK T q.2.1 = 25
      · rw [if_pos e] at q2
        obtain ⟨p, p1, p2⟩ := pB_ok q2
        obtain ⟨c1, c2⟩ := ih _ _ _ p1
        cases p2
        exact ⟨lIn_or (lIn_w b1 (Nat.le_refl _) (by show q.2.1 ≤ p.2.1; omega)) (lIn_w c1 (by omega) (Nat.le_refl _)), by show a < p.2.1; omega⟩
      · rw [if_neg e] at q2; cases q2; exact ⟨b1, b2⟩
  exact fun r a c t h => (main r a c t h).1
theorem badL_none {T : List Tok} {m a : Nat} : ∀ {k : Nat}, badL T m a k = none → ∀ j, a ≤ j → j < a + k → tkK T j = 4 → Nat.testBit m (tkV T j).toInt.toNat = true
  | 0, _, j, h1, h2, _ => by omega
  | k + 1, h, j, h1, h2, h4 => by
    unfold badL at h
    cases hb : badL T m a k with
    | some x => rw [hb] at h; cases h
    | none =>
      rw [hb] at h
      by_cases hj : j < a + k
      · exact badL_none hb j h1 hj h4
      · have hj' : j = a + k := by omega
        subst hj'
        by_cases hc : tkK T (a + k) = 4 ∧ Nat.testBit m (tkV T (a + k)).toInt.toNat = false
        · have h' : (if tkK T (a + k) = 4 ∧ Nat.testBit m (tkV T (a + k)).toInt.toNat = false then some (a + k) else none) = none := h
          rw [if_pos hc] at h'; cases h'
        · cases hm : Nat.testBit m (tkV T (a + k)).toInt.toNat with
          | true => rfl
          | false => exact absurd ⟨h4, hm⟩ hc
