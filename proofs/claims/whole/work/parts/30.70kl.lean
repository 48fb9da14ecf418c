set_option maxRecDepth 100000
theorem shs_iff (D : List Df) (t : Tr) (c : CS) : ∀ (ps : List Ty) (l : List Nat) (s : Nat → Bool) (a : Nat), shs D t c ps l s a = true ↔ s a = true ∨ ∃ (i : Nat) (p : Ty), ps[i]? = some p ∧ l[i]? = some a ∧ isL p = true ∧ aLt D t c a = true
  | [], l, s, a => by
    unfold shs
    constructor
    · intro h; exact Or.inl h
    · rintro (h | ⟨i, p, h, _⟩)
      · exact h
      · cases h
  | p :: ps, [], s, a => by
    unfold shs
    constructor
    · intro h; exact Or.inl h
    · rintro (h | ⟨i, q, _, h, _⟩)
      · exact h
      · cases h
  | p :: ps, b :: l, s, a => by
    rw [shs, shs_iff D t c ps l]
    constructor
    · rintro (h | ⟨i, q, h1, h2, h3⟩)
      · by_cases hc : (isL p && aLt D t c b) = true
        · rw [if_pos hc] at h
          by_cases e : a = b
          · rw [Bool.and_eq_true] at hc
            exact Or.inr ⟨0, p, rfl, by rw [e]; rfl, hc.1, by rw [e]; exact hc.2⟩
          · rw [upd_ne _ _ _ _ e] at h; exact Or.inl h
        · rw [if_neg hc] at h; exact Or.inl h
      · exact Or.inr ⟨i + 1, q, h1, h2, h3⟩
    · rintro (h | ⟨i, q, h1, h2, h3⟩)
      · left
        by_cases hc : (isL p && aLt D t c b) = true
        · rw [if_pos hc]
          by_cases e : a = b
          · rw [e, upd_same]
          · rw [upd_ne _ _ _ _ e]; exact h
        · rw [if_neg hc]; exact h
      · cases i with
        | zero =>
          left
          have h1' : p = q := Option.some.inj h1
          have h2' : b = a := Option.some.inj h2
          rw [if_pos (by rw [h1', h2', h3.1, h3.2]; rfl), h2', upd_same]
        | succ i => exact Or.inr ⟨i, q, h1, h2, h3⟩
def shOK (D : List Df) (t : Tr) (E : Nat) (c : CS) : Prop := (∀ a, c.2.2.2 a = true → ∃ (e d i : Nat) (p : Ty), e < E ∧ (t.2.1 e).1 = 16 ∧ c.2.1 e = some d ∧ (dPs D d)[i]? = some p ∧ (t.2.1 e).2.2.2.2.2.2[i]? = some a ∧ isL p = true ∧ aLt D t c a = true ∧ a < e) ∧ (∀ (e d i : Nat) (p : Ty) (a : Nat), e < E → (t.2.1 e).1 = 16 → c.2.1 e = some d → (dPs D d)[i]? = some p → (t.2.1 e).2.2.2.2.2.2[i]? = some a → isL p = true → aLt D t c a = true → c.2.2.2 a = true)
theorem aLt_cg {D : List Df} {t : Tr} {c c' : CS} {a : Nat} (h : c'.2.1 a = c.2.1 a) : aLt D t c' a = aLt D t c a := by unfold aLt; rw [h]
theorem at_lt {T : List Tok} {d f0 : Nat} {lc : Lc} {t : Tr} {e i a : Nat} (hW : nW T d f0 f0 (lc, t) e) (h16 : (t.2.1 e).1 = 16) (h : (t.2.1 e).2.2.2.2.2.2[i]? = some a) : f0 ≤ a ∧ a < e := by
  obtain ⟨c1, _, c3, _⟩ := hW.2.2.2.2.2.2.2.2.2.2 h16
  exact c3 a (by show a ∈ row (t.2.1 e); rw [row_c h16]; exact List.mem_cons_of_mem _ (List.mem_of_getElem? h))
theorem sh_step {T : List Tok} {D : List Df} {t : Tr} {lc : Lc} {d f0 e : Nat} {c c' : CS} (hWp : ∀ e', e' ≤ e → (t.2.1 e').1 = 16 → ∀ (i a : Nat), (t.2.1 e').2.2.2.2.2.2[i]? = some a → a < e') (hag : agr e c c') (hd : ∀ d, (t.2.1 e).1 = 16 → c'.2.1 e = some d → c'.2.2.2 = shs D t c (dPs D d) (t.2.1 e).2.2.2.2.2.2 c.2.2.2) (hn : ((t.2.1 e).1 = 16 → c'.2.1 e = none) → c'.2.2.2 = c.2.2.2) (h : shOK D t e c) : shOK D t (e + 1) c' := by
  obtain ⟨h1, h2⟩ := h
  have key : ∀ a, c'.2.2.2 a = true ↔ c.2.2.2 a = true ∨ ((t.2.1 e).1 = 16 ∧ ∃ (d i : Nat) (p : Ty), c'.2.1 e = some d ∧ (dPs D d)[i]? = some p ∧ (t.2.1 e).2.2.2.2.2.2[i]? = some a ∧ isL p = true ∧ aLt D t c a = true) := by
    intro a
    by_cases h16 : (t.2.1 e).1 = 16
    · cases hdf : c'.2.1 e with
      | none =>
        rw [hn (fun _ => hdf)]
        constructor
        · intro h; exact Or.inl h
        · rintro (h | ⟨_, d, i, p, h, _⟩)
          · exact h
          · cases h
      | some dd =>
        rw [hd dd h16 hdf, shs_iff]
        constructor
        · rintro (h | ⟨i, p, q⟩)
          · exact Or.inl h
          · exact Or.inr ⟨h16, dd, i, p, rfl, q⟩
        · rintro (h | ⟨_, d', i, p, q1, q2⟩)
          · exact Or.inl h
          · cases q1; exact Or.inr ⟨i, p, q2⟩
    · rw [hn (fun hh => absurd hh h16)]
      constructor
      · intro h; exact Or.inl h
      · rintro (h | ⟨hh, _⟩)
        · exact h
        · exact absurd hh h16
  refine ⟨fun a ha => ?_, fun e' d' i p a he' h16 hdf hp hat hL hA => ?_⟩
  · rcases (key a).mp ha with hh | ⟨h16, d', i, p, q1, q2, q3, q4, q5⟩
    · obtain ⟨e', d', i, p, r1, r2, r3, r4, r5, r6, r7, r8⟩ := h1 a hh
      exact ⟨e', d', i, p, by omega, r2, (hag e' r1).2.1.trans r3, r4, r5, r6, by rw [aLt_cg (hag a (by omega)).2.1]; exact r7, r8⟩
    · have hae := hWp e (Nat.le_refl _) h16 i a q3
      exact ⟨e, d', i, p, by omega, h16, q1, q2, q3, q4, by rw [aLt_cg (hag a hae).2.1]; exact q5, hae⟩
  · have hae := hWp e' (by omega) h16 i a hat
    rw [key]
    rw [aLt_cg (hag a (by omega)).2.1] at hA
    by_cases ee : e' = e
    · subst ee; exact Or.inr ⟨h16, d', i, p, hdf, hp, hat, hL, hA⟩
    · left
      exact h2 e' d' i p a (by omega) h16 ((hag e' (by omega)).2.1.symm.trans hdf) hp hat hL hA
def cOK (T : List Tok) (D : List Df) (t : Tr) (k E : Nat) (c : CS) : Prop := (∀ (i : Nat) (x : Df), D[i]? = some x → ∀ e, dF D i ≤ e → e ≤ x.2.2.2.1 → e < E → tOK T D t x.2.2.2.2.2.2 c e) ∧ (∀ (i : Nat) (x : Df), i < k → D[i]? = some x → c.1 x.2.2.2.1 = some x.2.2.1) ∧ shOK D t E c
theorem dF_mono {T : List Tok} {D : List Df} {t : Tr} (h : pW T D t) {i : Nat} {x : Df} (hx : D[i]? = some x) : dF D (i + 1) = x.2.2.2.1 + 1 ∧ dF D i ≤ x.2.2.2.1 ∧ x.2.2.2.1 < t.1 := by
  obtain ⟨⟨_, _, w3, w4, _⟩, _⟩ := h.1 i x hx
  refine ⟨?_, w3, w4⟩
  unfold dF; rw [if_neg (by omega), Nat.add_sub_cancel, hx]
theorem in_def {T : List Tok} {D : List Df} {t : Tr} (h : pW T D t) : ∀ (k : Nat), k ≤ D.length → ∀ e, e < dF D k → ∃ (i : Nat) (x : Df), i < k ∧ D[i]? = some x ∧ dF D i ≤ e ∧ e ≤ x.2.2.2.1 := by
  intro k
  induction k with
  | zero => intro _ e he; have : dF D 0 = 0 := rfl
            omega
  | succ k ih =>
    intro hk e he
    obtain ⟨x, hx⟩ : ∃ x, D[k]? = some x := ⟨D[k]'(by omega), List.getElem?_eq_getElem _⟩
    obtain ⟨d1, d2, d3⟩ := dF_mono h hx
    by_cases hlt : e < dF D k
    · obtain ⟨i, y, i1, i2⟩ := ih (by omega) e hlt
      exact ⟨i, y, by omega, i2⟩
    · exact ⟨k, x, by omega, hx, by omega, by omega⟩
theorem at_all {T : List Tok} {D : List Df} {t : Tr} (h : pW T D t) {e : Nat} (he : e < t.1) (h16 : (t.2.1 e).1 = 16) {i a : Nat} (ha : (t.2.1 e).2.2.2.2.2.2[i]? = some a) : a < e := by
  rw [h.2.1] at he
  obtain ⟨j, x, _, hx, e1, e2⟩ := in_def h D.length (Nat.le_refl _) e he
  obtain ⟨_, w6, _⟩ := h.1 j x hx
  exact (at_lt (w6 e e1 e2) h16 ha).2
theorem dF_le {T : List Tok} {D : List Df} {t : Tr} (h : pW T D t) : ∀ (k : Nat), k ≤ D.length → ∀ (i : Nat) (x : Df), i < k → D[i]? = some x → x.2.2.2.1 + 1 ≤ dF D k := by
  intro k
  induction k with
  | zero => intro _ i x hi; omega
  | succ k ih =>
    intro hk i x hi hx
    obtain ⟨y, hy⟩ : ∃ y, D[k]? = some y := ⟨D[k]'(by omega), List.getElem?_eq_getElem _⟩
    obtain ⟨d1, d2, d3⟩ := dF_mono h hy
    by_cases hik : i = k
    · subst hik; rw [hx] at hy; cases hy; omega
    · have := ih (by omega) i x (by omega) hx; omega
theorem cOK_N {T : List Tok} {D : List Df} {t : Tr} (hpW : pW T D t) {di : Nat} {x : Df} (hx : D[di]? = some x) (m : Nat) : ∀ (e : Nat) (c c' : CS), e + m = x.2.2.2.1 + 1 → dF D di ≤ e → kI D t (dF D di) e c → cOK T D t di e c → ckN T D t x.2.2.2.2.2.2 m e c = .ok c' → kI D t (dF D di) (x.2.2.2.1 + 1) c' ∧ cOK T D t di (x.2.2.2.1 + 1) c' := by
  obtain ⟨d1, d2, d3⟩ := dF_mono hpW hx
  obtain ⟨_, w6, _⟩ := hpW.1 di x hx
  have hdi := (List.getElem?_eq_some_iff.mp hx).1
  induction m with
  | zero => intro e c c' he hf hI hO hq; rw [ckN] at hq; cases hq; have : e = x.2.2.2.1 + 1 := by omega
            subst this; exact ⟨hI, hO⟩
  | succ m ih =>
    intro e c c' he hf hI hO hq
    rw [ckN] at hq
    obtain ⟨c1, q1, q2⟩ := pB_ok hq
    have hWe := w6 e hf (by omega)
    obtain ⟨a1, a2, a3, a4⟩ := ck_step hWe hI q1
    have i5 := hI.2.2.2.2 e (Nat.le_refl _)
    obtain ⟨o1, o2, o3⟩ := hO
    refine ih (e + 1) c1 c' (by omega) (by omega) (kI_next hI q1) ⟨fun i y hy e' e1 e2 e3 => ?_, fun i y hlt hy => ?_, ?_⟩ q2
    · obtain ⟨_, v6, _⟩ := hpW.1 i y hy
      by_cases ee : e' = e
      · subst ee
        have hii : i = di := by
          have hil := (List.getElem?_eq_some_iff.mp hy).1
          by_cases h1 : i < di
          · have := dF_le hpW di (by omega) i y h1 hy; omega
          · by_cases h2 : di < i
            · have := dF_le hpW i (by omega) di x h2 hx; omega
            · omega
        subst hii
        rw [hx] at hy; cases hy
        exact a2
      · exact tOK_mono (v6 e' e1 e2) (o1 i y hy e' e1 e2 (by omega)) (agr_le a1 (by omega))
    · have := dF_le hpW di (by omega) i y hlt hy
      rw [(a1 _ (by omega)).1]; exact o2 i y hlt hy
    · refine sh_step (d := di) (f0 := dF D di) (lc := x.2.2.2.2.2.2) (T := T) (fun e' he' h16 i a ha => at_all hpW (by omega) h16 ha) a1 a3 a4 o3
theorem cOK_A {T : List Tok} {D : List Df} {t : Tr} (hpW : pW T D t) (hg : ∀ (i : Nat) (x : Df), D[i]? = some x → tyG x.2.2.1) (R : List Df) : ∀ (i : Nat) (c c' : CS), D.drop i = R → i ≤ D.length → kI0 D t (dF D i) c → cOK T D t i (dF D i) c → ckA T D t R c = .ok c' → kI0 D t t.1 c' ∧ cOK T D t D.length t.1 c' := by
  induction R with
  | nil =>
    intro i c c' hd hi hI hO hq
    have hi' : i = D.length := by
      have := congrArg List.length hd
      rw [List.length_drop, List.length_nil] at this; omega
    subst hi'
    rw [ckA] at hq; cases hq
    rw [hpW.2.1]; exact ⟨hI, hO⟩
  | cons x R ih =>
    intro i c c' hd hi hI hO hq
    have hil : i < D.length := by
      have := congrArg List.length hd
      rw [List.length_drop] at this
      have h2 : (x :: R).length = R.length + 1 := rfl
      omega
    have hx : D[i]? = some x := by
      have h1 := List.drop_eq_getElem_cons hil
      rw [h1] at hd
      injection hd with h2 _
      rw [← h2]; exact List.getElem?_eq_getElem hil
    have hdr : D.drop (i + 1) = R := by
      have h1 := List.drop_eq_getElem_cons hil
      rw [h1] at hd
      injection hd
    obtain ⟨d1, d2, d3⟩ := dF_mono hpW hx
    obtain ⟨⟨_, w2, _⟩, _⟩ := hpW.1 i x hx
    rw [ckA] at hq
    obtain ⟨c1, q1, q2⟩ := pB_ok hq
    unfold ckD at q1
    rw [w2] at q1
    obtain ⟨c2, q3, q4⟩ := pB_ok q1
    obtain ⟨k1, k2⟩ := cOK_N hpW hx _ _ _ _ (by omega) (Nat.le_refl _) (kI_s hI) hO q3
    have hc : c2 = c1 ∧ ∃ s, c2.1 x.2.2.2.1 = some s ∧ tyQ x.2.2.1 s = true := by
      cases hs : c2.1 x.2.2.2.1 with
      | none => rw [hs] at q4; cases q4
      | some s =>
        rw [hs] at q4
        have q4' : (if tyQ x.2.2.1 s = true then .ok c2 else .error (7, x.1) : PE CS) = .ok c1 := q4
        by_cases h : tyQ x.2.2.1 s = true
        · rw [if_pos h] at q4'; cases q4'; exact ⟨rfl, s, rfl, h⟩
        · rw [if_neg h] at q4'; cases q4'
    obtain ⟨rfl, s, hs, hQ⟩ := hc
    refine ih (i + 1) c2 c' hdr (by omega) (by rw [d1]; exact kI_0 k1) ?_ q2
    rw [d1]
    obtain ⟨o1, o2, o3⟩ := k2
    refine ⟨o1, fun j y hj hy => ?_, o3⟩
    by_cases ej : j = i
    · subst ej; rw [hx] at hy; cases hy
      rw [hs, (tyQ_eq (hg _ _ hx)).mp hQ]
    · exact o2 j y (by omega) hy
