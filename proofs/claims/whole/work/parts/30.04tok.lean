set_option maxRecDepth 100000
def tkok (o : Nat → Int) (n : Nat) (t : Tok) : Prop := t.2.1 < n ∧ tokS o t.2.1 = some (t.1, t.2.2.1, t.2.2.2)
theorem scS_ok (o : Nat → Int) (n : Nat) : ∀ (f a : Nat) (T T' : List Tok), (∀ t ∈ T, tkok o n t) → scS o n f a T = .inr T' → (∀ t ∈ T', tkok o n t) := by
  intro f
  induction f with
  | zero => intro a T T' h h1; rw [scS] at h1; cases h1; exact h
  | succ f ih =>
    intro a T T' h h1
    rw [scS] at h1
    by_cases hna : n ≤ a
    · rw [if_pos hna] at h1; cases h1; exact h
    rw [if_neg hna] at h1
    by_cases hb : o a = 32 ∨ o a = 10
    · rw [if_pos hb] at h1; exact ih _ _ _ h h1
    rw [if_neg hb] at h1
    by_cases h9 : 900 ≤ T.length
    · rw [if_pos h9] at h1; cases h1
    rw [if_neg h9] at h1
    cases ht : tokS o a with
    | none => rw [ht] at h1; cases h1
    | some t =>
      rw [ht] at h1
      refine ih _ _ _ ?_ h1
      intro t' ht'
      rw [List.mem_append, List.mem_singleton] at ht'
      rcases ht' with ht' | rfl
      · exact h t' ht'
      · exact ⟨by show a < n; omega, ht⟩
theorem scS_ll (o : Nat → Int) (n : Nat) : ∀ (f a : Nat) (T T' : List Tok), T.length ≤ 900 → scS o n f a T = .inr T' → T'.length ≤ 900 := by
  intro f
  induction f with
  | zero => intro a T T' h h1; rw [scS] at h1; cases h1; exact h
  | succ f ih =>
    intro a T T' h h1
    rw [scS] at h1
    by_cases hna : n ≤ a
    · rw [if_pos hna] at h1; cases h1; exact h
    rw [if_neg hna] at h1
    by_cases hb : o a = 32 ∨ o a = 10
    · rw [if_pos hb] at h1; exact ih _ _ _ h h1
    rw [if_neg hb] at h1
    by_cases h9 : 900 ≤ T.length
    · rw [if_pos h9] at h1; cases h1
    rw [if_neg h9] at h1
    cases ht : tokS o a with
    | none => rw [ht] at h1; cases h1
    | some t =>
      rw [ht] at h1
      refine ih _ _ _ ?_ h1
      rw [List.length_append]; show T.length + 1 ≤ 900; omega
theorem tk_name {o : Nat → Int} {n : Nat} (ho : tx_o o n) {t : Tok} (h : tkok o n t) (h1 : t.1 = 1) : 1 ≤ t.2.2.1 ∧ t.2.2.1 ≤ 10 ∧ t.2.1 + t.2.2.1 ≤ n ∧ (∀ x ∈ sl o t.2.1 t.2.2.1, oN x = true) ∧ t.2.2.2 = je (pk (sl o t.2.1 t.2.2.1)) := by
  obtain ⟨k, p, w, v⟩ := t
  have h1' : k = 1 := h1
  subst h1'
  obtain ⟨hp, ht⟩ := h
  have hp' : p < n := hp
  have ht' : tokS o p = some (1, w, v) := ht
  unfold tokS at ht'
  by_cases hl : oL (o p) = true
  · rw [if_pos hl] at ht'
    by_cases h10 : rl oN o 3001 p ≤ 10
    · rw [if_pos h10] at ht'
      simp only [Option.some.injEq, Prod.mk.injEq] at ht'
      obtain ⟨_, h3, h4⟩ := ht'
      have hpN : ∀ i, n ≤ i → oN (o i) = false := fun i hi => by rw [ho.2.1 i hi]; decide
      refine ⟨?_, ?_, ?_, ?_, ?_⟩
      · show 1 ≤ w; rw [← h3, rl, if_pos (by unfold oN; rw [hl]; rfl)]; omega
      · show w ≤ 10; omega
      · show p + w ≤ n; rw [← h3]; exact rl_le oN o n 3001 p hpN (by omega)
      · show ∀ x ∈ sl o p w, oN x = true; rw [← h3]; exact sl_all oN o p _ (fun i hi => rl_all oN o 3001 p i hi)
      · show v = je (pk (sl o p w)); rw [← h3, h4]
    · rw [if_neg h10] at ht'; cases ht'
  · rw [if_neg hl] at ht'
    exfalso
    by_cases hd : oD (o p) = true
    · rw [if_pos hd] at ht'
      split at ht' <;> simp at ht'
    · rw [if_neg hd] at ht'
      by_cases h35 : o p = 35
      · rw [if_pos h35] at ht'; split at ht' <;> simp at ht'
      · rw [if_neg h35] at ht'
        by_cases h39 : o p = 39
        · rw [if_pos h39] at ht'; split at ht' <;> simp at ht'
        · rw [if_neg h39] at ht'
          by_cases h45 : o p = 45 ∧ o (p + 1) = 62
          · rw [if_pos h45] at ht'; simp at ht'
          · rw [if_neg h45] at ht'
            by_cases hs : sgn (o p) = 0
            · rw [if_pos hs] at ht'; cases ht'
            · rw [if_neg hs] at ht'
              simp only [Option.some.injEq, Prod.mk.injEq] at ht'
              have : sgn (o p) = 0 ∨ 15 ≤ sgn (o p) := by
                unfold sgn
                repeat (refine ite_P (P := fun x => x = 0 ∨ 15 ≤ x) (Or.inr (by decide)) ?_)
                exact Or.inl rfl
              omega
theorem tk_letter {o : Nat → Int} {n : Nat} {t : Tok} (h : tkok o n t) (h1 : t.1 = 4) : ∃ l : Nat, l < 4 ∧ t.2.2.2 = je l := by
  obtain ⟨k, p, w, v⟩ := t
  have h1' : k = 4 := h1
  subst h1'
  obtain ⟨hp, ht⟩ := h
  have ht' : tokS o p = some (4, w, v) := ht
  unfold tokS at ht'
  by_cases hl : oL (o p) = true
  · rw [if_pos hl] at ht'
    split at ht'
    · simp only [Option.some.injEq, Prod.mk.injEq] at ht'
      have := wk_v (sl o p (rl oN o 3001 p)); omega
    · cases ht'
  · rw [if_neg hl] at ht'
    by_cases hd : oD (o p) = true
    · rw [if_pos hd] at ht'
      split at ht' <;> simp at ht'
    · rw [if_neg hd] at ht'
      by_cases h35 : o p = 35
      · rw [if_pos h35] at ht'; split at ht' <;> simp at ht'
      · rw [if_neg h35] at ht'
        by_cases h39 : o p = 39
        · rw [if_pos h39] at ht'
          split at ht'
          · rename_i hr
            simp only [Option.some.injEq, Prod.mk.injEq] at ht'
            refine ⟨(o (p + 1) - 97).toNat, by omega, ?_⟩
            show v = _
            rw [← ht'.2.2]; congr 1; omega
          · cases ht'
        · rw [if_neg h39] at ht'
          by_cases h45 : o p = 45 ∧ o (p + 1) = 62
          · rw [if_pos h45] at ht'; simp at ht'
          · rw [if_neg h45] at ht'
            by_cases hs : sgn (o p) = 0
            · rw [if_pos hs] at ht'; cases ht'
            · rw [if_neg hs] at ht'
              simp only [Option.some.injEq, Prod.mk.injEq] at ht'
              have : sgn (o p) = 0 ∨ 15 ≤ sgn (o p) := by
                unfold sgn
                repeat (refine ite_P (P := fun x => x = 0 ∨ 15 ≤ x) (Or.inr (by decide)) ?_)
                exact Or.inl rfl
              omega
theorem nm_eq {o : Nat → Int} {n : Nat} (ho : tx_o o n) {s t : Tok} (h : tkok o n s) (h1 : s.1 = 1) (h' : tkok o n t) (h1' : t.1 = 1) : s.2.2.2 = t.2.2.2 ↔ (s.2.2.1 = t.2.2.1 ∧ ∀ i, i < s.2.2.1 → o (s.2.1 + i) = o (t.2.1 + i)) := by
  obtain ⟨a1, a2, a3, a4, a5⟩ := tk_name ho h h1
  obtain ⟨b1, b2, b3, b4, b5⟩ := tk_name ho h' h1'
  have r1 := pk_63 _ a4 (by rw [sl_len]; exact a2)
  have r2 := pk_63 _ b4 (by rw [sl_len]; exact b2)
  rw [a5, b5, je_eq _ _ (by omega) (by omega) (by omega) (by omega)]
  constructor
  · intro h
    have := pk_inj _ _ a4 b4 h
    have hl : s.2.2.1 = t.2.2.1 := by have := congrArg List.length this; rwa [sl_len, sl_len] at this
    refine ⟨hl, fun i hi => ?_⟩
    rw [← sl_get o s.2.1 s.2.2.1 i hi, this, sl_get o t.2.1 t.2.2.1 i (by omega)]
  · rintro ⟨hl, h⟩
    congr 1
    apply List.ext_getElem
    · rw [sl_len, sl_len, hl]
    · intro i h1 h2
      have g1 : i < s.2.2.1 := by rwa [sl_len] at h1
      have := h i g1
      rw [← sl_get o s.2.1 s.2.2.1 i g1, ← sl_get o t.2.1 t.2.2.1 i (by omega)] at this
      simpa [List.getD_eq_getElem?_getD, List.getElem?_eq_getElem, h1, h2] using this
theorem r_isSame {o : Nat → Int} {n : Nat} {u : pm_J} (N : Nat) (g : pm_s) (ho : tx_o o n) (hN : 10000 ≤ N) (hu : rTx o n u) (T : List Tok) (hT : rTok u T) (hok : ∀ t ∈ T, tkok o n t) (i j : Nat) (s t : Tok) (hs : T[i]? = some s) (ht : T[j]? = some t) (hs1 : s.1 = 1) (ht1 : t.1 = 1) :
    F_Md_isSame N (ie i) (ie j) g u = some (ib (decide (s.2.2.2 = t.2.2.2))) := by
  have hn := ho.1
  have os := hok s (List.mem_of_getElem? hs)
  have ot := hok t (List.mem_of_getElem? ht)
  obtain ⟨a1, a2, a3, a4, a5⟩ := tk_name ho os hs1
  obtain ⟨b1, b2, b3, b4, b5⟩ := tk_name ho ot ht1
  have cs := hT.2.2 i s hs
  have ct := hT.2.2 j t ht
  have hi := (List.getElem?_eq_some_iff.mp hs).1
  have hj := (List.getElem?_eq_some_iff.mp ht).1
  have h9 := hT.2.1
  have hloop : ∀ (m f k : Nat) (b : Bool), k + m = s.2.2.1 → m < f → (b = true → s.2.2.1 = t.2.2.1) → K_Md_isSame_24 N g u f (ie i) (ie j) (ib b) (ie k) = some (ib (b && decide (∀ x, x < s.2.2.1 → k ≤ x → o (s.2.1 + x) = o (t.2.1 + x)))) := by
    intro m
    induction m with
    | zero =>
      intro f k b hk hf hb
      obtain ⟨f, rfl⟩ : ∃ f', f = f' + 1 := ⟨f - 1, by omega⟩
      have hd : decide (∀ x, x < s.2.2.1 → k ≤ x → o (s.2.1 + x) = o (t.2.1 + x)) = true := by
        rw [decide_eq_true_eq]; intro x h1 h2; omega
      rw [K_Md_isSame_24]
      simp (disch := omega) only [ie_lit, Int.cast_ofNat_Int, ie_add, ie_sub, ie_mul, ie_neg, ie_lt, ie_le, ie_eq, ie_nat, ie_ok, ib_z, ib_e, ib_1, lge_lt, lge_ge, lge_eq, lge_le, lge_gt, Int.toNat_natCast, cs.2.2.1, ib_ok, ib_ok2]
      rw [if_pos (by omega), if_pos (by omega), hd, Bool.and_true]
      simp
    | succ m ih =>
      intro f k b hk hf hb
      obtain ⟨f, rfl⟩ : ∃ f', f = f' + 1 := ⟨f - 1, by omega⟩
      rw [K_Md_isSame_24]
      have e1 : u.1 65 (s.2.1 + k) = ie (o (s.2.1 + k)) := hu.2 _ (by omega)
      simp (disch := omega) only [ie_lit, Int.cast_ofNat_Int, ie_add, ie_sub, ie_mul, ie_neg, ie_lt, ie_le, ie_eq, ie_nat, ie_ok, ib_z, ib_e, ib_1, lge_lt, lge_ge, lge_eq, lge_le, lge_gt, Int.toNat_natCast, cs.2.2.1, cs.2.1, ct.2.1, ib_ok, ib_ok2]
      rw [if_pos (by omega), if_neg (by omega)]
      cases b with
      | false => rfl
      | true =>
        have hl := hb rfl
        have e2 : u.1 65 (t.2.1 + k) = ie (o (t.2.1 + k)) := hu.2 _ (by omega)
        have r1 := tx_rg ho (s.2.1 + k)
        have r2 := tx_rg ho (t.2.1 + k)
        rw [show ((s.2.1 : Int) + k).toNat = s.2.1 + k by omega, show ((t.2.1 : Int) + k).toNat = t.2.1 + k by omega, e1, e2]
        rw [if_neg (by decide), if_pos (by omega), if_pos (by omega), if_pos (by omega), if_pos (by omega), show (k : Int) + 1 = ((k + 1 : Nat) : Int) by omega]
        simp (disch := omega) only [ie_lit, Int.cast_ofNat_Int, ie_add, ie_sub, ie_mul, ie_neg, ie_lt, ie_le, ie_eq, ie_nat, ie_ok, ib_z, ib_e, ib_1, lge_lt, lge_ge, lge_eq, lge_le, lge_gt]
        rw [show ie 1 = ib true from rfl, show ie 0 = ib false from rfl, ih f (k + 1) true (by omega) (by omega) (fun _ => hl), ih f (k + 1) false (by omega) (by omega) (fun h => by cases h)]
        rw [Bool.true_and, Bool.true_and, Bool.false_and]
        by_cases hc : o (s.2.1 + k) = o (t.2.1 + k)
        · rw [if_pos hc]
          congr 2
          rw [decide_eq_decide]
          constructor
          · intro h x h2 h1
            by_cases hx : x = k
            · rw [hx]; exact hc
            · exact h x h2 (by omega)
          · intro h x h2 h1; exact h x h2 (by omega)
        · rw [if_neg hc]
          congr 2
          symm; rw [decide_eq_false_iff_not]
          intro h; exact hc (h k (by omega) (by omega))
  unfold F_Md_isSame
  simp (disch := omega) only [ie_lit, Int.cast_ofNat_Int, ie_add, ie_sub, ie_mul, ie_neg, ie_lt, ie_le, ie_eq, ie_nat, ie_ok, ib_z, ib_e, ib_1, lge_lt, lge_ge, lge_eq, lge_le, lge_gt, Int.toNat_natCast, cs.2.2.1, ct.2.2.1]
  rw [if_pos (by omega), if_pos (by omega)]
  have hz : ie 0 = ie ((0 : Nat) : Int) := rfl
  have hdd : decide (s.2.2.2 = t.2.2.2) = decide (s.2.2.1 = t.2.2.1 ∧ ∀ i, i < s.2.2.1 → o (s.2.1 + i) = o (t.2.1 + i)) := by
    rw [decide_eq_decide]; exact nm_eq ho os hs1 ot ht1
  rw [hdd]
  by_cases hl : s.2.2.1 = t.2.2.1
  · rw [if_pos (by omega), show ie 1 = ib true from rfl, hz, hloop s.2.2.1 N 0 true (by omega) (by omega) (fun _ => hl), Bool.true_and]
    congr 2
    rw [decide_eq_decide]
    constructor
    · intro h; exact ⟨hl, fun x hx => h x hx (by omega)⟩
    · intro h x hx _; exact h.2 x hx
  · rw [if_neg (by omega)]
    have := hloop s.2.2.1 N 0 false (by omega) (by omega) (fun h => by cases h)
    rw [Bool.false_and] at this
    rw [show K_Md_isSame_24 N g u N (ie i) (ie j) (ie 0) (ie 0) = K_Md_isSame_24 N g u N (ie i) (ie j) (ib false) (ie ((0 : Nat) : Int)) from rfl, this]
    congr 2
    symm; rw [decide_eq_false_iff_not]; exact fun h => hl h.1
