set_option maxRecDepth 100000
def pAt (T : List Tok) (pr : Nat → Nat → PE PT) : Prop := ∀ a c t, c ≤ 100 → pr a c = .ok t → a < t.2.1 ∧ t.2.1 ≤ T.length ∧ c < t.2.2 ∧ t.2.2 ≤ 100
theorem pAt_base {T : List Tok} {pr : Nat → Nat → PE PT} (hpr : pAt T pr) : pAt T (pBase pr T) := by
  intro a c t hc h
  unfold pBase at h
  by_cases e : tkK T a = 5 ∨ tkK T a = 6 ∨ tkK T a = 4
  · rw [if_pos e] at h
    have hlt := tkK_lt (show tkK T a ≠ 0 by omega)
    by_cases hc1 : c = 100
    · rw [if_pos hc1] at h; cases h
    · rw [if_neg hc1] at h; cases h
      exact ⟨by show a < a + 1; omega, by show a + 1 ≤ _; omega, by show c < c + 1; omega, by show c + 1 ≤ 100; omega⟩
  · rw [if_neg e] at h
    by_cases e15 : tkK T a = 15
    · rw [if_pos e15] at h
      obtain ⟨q, q1, q2⟩ := pB_ok h
      obtain ⟨a1, a2, a3, a4⟩ := hpr _ _ _ hc q1
      by_cases e16 : tkK T q.2.1 = 16
      · rw [if_pos e16] at q2
        have hlt := tkK_lt (show tkK T q.2.1 ≠ 0 by omega)
        cases q2
        exact ⟨by show a < q.2.1 + 1; omega, by show q.2.1 + 1 ≤ _; omega, a3, a4⟩
      · rw [if_neg e16] at q2; cases q2
    · rw [if_neg e15] at h; cases h
theorem pAt_part {T : List Tok} {pr : Nat → Nat → PE PT} (hpr : pAt T pr) (j : Nat) : pAt T (pPart pr T j) := by
  induction j with
  | zero =>
    intro a c t hc h
    rw [pPart] at h
    obtain ⟨q, q1, q2⟩ := pB_ok h
    have := pAt_base hpr _ _ _ hc q1
    by_cases e : tkK T q.2.1 = 21
    · rw [if_pos e] at q2; cases q2
    · rw [if_neg e] at q2; cases q2; exact this
  | succ j ih =>
    intro a c t hc h
    rw [pPart] at h
    obtain ⟨q, q1, q2⟩ := pB_ok h
    obtain ⟨a1, a2, a3, a4⟩ := pAt_base hpr _ _ _ hc q1
    by_cases e : tkK T q.2.1 = 21
    · rw [if_pos e] at q2
      obtain ⟨p, p1, p2⟩ := pB_ok q2
      obtain ⟨b1, b2, b3, b4⟩ := ih _ _ _ a4 p1
      cases p2
      exact ⟨by show a < p.2.1; omega, b2, by show c < p.2.2; omega, b4⟩
    · rw [if_neg e] at q2; cases q2; exact ⟨a1, a2, a3, a4⟩
theorem pAt_ty {T : List Tok} (r : Nat) : pAt T (pTy T r) := by
  induction r with
  | zero => intro a c t hc h; cases h
  | succ r ih =>
    intro a c t hc h
    rw [pTy] at h
    obtain ⟨q, q1, q2⟩ := pB_ok h
    obtain ⟨a1, a2, a3, a4⟩ := pAt_part ih 8 _ _ _ hc q1
    by_cases e : tkK T q.2.1 = 25
    · rw [if_pos e] at q2
      obtain ⟨p, p1, p2⟩ := pB_ok q2
      obtain ⟨b1, b2, b3, b4⟩ := ih _ _ _ a4 p1
      cases p2
      exact ⟨by show a < p.2.1; omega, b2, by show c < p.2.2; omega, b4⟩
    · rw [if_neg e] at q2; cases q2; exact ⟨a1, a2, a3, a4⟩
