/-! soundness of one instruction -/
theorem pm_lk_mem {L : List (Nat × Value)} {i : Nat} {v : Value} (h : pm_lk L i = some v) : (i, v) ∈ L := by
  induction L with
  | nil => cases h
  | cons q L ih =>
    have e : pm_lk (q :: L) i = cond (Nat.beq q.1 i) (some q.2) (pm_lk L i) := rfl
    rw [e] at h
    cases hb : Nat.beq q.1 i with
    | true =>
      rw [hb] at h
      have h1 : q.1 = i := Nat.eq_of_beq_eq_true hb
      have h2 : q.2 = v := Option.some.inj h
      rw [← h1, ← h2]
      exact List.mem_cons_self
    | false =>
      rw [hb] at h
      exact List.mem_cons_of_mem _ (ih h)
theorem pm_has {ls : Array Slot} {n h0 : Nat} {L : List (Nat × Value)} {i : Nat} {v : Value} (h : lv_has ls n (L.map (pm_cp h0))) (hl : pm_lk L i = some v) : ls[i]? = some (.val (pm_cv h0 v)) :=
  h.2.2 (i, pm_cv h0 v) (List.mem_map.mpr ⟨(i, v), pm_lk_mem hl, rfl⟩)
theorem pm_fil (h0 : Nat) (f : Nat × Value → Bool) (hf : ∀ q, f (pm_cp h0 q) = f q) (L : List (Nat × Value)) : (L.map (pm_cp h0)).filter f = (L.filter f).map (pm_cp h0) := by
  rw [List.filter_map]
  congr 1
  apply List.filter_congr
  intro q _
  exact hf q
theorem pm_s1_eq (h0 : Nat) (L : List (Nat × Value)) (i : Nat) (v : Value) : (i, pm_cv h0 v) :: (L.map (pm_cp h0)).filter (fun q => !(q.1 == i) && !(q.1 + 1 == i && q.2.category == 2)) = (pm_s1 L i v).map (pm_cp h0) := by
  rw [pm_fil h0 _ (fun q => by simp [pm_cp, pm_cv_cat])]
  rfl
theorem pm_s2_eq (h0 : Nat) (L : List (Nat × Value)) (i : Nat) (v : Value) : (i, pm_cv h0 v) :: (L.map (pm_cp h0)).filter (fun q => !(q.1 == i) && (!(q.1 == i + 1) && !(q.1 + 1 == i && q.2.category == 2))) = (pm_s2 L i v).map (pm_cp h0) := by
  rw [pm_fil h0 _ (fun q => by simp [pm_cp, pm_cv_cat])]
  rfl
section PMS
variable {x : pm_c} {y : pm_m} {h0 : Nat} {D : pm_D} {b : pm_b} {Q : State → Prop} {pc : Nat} {L L' : List (Nat × Value)} {S S' : List Value} {M M' : pm_M}
theorem pm_some3 {a b : List (Nat × Value)} {c d : List Value} {e f : pm_M} (h : (some (a, c, e) : pm_O) = some (b, d, f)) : a = b ∧ c = d ∧ e = f := by
  have h1 := Option.some.inj h
  exact ⟨congrArg (·.1) h1, congrArg (·.2.1) h1, congrArg (·.2.2) h1⟩
theorem pm_ii_s {f : Int32 → Int32 → Int32} (h : pm_ii f L S M = some (L', S', M')) : ∃ u v T, S = .int v :: .int u :: T ∧ L' = L ∧ S' = .int (f u v) :: T ∧ M' = M := by
  unfold pm_ii at h
  split at h
  · obtain ⟨h1, h2, h3⟩ := pm_some3 h
    exact ⟨_, _, _, rfl, h1.symm, h2.symm, h3.symm⟩
  · cases h
theorem pm_jj_s {f : Int64 → Int64 → Int64} (h : pm_jj f L S M = some (L', S', M')) : ∃ u v T, S = .long v :: .long u :: T ∧ L' = L ∧ S' = .long (f u v) :: T ∧ M' = M := by
  unfold pm_jj at h
  split at h
  · obtain ⟨h1, h2, h3⟩ := pm_some3 h
    exact ⟨_, _, _, rfl, h1.symm, h2.symm, h3.symm⟩
  · cases h
theorem pm_ji_s {f : Int64 → Int32 → Int64} (h : pm_ji f L S M = some (L', S', M')) : ∃ u v T, S = .int v :: .long u :: T ∧ L' = L ∧ S' = .long (f u v) :: T ∧ M' = M := by
  unfold pm_ji at h
  split at h
  · obtain ⟨h1, h2, h3⟩ := pm_some3 h
    exact ⟨_, _, _, rfl, h1.symm, h2.symm, h3.symm⟩
  · cases h
theorem pm_ldi_s {i : Nat} (h : pm_ldi i L S M = some (L', S', M')) : ∃ v, pm_lk L i = some (.int v) ∧ L' = L ∧ S' = .int v :: S ∧ M' = M := by
  unfold pm_ldi at h
  split at h
  · obtain ⟨h1, h2, h3⟩ := pm_some3 h
    exact ⟨_, by assumption, h1.symm, h2.symm, h3.symm⟩
  · cases h
theorem pm_ldj_s {i : Nat} (h : pm_ldj i L S M = some (L', S', M')) : ∃ v, pm_lk L i = some (.long v) ∧ L' = L ∧ S' = .long v :: S ∧ M' = M := by
  unfold pm_ldj at h
  split at h
  · obtain ⟨h1, h2, h3⟩ := pm_some3 h
    exact ⟨_, by assumption, h1.symm, h2.symm, h3.symm⟩
  · cases h
theorem pm_lda_s {i : Nat} (h : pm_lda i L S M = some (L', S', M')) : ∃ v, pm_lk L i = some (.ref v) ∧ L' = L ∧ S' = .ref v :: S ∧ M' = M := by
  unfold pm_lda at h
  split at h
  · obtain ⟨h1, h2, h3⟩ := pm_some3 h
    exact ⟨_, by assumption, h1.symm, h2.symm, h3.symm⟩
  · cases h
theorem pm_blt {a b : Nat} {α : Type} {u v : α} (h : cond (Nat.blt a b) (some u) none = some v) : a < b ∧ u = v := by
  cases hb : Nat.blt a b with
  | true => rw [hb] at h; exact ⟨Nat.le_of_ble_eq_true hb, Option.some.inj h⟩
  | false => rw [hb] at h; cases h
theorem pm_sti_s {n i : Nat} (h : pm_sti n i L S M = some (L', S', M')) : ∃ v T, S = .int v :: T ∧ i < n ∧ L' = pm_s1 L i (.int v) ∧ S' = T ∧ M' = M := by
  unfold pm_sti at h
  split at h
  · obtain ⟨h0, h⟩ := pm_blt h
    obtain ⟨h1, h2, h3⟩ := pm_some3 (congrArg some h)
    exact ⟨_, _, rfl, h0, h1.symm, h2.symm, h3.symm⟩
  · cases h
theorem pm_stj_s {n i : Nat} (h : pm_stj n i L S M = some (L', S', M')) : ∃ v T, S = .long v :: T ∧ i + 1 < n ∧ L' = pm_s2 L i (.long v) ∧ S' = T ∧ M' = M := by
  unfold pm_stj at h
  split at h
  · obtain ⟨h0, h⟩ := pm_blt h
    obtain ⟨h1, h2, h3⟩ := pm_some3 (congrArg some h)
    exact ⟨_, _, rfl, h0, h1.symm, h2.symm, h3.symm⟩
  · cases h
theorem pm_sta_s {n i : Nat} (h : pm_sta n i L S M = some (L', S', M')) : ∃ v T, S = .ref v :: T ∧ i < n ∧ L' = pm_s1 L i (.ref v) ∧ S' = T ∧ M' = M := by
  unfold pm_sta at h
  split at h
  · obtain ⟨h0, h⟩ := pm_blt h
    obtain ⟨h1, h2, h3⟩ := pm_some3 (congrArg some h)
    exact ⟨_, _, rfl, h0, h1.symm, h2.symm, h3.symm⟩
  · cases h
theorem pm_beq {a b : Nat} {α : Type} {u : Option α} {v : α} (h : cond (Nat.beq a b) u none = some v) : a = b ∧ u = some v := by
  cases hb : Nat.beq a b with
  | true => rw [hb] at h; exact ⟨Nat.eq_of_beq_eq_true hb, h⟩
  | false => rw [hb] at h; cases h
end PMS
