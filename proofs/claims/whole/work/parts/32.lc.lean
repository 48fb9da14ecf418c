/-- one call of the script keeps both alike -/
theorem st_LC {N : Nat} (hN : 10000000 ≤ N) (c0 c1 c2 c3 : Int32) {g : pm_s} {u : pm_J} (h : LI g u) : ∃ M, gLB g (LC N M c0 c1 c2 c3 g u) := by
  by_cases e2 : (c0 &&& 15) = 2
  · obtain ⟨M, hM⟩ := o_compile (N := N) (by omega) h
    refine ⟨M, ?_⟩
    unfold LC
    refine gLB_S ?_
    rw [if_neg (by rw [e2]; decide), if_neg (by rw [e2]; decide), if_pos e2]
    exact hM
  · refine ⟨0, ?_⟩
    unfold LC
    refine gLB_S ?_
    by_cases e0 : (c0 &&& 15) = 0
    · rw [if_pos e0]; exact o_feed (by omega) h
    rw [if_neg e0]
    by_cases e1 : (c0 &&& 15) = 1
    · rw [if_pos e1]; exact o_wipe (by omega) h
    rw [if_neg e1, if_neg e2]
    by_cases e3 : (c0 &&& 15) = 3
    · rw [if_pos e3]; exact o_place h
    rw [if_neg e3]
    by_cases e4 : (c0 &&& 15) = 4
    · rw [if_pos e4]; exact o_defs h
    rw [if_neg e4]
    by_cases e5 : (c0 &&& 15) = 5
    · rw [if_pos e5]; exact o_def (by omega) h
    rw [if_neg e5]
    by_cases e6 : (c0 &&& 15) = 6
    · rw [if_pos e6]; exact o_argument h
    rw [if_neg e6]
    by_cases e7 : (c0 &&& 15) = 7
    · rw [if_pos e7]
      by_cases ec : c2 = 0
      · simp only [if_pos ec]
        exact o_run hN false rfl h
      · simp only [if_neg ec]
        exact o_run hN true rfl h
    rw [if_neg e7]
    by_cases e8 : (c0 &&& 15) = 8
    · rw [if_pos e8]; exact o_told h
    rw [if_neg e8]
    by_cases e9 : (c0 &&& 15) = 9
    · rw [if_pos e9]; exact o_sort (by omega) h
    rw [if_neg e9]
    by_cases e10 : (c0 &&& 15) = 10
    · rw [if_pos e10]; exact o_result (by omega) h
    rw [if_neg e10]
    exact gLB_0 h
theorem st_run {N : Nat} (hN : 10000000 ≤ N) (xs : Nat → Int32) (k : Nat) : ∀ (j a s : Nat) (g : pm_s) (u : pm_J), LI g u → gA a s g → ∃ (Ms : List Nat) (out : pm_s × pm_J), Ms.length = k ∧ lrunC N xs Ms j g u = some out ∧ gI out.1 ∧ gA (a + k) (s + 6 * k) out.1 := by
  induction k with
  | zero => intro j a s g u h hg; exact ⟨[], (g, u), rfl, rfl, LI_g h, hg⟩
  | succ k ih =>
    intro j a s g u h hg
    obtain ⟨M, g', v, h1, h2, h3, h4, h5⟩ := st_LC hN (xs (4 * j)) (xs (4 * j + 1)) (xs (4 * j + 2)) (xs (4 * j + 3)) h
    obtain ⟨Ms, out, o1, o2, o3, o4⟩ := ih (j + 1) (a + 1) (s + 6) g' v h2 (h5 a s hg)
    refine ⟨M :: Ms, out, by rw [List.length_cons, o1], ?_, o3, ?_⟩
    · show (LC N M (xs (4 * j)) (xs (4 * j + 1)) (xs (4 * j + 2)) (xs (4 * j + 3)) g u).bind _ = _
      rw [h1, Option.bind_some, if_pos (gI_Tb (LI_g h2))]
      exact o2
    · rw [show a + (k + 1) = a + 1 + k by omega, show s + 6 * (k + 1) = s + 6 + 6 * k by omega]; exact o4
/-- the reference's buckets are emptied -/
theorem nt_loop (N : Nat) (g : pm_s) (m : Nat) : ∀ (i f : Nat) (u : pm_J), i + m = 8192 → m < f → ∃ v, K_Md_noTypes_8 N g f (ie (i : Nat)) u = some v ∧ ag (fun c _ => c ≠ 76) u v := by
  induction m with
  | zero =>
    intro i f u hi hf
    obtain ⟨f, rfl⟩ : ∃ f', f = f' + 1 := ⟨f - 1, by omega⟩
    exact ⟨u, by rw [K_Md_noTypes_8, if_pos (show (8192 : Int32) ≤ ie (i : Nat) from (inle 8192 i (by omega) (by omega)).mpr (by omega))], ag_r _ u⟩
  | succ m ih =>
    intro i f u hi hf
    obtain ⟨f, rfl⟩ : ∃ f', f = f' + 1 := ⟨f - 1, by omega⟩
    obtain ⟨v, v1, v2⟩ := ih (i + 1) f (wi u 76 i (-1)) (by omega) (by omega)
    refine ⟨v, ?_, ag_t (ag_wi (ag_r _ u) _ _ _ (by omega)) v2⟩
    rw [K_Md_noTypes_8, if_neg (show ¬ ((8192 : Int32) ≤ ie (i : Nat)) from fun hh => by have := (inle 8192 i (by omega) (by omega)).mp hh; omega), if_pos (okn i 8192 (by omega) (by omega)), ntn i (by omega), iadd1]; exact v1
theorem ua_z1 : ∀ (c i : Nat), c = 139 ∨ c = 0 ∨ c = 39 ∨ c = 18 ∨ c = 29 ∨ c = 35 ∨ c = 44 ∨ c = 45 ∨ c = 50 ∨ c = 57 ∨ (c = 64 ∧ i ≠ 5 ∧ i ≠ 18) → ua_54.1 c i = 0 := by
  intro c i hc
  unfold ua_54 ua_53 ua_52 ua_51 ua_50 ua_49 ua_48 ua_47 ua_46 ua_45 ua_44 ua_43 ua_42 ua_41 ua_40 ua_39 ua_38 ua_37 ua_36 ua_35 ua_34 ua_33 ua_32 ua_31 ua_30 ua_29 ua_28 ua_27 ua_26 ua_25 ua_24 ua_23 ua_22 ua_21 ua_20 ua_19 ua_18 ua_17 ua_16 ua_15 ua_14 ua_13 ua_12 ua_11 ua_10 ua_9 ua_8 ua_7 ua_6 ua_5 ua_4 ua_3 ua_2 ua_1
  repeat (first | rw [wi_ne _ _ _ _ _ _ (by omega)] | rw [wj_1])
  rfl
theorem ua_z2 : ∀ (c i : Nat), c ≠ 9 → ua_54.2 c i = 0 := by
  intro c i hc
  unfold ua_54 ua_53 ua_52 ua_51 ua_50 ua_49 ua_48 ua_47 ua_46 ua_45 ua_44 ua_43 ua_42 ua_41 ua_40 ua_39 ua_38 ua_37 ua_36 ua_35 ua_34 ua_33 ua_32 ua_31 ua_30 ua_29 ua_28 ua_27 ua_26 ua_25 ua_24 ua_23 ua_22 ua_21 ua_20 ua_19 ua_18 ua_17 ua_16 ua_15 ua_14 ua_13 ua_12 ua_11 ua_10 ua_9 ua_8 ua_7 ua_6 ua_5 ua_4 ua_3 ua_2 ua_1
  repeat (first | rw [wi_2] | rw [wj_ne _ _ _ _ _ _ (by omega)])
  rfl
/-- both objects are new -/
theorem LI_0 {v : pm_J} (a : ag (fun c i => c ≠ 76 ∧ ¬ (c = 64 ∧ i = 18)) ua_54 v) : LI (140, 1225794, 11, 2048) v := by
  have z : ∀ c i, c = 139 ∨ c = 0 ∨ c = 39 ∨ c = 18 ∨ c = 29 ∨ c = 35 ∨ c = 44 ∨ c = 45 ∨ c = 50 ∨ c = 57 ∨ (c = 64 ∧ i ≠ 5 ∧ i ≠ 18) → v.1 c i = ie 0 := fun c i hc => (a c i (by omega)).1.trans (ua_z1 c i hc)
  have hg : gI (140, 1225794, 11, 2048) := ⟨Or.inl ⟨rfl, rfl⟩, by show 140 ≤ 140; omega, by show 11 + 6 ≤ 140; omega, Or.inl rfl⟩
  refine LI_new (o := fun _ => -1) (n := 0) ⟨⟨by omega, fun _ _ => rfl, fun i hi => by omega⟩, z 0 1 (by omega), (fun i hi => by omega), z 64 1 (by omega), (fun i hi => by omega)⟩ ⟨?_, ⟨⟨0, by omega, z 39 10 (by omega)⟩, ⟨0, by omega, z 39 8 (by omega)⟩, ⟨0, by omega, z 18 10 (by omega)⟩, ⟨0, by omega, z 29 9 (by omega)⟩, fun d _ => ⟨0, by omega, z 35 d (by omega)⟩⟩, ?_⟩ ⟨hg, ?_⟩ hg ⟨z _ _ (by omega), z _ _ (by omega), z _ _ (by omega), z _ _ (by omega), fun j _ => z _ _ (by omega), z _ _ (by omega), z _ _ (by omega), z _ _ (by omega), z _ _ (by omega), z _ _ (by omega), ?_⟩ (z _ _ (by omega)) (z _ _ (by omega)) ⟨?_, z _ _ (by omega), z _ _ (by omega), z _ _ (by omega), z _ _ (by omega), z _ _ (by omega), z _ _ (by omega), z _ _ (by omega), z _ _ (by omega), z _ _ (by omega), z _ _ (by omega), z _ _ (by omega)⟩
  · have e : ∀ i, v.2 9 i = ua_54.2 9 i := fun i => (a 9 i (by omega)).2
    exact ⟨(e _).trans rfl, (e _).trans rfl, (e _).trans rfl, (e _).trans rfl, (e _).trans rfl, (e _).trans rfl, (e _).trans rfl, (e _).trans rfl, (e _).trans rfl, (e _).trans rfl⟩
  · intro k hk
    rw [(a 74 k (by omega)).1, (a 73 k (by omega)).1]
    rcases (show k = 0 ∨ k = 1 ∨ k = 2 ∨ k = 3 ∨ k = 4 ∨ k = 5 by omega) with rfl | rfl | rfl | rfl | rfl | rfl <;> exact ⟨rfl, rfl⟩
  · intro k hk
    show v.1 11 k = _ ∧ v.1 14 k = _ ∧ v.1 15 k = _
    rw [(a 11 k (by omega)).1, (a 14 k (by omega)).1, (a 15 k (by omega)).1]
    rcases (show k = 0 ∨ k = 1 ∨ k = 2 ∨ k = 3 ∨ k = 4 ∨ k = 5 by omega) with rfl | rfl | rfl | rfl | rfl | rfl <;> exact ⟨rfl, rfl, rfl⟩
  · exact (a 44 15 (by omega)).2.trans (ua_z2 44 15 (by omega))
  · exact (a 64 5 (by omega)).1.trans rfl
theorem lw_isPure : lw_pureC := by
  intro xs k hk
  obtain ⟨uN, n1, n2⟩ := nt_loop 10000000 (0, 0, 0, 0) 8192 0 10000000 (wi ua_54 64 18 6) (by omega) (by omega)
  have a : ag (fun c i => c ≠ 76 ∧ ¬ (c = 64 ∧ i = 18)) ua_54 uN := ag_t (ag_wi (ag_r _ _) _ _ _ (by omega)) (ag_m n2 (fun c i hc => by omega))
  obtain ⟨Ms, out, o1, o2, o3, o4⟩ := st_run (N := 10000000) (Nat.le_refl _) xs k 0 134 1201218 (140, 1225794, 11, 2048) uN (LI_0 a) ⟨by show 140 ≤ 134 + 6 * (2048 / 2048); omega, by show 1225794 ≤ 1201218 + 12 * 2048; omega⟩
  obtain ⟨p1, p2⟩ := o4
  have hl := o3.2.2.2
  refine ⟨10000000, Ms, uN, out, o1, n1, fun i => ⟨(a 139 i (by omega)).1.trans (ua_z1 139 i (by omega)), (a 139 i (by omega)).2.trans (ua_z2 139 i (by omega))⟩, o2, ?_, ?_⟩
  · rcases hl with h | h | h | h | h | h <;> rw [h] at p1 <;> omega
  · rcases hl with h | h | h | h | h | h <;> rw [h] at p2 <;> omega
