set_option maxRecDepth 100000
theorem i32_nat (a : Int32) (h : ¬ a < 0) : ∃ k : Nat, a = ie (k : Nat) ∧ k < 2147483648 := by
  have h1 : ¬ (a.toInt < 0) := fun hh => h (Int32.lt_iff_toInt_lt.mpr hh)
  have h2 := Int32.toInt_lt a
  refine ⟨a.toInt.toNat, ?_, by omega⟩
  rw [Int.toNat_of_nonneg (by omega)]
  exact (Int32.ofInt_toInt a).symm
theorem LI_C {g : pm_s} {u : pm_J} {o : Nat → Int} {n : Nat} (h : liC o n g u) : F_BC_place g u = some (u.1 64 5) ∧ F_BC_defs g u = some (u.1 64 44) ∧ ((u.1 64 44 = ie 0 ∧ ∀ q, ¬ (u.1 0 2 = ie 1 ∧ cmpS o n = .inr q)) ∨ (u.1 0 2 = ie 1 ∧ ∃ q, cmpS o n = .inr q ∧ u.1 64 44 = ie (q.2.1.length : Nat))) := by
  rcases h with ⟨⟨h1, h2, h3, _⟩, _⟩ | ⟨h1, h2, h3, h4⟩
  · refine ⟨?_, ?_, Or.inl ⟨h3, fun q hq => ?_⟩⟩
    · unfold F_BC_place; rw [h1, if_pos (by decide), h2]; rfl
    · unfold F_BC_defs; rw [h1, if_pos (by decide), h3]; rfl
    · rw [h1] at hq; exact absurd hq.1 (by decide)
  · cases hc : cmpS o n with
    | inl q =>
      rw [hc] at h2 h4
      obtain ⟨a1, a2, a3, a4, _⟩ := h2
      obtain ⟨b1, b2⟩ := h4
      have n0 : ¬ (ie (q.1 : Nat) = (0 : Int32)) := fun hh => by have := (ineq q.1 0 (by omega) (by omega)).mp hh; omega
      refine ⟨?_, ?_, Or.inl ⟨b1, fun q' hq => by cases hq.2⟩⟩
      · unfold F_BC_place F_Fault_isTold_3 F_Fault_where_3
        rw [h1, if_neg (by decide), a1, if_neg n0, Option.bind_some, if_neg (by decide), a4, b2]; rfl
      · unfold F_BC_defs F_Fault_isTold_3
        rw [h1, if_neg (by decide), a1, if_neg n0, Option.bind_some, if_neg (by decide), b1]; rfl
    | inr q =>
      rw [hc] at h2 h4
      obtain ⟨Y, a1, _⟩ := h2
      obtain ⟨b1, Y', b2⟩ := h4
      refine ⟨?_, ?_, Or.inr ⟨h1, q, rfl, b2.2.2.1.1⟩⟩
      · unfold F_BC_place F_Fault_isTold_3
        rw [h1, if_neg (by decide), a1.1, if_pos (by decide), Option.bind_some, if_pos rfl, b1]; rfl
      · unfold F_BC_defs F_Fault_isTold_3 F_Table_size
        rw [h1, if_neg (by decide), a1.1, if_pos (by decide), Option.bind_some, if_pos rfl, Option.bind_some, a1.2.2.2.1.1, b2.2.2.1.1]
theorem LI_2 {g : pm_s} {u : pm_J} (h : LI g u) (x : Int32) : LI g (wi u 64 2 x) := LI_ag h (ag_wi (ag_r _ u) _ _ _ (by unfold aL; omega))
theorem LI_9 {g : pm_s} {u : pm_J} (h : LI g u) (x : Int64) : LI g (wj u 139 0 x) := LI_ag h (ag_wj (ag_r _ u) _ _ _ (by unfold aL; omega))
theorem o_place {g : pm_s} {u : pm_J} (h : LI g u) : gLB g ((F_BC_place g u).bind fun q22 => (F_Md_place g u).bind fun q23 => if q22 = q23.1 then some ((), g, q23.2) else none) := by
  obtain ⟨o, n, pu_W, h1, h2, h3, h4, h5, h6, h7⟩ := id h
  rw [(LI_C h6).1, Option.bind_some]
  unfold F_Md_place
  rw [Option.bind_some, if_pos rfl]
  exact gLB_0 (LI_2 h 0)
theorem o_defs {g : pm_s} {u : pm_J} (h : LI g u) : gLB g ((F_BC_defs g u).bind fun q26 => (F_Md_defs g u).bind fun q27 => if q26 = q27.1 then some ((), g, q27.2) else none) := by
  obtain ⟨o, n, pu_W, h1, h2, h3, h4, h5, h6, h7⟩ := id h
  rw [(LI_C h6).2.1, Option.bind_some]
  unfold F_Md_defs
  rw [Option.bind_some, if_pos rfl]
  exact gLB_0 (LI_2 h 0)
theorem o_told {N : Nat} {c1 : Int32} {g : pm_s} {u : pm_J} (h : LI g u) : gLB g ((FX_told N c1 g u).bind fun q84 => if sh_Tb q84.2.1 = true then pm_S q84.2.1 ((F_Md_told N c1 q84.2.1 q84.2.2).bind fun q87 => (F_Md_thrown q84.2.1 q87.2).bind fun q88 => if q88 = q84.1 then if q84.1 = 0 then if pm_ok 0 1 = true then if (lg_cmp (q87.2.2 139 0) q87.1.toInt64) = 0 then some ((), q84.2.1, q87.2) else none else none else some ((), q84.2.1, q87.2) else none) else none) := by
  have bad : T_BC_told c1 g u = some 1 → F_Md_told N c1 (sx g) u = some (0, wi u 64 2 1) → gLB g ((FX_told N c1 g u).bind fun q84 => if sh_Tb q84.2.1 = true then pm_S q84.2.1 ((F_Md_told N c1 q84.2.1 q84.2.2).bind fun q87 => (F_Md_thrown q84.2.1 q87.2).bind fun q88 => if q88 = q84.1 then if q84.1 = 0 then if pm_ok 0 1 = true then if (lg_cmp (q87.2.2 139 0) q87.1.toInt64) = 0 then some ((), q84.2.1, q87.2) else none else none else some ((), q84.2.1, q87.2) else none) else none) := fun h1 h2 => by
    refine gLB_x (u := u) (F := F_Md_told N c1) (a := (1, sx g, u)) (m := 0) (q := wi u 64 2 1) ?_ (Or.inr rfl) h2 (LI_2 (LI_sx h) 1) (by rw [wi_at]) (fun hh => by cases hh)
    unfold FX_told
    rw [h1]; rfl
  by_cases e0 : c1 < 0
  · refine bad ?_ ?_
    · unfold T_BC_told; rw [if_pos e0]
    · unfold F_Md_told K_Md_told_16; rw [if_pos e0, if_neg (by decide)]
  · obtain ⟨k, rfl, hk⟩ := i32_nat c1 e0
    by_cases e8 : k < 8
    · obtain ⟨o, n, pu_W, _, _, _, h4, _⟩ := id h
      obtain ⟨t1, t2, t3, t4, t5, t6, t7, t8⟩ := h4
      have hN8 : (ie (k : Nat) < (8 : Int32)) := (inlt k 8 (by omega) (by omega)).mpr e8
      have hN7 : (ie (k : Nat) ≤ (7 : Int32)) := (inle k 7 (by omega) (by omega)).mpr (by omega)
      have key : ∃ x, F_Machine_countOf (ie (k : Nat)) g u = some x ∧ F_Md_told N (ie (k : Nat)) g (wj u 139 0 x.toInt64) = some (x, wi (wj u 139 0 x.toInt64) 64 2 0) := by
        have kk : ∀ x : Int32, F_Md_told N (ie (k : Nat)) g (wj u 139 0 x.toInt64) = K_Md_told_16 N g (ie (k : Nat)) 0 (wj u 139 0 x.toInt64) := fun x => by
          unfold F_Md_told; rw [if_neg e0, if_pos hN7]
        rcases (show k = 0 ∨ k = 1 ∨ k = 2 ∨ k = 3 ∨ k = 4 ∨ k = 5 ∨ k = 6 ∨ k = 7 by omega) with rfl | rfl | rfl | rfl | rfl | rfl | rfl | rfl
        · exact ⟨u.1 44 8, rfl, by rw [kk, t1]; rfl⟩
        · exact ⟨u.1 50 2 + u.1 50 3, rfl, by rw [kk, t2]; rfl⟩
        · exact ⟨u.1 45 6, rfl, by rw [kk, t3]; rfl⟩
        · exact ⟨u.1 50 4 + u.1 50 5, rfl, by rw [kk, t4]; rfl⟩
        · exact ⟨u.1 50 0, rfl, by rw [kk, t5]; rfl⟩
        · exact ⟨u.1 50 1, rfl, by rw [kk, t6]; rfl⟩
        · exact ⟨u.1 57 7, rfl, by rw [kk, t7]; rfl⟩
        · exact ⟨u.1 44 9, rfl, by rw [kk, t8]; rfl⟩
      obtain ⟨x, x1, x2⟩ := key
      refine gLB_x (u := u) (F := F_Md_told N (ie (k : Nat))) (a := (0, g, wj u 139 0 x.toInt64)) (m := x) (q := wi (wj u 139 0 x.toInt64) 64 2 0) ?_ (Or.inl rfl) x2 (LI_2 (LI_9 h _) 0) (by rw [wi_at]) (fun _ => by rw [wi_2, wj_at])
      unfold FX_told T_BC_told F_Law_told_0_139 F_BC_told
      rw [if_neg e0, if_pos hN8]
      show ((if ie (k : Nat) < 0 then none else if ie (k : Nat) < 8 then (F_Machine_countOf (ie (k : Nat)) g u).bind fun q3 => some q3 else none).bind _).bind _ = _
      rw [if_neg e0, if_pos hN8, x1]; rfl
    · have n8 : ¬ (ie (k : Nat) < (8 : Int32)) := fun hh => by have := (inlt k 8 (by omega) (by omega)).mp hh; omega
      have n7 : ¬ (ie (k : Nat) ≤ (7 : Int32)) := fun hh => by have := (inle k 7 (by omega) (by omega)).mp hh; omega
      refine bad ?_ ?_
      · unfold T_BC_told; rw [if_neg e0, if_neg n8]
      · unfold F_Md_told K_Md_told_16; rw [if_neg e0, if_neg n7, if_neg (by decide)]
theorem o_argument {N : Nat} {y : Int64} {g : pm_s} {u : pm_J} (h : LI g u) : gLB g ((FX_argument N y g u).bind fun q40 => if sh_Tb q40.2.1 = true then pm_S q40.2.1 ((F_Md_argument N y q40.2.1 q40.2.2).bind fun q43 => (F_Md_thrown q40.2.1 q43.2).bind fun q44 => if q44 = q40.1 then if q40.1 = 0 then if pm_ok 0 1 = true then if (lg_cmp (q43.2.2 139 0) q43.1.toInt64) = 0 then some ((), q40.2.1, q43.2) else none else none else some ((), q40.2.1, q43.2) else none) else none) := by
  obtain ⟨o, n, pu_W, h1, h2, ⟨a1, a2, a3, a4⟩, h4, h5, h6, h7⟩ := id h
  by_cases e : pu_W.length < 6
  · let m : Int32 := ie ((pu_W.length + 1 : Nat) : Int)
    let u1 : pm_J := wj (wi (wj u 2 pu_W.length y) 0 4 m) 139 0 m.toInt64
    let q : pm_J := wi (wj (wi u1 64 2 0) 131 pu_W.length y) 64 107 m
    have a8 : ag (fun c i => ¬ ((c = 2 ∧ i = pu_W.length) ∨ (c = 0 ∧ i = 4) ∨ c = 139)) u u1 := ag_wj (ag_wi (ag_wj (ag_r _ u) _ _ _ (by omega)) _ _ _ (by omega)) _ _ _ (by omega)
    have a9 : ag (fun c i => ¬ ((c = 2 ∧ i = pu_W.length) ∨ (c = 0 ∧ i = 4) ∨ c = 139 ∨ (c = 64 ∧ (i = 2 ∨ i = 107)) ∨ (c = 131 ∧ i = pu_W.length))) u q := ag_wi (ag_wj (ag_wi (ag_m a8 (fun c i hc => by omega)) _ _ _ (by omega)) _ _ _ (by omega)) _ _ _ (by omega)
    have kK : ag aK u q := ag_m a9 (fun c i hc => by unfold aK at hc; omega)
    have kR : ag aR u q := ag_m a9 (fun c i hc => by unfold aR at hc; omega)
    have hlw : (pu_W ++ [y]).length = pu_W.length + 1 := by rw [List.length_append]; rfl
    have hq : LI g q := by
      refine ⟨o, n, pu_W ++ [y], liT_ag h1 kK, liB_ag h2 kK, ⟨by omega, by rw [hlw]; rfl, by rw [hlw]; rfl, fun i x hi => ?_⟩, tdR_ag h4 kR, liW_ag h5 kR, liC_ag h6 kK (a9 _ _ (by omega)).1 (a9 _ _ (by omega)).1, h7⟩
      by_cases hil : i < pu_W.length
      · rw [List.getElem?_append_left hil] at hi
        exact ⟨(a9 _ _ (by omega)).2.trans (a4 i x hi).1, (a9 _ _ (by omega)).2.trans (a4 i x hi).2⟩
      · have hi' := (List.getElem?_eq_some_iff.mp hi).1
        have : i = pu_W.length := by omega
        subst this
        rw [List.getElem?_append_right (by omega), Nat.sub_self] at hi
        cases hi
        refine ⟨?_, ?_⟩
        · show (wi (wj (wi (wj (wi (wj u 2 pu_W.length y) 0 4 m) 139 0 m.toInt64) 64 2 0) 131 pu_W.length y) 64 107 m).2 2 pu_W.length = y
          rw [wi_2, wj_ne _ _ _ _ _ _ (by omega), wi_2, wj_ne _ _ _ _ _ _ (by omega), wi_2, wj_at]
        · show (wi (wj (wi u1 64 2 0) 131 pu_W.length y) 64 107 m).2 131 pu_W.length = y
          rw [wi_2, wj_at]
    refine gLB_x (u := u) (F := F_Md_argument N y) (a := (0, g, u1)) (m := m) (q := q) ?_ (Or.inl rfl) ?_ hq rfl (fun _ => ?_)
    · unfold FX_argument T_BC_argument F_Law_argument_0_139 F_BC_argument
      have c6 : (ie (pu_W.length : Nat) < (6 : Int32)) := (inlt pu_W.length 6 (by omega) (by omega)).mpr e
      rw [a2, if_pos c6]
      show ((if ie (pu_W.length : Nat) < 6 then if pm_ok (ie (pu_W.length : Nat)) 6 = true then some (ie (pu_W.length : Nat) + 1, wi (wj u 2 (ie (pu_W.length : Nat)).toNatClampNeg y) 0 4 (ie (pu_W.length : Nat) + 1)) else none else none).bind _).bind _ = _
      rw [if_pos c6, if_pos (okn _ 6 e (by omega)), ntn _ (by omega), iadd1]; rfl
    · have e7 : u1.1 64 107 = ie (pu_W.length : Nat) := (a8 _ _ (by omega)).1.trans a3
      show F_Md_argument N y g u1 = some (m, q)
      unfold F_Md_argument K_Md_argument_15
      rw [e7, if_neg (show ¬ (ie (pu_W.length : Nat) = (6 : Int32)) from fun hh => by have := (ineq pu_W.length 6 (by omega) (by omega)).mp hh; omega), if_pos (by decide), if_pos (okn _ 6 e (by omega)), ntn _ (by omega), iadd1]
    · show (wi (wj (wi (wj (wi (wj u 2 pu_W.length y) 0 4 m) 139 0 m.toInt64) 64 2 0) 131 pu_W.length y) 64 107 m).2 139 0 = m.toInt64
      rw [wi_2, wj_ne _ _ _ _ _ _ (by omega), wi_2, wj_at]
  · have e6 : pu_W.length = 6 := by omega
    refine gLB_x (u := u) (F := F_Md_argument N y) (a := (1, sx g, u)) (m := 0) (q := wi u 64 2 1) ?_ (Or.inr rfl) ?_ (LI_2 (LI_sx h) 1) (by rw [wi_at]) (fun hh => by cases hh)
    · unfold FX_argument T_BC_argument
      rw [a2, e6, if_neg (by decide)]; rfl
    · show F_Md_argument N y (sx g) u = some (0, wi u 64 2 1)
      unfold F_Md_argument K_Md_argument_15
      rw [a3, e6, if_pos (by decide), if_neg (by decide)]
