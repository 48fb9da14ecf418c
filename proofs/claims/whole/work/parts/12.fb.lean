def F_Machine_resume (N : Nat) (g : pm_s) (u : pm_J) : Option (pm_J) := (F_Frames_node g u).bind fun q1 => (F_Tree_kind q1 g u).bind fun q2 => if q2 = (-1) then (F_Machine_leaveCover N g u).bind fun q4 => some q4 else if q2 = 0 then (F_Tree_value q1 g u).bind fun q6 => (F_Machine_finish q6 g u).bind fun q7 => some q7 else if q2 = 1 then (F_Tree_value q1 g u).bind fun q9 => (F_Machine_finish q9 g u).bind fun q10 => some q10 else if q2 = 2 then (F_Frames_base g u).bind fun q12 => (F_Tree_first q1 g u).bind fun q13 => (F_Heap_local q12 q13 g u).bind fun q14 => (F_Machine_finish q14 g u).bind fun q15 => some q15 else if q2 = 6 then (F_Machine_workCall N q1 g u).bind fun q17 => some q17 else if q2 = 7 then (F_Machine_workLet q1 g u).bind fun q19 => some q19 else if q2 = 8 then (F_Machine_workIf q1 g u).bind fun q21 => some q21 else if q2 = 9 then (F_Frames_base g u).bind fun q23 => (F_Heap_make 1 q1.toInt64 q23.toInt64 (-1) g u).bind fun q24 => (F_Machine_finish q24.1 g q24.2).bind fun q25 => some q25 else if q2 = 14 then (F_Machine_workHalf q1 g u).bind fun q27 => some q27 else if q2 = 15 then (F_Machine_workHalf q1 g u).bind fun q29 => some q29 else if q2 = 16 then (F_Machine_workCall N q1 g u).bind fun q31 => some q31 else if q2 = 17 then (F_Machine_workCall N q1 g u).bind fun q33 => some q33 else (F_Machine_workBoth q1 g u).bind fun q34 => some q34
set_option maxHeartbeats 4000000 in
set_option maxRecDepth 100000 in
theorem c_Machine_resume (l : Launch) (h0 : Nat) (D : pm_D) {g : pm_s} {u : pm_J} (hT : sh_T g) {N : Nat} {out : pm_J} (h : F_Machine_resume N g u = some out) : pm_C l h0 D m_Machine_resume (7) [.ref 44] (sm g u) none (sm g out) := by
  unfold F_Machine_resume at h
  refine pm_met (by decide +kernel) (Nat.le_of_ble_eq_true rfl) (Nat.le_refl _) (Nat.le_refl _) ?_
  intro p e R s m args below meth c
  refine pm_blk (pc' := 4) (L' := [(0, .ref 44)]) (S' := [.ref 57]) (M' := sm g u) [pm_o (.aload_n 0), pm_of (.getfield 42) 6 5 2] (by decide +kernel) rfl ?_
  obtain ⟨q1, hq1, h⟩ := pm_bd h
  refine pm_cV (idx := 196) m_Frames_node (c_Frames_node l h0 D hT hq1) (As := []) (S0 := []) rfl (by decide +kernel) k_Frames_node l_Machine_196 (Nat.le_of_ble_eq_true rfl) (Nat.le_of_ble_eq_true rfl) (Nat.le_refl _) (Nat.le_refl _) ?_
  refine pm_blk (pc' := 13) (L' := [(1, .int q1), (0, .ref 44)]) (S' := [.int q1, .ref 18]) (M' := sm g u) [pm_o (.istore_n 1), pm_o (.aload_n 0), pm_of (.getfield 15) 6 1 2, pm_o (.iload_n 1)] (by decide +kernel) rfl ?_
  obtain ⟨q2, hq2, h⟩ := pm_bd h
  refine pm_cV (idx := 199) m_Tree_kind (c_Tree_kind l h0 D hT hq2) (As := [.int q1]) (S0 := []) rfl (by decide +kernel) k_Tree_kind l_Machine_199 (Nat.le_of_ble_eq_true rfl) (Nat.le_of_ble_eq_true rfl) (Nat.le_refl _) (Nat.le_refl _) ?_
  refine pm_blk (pc' := 16) (L' := [(1, .int q1), (0, .ref 44)]) (S' := [.int q2]) (M' := sm g u) [] (by decide +kernel) rfl ?_
  refine pm_tsw (dflt := 185) (lo := (-1)) (hi := 17) (offs := #[180, 92, 92, 105, 185, 185, 185, 174, 156, 162, 132, 185, 185, 185, 185, 168, 168, 174, 174]) (len := 92) [((-1), 196), (0, 108), (1, 108), (2, 121), (6, 190), (7, 172), (8, 178), (9, 148), (14, 184), (15, 184), (16, 190), (17, 190)] 201 (by decide +kernel) (by decide +kernel) ?_
  by_cases hs3 : q2 = (-1)
  · rw [if_pos hs3] at h
    rw [pm_sw_pos hs3]
    refine pm_blk (pc' := 197) (L' := [(1, .int q1), (0, .ref 44)]) (S' := [.ref 44]) (M' := sm g u) [pm_o (.aload_n 0)] (by decide +kernel) rfl ?_
    obtain ⟨q4, hq4, h⟩ := pm_bd h
    refine pm_cV (idx := 230) m_Machine_leaveCover (c_Machine_leaveCover l h0 D hT hq4) (As := []) (S0 := []) rfl (by decide +kernel) k_Machine_leaveCover l_Machine_230 (Nat.le_of_ble_eq_true rfl) (Nat.le_of_ble_eq_true rfl) (Nat.le_refl _) (Nat.le_refl _) ?_
    refine pm_blk (pc' := 200) (L' := [(1, .int q1), (0, .ref 44)]) (S' := []) (M' := sm g q4) [] (by decide +kernel) rfl ?_
    have h9 := Option.some.inj h
    subst h9
    exact pm_retv rfl (by decide +kernel) rfl rfl
  rw [if_neg hs3] at h
  rw [pm_sw_neg hs3]
  by_cases hs5 : q2 = 0
  · rw [if_pos hs5] at h
    rw [pm_sw_pos hs5]
    refine pm_blk (pc' := 114) (L' := [(1, .int q1), (0, .ref 44)]) (S' := [.int q1, .ref 18, .ref 44]) (M' := sm g u) [pm_o (.aload_n 0), pm_o (.aload_n 0), pm_of (.getfield 15) 6 1 2, pm_o (.iload_n 1)] (by decide +kernel) rfl ?_
    obtain ⟨q6, hq6, h⟩ := pm_bd h
    refine pm_cV (idx := 202) m_Tree_value (c_Tree_value l h0 D hT hq6) (As := [.int q1]) (S0 := [.ref 44]) rfl (by decide +kernel) k_Tree_value l_Machine_202 (Nat.le_of_ble_eq_true rfl) (Nat.le_of_ble_eq_true rfl) (Nat.le_refl _) (Nat.le_refl _) ?_
    refine pm_blk (pc' := 117) (L' := [(1, .int q1), (0, .ref 44)]) (S' := [.long q6, .ref 44]) (M' := sm g u) [] (by decide +kernel) rfl ?_
    obtain ⟨q7, hq7, h⟩ := pm_bd h
    refine pm_cV (idx := 204) m_Machine_finish (c_Machine_finish l h0 D hT hq7) (As := [.long q6]) (S0 := []) rfl (by decide +kernel) k_Machine_finish l_Machine_204 (Nat.le_of_ble_eq_true rfl) (Nat.le_of_ble_eq_true rfl) (Nat.le_refl _) (Nat.le_refl _) ?_
    refine pm_blk (pc' := 120) (L' := [(1, .int q1), (0, .ref 44)]) (S' := []) (M' := sm g q7) [] (by decide +kernel) rfl ?_
    have h9 := Option.some.inj h
    subst h9
    exact pm_retv rfl (by decide +kernel) rfl rfl
  rw [if_neg hs5] at h
  rw [pm_sw_neg hs5]
  by_cases hs8 : q2 = 1
  · rw [if_pos hs8] at h
    rw [pm_sw_pos hs8]
    refine pm_blk (pc' := 114) (L' := [(1, .int q1), (0, .ref 44)]) (S' := [.int q1, .ref 18, .ref 44]) (M' := sm g u) [pm_o (.aload_n 0), pm_o (.aload_n 0), pm_of (.getfield 15) 6 1 2, pm_o (.iload_n 1)] (by decide +kernel) rfl ?_
    obtain ⟨q9, hq9, h⟩ := pm_bd h
    refine pm_cV (idx := 202) m_Tree_value (c_Tree_value l h0 D hT hq9) (As := [.int q1]) (S0 := [.ref 44]) rfl (by decide +kernel) k_Tree_value l_Machine_202 (Nat.le_of_ble_eq_true rfl) (Nat.le_of_ble_eq_true rfl) (Nat.le_refl _) (Nat.le_refl _) ?_
    refine pm_blk (pc' := 117) (L' := [(1, .int q1), (0, .ref 44)]) (S' := [.long q9, .ref 44]) (M' := sm g u) [] (by decide +kernel) rfl ?_
    obtain ⟨q10, hq10, h⟩ := pm_bd h
    refine pm_cV (idx := 204) m_Machine_finish (c_Machine_finish l h0 D hT hq10) (As := [.long q9]) (S0 := []) rfl (by decide +kernel) k_Machine_finish l_Machine_204 (Nat.le_of_ble_eq_true rfl) (Nat.le_of_ble_eq_true rfl) (Nat.le_refl _) (Nat.le_refl _) ?_
    refine pm_blk (pc' := 120) (L' := [(1, .int q1), (0, .ref 44)]) (S' := []) (M' := sm g q10) [] (by decide +kernel) rfl ?_
    have h9 := Option.some.inj h
    subst h9
    exact pm_retv rfl (by decide +kernel) rfl rfl
  rw [if_neg hs8] at h
  rw [pm_sw_neg hs8]
  by_cases hs11 : q2 = 2
  · rw [if_pos hs11] at h
    rw [pm_sw_pos hs11]
    refine pm_blk (pc' := 130) (L' := [(1, .int q1), (0, .ref 44)]) (S' := [.ref 57, .ref 45, .ref 44]) (M' := sm g u) [pm_o (.aload_n 0), pm_o (.aload_n 0), pm_of (.getfield 26) 6 3 2, pm_o (.aload_n 0), pm_of (.getfield 42) 6 5 2] (by decide +kernel) rfl ?_
    obtain ⟨q12, hq12, h⟩ := pm_bd h
    refine pm_cV (idx := 194) m_Frames_base (c_Frames_base l h0 D hT hq12) (As := []) (S0 := [.ref 45, .ref 44]) rfl (by decide +kernel) k_Frames_base l_Machine_194 (Nat.le_of_ble_eq_true rfl) (Nat.le_of_ble_eq_true rfl) (Nat.le_refl _) (Nat.le_refl _) ?_
    refine pm_blk (pc' := 138) (L' := [(1, .int q1), (0, .ref 44)]) (S' := [.int q1, .ref 18, .int q12, .ref 45, .ref 44]) (M' := sm g u) [pm_o (.aload_n 0), pm_of (.getfield 15) 6 1 2, pm_o (.iload_n 1)] (by decide +kernel) rfl ?_
    obtain ⟨q13, hq13, h⟩ := pm_bd h
    refine pm_cV (idx := 208) m_Tree_first (c_Tree_first l h0 D hT hq13) (As := [.int q1]) (S0 := [.int q12, .ref 45, .ref 44]) rfl (by decide +kernel) k_Tree_first l_Machine_208 (Nat.le_of_ble_eq_true rfl) (Nat.le_of_ble_eq_true rfl) (Nat.le_refl _) (Nat.le_refl _) ?_
    refine pm_blk (pc' := 141) (L' := [(1, .int q1), (0, .ref 44)]) (S' := [.int q13, .int q12, .ref 45, .ref 44]) (M' := sm g u) [] (by decide +kernel) rfl ?_
    obtain ⟨q14, hq14, h⟩ := pm_bd h
    refine pm_cV (idx := 210) m_Heap_local (c_Heap_local l h0 D hT hq14) (As := [.int q12, .int q13]) (S0 := [.ref 44]) rfl (by decide +kernel) k_Heap_local l_Machine_210 (Nat.le_of_ble_eq_true rfl) (Nat.le_of_ble_eq_true rfl) (Nat.le_refl _) (Nat.le_refl _) ?_
    refine pm_blk (pc' := 144) (L' := [(1, .int q1), (0, .ref 44)]) (S' := [.long q14, .ref 44]) (M' := sm g u) [] (by decide +kernel) rfl ?_
    obtain ⟨q15, hq15, h⟩ := pm_bd h
    refine pm_cV (idx := 204) m_Machine_finish (c_Machine_finish l h0 D hT hq15) (As := [.long q14]) (S0 := []) rfl (by decide +kernel) k_Machine_finish l_Machine_204 (Nat.le_of_ble_eq_true rfl) (Nat.le_of_ble_eq_true rfl) (Nat.le_refl _) (Nat.le_refl _) ?_
    refine pm_blk (pc' := 147) (L' := [(1, .int q1), (0, .ref 44)]) (S' := []) (M' := sm g q15) [] (by decide +kernel) rfl ?_
    have h9 := Option.some.inj h
    subst h9
    exact pm_retv rfl (by decide +kernel) rfl rfl
  rw [if_neg hs11] at h
  rw [pm_sw_neg hs11]
  by_cases hs16 : q2 = 6
  · rw [if_pos hs16] at h
    rw [pm_sw_pos hs16]
    refine pm_blk (pc' := 192) (L' := [(1, .int q1), (0, .ref 44)]) (S' := [.int q1, .ref 44]) (M' := sm g u) [pm_o (.aload_n 0), pm_o (.iload_n 1)] (by decide +kernel) rfl ?_
    obtain ⟨q17, hq17, h⟩ := pm_bd h
    refine pm_cV (idx := 227) m_Machine_workCall (c_Machine_workCall l h0 D hT hq17) (As := [.int q1]) (S0 := []) rfl (by decide +kernel) k_Machine_workCall l_Machine_227 (Nat.le_of_ble_eq_true rfl) (Nat.le_of_ble_eq_true rfl) (Nat.le_refl _) (Nat.le_refl _) ?_
    refine pm_blk (pc' := 195) (L' := [(1, .int q1), (0, .ref 44)]) (S' := []) (M' := sm g q17) [] (by decide +kernel) rfl ?_
    have h9 := Option.some.inj h
    subst h9
    exact pm_retv rfl (by decide +kernel) rfl rfl
  rw [if_neg hs16] at h
  rw [pm_sw_neg hs16]
  by_cases hs18 : q2 = 7
  · rw [if_pos hs18] at h
    rw [pm_sw_pos hs18]
    refine pm_blk (pc' := 174) (L' := [(1, .int q1), (0, .ref 44)]) (S' := [.int q1, .ref 44]) (M' := sm g u) [pm_o (.aload_n 0), pm_o (.iload_n 1)] (by decide +kernel) rfl ?_
    obtain ⟨q19, hq19, h⟩ := pm_bd h
    refine pm_cV (idx := 218) m_Machine_workLet (c_Machine_workLet l h0 D hT hq19) (As := [.int q1]) (S0 := []) rfl (by decide +kernel) k_Machine_workLet l_Machine_218 (Nat.le_of_ble_eq_true rfl) (Nat.le_of_ble_eq_true rfl) (Nat.le_refl _) (Nat.le_refl _) ?_
    refine pm_blk (pc' := 177) (L' := [(1, .int q1), (0, .ref 44)]) (S' := []) (M' := sm g q19) [] (by decide +kernel) rfl ?_
    have h9 := Option.some.inj h
    subst h9
    exact pm_retv rfl (by decide +kernel) rfl rfl
  rw [if_neg hs18] at h
  rw [pm_sw_neg hs18]
  by_cases hs20 : q2 = 8
  · rw [if_pos hs20] at h
    rw [pm_sw_pos hs20]
    refine pm_blk (pc' := 180) (L' := [(1, .int q1), (0, .ref 44)]) (S' := [.int q1, .ref 44]) (M' := sm g u) [pm_o (.aload_n 0), pm_o (.iload_n 1)] (by decide +kernel) rfl ?_
    obtain ⟨q21, hq21, h⟩ := pm_bd h
    refine pm_cV (idx := 221) m_Machine_workIf (c_Machine_workIf l h0 D hT hq21) (As := [.int q1]) (S0 := []) rfl (by decide +kernel) k_Machine_workIf l_Machine_221 (Nat.le_of_ble_eq_true rfl) (Nat.le_of_ble_eq_true rfl) (Nat.le_refl _) (Nat.le_refl _) ?_
    refine pm_blk (pc' := 183) (L' := [(1, .int q1), (0, .ref 44)]) (S' := []) (M' := sm g q21) [] (by decide +kernel) rfl ?_
    have h9 := Option.some.inj h
    subst h9
    exact pm_retv rfl (by decide +kernel) rfl rfl
  rw [if_neg hs20] at h
  rw [pm_sw_neg hs20]
  by_cases hs22 : q2 = 9
  · rw [if_pos hs22] at h
    rw [pm_sw_pos hs22]
    refine pm_blk (pc' := 160) (L' := [(1, .int q1), (0, .ref 44)]) (S' := [.ref 57, .long q1.toInt64, .int 1, .ref 45, .ref 44]) (M' := sm g u) [pm_o (.aload_n 0), pm_o (.aload_n 0), pm_of (.getfield 26) 6 3 2, pm_oi (.iconst 1) 1, pm_o (.iload_n 1), pm_o .i2l, pm_o (.aload_n 0), pm_of (.getfield 42) 6 5 2] (by decide +kernel) rfl ?_
    obtain ⟨q23, hq23, h⟩ := pm_bd h
    refine pm_cV (idx := 194) m_Frames_base (c_Frames_base l h0 D hT hq23) (As := []) (S0 := [.long q1.toInt64, .int 1, .ref 45, .ref 44]) rfl (by decide +kernel) k_Frames_base l_Machine_194 (Nat.le_of_ble_eq_true rfl) (Nat.le_of_ble_eq_true rfl) (Nat.le_refl _) (Nat.le_refl _) ?_
    refine pm_blk (pc' := 165) (L' := [(1, .int q1), (0, .ref 44)]) (S' := [.int (-1), .long q23.toInt64, .long q1.toInt64, .int 1, .ref 45, .ref 44]) (M' := sm g u) [pm_o .i2l, pm_oi (.iconst (-1)) (-1)] (by decide +kernel) rfl ?_
    obtain ⟨q24, hq24, h⟩ := pm_bd h
    refine pm_cV (idx := 214) m_Heap_make (c_Heap_make l h0 D hT hq24) (As := [.int 1, .long q1.toInt64, .long q23.toInt64, .int (-1)]) (S0 := [.ref 44]) rfl (by decide +kernel) k_Heap_make l_Machine_214 (Nat.le_of_ble_eq_true rfl) (Nat.le_of_ble_eq_true rfl) (Nat.le_refl _) (Nat.le_refl _) ?_
    refine pm_blk (pc' := 168) (L' := [(1, .int q1), (0, .ref 44)]) (S' := [.long q24.1, .ref 44]) (M' := sm g q24.2) [] (by decide +kernel) rfl ?_
    obtain ⟨q25, hq25, h⟩ := pm_bd h
    refine pm_cV (idx := 204) m_Machine_finish (c_Machine_finish l h0 D hT hq25) (As := [.long q24.1]) (S0 := []) rfl (by decide +kernel) k_Machine_finish l_Machine_204 (Nat.le_of_ble_eq_true rfl) (Nat.le_of_ble_eq_true rfl) (Nat.le_refl _) (Nat.le_refl _) ?_
    refine pm_blk (pc' := 171) (L' := [(1, .int q1), (0, .ref 44)]) (S' := []) (M' := sm g q25) [] (by decide +kernel) rfl ?_
    have h9 := Option.some.inj h
    subst h9
    exact pm_retv rfl (by decide +kernel) rfl rfl
  rw [if_neg hs22] at h
  rw [pm_sw_neg hs22]
  by_cases hs26 : q2 = 14
  · rw [if_pos hs26] at h
    rw [pm_sw_pos hs26]
    refine pm_blk (pc' := 186) (L' := [(1, .int q1), (0, .ref 44)]) (S' := [.int q1, .ref 44]) (M' := sm g u) [pm_o (.aload_n 0), pm_o (.iload_n 1)] (by decide +kernel) rfl ?_
    obtain ⟨q27, hq27, h⟩ := pm_bd h
    refine pm_cV (idx := 224) m_Machine_workHalf (c_Machine_workHalf l h0 D hT hq27) (As := [.int q1]) (S0 := []) rfl (by decide +kernel) k_Machine_workHalf l_Machine_224 (Nat.le_of_ble_eq_true rfl) (Nat.le_of_ble_eq_true rfl) (Nat.le_refl _) (Nat.le_refl _) ?_
    refine pm_blk (pc' := 189) (L' := [(1, .int q1), (0, .ref 44)]) (S' := []) (M' := sm g q27) [] (by decide +kernel) rfl ?_
    have h9 := Option.some.inj h
    subst h9
    exact pm_retv rfl (by decide +kernel) rfl rfl
  rw [if_neg hs26] at h
  rw [pm_sw_neg hs26]
  by_cases hs28 : q2 = 15
  · rw [if_pos hs28] at h
    rw [pm_sw_pos hs28]
    refine pm_blk (pc' := 186) (L' := [(1, .int q1), (0, .ref 44)]) (S' := [.int q1, .ref 44]) (M' := sm g u) [pm_o (.aload_n 0), pm_o (.iload_n 1)] (by decide +kernel) rfl ?_
    obtain ⟨q29, hq29, h⟩ := pm_bd h
    refine pm_cV (idx := 224) m_Machine_workHalf (c_Machine_workHalf l h0 D hT hq29) (As := [.int q1]) (S0 := []) rfl (by decide +kernel) k_Machine_workHalf l_Machine_224 (Nat.le_of_ble_eq_true rfl) (Nat.le_of_ble_eq_true rfl) (Nat.le_refl _) (Nat.le_refl _) ?_
    refine pm_blk (pc' := 189) (L' := [(1, .int q1), (0, .ref 44)]) (S' := []) (M' := sm g q29) [] (by decide +kernel) rfl ?_
    have h9 := Option.some.inj h
    subst h9
    exact pm_retv rfl (by decide +kernel) rfl rfl
  rw [if_neg hs28] at h
  rw [pm_sw_neg hs28]
  by_cases hs30 : q2 = 16
  · rw [if_pos hs30] at h
    rw [pm_sw_pos hs30]
    refine pm_blk (pc' := 192) (L' := [(1, .int q1), (0, .ref 44)]) (S' := [.int q1, .ref 44]) (M' := sm g u) [pm_o (.aload_n 0), pm_o (.iload_n 1)] (by decide +kernel) rfl ?_
    obtain ⟨q31, hq31, h⟩ := pm_bd h
    refine pm_cV (idx := 227) m_Machine_workCall (c_Machine_workCall l h0 D hT hq31) (As := [.int q1]) (S0 := []) rfl (by decide +kernel) k_Machine_workCall l_Machine_227 (Nat.le_of_ble_eq_true rfl) (Nat.le_of_ble_eq_true rfl) (Nat.le_refl _) (Nat.le_refl _) ?_
    refine pm_blk (pc' := 195) (L' := [(1, .int q1), (0, .ref 44)]) (S' := []) (M' := sm g q31) [] (by decide +kernel) rfl ?_
    have h9 := Option.some.inj h
    subst h9
    exact pm_retv rfl (by decide +kernel) rfl rfl
  rw [if_neg hs30] at h
  rw [pm_sw_neg hs30]
  by_cases hs32 : q2 = 17
  · rw [if_pos hs32] at h
    rw [pm_sw_pos hs32]
    refine pm_blk (pc' := 192) (L' := [(1, .int q1), (0, .ref 44)]) (S' := [.int q1, .ref 44]) (M' := sm g u) [pm_o (.aload_n 0), pm_o (.iload_n 1)] (by decide +kernel) rfl ?_
    obtain ⟨q33, hq33, h⟩ := pm_bd h
    refine pm_cV (idx := 227) m_Machine_workCall (c_Machine_workCall l h0 D hT hq33) (As := [.int q1]) (S0 := []) rfl (by decide +kernel) k_Machine_workCall l_Machine_227 (Nat.le_of_ble_eq_true rfl) (Nat.le_of_ble_eq_true rfl) (Nat.le_refl _) (Nat.le_refl _) ?_
    refine pm_blk (pc' := 195) (L' := [(1, .int q1), (0, .ref 44)]) (S' := []) (M' := sm g q33) [] (by decide +kernel) rfl ?_
    have h9 := Option.some.inj h
    subst h9
    exact pm_retv rfl (by decide +kernel) rfl rfl
  rw [if_neg hs32] at h
  rw [pm_sw_neg hs32]
  refine pm_pc (pc' := 201) rfl ?_
  refine pm_blk (pc' := 203) (L' := [(1, .int q1), (0, .ref 44)]) (S' := [.int q1, .ref 44]) (M' := sm g u) [pm_o (.aload_n 0), pm_o (.iload_n 1)] (by decide +kernel) rfl ?_
  obtain ⟨q34, hq34, h⟩ := pm_bd h
  refine pm_cV (idx := 233) m_Machine_workBoth (c_Machine_workBoth l h0 D hT hq34) (As := [.int q1]) (S0 := []) rfl (by decide +kernel) k_Machine_workBoth l_Machine_233 (Nat.le_of_ble_eq_true rfl) (Nat.le_of_ble_eq_true rfl) (Nat.le_refl _) (Nat.le_refl _) ?_
  refine pm_blk (pc' := 206) (L' := [(1, .int q1), (0, .ref 44)]) (S' := []) (M' := sm g q34) [] (by decide +kernel) rfl ?_
  have h9 := Option.some.inj h
  subst h9
  exact pm_retv rfl (by decide +kernel) rfl rfl
def K_Machine_enterCover_96 (N : Nat) (g : pm_s) (t0 : Int32) (t1 : Int32) (t2 : Int32) (t3 : Int64) (u : pm_J) : Option (pm_J) := (F_Adapter_adapt N t3 t2 t1 t0 g u).bind fun q9 => (F_Heap_first (q9.2.2 44 14) g (wj q9.2 44 15 q9.1)).bind fun q10 => some (wj (wj q9.2 44 15 q9.1) 44 14 q10)
set_option maxHeartbeats 4000000 in
set_option maxRecDepth 100000 in
theorem w_Machine_enterCover_96 (l : Launch) (h0 : Nat) (D : pm_D) {g : pm_s} (hT : sh_T g) {N : Nat} {u0 : pm_J} {out : pm_J} {p : Program} {e : Env} {R : Room} {s : State} {m : MethodId} {args : Array Value} {below : List Frame} {meth : Method} {c : Code} : ∀ (t0 : Int32) (t1 : Int32) (t2 : Int32) (t3 : Int64) (u : pm_J), K_Machine_enterCover_96 N g t0 t1 t2 t3 u = some out → pm_V (p, l, e, R, s, m, args, below, meth, c) m_Machine_enterCover h0 D (g.1, g.2.1, g.1, g.2.1, 5) (pm_E (p, l, e, R, s, m, args, below, meth, c) h0 D (sm g u0) none (sm g out)) 96 [(0, .ref 44)] [.int t0, .int t1, .int t2, .long t3, .ref 52, .ref 44] (sm g u) := by
    intro t0 t1 t2 t3 u h
    unfold K_Machine_enterCover_96 at h
    obtain ⟨q9, hq9, h⟩ := pm_bd h
    refine pm_cV (idx := 298) m_Adapter_adapt (c_Adapter_adapt l h0 D hT hq9) (As := [.long t3, .int t2, .int t1, .int t0]) (S0 := [.ref 44]) rfl (by decide +kernel) k_Adapter_adapt l_Machine_298 (Nat.le_of_ble_eq_true rfl) (Nat.le_of_ble_eq_true rfl) (Nat.le_refl _) (Nat.le_refl _) ?_
    refine pm_blk (pc' := 111) (L' := [(0, .ref 44)]) (S' := [.long (q9.2.2 44 14), .ref 45, .ref 44]) (M' := sm g (wj q9.2 44 15 q9.1)) [pm_of (.putfield 57) 6 15 1, pm_o (.aload_n 0), pm_o (.aload_n 0), pm_of (.getfield 26) 6 3 2, pm_o (.aload_n 0), pm_of (.getfield 266) 6 14 1] (by decide +kernel) rfl ?_
    obtain ⟨q10, hq10, h⟩ := pm_bd h
    refine pm_cV (idx := 157) m_Heap_first (c_Heap_first l h0 D hT hq10) (As := [.long (q9.2.2 44 14)]) (S0 := [.ref 44]) rfl (by decide +kernel) k_Heap_first l_Machine_157 (Nat.le_of_ble_eq_true rfl) (Nat.le_of_ble_eq_true rfl) (Nat.le_refl _) (Nat.le_refl _) ?_
    refine pm_blk (pc' := 117) (L' := [(0, .ref 44)]) (S' := []) (M' := sm g (wj (wj q9.2 44 15 q9.1) 44 14 q10)) [pm_of (.putfield 266) 6 14 1] (by decide +kernel) rfl ?_
    have h9 := Option.some.inj h
    subst h9
    exact pm_retv rfl (by decide +kernel) rfl rfl
def F_Machine_enterCover (N : Nat) (a1 : Int32) (g : pm_s) (u : pm_J) : Option (pm_J) := (F_Frames_isFull g u).bind fun q1 => if q1 = 0 then (F_Frames_push (-1) 0 g (wi u 44 9 ((u.1 44 9) + 1))).bind fun q3 => (F_Frames_hold (q3.2 44 14) g q3).bind fun q4 => (F_Heap_second (q4.2 44 14) g q4).bind fun q5 => (F_Types_left q5.toInt32 g q4).bind fun q6 => (F_Heap_site (q4.2 44 14) g q4).bind fun q7 => if a1 = 0 then K_Machine_enterCover_96 N g 1 q7 q6 (q4.2 44 15) q4 else K_Machine_enterCover_96 N g 0 q7 q6 (q4.2 44 15) q4 else some (wi u 44 10 3)
set_option maxHeartbeats 4000000 in
set_option maxRecDepth 100000 in
theorem c_Machine_enterCover (l : Launch) (h0 : Nat) (D : pm_D) {g : pm_s} {u : pm_J} (hT : sh_T g) {N : Nat} {a1 : Int32} {out : pm_J} (h : F_Machine_enterCover N a1 g u = some out) : pm_C l h0 D m_Machine_enterCover (5) [.ref 44, .int a1] (sm g u) none (sm g out) := by
  unfold F_Machine_enterCover at h
  refine pm_met (by decide +kernel) (Nat.le_of_ble_eq_true rfl) (Nat.le_refl _) (Nat.le_refl _) ?_
  intro p e R s m args below meth c
  refine pm_blk (pc' := 4) (L' := [(0, .ref 44), (1, .int a1)]) (S' := [.ref 57]) (M' := sm g u) [pm_o (.aload_n 0), pm_of (.getfield 42) 6 5 2] (by decide +kernel) rfl ?_
  obtain ⟨q1, hq1, h⟩ := pm_bd h
  refine pm_cV (idx := 181) m_Frames_isFull (c_Frames_isFull l h0 D hT hq1) (As := []) (S0 := []) rfl (by decide +kernel) k_Frames_isFull l_Machine_181 (Nat.le_of_ble_eq_true rfl) (Nat.le_of_ble_eq_true rfl) (Nat.le_refl _) (Nat.le_refl _) ?_
  refine pm_blk (pc' := 7) (L' := [(0, .ref 44), (1, .int a1)]) (S' := [.int q1]) (M' := sm g u) [] (by decide +kernel) rfl ?_
  refine pm_if_eq (off := 9) 16 (by decide +kernel) (by decide) (fun hc2 => ?_) (fun hc2 => ?_)
  · rw [if_pos hc2] at h
    refine pm_blk (pc' := 32) (L' := [(0, .ref 44), (1, .int a1)]) (S' := [.int 0, .int (-1), .ref 57]) (M' := sm g (wi u 44 9 ((u.1 44 9) + 1))) [pm_o (.aload_n 0), pm_o .dup, pm_of (.getfield 54) 6 9 0, pm_oi (.iconst 1) 1, pm_o .iadd, pm_of (.putfield 54) 6 9 0, pm_o (.aload_n 0), pm_of (.getfield 42) 6 5 2, pm_oi (.iconst (-1)) (-1), pm_oi (.iconst 0) 0] (by decide +kernel) rfl ?_
    obtain ⟨q3, hq3, h⟩ := pm_bd h
    refine pm_cV (idx := 184) m_Frames_push (c_Frames_push l h0 D hT hq3) (As := [.int (-1), .int 0]) (S0 := []) rfl (by decide +kernel) k_Frames_push l_Machine_184 (Nat.le_of_ble_eq_true rfl) (Nat.le_of_ble_eq_true rfl) (Nat.le_refl _) (Nat.le_refl _) ?_
    refine pm_blk (pc' := 43) (L' := [(0, .ref 44), (1, .int a1)]) (S' := [.long (q3.2 44 14), .ref 57]) (M' := sm g q3) [pm_o (.aload_n 0), pm_of (.getfield 42) 6 5 2, pm_o (.aload_n 0), pm_of (.getfield 266) 6 14 1] (by decide +kernel) rfl ?_
    obtain ⟨q4, hq4, h⟩ := pm_bd h
    refine pm_cV (idx := 247) m_Frames_hold (c_Frames_hold l h0 D hT hq4) (As := [.long (q3.2 44 14)]) (S0 := []) rfl (by decide +kernel) k_Frames_hold l_Machine_247 (Nat.le_of_ble_eq_true rfl) (Nat.le_of_ble_eq_true rfl) (Nat.le_refl _) (Nat.le_refl _) ?_
    refine pm_blk (pc' := 58) (L' := [(0, .ref 44), (1, .int a1)]) (S' := [.long (q4.2 44 14), .ref 45, .ref 10]) (M' := sm g q4) [pm_o (.aload_n 0), pm_of (.getfield 9) 6 0 2, pm_o (.aload_n 0), pm_of (.getfield 26) 6 3 2, pm_o (.aload_n 0), pm_of (.getfield 266) 6 14 1] (by decide +kernel) rfl ?_
    obtain ⟨q5, hq5, h⟩ := pm_bd h
    refine pm_cV (idx := 170) m_Heap_second (c_Heap_second l h0 D hT hq5) (As := [.long (q4.2 44 14)]) (S0 := [.ref 10]) rfl (by decide +kernel) k_Heap_second l_Machine_170 (Nat.le_of_ble_eq_true rfl) (Nat.le_of_ble_eq_true rfl) (Nat.le_refl _) (Nat.le_refl _) ?_
    refine pm_blk (pc' := 62) (L' := [(0, .ref 44), (1, .int a1)]) (S' := [.int q5.toInt32, .ref 10]) (M' := sm g q4) [pm_o .l2i] (by decide +kernel) rfl ?_
    obtain ⟨q6, hq6, h⟩ := pm_bd h
    refine pm_cV (idx := 164) m_Types_left (c_Types_left l h0 D hT hq6) (As := [.int q5.toInt32]) (S0 := []) rfl (by decide +kernel) k_Types_left l_Machine_164 (Nat.le_of_ble_eq_true rfl) (Nat.le_of_ble_eq_true rfl) (Nat.le_refl _) (Nat.le_refl _) ?_
    refine pm_blk (pc' := 84) (L' := [(2, .int q6), (0, .ref 44), (1, .int a1)]) (S' := [.long (q4.2 44 14), .ref 45, .int q6, .long (q4.2 44 15), .ref 52, .ref 44]) (M' := sm g q4) [pm_o (.istore_n 2), pm_o (.aload_n 0), pm_o (.aload_n 0), pm_of (.getfield 35) 6 4 2, pm_o (.aload_n 0), pm_of (.getfield 57) 6 15 1, pm_o (.iload_n 2), pm_o (.aload_n 0), pm_of (.getfield 26) 6 3 2, pm_o (.aload_n 0), pm_of (.getfield 266) 6 14 1] (by decide +kernel) rfl ?_
    obtain ⟨q7, hq7, h⟩ := pm_bd h
    refine pm_cV (idx := 312) m_Heap_site (c_Heap_site l h0 D hT hq7) (As := [.long (q4.2 44 14)]) (S0 := [.int q6, .long (q4.2 44 15), .ref 52, .ref 44]) rfl (by decide +kernel) k_Heap_site l_Machine_312 (Nat.le_of_ble_eq_true rfl) (Nat.le_of_ble_eq_true rfl) (Nat.le_refl _) (Nat.le_refl _) ?_
    refine pm_blk (pc' := 88) (L' := [(2, .int q6), (0, .ref 44), (1, .int a1)]) (S' := [.int a1, .int q7, .int q6, .long (q4.2 44 15), .ref 52, .ref 44]) (M' := sm g q4) [pm_o (.iload_n 1)] (by decide +kernel) rfl ?_
    refine pm_if_ne (off := 7) 95 (by decide +kernel) (by decide) (fun hc8 => ?_) (fun hc8 => ?_)
    · rw [if_neg hc8] at h
      refine pm_blk (pc' := 96) (L' := [(2, .int q6), (0, .ref 44), (1, .int a1)]) (S' := [.int 0, .int q7, .int q6, .long (q4.2 44 15), .ref 52, .ref 44]) (M' := sm g q4) [pm_oi (.iconst 0) 0] (by decide +kernel) rfl ?_
      refine pm_loc [1] rfl ?_
      exact w_Machine_enterCover_96 l h0 D hT 0 q7 q6 (q4.2 44 15) q4 h
    · rw [if_pos hc8] at h
      refine pm_blk (pc' := 92) (L' := [(2, .int q6), (0, .ref 44), (1, .int a1)]) (S' := [.int 1, .int q7, .int q6, .long (q4.2 44 15), .ref 52, .ref 44]) (M' := sm g q4) [pm_oi (.iconst 1) 1] (by decide +kernel) rfl ?_
      refine pm_goto (off := 4) 96 (by decide +kernel) (by decide) ?_
      refine pm_loc [1] rfl ?_
      exact w_Machine_enterCover_96 l h0 D hT 1 q7 q6 (q4.2 44 15) q4 h
  · rw [if_neg hc2] at h
    refine pm_blk (pc' := 15) (L' := [(0, .ref 44), (1, .int a1)]) (S' := []) (M' := sm g (wi u 44 10 3)) [pm_o (.aload_n 0), pm_oi (.iconst 3) 3, pm_of (.putfield 61) 6 10 0] (by decide +kernel) rfl ?_
    have h9 := Option.some.inj h
    subst h9
    exact pm_retv rfl (by decide +kernel) rfl rfl
def K_Machine_enterFunction_56 (N : Nat) (g : pm_s) : Nat → Int32 → Int32 → Int32 → Int32 → Int32 → pm_J → Option (pm_J)
  | 0, _, _, _, _, _, _ => none
  | n + 1, x1, x2, x3, x4, x5, u => if x3 ≤ x5 then (F_Tree_third x1 g u).bind fun q7 => (F_Heap_setLocal x4 q7 (u.2 44 15) g u).bind fun q8 => (F_Tree_first x1 g q8).bind fun q9 => (F_Machine_goInto q9 x4 g q8).bind fun q10 => some q10 else (F_Heap_local x2 x5 g u).bind fun q11 => (F_Heap_setLocal x4 x5 q11 g u).bind fun q12 => K_Machine_enterFunction_56 N g  n x1 x2 x3 x4 (x5 + 1) q12
set_option maxHeartbeats 4000000 in
set_option maxRecDepth 100000 in
theorem w_Machine_enterFunction_56 (l : Launch) (h0 : Nat) (D : pm_D) {g : pm_s} (hT : sh_T g) {N : Nat} {u0 : pm_J} {out : pm_J} {p : Program} {e : Env} {R : Room} {s : State} {m : MethodId} {args : Array Value} {below : List Frame} {meth : Method} {c : Code} : ∀ (n : Nat) (x1 : Int32) (x2 : Int32) (x3 : Int32) (x4 : Int32) (x5 : Int32) (u : pm_J), K_Machine_enterFunction_56 N g n x1 x2 x3 x4 x5 u = some out → pm_V (p, l, e, R, s, m, args, below, meth, c) m_Machine_enterFunction h0 D (g.1, g.2.1, g.1, g.2.1, 2) (pm_E (p, l, e, R, s, m, args, below, meth, c) h0 D (sm g u0) none (sm g out)) 56 [(0, .ref 44), (1, .int x1), (2, .int x2), (3, .int x3), (4, .int x4), (5, .int x5)] [] (sm g u) := by
  intro n
  induction n with
  | zero => intro x1 x2 x3 x4 x5 u h; cases h
  | succ n ih =>
    intro x1 x2 x3 x4 x5 u h
    rw [K_Machine_enterFunction_56] at h
    refine pm_blk (pc' := 59) (L' := [(0, .ref 44), (1, .int x1), (2, .int x2), (3, .int x3), (4, .int x4), (5, .int x5)]) (S' := [.int x3, .int x5]) (M' := sm g u) [pm_o (.iload 5), pm_o (.iload_n 3)] (by decide +kernel) rfl ?_
    refine pm_ic_ge (off := 30) 89 (by decide +kernel) (by decide) (fun hc6 => ?_) (fun hc6 => ?_)
    · rw [if_pos hc6] at h
      refine pm_blk (pc' := 100) (L' := [(0, .ref 44), (1, .int x1), (2, .int x2), (3, .int x3), (4, .int x4), (5, .int x5)]) (S' := [.int x1, .ref 18, .int x4, .ref 45]) (M' := sm g u) [pm_o (.aload_n 0), pm_of (.getfield 26) 6 3 2, pm_o (.iload 4), pm_o (.aload_n 0), pm_of (.getfield 15) 6 1 2, pm_o (.iload_n 1)] (by decide +kernel) rfl ?_
      obtain ⟨q7, hq7, h⟩ := pm_bd h
      refine pm_cV (idx := 242) m_Tree_third (c_Tree_third l h0 D hT hq7) (As := [.int x1]) (S0 := [.int x4, .ref 45]) rfl (by decide +kernel) k_Tree_third l_Machine_242 (Nat.le_of_ble_eq_true rfl) (Nat.le_of_ble_eq_true rfl) (Nat.le_refl _) (Nat.le_refl _) ?_
      refine pm_blk (pc' := 107) (L' := [(0, .ref 44), (1, .int x1), (2, .int x2), (3, .int x3), (4, .int x4), (5, .int x5)]) (S' := [.long (u.2 44 15), .int q7, .int x4, .ref 45]) (M' := sm g u) [pm_o (.aload_n 0), pm_of (.getfield 57) 6 15 1] (by decide +kernel) rfl ?_
      obtain ⟨q8, hq8, h⟩ := pm_bd h
      refine pm_cV (idx := 95) m_Heap_setLocal (c_Heap_setLocal l h0 D hT hq8) (As := [.int x4, .int q7, .long (u.2 44 15)]) (S0 := []) rfl (by decide +kernel) k_Heap_setLocal l_Machine_95 (Nat.le_of_ble_eq_true rfl) (Nat.le_of_ble_eq_true rfl) (Nat.le_refl _) (Nat.le_refl _) ?_
      refine pm_blk (pc' := 116) (L' := [(0, .ref 44), (1, .int x1), (2, .int x2), (3, .int x3), (4, .int x4), (5, .int x5)]) (S' := [.int x1, .ref 18, .ref 44]) (M' := sm g q8) [pm_o (.aload_n 0), pm_o (.aload_n 0), pm_of (.getfield 15) 6 1 2, pm_o (.iload_n 1)] (by decide +kernel) rfl ?_
      obtain ⟨q9, hq9, h⟩ := pm_bd h
      refine pm_cV (idx := 208) m_Tree_first (c_Tree_first l h0 D hT hq9) (As := [.int x1]) (S0 := [.ref 44]) rfl (by decide +kernel) k_Tree_first l_Machine_208 (Nat.le_of_ble_eq_true rfl) (Nat.le_of_ble_eq_true rfl) (Nat.le_refl _) (Nat.le_refl _) ?_
      refine pm_blk (pc' := 121) (L' := [(0, .ref 44), (1, .int x1), (2, .int x2), (3, .int x3), (4, .int x4), (5, .int x5)]) (S' := [.int x4, .int q9, .ref 44]) (M' := sm g q8) [pm_o (.iload 4)] (by decide +kernel) rfl ?_
      obtain ⟨q10, hq10, h⟩ := pm_bd h
      refine pm_cV (idx := 102) m_Machine_goInto (c_Machine_goInto l h0 D hT hq10) (As := [.int q9, .int x4]) (S0 := []) rfl (by decide +kernel) k_Machine_goInto l_Machine_102 (Nat.le_of_ble_eq_true rfl) (Nat.le_of_ble_eq_true rfl) (Nat.le_refl _) (Nat.le_refl _) ?_
      refine pm_blk (pc' := 124) (L' := [(0, .ref 44), (1, .int x1), (2, .int x2), (3, .int x3), (4, .int x4), (5, .int x5)]) (S' := []) (M' := sm g q10) [] (by decide +kernel) rfl ?_
      have h9 := Option.some.inj h
      subst h9
      exact pm_retv rfl (by decide +kernel) rfl rfl
    · rw [if_neg hc6] at h
      refine pm_blk (pc' := 77) (L' := [(0, .ref 44), (1, .int x1), (2, .int x2), (3, .int x3), (4, .int x4), (5, .int x5)]) (S' := [.int x5, .int x2, .ref 45, .int x5, .int x4, .ref 45]) (M' := sm g u) [pm_o (.aload_n 0), pm_of (.getfield 26) 6 3 2, pm_o (.iload 4), pm_o (.iload 5), pm_o (.aload_n 0), pm_of (.getfield 26) 6 3 2, pm_o (.iload_n 2), pm_o (.iload 5)] (by decide +kernel) rfl ?_
      obtain ⟨q11, hq11, h⟩ := pm_bd h
      refine pm_cV (idx := 210) m_Heap_local (c_Heap_local l h0 D hT hq11) (As := [.int x2, .int x5]) (S0 := [.int x5, .int x4, .ref 45]) rfl (by decide +kernel) k_Heap_local l_Machine_210 (Nat.le_of_ble_eq_true rfl) (Nat.le_of_ble_eq_true rfl) (Nat.le_refl _) (Nat.le_refl _) ?_
      refine pm_blk (pc' := 80) (L' := [(0, .ref 44), (1, .int x1), (2, .int x2), (3, .int x3), (4, .int x4), (5, .int x5)]) (S' := [.long q11, .int x5, .int x4, .ref 45]) (M' := sm g u) [] (by decide +kernel) rfl ?_
      obtain ⟨q12, hq12, h⟩ := pm_bd h
      refine pm_cV (idx := 95) m_Heap_setLocal (c_Heap_setLocal l h0 D hT hq12) (As := [.int x4, .int x5, .long q11]) (S0 := []) rfl (by decide +kernel) k_Heap_setLocal l_Machine_95 (Nat.le_of_ble_eq_true rfl) (Nat.le_of_ble_eq_true rfl) (Nat.le_refl _) (Nat.le_refl _) ?_
      refine pm_blk (pc' := 86) (L' := [(5, .int (x5 + 1)), (0, .ref 44), (1, .int x1), (2, .int x2), (3, .int x3), (4, .int x4)]) (S' := []) (M' := sm g q12) [pm_oi (.iinc 5 1) 1] (by decide +kernel) rfl ?_
      refine pm_goto (off := -30) 56 (by decide +kernel) (by decide) ?_
      refine pm_loc [1, 2, 3, 4, 5, 0] rfl ?_
      exact ih x1 x2 x3 x4 (x5 + 1) q12 h
def F_Machine_enterFunction (N : Nat) (g : pm_s) (u : pm_J) : Option (pm_J) := (F_Heap_first (u.2 44 14) g u).bind fun q1 => (F_Heap_second (u.2 44 14) g u).bind fun q2 => (F_Tree_value q1.toInt32 g u).bind fun q3 => (F_Table_locals q3.toInt32 g u).bind fun q4 => (F_Heap_claim q4 g u).bind fun q5 => K_Machine_enterFunction_56 N g N q1.toInt32 q2.toInt32 q4 q5.1 0 q5.2
set_option maxHeartbeats 4000000 in
set_option maxRecDepth 100000 in
theorem c_Machine_enterFunction (l : Launch) (h0 : Nat) (D : pm_D) {g : pm_s} {u : pm_J} (hT : sh_T g) {N : Nat} {out : pm_J} (h : F_Machine_enterFunction N g u = some out) : pm_C l h0 D m_Machine_enterFunction (2) [.ref 44] (sm g u) none (sm g out) := by
  unfold F_Machine_enterFunction at h
  refine pm_met (by decide +kernel) (Nat.le_of_ble_eq_true rfl) (Nat.le_refl _) (Nat.le_refl _) ?_
  intro p e R s m args below meth c
  refine pm_blk (pc' := 8) (L' := [(0, .ref 44)]) (S' := [.long (u.2 44 14), .ref 45]) (M' := sm g u) [pm_o (.aload_n 0), pm_of (.getfield 26) 6 3 2, pm_o (.aload_n 0), pm_of (.getfield 266) 6 14 1] (by decide +kernel) rfl ?_
  obtain ⟨q1, hq1, h⟩ := pm_bd h
  refine pm_cV (idx := 157) m_Heap_first (c_Heap_first l h0 D hT hq1) (As := [.long (u.2 44 14)]) (S0 := []) rfl (by decide +kernel) k_Heap_first l_Machine_157 (Nat.le_of_ble_eq_true rfl) (Nat.le_of_ble_eq_true rfl) (Nat.le_refl _) (Nat.le_refl _) ?_
  refine pm_blk (pc' := 21) (L' := [(1, .int q1.toInt32), (0, .ref 44)]) (S' := [.long (u.2 44 14), .ref 45]) (M' := sm g u) [pm_o .l2i, pm_o (.istore_n 1), pm_o (.aload_n 0), pm_of (.getfield 26) 6 3 2, pm_o (.aload_n 0), pm_of (.getfield 266) 6 14 1] (by decide +kernel) rfl ?_
  obtain ⟨q2, hq2, h⟩ := pm_bd h
  refine pm_cV (idx := 170) m_Heap_second (c_Heap_second l h0 D hT hq2) (As := [.long (u.2 44 14)]) (S0 := []) rfl (by decide +kernel) k_Heap_second l_Machine_170 (Nat.le_of_ble_eq_true rfl) (Nat.le_of_ble_eq_true rfl) (Nat.le_refl _) (Nat.le_refl _) ?_
  refine pm_blk (pc' := 35) (L' := [(2, .int q2.toInt32), (1, .int q1.toInt32), (0, .ref 44)]) (S' := [.int q1.toInt32, .ref 18, .ref 29]) (M' := sm g u) [pm_o .l2i, pm_o (.istore_n 2), pm_o (.aload_n 0), pm_of (.getfield 19) 6 2 2, pm_o (.aload_n 0), pm_of (.getfield 15) 6 1 2, pm_o (.iload_n 1)] (by decide +kernel) rfl ?_
  obtain ⟨q3, hq3, h⟩ := pm_bd h
  refine pm_cV (idx := 202) m_Tree_value (c_Tree_value l h0 D hT hq3) (As := [.int q1.toInt32]) (S0 := [.ref 29]) rfl (by decide +kernel) k_Tree_value l_Machine_202 (Nat.le_of_ble_eq_true rfl) (Nat.le_of_ble_eq_true rfl) (Nat.le_refl _) (Nat.le_refl _) ?_
  refine pm_blk (pc' := 39) (L' := [(2, .int q2.toInt32), (1, .int q1.toInt32), (0, .ref 44)]) (S' := [.int q3.toInt32, .ref 29]) (M' := sm g u) [pm_o .l2i] (by decide +kernel) rfl ?_
  obtain ⟨q4, hq4, h⟩ := pm_bd h
  refine pm_cV (idx := 83) m_Table_locals (c_Table_locals l h0 D hT hq4) (As := [.int q3.toInt32]) (S0 := []) rfl (by decide +kernel) k_Table_locals l_Machine_83 (Nat.le_of_ble_eq_true rfl) (Nat.le_of_ble_eq_true rfl) (Nat.le_refl _) (Nat.le_refl _) ?_
  refine pm_blk (pc' := 48) (L' := [(3, .int q4), (2, .int q2.toInt32), (1, .int q1.toInt32), (0, .ref 44)]) (S' := [.int q4, .ref 45]) (M' := sm g u) [pm_o (.istore_n 3), pm_o (.aload_n 0), pm_of (.getfield 26) 6 3 2, pm_o (.iload_n 3)] (by decide +kernel) rfl ?_
  obtain ⟨q5, hq5, h⟩ := pm_bd h
  refine pm_cV (idx := 86) m_Heap_claim (c_Heap_claim l h0 D hT hq5) (As := [.int q4]) (S0 := []) rfl (by decide +kernel) k_Heap_claim l_Machine_86 (Nat.le_of_ble_eq_true rfl) (Nat.le_of_ble_eq_true rfl) (Nat.le_refl _) (Nat.le_refl _) ?_
  refine pm_blk (pc' := 56) (L' := [(5, .int 0), (4, .int q5.1), (3, .int q4), (2, .int q2.toInt32), (1, .int q1.toInt32), (0, .ref 44)]) (S' := []) (M' := sm g q5.2) [pm_o (.istore 4), pm_oi (.iconst 0) 0, pm_o (.istore 5)] (by decide +kernel) rfl ?_
  refine pm_loc [5, 4, 3, 2, 1, 0] rfl ?_
  exact w_Machine_enterFunction_56 l h0 D hT N q1.toInt32 q2.toInt32 q4 q5.1 0 q5.2 h
def K_Machine_applyCallee_22 (N : Nat) (g : pm_s) (x1 : Int32) (u : pm_J) : Option (pm_J) := if x1 = 4 then (F_Machine_enterCover N 1 g u).bind fun q5 => some q5 else (F_Machine_enterCover N 0 g u).bind fun q4 => some q4
set_option maxHeartbeats 4000000 in
set_option maxRecDepth 100000 in
theorem w_Machine_applyCallee_22 (l : Launch) (h0 : Nat) (D : pm_D) {g : pm_s} (hT : sh_T g) {N : Nat} {u0 : pm_J} {out : pm_J} {p : Program} {e : Env} {R : Room} {s : State} {m : MethodId} {args : Array Value} {below : List Frame} {meth : Method} {c : Code} : ∀ (x1 : Int32) (u : pm_J), K_Machine_applyCallee_22 N g x1 u = some out → pm_V (p, l, e, R, s, m, args, below, meth, c) m_Machine_applyCallee h0 D (g.1, g.2.1, g.1, g.2.1, 6) (pm_E (p, l, e, R, s, m, args, below, meth, c) h0 D (sm g u0) none (sm g out)) 22 [(0, .ref 44), (1, .int x1)] [] (sm g u) := by
    intro x1 u h
    unfold K_Machine_applyCallee_22 at h
    refine pm_blk (pc' := 25) (L' := [(0, .ref 44), (1, .int x1)]) (S' := [.int 4, .int x1, .ref 44]) (M' := sm g u) [pm_o (.aload_n 0), pm_o (.iload_n 1), pm_oi (.iconst 4) 4] (by decide +kernel) rfl ?_
    refine pm_ic_ne (off := 7) 32 (by decide +kernel) (by decide) (fun hc3 => ?_) (fun hc3 => ?_)
    · rw [if_neg hc3] at h
      refine pm_blk (pc' := 33) (L' := [(0, .ref 44), (1, .int x1)]) (S' := [.int 0, .ref 44]) (M' := sm g u) [pm_oi (.iconst 0) 0] (by decide +kernel) rfl ?_
      obtain ⟨q4, hq4, h⟩ := pm_bd h
      refine pm_cV (idx := 305) m_Machine_enterCover (c_Machine_enterCover l h0 D hT hq4) (As := [.int 0]) (S0 := []) rfl (by decide +kernel) k_Machine_enterCover l_Machine_305 (Nat.le_of_ble_eq_true rfl) (Nat.le_of_ble_eq_true rfl) (Nat.le_refl _) (Nat.le_refl _) ?_
      refine pm_blk (pc' := 36) (L' := [(0, .ref 44), (1, .int x1)]) (S' := []) (M' := sm g q4) [] (by decide +kernel) rfl ?_
      refine pm_goto (off := 7) 43 (by decide +kernel) (by decide) ?_
      have h9 := Option.some.inj h
      subst h9
      exact pm_retv rfl (by decide +kernel) rfl rfl
    · rw [if_pos hc3] at h
      refine pm_blk (pc' := 29) (L' := [(0, .ref 44), (1, .int x1)]) (S' := [.int 1, .ref 44]) (M' := sm g u) [pm_oi (.iconst 1) 1] (by decide +kernel) rfl ?_
      refine pm_goto (off := 4) 33 (by decide +kernel) (by decide) ?_
      obtain ⟨q5, hq5, h⟩ := pm_bd h
      refine pm_cV (idx := 305) m_Machine_enterCover (c_Machine_enterCover l h0 D hT hq5) (As := [.int 1]) (S0 := []) rfl (by decide +kernel) k_Machine_enterCover l_Machine_305 (Nat.le_of_ble_eq_true rfl) (Nat.le_of_ble_eq_true rfl) (Nat.le_refl _) (Nat.le_refl _) ?_
      refine pm_blk (pc' := 36) (L' := [(0, .ref 44), (1, .int x1)]) (S' := []) (M' := sm g q5) [] (by decide +kernel) rfl ?_
      refine pm_goto (off := 7) 43 (by decide +kernel) (by decide) ?_
      have h9 := Option.some.inj h
      subst h9
      exact pm_retv rfl (by decide +kernel) rfl rfl
def F_Machine_applyCallee (N : Nat) (g : pm_s) (u : pm_J) : Option (pm_J) := (F_Heap_kind (u.2 44 14) g u).bind fun q1 => if q1 = 4 then K_Machine_applyCallee_22 N g q1 u else if q1 = 5 then K_Machine_applyCallee_22 N g q1 u else (F_Machine_enterFunction N g u).bind fun q7 => some q7
set_option maxHeartbeats 4000000 in
set_option maxRecDepth 100000 in
theorem c_Machine_applyCallee (l : Launch) (h0 : Nat) (D : pm_D) {g : pm_s} {u : pm_J} (hT : sh_T g) {N : Nat} {out : pm_J} (h : F_Machine_applyCallee N g u = some out) : pm_C l h0 D m_Machine_applyCallee (6) [.ref 44] (sm g u) none (sm g out) := by
  unfold F_Machine_applyCallee at h
  refine pm_met (by decide +kernel) (Nat.le_of_ble_eq_true rfl) (Nat.le_refl _) (Nat.le_refl _) ?_
  intro p e R s m args below meth c
  refine pm_blk (pc' := 8) (L' := [(0, .ref 44)]) (S' := [.long (u.2 44 14), .ref 45]) (M' := sm g u) [pm_o (.aload_n 0), pm_of (.getfield 26) 6 3 2, pm_o (.aload_n 0), pm_of (.getfield 266) 6 14 1] (by decide +kernel) rfl ?_
  obtain ⟨q1, hq1, h⟩ := pm_bd h
  refine pm_cV (idx := 148) m_Heap_kind (c_Heap_kind l h0 D hT hq1) (As := [.long (u.2 44 14)]) (S0 := []) rfl (by decide +kernel) k_Heap_kind l_Machine_148 (Nat.le_of_ble_eq_true rfl) (Nat.le_of_ble_eq_true rfl) (Nat.le_refl _) (Nat.le_refl _) ?_
  refine pm_blk (pc' := 14) (L' := [(1, .int q1), (0, .ref 44)]) (S' := [.int 4, .int q1]) (M' := sm g u) [pm_o (.istore_n 1), pm_o (.iload_n 1), pm_oi (.iconst 4) 4] (by decide +kernel) rfl ?_
  refine pm_ic_eq (off := 8) 22 (by decide +kernel) (by decide) (fun hc2 => ?_) (fun hc2 => ?_)
  · rw [if_pos hc2] at h
    refine pm_loc [1, 0] rfl ?_
    exact w_Machine_applyCallee_22 l h0 D hT q1 u h
  · rw [if_neg hc2] at h
    refine pm_blk (pc' := 19) (L' := [(1, .int q1), (0, .ref 44)]) (S' := [.int 5, .int q1]) (M' := sm g u) [pm_o (.iload_n 1), pm_oi (.iconst 5) 5] (by decide +kernel) rfl ?_
    refine pm_ic_ne (off := 20) 39 (by decide +kernel) (by decide) (fun hc6 => ?_) (fun hc6 => ?_)
    · rw [if_neg hc6] at h
      refine pm_blk (pc' := 40) (L' := [(1, .int q1), (0, .ref 44)]) (S' := [.ref 44]) (M' := sm g u) [pm_o (.aload_n 0)] (by decide +kernel) rfl ?_
      obtain ⟨q7, hq7, h⟩ := pm_bd h
      refine pm_cV (idx := 309) m_Machine_enterFunction (c_Machine_enterFunction l h0 D hT hq7) (As := []) (S0 := []) rfl (by decide +kernel) k_Machine_enterFunction l_Machine_309 (Nat.le_of_ble_eq_true rfl) (Nat.le_of_ble_eq_true rfl) (Nat.le_refl _) (Nat.le_refl _) ?_
      refine pm_blk (pc' := 43) (L' := [(1, .int q1), (0, .ref 44)]) (S' := []) (M' := sm g q7) [] (by decide +kernel) rfl ?_
      have h9 := Option.some.inj h
      subst h9
      exact pm_retv rfl (by decide +kernel) rfl rfl
    · rw [if_pos hc6] at h
      refine pm_loc [1, 0] rfl ?_
      exact w_Machine_applyCallee_22 l h0 D hT q1 u h
def K_Machine_start_2_176 (N : Nat) (g : pm_s) (k111 : Int32 → pm_J → Option (Int32 × pm_J)) (x5 : Int32) (u : pm_J) : Option (Int32 × pm_J) := (F_Heap_isOver g u).bind fun q17 => if q17 = 0 then k111 (x5 + 1) (wi u 44 10 (u.1 44 10)) else k111 (x5 + 1) (wi u 44 10 4)
set_option maxHeartbeats 4000000 in
set_option maxRecDepth 100000 in
theorem w_Machine_start_2_176 (l : Launch) (h0 : Nat) (D : pm_D) {g : pm_s} (hT : sh_T g) {N : Nat} {u0 : pm_J} {out : Int32 × pm_J} {p : Program} {e : Env} {R : Room} {s : State} {m : MethodId} {args : Array Value} {below : List Frame} {meth : Method} {c : Code} {k111 : Int32 → pm_J → Option (Int32 × pm_J)} (hk111 : ∀ (x5 : Int32) (u : pm_J), k111 x5 u = some out → pm_V (p, l, e, R, s, m, args, below, meth, c) m_Machine_start h0 D (g.1, g.2.1, g.1, g.2.1, 8) (pm_E (p, l, e, R, s, m, args, below, meth, c) h0 D (sm g u0) (some (.int out.1)) (sm g out.2)) 111 [(0, .ref 44), (5, .int x5)] [] (sm g u)) : ∀ (x5 : Int32) (u : pm_J), K_Machine_start_2_176 N g k111 x5 u = some out → pm_V (p, l, e, R, s, m, args, below, meth, c) m_Machine_start h0 D (g.1, g.2.1, g.1, g.2.1, 8) (pm_E (p, l, e, R, s, m, args, below, meth, c) h0 D (sm g u0) (some (.int out.1)) (sm g out.2)) 176 [(0, .ref 44), (5, .int x5)] [] (sm g u) := by
    intro x5 u h
    unfold K_Machine_start_2_176 at h
    refine pm_blk (pc' := 181) (L' := [(0, .ref 44), (5, .int x5)]) (S' := [.ref 45, .ref 44]) (M' := sm g u) [pm_o (.aload_n 0), pm_o (.aload_n 0), pm_of (.getfield 26) 6 3 2] (by decide +kernel) rfl ?_
    obtain ⟨q17, hq17, h⟩ := pm_bd h
    refine pm_cV (idx := 123) m_Heap_isOver (c_Heap_isOver l h0 D hT hq17) (As := []) (S0 := [.ref 44]) rfl (by decide +kernel) k_Heap_isOver l_Machine_123 (Nat.le_of_ble_eq_true rfl) (Nat.le_of_ble_eq_true rfl) (Nat.le_refl _) (Nat.le_refl _) ?_
    refine pm_blk (pc' := 184) (L' := [(0, .ref 44), (5, .int x5)]) (S' := [.int q17, .ref 44]) (M' := sm g u) [] (by decide +kernel) rfl ?_
    refine pm_if_eq (off := 7) 191 (by decide +kernel) (by decide) (fun hc18 => ?_) (fun hc18 => ?_)
    · rw [if_pos hc18] at h
      refine pm_blk (pc' := 201) (L' := [(5, .int (x5 + 1)), (0, .ref 44)]) (S' := []) (M' := sm g (wi u 44 10 (u.1 44 10))) [pm_o (.aload_n 0), pm_of (.getfield 61) 6 10 0, pm_of (.putfield 61) 6 10 0, pm_oi (.iinc 5 1) 1] (by decide +kernel) rfl ?_
      refine pm_goto (off := -90) 111 (by decide +kernel) (by decide) ?_
      refine pm_loc [1, 0] rfl ?_
      exact hk111 (x5 + 1) (wi u 44 10 (u.1 44 10)) h
    · rw [if_neg hc18] at h
      refine pm_blk (pc' := 188) (L' := [(0, .ref 44), (5, .int x5)]) (S' := [.int 4, .ref 44]) (M' := sm g u) [pm_oi (.iconst 4) 4] (by decide +kernel) rfl ?_
      refine pm_goto (off := 7) 195 (by decide +kernel) (by decide) ?_
      refine pm_blk (pc' := 201) (L' := [(5, .int (x5 + 1)), (0, .ref 44)]) (S' := []) (M' := sm g (wi u 44 10 4)) [pm_of (.putfield 61) 6 10 0, pm_oi (.iinc 5 1) 1] (by decide +kernel) rfl ?_
      refine pm_goto (off := -90) 111 (by decide +kernel) (by decide) ?_
      refine pm_loc [1, 0] rfl ?_
      exact hk111 (x5 + 1) (wi u 44 10 4) h
def K_Machine_start_2_111 (N : Nat) (g : pm_s) : Nat → Int32 → pm_J → Option (Int32 × pm_J)
  | 0, _, _ => none
  | n + 1, x5, u => if 20000000 ≤ x5 then some (u.1 44 10, u) else if (u.1 44 10) = 0 then if (u.1 44 11) = 0 then (F_Machine_enter g u).bind fun q20 => K_Machine_start_2_176 N g (K_Machine_start_2_111 N g  n) x5 q20 else if (u.1 44 11) = 1 then (F_Machine_applyCallee N g u).bind fun q19 => K_Machine_start_2_176 N g (K_Machine_start_2_111 N g  n) x5 q19 else (F_Frames_isEmpty g u).bind fun q14 => if q14 = 0 then (F_Machine_resume N g u).bind fun q16 => K_Machine_start_2_176 N g (K_Machine_start_2_111 N g  n) x5 q16 else K_Machine_start_2_176 N g (K_Machine_start_2_111 N g  n) x5 (wi u 44 10 1) else some (u.1 44 10, u)
set_option maxHeartbeats 4000000 in
set_option maxRecDepth 100000 in
theorem w_Machine_start_2_111 (l : Launch) (h0 : Nat) (D : pm_D) {g : pm_s} (hT : sh_T g) {N : Nat} {u0 : pm_J} {out : Int32 × pm_J} {p : Program} {e : Env} {R : Room} {s : State} {m : MethodId} {args : Array Value} {below : List Frame} {meth : Method} {c : Code} : ∀ (n : Nat) (x5 : Int32) (u : pm_J), K_Machine_start_2_111 N g n x5 u = some out → pm_V (p, l, e, R, s, m, args, below, meth, c) m_Machine_start h0 D (g.1, g.2.1, g.1, g.2.1, 8) (pm_E (p, l, e, R, s, m, args, below, meth, c) h0 D (sm g u0) (some (.int out.1)) (sm g out.2)) 111 [(0, .ref 44), (5, .int x5)] [] (sm g u) := by
  intro n
  induction n with
  | zero => intro x5 u h; cases h
  | succ n ih =>
    intro x5 u h
    rw [K_Machine_start_2_111] at h
    refine pm_blk (pc' := 115) (L' := [(0, .ref 44), (5, .int x5)]) (S' := [.int 20000000, .int x5]) (M' := sm g u) [pm_o (.iload 5), pm_oi (.ldc 106) 20000000] (by decide +kernel) rfl ?_
    refine pm_ic_ge (off := 89) 204 (by decide +kernel) (by decide) (fun hc10 => ?_) (fun hc10 => ?_)
    · rw [if_pos hc10] at h
      refine pm_blk (pc' := 208) (L' := [(0, .ref 44), (5, .int x5)]) (S' := [.int (u.1 44 10)]) (M' := sm g u) [pm_o (.aload_n 0), pm_of (.getfield 61) 6 10 0] (by decide +kernel) rfl ?_
      have h9 := Option.some.inj h
      subst h9
      exact pm_reti rfl (by decide +kernel) rfl rfl rfl
    · rw [if_neg hc10] at h
      refine pm_blk (pc' := 122) (L' := [(0, .ref 44), (5, .int x5)]) (S' := [.int (u.1 44 10)]) (M' := sm g u) [pm_o (.aload_n 0), pm_of (.getfield 61) 6 10 0] (by decide +kernel) rfl ?_
      refine pm_if_ne (off := 82) 204 (by decide +kernel) (by decide) (fun hc11 => ?_) (fun hc11 => ?_)
      · rw [if_neg hc11] at h
        refine pm_blk (pc' := 208) (L' := [(0, .ref 44), (5, .int x5)]) (S' := [.int (u.1 44 10)]) (M' := sm g u) [pm_o (.aload_n 0), pm_of (.getfield 61) 6 10 0] (by decide +kernel) rfl ?_
        have h9 := Option.some.inj h
        subst h9
        exact pm_reti rfl (by decide +kernel) rfl rfl rfl
      · rw [if_pos hc11] at h
        refine pm_blk (pc' := 129) (L' := [(0, .ref 44), (5, .int x5)]) (S' := [.int (u.1 44 11)]) (M' := sm g u) [pm_o (.aload_n 0), pm_of (.getfield 107) 6 11 0] (by decide +kernel) rfl ?_
        refine pm_if_ne (off := 10) 139 (by decide +kernel) (by decide) (fun hc12 => ?_) (fun hc12 => ?_)
        · rw [if_neg hc12] at h
          refine pm_blk (pc' := 144) (L' := [(0, .ref 44), (5, .int x5)]) (S' := [.int 1, .int (u.1 44 11)]) (M' := sm g u) [pm_o (.aload_n 0), pm_of (.getfield 107) 6 11 0, pm_oi (.iconst 1) 1] (by decide +kernel) rfl ?_
          refine pm_ic_ne (off := 10) 154 (by decide +kernel) (by decide) (fun hc13 => ?_) (fun hc13 => ?_)
          · rw [if_neg hc13] at h
            refine pm_blk (pc' := 158) (L' := [(0, .ref 44), (5, .int x5)]) (S' := [.ref 57]) (M' := sm g u) [pm_o (.aload_n 0), pm_of (.getfield 42) 6 5 2] (by decide +kernel) rfl ?_
            obtain ⟨q14, hq14, h⟩ := pm_bd h
            refine pm_cV (idx := 116) m_Frames_isEmpty (c_Frames_isEmpty l h0 D hT hq14) (As := []) (S0 := []) rfl (by decide +kernel) k_Frames_isEmpty l_Machine_116 (Nat.le_of_ble_eq_true rfl) (Nat.le_of_ble_eq_true rfl) (Nat.le_refl _) (Nat.le_refl _) ?_
            refine pm_blk (pc' := 161) (L' := [(0, .ref 44), (5, .int x5)]) (S' := [.int q14]) (M' := sm g u) [] (by decide +kernel) rfl ?_
            refine pm_if_eq (off := 11) 172 (by decide +kernel) (by decide) (fun hc15 => ?_) (fun hc15 => ?_)
            · rw [if_pos hc15] at h
              refine pm_blk (pc' := 173) (L' := [(0, .ref 44), (5, .int x5)]) (S' := [.ref 44]) (M' := sm g u) [pm_o (.aload_n 0)] (by decide +kernel) rfl ?_
              obtain ⟨q16, hq16, h⟩ := pm_bd h
              refine pm_cV (idx := 120) m_Machine_resume (c_Machine_resume l h0 D hT hq16) (As := []) (S0 := []) rfl (by decide +kernel) k_Machine_resume l_Machine_120 (Nat.le_of_ble_eq_true rfl) (Nat.le_of_ble_eq_true rfl) (Nat.le_refl _) (Nat.le_refl _) ?_
              refine pm_blk (pc' := 176) (L' := [(0, .ref 44), (5, .int x5)]) (S' := []) (M' := sm g q16) [] (by decide +kernel) rfl ?_
              refine pm_loc [0, 1] rfl ?_
              exact w_Machine_start_2_176 l h0 D hT ih x5 q16 h
            · rw [if_neg hc15] at h
              refine pm_blk (pc' := 169) (L' := [(0, .ref 44), (5, .int x5)]) (S' := []) (M' := sm g (wi u 44 10 1)) [pm_o (.aload_n 0), pm_oi (.iconst 1) 1, pm_of (.putfield 61) 6 10 0] (by decide +kernel) rfl ?_
              refine pm_goto (off := 7) 176 (by decide +kernel) (by decide) ?_
              refine pm_loc [0, 1] rfl ?_
              exact w_Machine_start_2_176 l h0 D hT ih x5 (wi u 44 10 1) h
          · rw [if_pos hc13] at h
            refine pm_blk (pc' := 148) (L' := [(0, .ref 44), (5, .int x5)]) (S' := [.ref 44]) (M' := sm g u) [pm_o (.aload_n 0)] (by decide +kernel) rfl ?_
            obtain ⟨q19, hq19, h⟩ := pm_bd h
            refine pm_cV (idx := 113) m_Machine_applyCallee (c_Machine_applyCallee l h0 D hT hq19) (As := []) (S0 := []) rfl (by decide +kernel) k_Machine_applyCallee l_Machine_113 (Nat.le_of_ble_eq_true rfl) (Nat.le_of_ble_eq_true rfl) (Nat.le_refl _) (Nat.le_refl _) ?_
            refine pm_blk (pc' := 151) (L' := [(0, .ref 44), (5, .int x5)]) (S' := []) (M' := sm g q19) [] (by decide +kernel) rfl ?_
            refine pm_goto (off := 25) 176 (by decide +kernel) (by decide) ?_
            refine pm_loc [0, 1] rfl ?_
            exact w_Machine_start_2_176 l h0 D hT ih x5 q19 h
        · rw [if_pos hc12] at h
          refine pm_blk (pc' := 133) (L' := [(0, .ref 44), (5, .int x5)]) (S' := [.ref 44]) (M' := sm g u) [pm_o (.aload_n 0)] (by decide +kernel) rfl ?_
          obtain ⟨q20, hq20, h⟩ := pm_bd h
          refine pm_cV (idx := 110) m_Machine_enter (c_Machine_enter l h0 D hT hq20) (As := []) (S0 := []) rfl (by decide +kernel) k_Machine_enter l_Machine_110 (Nat.le_of_ble_eq_true rfl) (Nat.le_of_ble_eq_true rfl) (Nat.le_refl _) (Nat.le_refl _) ?_
          refine pm_blk (pc' := 136) (L' := [(0, .ref 44), (5, .int x5)]) (S' := []) (M' := sm g q20) [] (by decide +kernel) rfl ?_
          refine pm_goto (off := 40) 176 (by decide +kernel) (by decide) ?_
          refine pm_loc [0, 1] rfl ?_
          exact w_Machine_start_2_176 l h0 D hT ih x5 q20 h
def K_Machine_start_2_92 (N : Nat) (g : pm_s) (x1 : Int32) (u : pm_J) : Option (Int32 × pm_J) := (F_Table_root x1 g u).bind fun q8 => (F_Machine_goInto q8 (u.1 44 13) g u).bind fun q9 => K_Machine_start_2_111 N g N 0 q9
set_option maxHeartbeats 4000000 in
set_option maxRecDepth 100000 in
theorem w_Machine_start_2_92 (l : Launch) (h0 : Nat) (D : pm_D) {g : pm_s} (hT : sh_T g) {N : Nat} {u0 : pm_J} {out : Int32 × pm_J} {p : Program} {e : Env} {R : Room} {s : State} {m : MethodId} {args : Array Value} {below : List Frame} {meth : Method} {c : Code} : ∀ (x1 : Int32) (u : pm_J), K_Machine_start_2_92 N g x1 u = some out → pm_V (p, l, e, R, s, m, args, below, meth, c) m_Machine_start h0 D (g.1, g.2.1, g.1, g.2.1, 8) (pm_E (p, l, e, R, s, m, args, below, meth, c) h0 D (sm g u0) (some (.int out.1)) (sm g out.2)) 92 [(0, .ref 44), (1, .int x1)] [] (sm g u) := by
    intro x1 u h
    unfold K_Machine_start_2_92 at h
    refine pm_blk (pc' := 98) (L' := [(0, .ref 44), (1, .int x1)]) (S' := [.int x1, .ref 29, .ref 44]) (M' := sm g u) [pm_o (.aload_n 0), pm_o (.aload_n 0), pm_of (.getfield 19) 6 2 2, pm_o (.iload_n 1)] (by decide +kernel) rfl ?_
    obtain ⟨q8, hq8, h⟩ := pm_bd h
    refine pm_cV (idx := 99) m_Table_root (c_Table_root l h0 D hT hq8) (As := [.int x1]) (S0 := [.ref 44]) rfl (by decide +kernel) k_Table_root l_Machine_99 (Nat.le_of_ble_eq_true rfl) (Nat.le_of_ble_eq_true rfl) (Nat.le_refl _) (Nat.le_refl _) ?_
    refine pm_blk (pc' := 105) (L' := [(0, .ref 44), (1, .int x1)]) (S' := [.int (u.1 44 13), .int q8, .ref 44]) (M' := sm g u) [pm_o (.aload_n 0), pm_of (.getfield 89) 6 13 0] (by decide +kernel) rfl ?_
    obtain ⟨q9, hq9, h⟩ := pm_bd h
    refine pm_cV (idx := 102) m_Machine_goInto (c_Machine_goInto l h0 D hT hq9) (As := [.int q8, .int (u.1 44 13)]) (S0 := []) rfl (by decide +kernel) k_Machine_goInto l_Machine_102 (Nat.le_of_ble_eq_true rfl) (Nat.le_of_ble_eq_true rfl) (Nat.le_refl _) (Nat.le_refl _) ?_
    refine pm_blk (pc' := 111) (L' := [(5, .int 0), (0, .ref 44), (1, .int x1)]) (S' := []) (M' := sm g q9) [pm_oi (.iconst 0) 0, pm_o (.istore 5)] (by decide +kernel) rfl ?_
    refine pm_loc [1, 0] rfl ?_
    exact w_Machine_start_2_111 l h0 D hT N 0 q9 h
def K_Machine_start_2_49 (N : Nat) (g : pm_s) : Nat → Int32 → Int32 → pm_J → Option (Int32 × pm_J)
  | 0, _, _, _ => none
  | n + 1, x1, x5, u => (F_Table_parameters x1 g u).bind fun q6 => if q6 ≤ x5 then K_Machine_start_2_92 N g x1 u else if (Nat.toInt32 6) ≤ x5 then K_Machine_start_2_92 N g x1 u else if pm_ok x5 6 = true then (F_Heap_setLocal (u.1 44 13) x5 (u.2 2 x5.toNatClampNeg) g u).bind fun q23 => K_Machine_start_2_49 N g  n x1 (x5 + 1) q23 else none
set_option maxHeartbeats 4000000 in
set_option maxRecDepth 100000 in
theorem w_Machine_start_2_49 (l : Launch) (h0 : Nat) (D : pm_D) {g : pm_s} (hT : sh_T g) {N : Nat} {u0 : pm_J} {out : Int32 × pm_J} {p : Program} {e : Env} {R : Room} {s : State} {m : MethodId} {args : Array Value} {below : List Frame} {meth : Method} {c : Code} : ∀ (n : Nat) (x1 : Int32) (x5 : Int32) (u : pm_J), K_Machine_start_2_49 N g n x1 x5 u = some out → pm_V (p, l, e, R, s, m, args, below, meth, c) m_Machine_start h0 D (g.1, g.2.1, g.1, g.2.1, 8) (pm_E (p, l, e, R, s, m, args, below, meth, c) h0 D (sm g u0) (some (.int out.1)) (sm g out.2)) 49 [(0, .ref 44), (1, .int x1), (2, .ref 2), (5, .int x5)] [] (sm g u) := by
  intro n
  induction n with
  | zero => intro x1 x5 u h; cases h
  | succ n ih =>
    intro x1 x5 u h
    rw [K_Machine_start_2_49] at h
    refine pm_blk (pc' := 56) (L' := [(0, .ref 44), (1, .int x1), (2, .ref 2), (5, .int x5)]) (S' := [.int x1, .ref 29, .int x5]) (M' := sm g u) [pm_o (.iload 5), pm_o (.aload_n 0), pm_of (.getfield 19) 6 2 2, pm_o (.iload_n 1)] (by decide +kernel) rfl ?_
    obtain ⟨q6, hq6, h⟩ := pm_bd h
    refine pm_cV (idx := 92) m_Table_parameters (c_Table_parameters l h0 D hT hq6) (As := [.int x1]) (S0 := [.int x5]) rfl (by decide +kernel) k_Table_parameters l_Machine_92 (Nat.le_of_ble_eq_true rfl) (Nat.le_of_ble_eq_true rfl) (Nat.le_refl _) (Nat.le_refl _) ?_
    refine pm_blk (pc' := 59) (L' := [(0, .ref 44), (1, .int x1), (2, .ref 2), (5, .int x5)]) (S' := [.int q6, .int x5]) (M' := sm g u) [] (by decide +kernel) rfl ?_
    refine pm_ic_ge (off := 33) 92 (by decide +kernel) (by decide) (fun hc7 => ?_) (fun hc7 => ?_)
    · rw [if_pos hc7] at h
      refine pm_loc [0, 1] rfl ?_
      exact w_Machine_start_2_92 l h0 D hT x1 u h
    · rw [if_neg hc7] at h
      refine pm_blk (pc' := 66) (L' := [(0, .ref 44), (1, .int x1), (2, .ref 2), (5, .int x5)]) (S' := [.int (Nat.toInt32 6), .int x5]) (M' := sm g u) [pm_o (.iload 5), pm_o (.aload_n 2), pm_o .arraylength] (by decide +kernel) rfl ?_
      refine pm_ic_ge (off := 26) 92 (by decide +kernel) (by decide) (fun hc21 => ?_) (fun hc21 => ?_)
      · rw [if_pos hc21] at h
        refine pm_loc [0, 1] rfl ?_
        exact w_Machine_start_2_92 l h0 D hT x1 u h
      · rw [if_neg hc21] at h
        refine pm_blk (pc' := 82) (L' := [(0, .ref 44), (1, .int x1), (2, .ref 2), (5, .int x5)]) (S' := [.int x5, .ref 2, .int x5, .int (u.1 44 13), .ref 45]) (M' := sm g u) [pm_o (.aload_n 0), pm_of (.getfield 26) 6 3 2, pm_o (.aload_n 0), pm_of (.getfield 89) 6 13 0, pm_o (.iload 5), pm_o (.aload_n 2), pm_o (.iload 5)] (by decide +kernel) rfl ?_
        obtain ⟨ho22, h⟩ := pm_ifs h
        refine pm_lald (by decide +kernel) rfl (pm_ok_in ho22) ?_
        refine pm_blk (pc' := 83) (L' := [(0, .ref 44), (1, .int x1), (2, .ref 2), (5, .int x5)]) (S' := [.long (u.2 2 x5.toNatClampNeg), .int x5, .int (u.1 44 13), .ref 45]) (M' := sm g u) [] (by decide +kernel) rfl ?_
        obtain ⟨q23, hq23, h⟩ := pm_bd h
        refine pm_cV (idx := 95) m_Heap_setLocal (c_Heap_setLocal l h0 D hT hq23) (As := [.int (u.1 44 13), .int x5, .long (u.2 2 x5.toNatClampNeg)]) (S0 := []) rfl (by decide +kernel) k_Heap_setLocal l_Machine_95 (Nat.le_of_ble_eq_true rfl) (Nat.le_of_ble_eq_true rfl) (Nat.le_refl _) (Nat.le_refl _) ?_
        refine pm_blk (pc' := 89) (L' := [(5, .int (x5 + 1)), (0, .ref 44), (1, .int x1), (2, .ref 2)]) (S' := []) (M' := sm g q23) [pm_oi (.iinc 5 1) 1] (by decide +kernel) rfl ?_
        refine pm_goto (off := -40) 49 (by decide +kernel) (by decide) ?_
        refine pm_loc [1, 2, 3, 0] rfl ?_
        exact ih x1 (x5 + 1) q23 h
def F_Machine_start_2 (N : Nat) (a1 : Int32) (a3 : Int32) (a4 : Int32) (g : pm_s) (u : pm_J) : Option (Int32 × pm_J) := (F_Machine_forget N g u).bind fun q1 => if (a3 == 0 || a3 == 1) = true then (F_Table_type a1 g (wi (wi q1 44 6 a3) 44 7 a4)).bind fun q3 => (F_Table_locals a1 g (wi (wi (wi q1 44 6 a3) 44 7 a4) 44 16 q3)).bind fun q4 => (F_Heap_claim q4 g (wi (wi (wi q1 44 6 a3) 44 7 a4) 44 16 q3)).bind fun q5 => K_Machine_start_2_49 N g N a1 0 (wi q5.2 44 13 q5.1) else none
set_option maxHeartbeats 4000000 in
set_option maxRecDepth 100000 in
theorem c_Machine_start_2 (l : Launch) (h0 : Nat) (D : pm_D) {g : pm_s} {u : pm_J} (hT : sh_T g) {N : Nat} {a1 : Int32} {a3 : Int32} {a4 : Int32} {out : Int32 × pm_J} (h : F_Machine_start_2 N a1 a3 a4 g u = some out) : pm_C l h0 D m_Machine_start (8) [.ref 44, .int a1, .ref 2, .int a3, .int a4] (sm g u) (some (.int out.1)) (sm g out.2) := by
  unfold F_Machine_start_2 at h
  refine pm_met (by decide +kernel) (Nat.le_of_ble_eq_true rfl) (Nat.le_refl _) (Nat.le_refl _) ?_
  intro p e R s m args below meth c
  refine pm_blk (pc' := 1) (L' := [(0, .ref 44), (1, .int a1), (2, .ref 2), (3, .int a3), (4, .int a4)]) (S' := [.ref 44]) (M' := sm g u) [pm_o (.aload_n 0)] (by decide +kernel) rfl ?_
  obtain ⟨q1, hq1, h⟩ := pm_bd h
  refine pm_cV (idx := 64) m_Machine_forget (c_Machine_forget l h0 D hT hq1) (As := []) (S0 := []) rfl (by decide +kernel) k_Machine_forget l_Machine_64 (Nat.le_of_ble_eq_true rfl) (Nat.le_of_ble_eq_true rfl) (Nat.le_refl _) (Nat.le_refl _) ?_
  refine pm_blk (pc' := 6) (L' := [(0, .ref 44), (1, .int a1), (2, .ref 2), (3, .int a3), (4, .int a4)]) (S' := [.int a3, .ref 44]) (M' := sm g q1) [pm_o (.aload_n 0), pm_o (.iload_n 3)] (by decide +kernel) rfl ?_
  obtain ⟨hz2, h⟩ := pm_ifs h
  refine pm_puti (idx := 67) (v1 := 0) (v2 := 0) (ci := 6) (k := 6) (t := 3) (by decide +kernel) (by decide +kernel) rfl (Or.inr ⟨rfl, hz2⟩) ?_
  refine pm_blk (pc' := 21) (L' := [(0, .ref 44), (1, .int a1), (2, .ref 2), (3, .int a3), (4, .int a4)]) (S' := [.int a1, .ref 29, .ref 44]) (M' := sm g (wi (wi q1 44 6 a3) 44 7 a4)) [pm_o (.aload_n 0), pm_o (.iload 4), pm_of (.putfield 71) 6 7 0, pm_o (.aload_n 0), pm_o (.aload_n 0), pm_of (.getfield 19) 6 2 2, pm_o (.iload_n 1)] (by decide +kernel) rfl ?_
  obtain ⟨q3, hq3, h⟩ := pm_bd h
  refine pm_cV (idx := 74) m_Table_type (c_Table_type l h0 D hT hq3) (As := [.int a1]) (S0 := [.ref 44]) rfl (by decide +kernel) k_Table_type l_Machine_74 (Nat.le_of_ble_eq_true rfl) (Nat.le_of_ble_eq_true rfl) (Nat.le_refl _) (Nat.le_refl _) ?_
  refine pm_blk (pc' := 37) (L' := [(0, .ref 44), (1, .int a1), (2, .ref 2), (3, .int a3), (4, .int a4)]) (S' := [.int a1, .ref 29, .ref 45, .ref 44]) (M' := sm g (wi (wi (wi q1 44 6 a3) 44 7 a4) 44 16 q3)) [pm_of (.putfield 80) 6 16 0, pm_o (.aload_n 0), pm_o (.aload_n 0), pm_of (.getfield 26) 6 3 2, pm_o (.aload_n 0), pm_of (.getfield 19) 6 2 2, pm_o (.iload_n 1)] (by decide +kernel) rfl ?_
  obtain ⟨q4, hq4, h⟩ := pm_bd h
  refine pm_cV (idx := 83) m_Table_locals (c_Table_locals l h0 D hT hq4) (As := [.int a1]) (S0 := [.ref 45, .ref 44]) rfl (by decide +kernel) k_Table_locals l_Machine_83 (Nat.le_of_ble_eq_true rfl) (Nat.le_of_ble_eq_true rfl) (Nat.le_refl _) (Nat.le_refl _) ?_
  refine pm_blk (pc' := 40) (L' := [(0, .ref 44), (1, .int a1), (2, .ref 2), (3, .int a3), (4, .int a4)]) (S' := [.int q4, .ref 45, .ref 44]) (M' := sm g (wi (wi (wi q1 44 6 a3) 44 7 a4) 44 16 q3)) [] (by decide +kernel) rfl ?_
  obtain ⟨q5, hq5, h⟩ := pm_bd h
  refine pm_cV (idx := 86) m_Heap_claim (c_Heap_claim l h0 D hT hq5) (As := [.int q4]) (S0 := [.ref 44]) rfl (by decide +kernel) k_Heap_claim l_Machine_86 (Nat.le_of_ble_eq_true rfl) (Nat.le_of_ble_eq_true rfl) (Nat.le_refl _) (Nat.le_refl _) ?_
  refine pm_blk (pc' := 49) (L' := [(5, .int 0), (0, .ref 44), (1, .int a1), (2, .ref 2), (3, .int a3), (4, .int a4)]) (S' := []) (M' := sm g (wi q5.2 44 13 q5.1)) [pm_of (.putfield 89) 6 13 0, pm_oi (.iconst 0) 0, pm_o (.istore 5)] (by decide +kernel) rfl ?_
  refine pm_loc [1, 2, 3, 0] rfl ?_
  exact w_Machine_start_2_49 l h0 D hT N a1 0 (wi q5.2 44 13 q5.1) h
