def F_Parser_kind (g : pm_s) (u : pm_J) : Option (Int32) := (F_Fault_isTold_3 g u).bind fun q1 => if q1 = 0 then (F_Tokens_kind (u.1 39 11) g u).bind fun q3 => some q3 else some 0
set_option maxHeartbeats 4000000 in
set_option maxRecDepth 100000 in
theorem c_Parser_kind (l : Launch) (h0 : Nat) (D : pm_D) {g : pm_s} {u : pm_J} (hT : sh_T g) {out : Int32} (h : F_Parser_kind g u = some out) : pm_C l h0 D m_Parser_kind (1) [.ref 39] (sm g u) (some (.int out)) (sm g u) := by
  unfold F_Parser_kind at h
  refine pm_met (by decide +kernel) (Nat.le_of_ble_eq_true rfl) (Nat.le_refl _) (Nat.le_refl _) ?_
  intro p e R s m args below meth c
  refine pm_blk (pc' := 4) (L' := [(0, .ref 39)]) (S' := [.ref 3]) (M' := sm g u) [pm_o (.aload_n 0), pm_of (.getfield 27) 7 4 2] (by decide +kernel) rfl ?_
  obtain ⟨q1, hq1, h⟩ := pm_bd h
  refine pm_cV (idx := 77) m_Fault_isTold (c_Fault_isTold_3 l h0 D hT hq1) (As := []) (S0 := []) rfl (by decide +kernel) k_Fault_isTold l_Parser_77 (Nat.le_of_ble_eq_true rfl) (Nat.le_of_ble_eq_true rfl) (Nat.le_refl _) (Nat.le_refl _) ?_
  refine pm_blk (pc' := 7) (L' := [(0, .ref 39)]) (S' := [.int q1]) (M' := sm g u) [] (by decide +kernel) rfl ?_
  refine pm_if_eq (off := 7) 14 (by decide +kernel) (by decide) (fun hc2 => ?_) (fun hc2 => ?_)
  · rw [if_pos hc2] at h
    refine pm_blk (pc' := 22) (L' := [(0, .ref 39)]) (S' := [.int (u.1 39 11), .ref 5]) (M' := sm g u) [pm_o (.aload_n 0), pm_of (.getfield 9) 7 0 2, pm_o (.aload_n 0), pm_of (.getfield 47) 7 11 0] (by decide +kernel) rfl ?_
    obtain ⟨q3, hq3, h⟩ := pm_bd h
    refine pm_cV (idx := 254) m_Tokens_kind (c_Tokens_kind l h0 D hT hq3) (As := [.int (u.1 39 11)]) (S0 := []) rfl (by decide +kernel) k_Tokens_kind l_Parser_254 (Nat.le_of_ble_eq_true rfl) (Nat.le_of_ble_eq_true rfl) (Nat.le_refl _) (Nat.le_refl _) ?_
    refine pm_blk (pc' := 25) (L' := [(0, .ref 39)]) (S' := [.int q3]) (M' := sm g u) [] (by decide +kernel) rfl ?_
    have h9 := Option.some.inj h
    subst h9
    exact pm_reti rfl (by decide +kernel) rfl rfl rfl
  · rw [if_neg hc2] at h
    refine pm_blk (pc' := 11) (L' := [(0, .ref 39)]) (S' := [.int 0]) (M' := sm g u) [pm_oi (.iconst 0) 0] (by decide +kernel) rfl ?_
    refine pm_goto (off := 14) 25 (by decide +kernel) (by decide) ?_
    have h9 := Option.some.inj h
    subst h9
    exact pm_reti rfl (by decide +kernel) rfl rfl rfl
def F_Parser_here (g : pm_s) (u : pm_J) : Option (Int32) := (F_Tokens_placeOf (u.1 39 11) g u).bind fun q1 => some q1
set_option maxHeartbeats 4000000 in
set_option maxRecDepth 100000 in
theorem c_Parser_here (l : Launch) (h0 : Nat) (D : pm_D) {g : pm_s} {u : pm_J} (hT : sh_T g) {out : Int32} (h : F_Parser_here g u = some out) : pm_C l h0 D m_Parser_here (1) [.ref 39] (sm g u) (some (.int out)) (sm g u) := by
  unfold F_Parser_here at h
  refine pm_met (by decide +kernel) (Nat.le_of_ble_eq_true rfl) (Nat.le_refl _) (Nat.le_refl _) ?_
  intro p e R s m args below meth c
  refine pm_blk (pc' := 8) (L' := [(0, .ref 39)]) (S' := [.int (u.1 39 11), .ref 5]) (M' := sm g u) [pm_o (.aload_n 0), pm_of (.getfield 9) 7 0 2, pm_o (.aload_n 0), pm_of (.getfield 47) 7 11 0] (by decide +kernel) rfl ?_
  obtain ⟨q1, hq1, h⟩ := pm_bd h
  refine pm_cV (idx := 89) m_Tokens_placeOf (c_Tokens_placeOf l h0 D hT hq1) (As := [.int (u.1 39 11)]) (S0 := []) rfl (by decide +kernel) k_Tokens_placeOf l_Parser_89 (Nat.le_of_ble_eq_true rfl) (Nat.le_of_ble_eq_true rfl) (Nat.le_refl _) (Nat.le_refl _) ?_
  refine pm_blk (pc' := 11) (L' := [(0, .ref 39)]) (S' := [.int q1]) (M' := sm g u) [] (by decide +kernel) rfl ?_
  have h9 := Option.some.inj h
  subst h9
  exact pm_reti rfl (by decide +kernel) rfl rfl rfl
def F_Parser_expect (a1 : Int32) (g : pm_s) (u : pm_J) : Option (pm_J) := (F_Parser_kind g u).bind fun q1 => if q1 = a1 then some (wi u 39 11 ((u.1 39 11) + 1)) else (F_Parser_here g u).bind fun q3 => (F_Fault_tell_3 2 q3 g u).bind fun q4 => some q4
set_option maxHeartbeats 4000000 in
set_option maxRecDepth 100000 in
theorem c_Parser_expect (l : Launch) (h0 : Nat) (D : pm_D) {g : pm_s} {u : pm_J} (hT : sh_T g) {a1 : Int32} {out : pm_J} (h : F_Parser_expect a1 g u = some out) : pm_C l h0 D m_Parser_expect (2) [.ref 39, .int a1] (sm g u) none (sm g out) := by
  unfold F_Parser_expect at h
  refine pm_met (by decide +kernel) (Nat.le_of_ble_eq_true rfl) (Nat.le_refl _) (Nat.le_refl _) ?_
  intro p e R s m args below meth c
  refine pm_blk (pc' := 1) (L' := [(0, .ref 39), (1, .int a1)]) (S' := [.ref 39]) (M' := sm g u) [pm_o (.aload_n 0)] (by decide +kernel) rfl ?_
  obtain ⟨q1, hq1, h⟩ := pm_bd h
  refine pm_cV (idx := 57) m_Parser_kind (c_Parser_kind l h0 D hT hq1) (As := []) (S0 := []) rfl (by decide +kernel) k_Parser_kind l_Parser_57 (Nat.le_of_ble_eq_true rfl) (Nat.le_of_ble_eq_true rfl) (Nat.le_refl _) (Nat.le_refl _) ?_
  refine pm_blk (pc' := 5) (L' := [(0, .ref 39), (1, .int a1)]) (S' := [.int a1, .int q1]) (M' := sm g u) [pm_o (.iload_n 1)] (by decide +kernel) rfl ?_
  refine pm_ic_ne (off := 16) 21 (by decide +kernel) (by decide) (fun hc2 => ?_) (fun hc2 => ?_)
  · rw [if_neg hc2] at h
    refine pm_blk (pc' := 27) (L' := [(0, .ref 39), (1, .int a1)]) (S' := [.ref 39, .int 2, .ref 3]) (M' := sm g u) [pm_o (.aload_n 0), pm_of (.getfield 27) 7 4 2, pm_oi (.iconst 2) 2, pm_o (.aload_n 0)] (by decide +kernel) rfl ?_
    obtain ⟨q3, hq3, h⟩ := pm_bd h
    refine pm_cV (idx := 66) m_Parser_here (c_Parser_here l h0 D hT hq3) (As := []) (S0 := [.int 2, .ref 3]) rfl (by decide +kernel) k_Parser_here l_Parser_66 (Nat.le_of_ble_eq_true rfl) (Nat.le_of_ble_eq_true rfl) (Nat.le_refl _) (Nat.le_refl _) ?_
    refine pm_blk (pc' := 30) (L' := [(0, .ref 39), (1, .int a1)]) (S' := [.int q3, .int 2, .ref 3]) (M' := sm g u) [] (by decide +kernel) rfl ?_
    obtain ⟨q4, hq4, h⟩ := pm_bd h
    refine pm_cV (idx := 69) m_Fault_tell (c_Fault_tell_3 l h0 D hT hq4) (As := [.int 2, .int q3]) (S0 := []) rfl (by decide +kernel) k_Fault_tell l_Parser_69 (Nat.le_of_ble_eq_true rfl) (Nat.le_of_ble_eq_true rfl) (Nat.le_refl _) (Nat.le_refl _) ?_
    refine pm_blk (pc' := 33) (L' := [(0, .ref 39), (1, .int a1)]) (S' := []) (M' := sm g q4) [] (by decide +kernel) rfl ?_
    have h9 := Option.some.inj h
    subst h9
    exact pm_retv rfl (by decide +kernel) rfl rfl
  · rw [if_pos hc2] at h
    refine pm_blk (pc' := 18) (L' := [(0, .ref 39), (1, .int a1)]) (S' := []) (M' := sm g (wi u 39 11 ((u.1 39 11) + 1))) [pm_o (.aload_n 0), pm_o .dup, pm_of (.getfield 47) 7 11 0, pm_oi (.iconst 1) 1, pm_o .iadd, pm_of (.putfield 47) 7 11 0] (by decide +kernel) rfl ?_
    refine pm_goto (off := 15) 33 (by decide +kernel) (by decide) ?_
    have h9 := Option.some.inj h
    subst h9
    exact pm_retv rfl (by decide +kernel) rfl rfl
def F_Integer_bitCount (a1 : Int32) (g : pm_s) (u : pm_J) : Option (Int32) := some ((((((((a1 - (((a1.toUInt32 >>> ((1 : Int32).toUInt32 &&& Int32.toUInt32 31)).toInt32) &&& 1431655765)) &&& 858993459) + ((((a1 - (((a1.toUInt32 >>> ((1 : Int32).toUInt32 &&& Int32.toUInt32 31)).toInt32) &&& 1431655765)).toUInt32 >>> ((2 : Int32).toUInt32 &&& Int32.toUInt32 31)).toInt32) &&& 858993459)) + (((((a1 - (((a1.toUInt32 >>> ((1 : Int32).toUInt32 &&& Int32.toUInt32 31)).toInt32) &&& 1431655765)) &&& 858993459) + ((((a1 - (((a1.toUInt32 >>> ((1 : Int32).toUInt32 &&& Int32.toUInt32 31)).toInt32) &&& 1431655765)).toUInt32 >>> ((2 : Int32).toUInt32 &&& Int32.toUInt32 31)).toInt32) &&& 858993459)).toUInt32 >>> ((4 : Int32).toUInt32 &&& Int32.toUInt32 31)).toInt32)) &&& 252645135) + (((((((a1 - (((a1.toUInt32 >>> ((1 : Int32).toUInt32 &&& Int32.toUInt32 31)).toInt32) &&& 1431655765)) &&& 858993459) + ((((a1 - (((a1.toUInt32 >>> ((1 : Int32).toUInt32 &&& Int32.toUInt32 31)).toInt32) &&& 1431655765)).toUInt32 >>> ((2 : Int32).toUInt32 &&& Int32.toUInt32 31)).toInt32) &&& 858993459)) + (((((a1 - (((a1.toUInt32 >>> ((1 : Int32).toUInt32 &&& Int32.toUInt32 31)).toInt32) &&& 1431655765)) &&& 858993459) + ((((a1 - (((a1.toUInt32 >>> ((1 : Int32).toUInt32 &&& Int32.toUInt32 31)).toInt32) &&& 1431655765)).toUInt32 >>> ((2 : Int32).toUInt32 &&& Int32.toUInt32 31)).toInt32) &&& 858993459)).toUInt32 >>> ((4 : Int32).toUInt32 &&& Int32.toUInt32 31)).toInt32)) &&& 252645135).toUInt32 >>> ((8 : Int32).toUInt32 &&& Int32.toUInt32 31)).toInt32)) + ((((((((a1 - (((a1.toUInt32 >>> ((1 : Int32).toUInt32 &&& Int32.toUInt32 31)).toInt32) &&& 1431655765)) &&& 858993459) + ((((a1 - (((a1.toUInt32 >>> ((1 : Int32).toUInt32 &&& Int32.toUInt32 31)).toInt32) &&& 1431655765)).toUInt32 >>> ((2 : Int32).toUInt32 &&& Int32.toUInt32 31)).toInt32) &&& 858993459)) + (((((a1 - (((a1.toUInt32 >>> ((1 : Int32).toUInt32 &&& Int32.toUInt32 31)).toInt32) &&& 1431655765)) &&& 858993459) + ((((a1 - (((a1.toUInt32 >>> ((1 : Int32).toUInt32 &&& Int32.toUInt32 31)).toInt32) &&& 1431655765)).toUInt32 >>> ((2 : Int32).toUInt32 &&& Int32.toUInt32 31)).toInt32) &&& 858993459)).toUInt32 >>> ((4 : Int32).toUInt32 &&& Int32.toUInt32 31)).toInt32)) &&& 252645135) + (((((((a1 - (((a1.toUInt32 >>> ((1 : Int32).toUInt32 &&& Int32.toUInt32 31)).toInt32) &&& 1431655765)) &&& 858993459) + ((((a1 - (((a1.toUInt32 >>> ((1 : Int32).toUInt32 &&& Int32.toUInt32 31)).toInt32) &&& 1431655765)).toUInt32 >>> ((2 : Int32).toUInt32 &&& Int32.toUInt32 31)).toInt32) &&& 858993459)) + (((((a1 - (((a1.toUInt32 >>> ((1 : Int32).toUInt32 &&& Int32.toUInt32 31)).toInt32) &&& 1431655765)) &&& 858993459) + ((((a1 - (((a1.toUInt32 >>> ((1 : Int32).toUInt32 &&& Int32.toUInt32 31)).toInt32) &&& 1431655765)).toUInt32 >>> ((2 : Int32).toUInt32 &&& Int32.toUInt32 31)).toInt32) &&& 858993459)).toUInt32 >>> ((4 : Int32).toUInt32 &&& Int32.toUInt32 31)).toInt32)) &&& 252645135).toUInt32 >>> ((8 : Int32).toUInt32 &&& Int32.toUInt32 31)).toInt32)).toUInt32 >>> ((16 : Int32).toUInt32 &&& Int32.toUInt32 31)).toInt32)) &&& 63)
set_option maxHeartbeats 4000000 in
set_option maxRecDepth 100000 in
theorem c_Integer_bitCount (l : Launch) (h0 : Nat) (D : pm_D) {g : pm_s} {u : pm_J} (hT : sh_T g) {a1 : Int32} {out : Int32} (h : F_Integer_bitCount a1 g u = some out) : pm_C l h0 D m_Integer_bitCount (0) [.int a1] (sm g u) (some (.int out)) (sm g u) := by
  unfold F_Integer_bitCount at h
  refine pm_met (by decide +kernel) (Nat.le_of_ble_eq_true rfl) (Nat.le_refl _) (Nat.le_refl _) ?_
  intro p e R s m args below meth c
  refine pm_blk (pc' := 4) (L' := [(0, .int a1)]) (S' := [.int ((a1.toUInt32 >>> ((1 : Int32).toUInt32 &&& Int32.toUInt32 31)).toInt32), .int a1]) (M' := sm g u) [pm_o (.iload_n 0), pm_o (.iload_n 0), pm_oi (.iconst 1) 1, pm_o .iushr] (by decide +kernel) rfl ?_
  refine pm_ldcw (idx := 265) (v := 1431655765) (by decide +kernel) (by decide +kernel) ?_
  refine pm_blk (pc' := 11) (L' := [(0, .int (a1 - (((a1.toUInt32 >>> ((1 : Int32).toUInt32 &&& Int32.toUInt32 31)).toInt32) &&& 1431655765)))]) (S' := [.int (a1 - (((a1.toUInt32 >>> ((1 : Int32).toUInt32 &&& Int32.toUInt32 31)).toInt32) &&& 1431655765))]) (M' := sm g u) [pm_o .iand, pm_o .isub, pm_o (.istore_n 0), pm_o (.iload_n 0)] (by decide +kernel) rfl ?_
  refine pm_ldcw (idx := 266) (v := 858993459) (by decide +kernel) (by decide +kernel) ?_
  refine pm_blk (pc' := 18) (L' := [(0, .int (a1 - (((a1.toUInt32 >>> ((1 : Int32).toUInt32 &&& Int32.toUInt32 31)).toInt32) &&& 1431655765)))]) (S' := [.int (((a1 - (((a1.toUInt32 >>> ((1 : Int32).toUInt32 &&& Int32.toUInt32 31)).toInt32) &&& 1431655765)).toUInt32 >>> ((2 : Int32).toUInt32 &&& Int32.toUInt32 31)).toInt32), .int ((a1 - (((a1.toUInt32 >>> ((1 : Int32).toUInt32 &&& Int32.toUInt32 31)).toInt32) &&& 1431655765)) &&& 858993459)]) (M' := sm g u) [pm_o .iand, pm_o (.iload_n 0), pm_oi (.iconst 2) 2, pm_o .iushr] (by decide +kernel) rfl ?_
  refine pm_ldcw (idx := 266) (v := 858993459) (by decide +kernel) (by decide +kernel) ?_
  refine pm_blk (pc' := 29) (L' := [(0, .int (((a1 - (((a1.toUInt32 >>> ((1 : Int32).toUInt32 &&& Int32.toUInt32 31)).toInt32) &&& 1431655765)) &&& 858993459) + ((((a1 - (((a1.toUInt32 >>> ((1 : Int32).toUInt32 &&& Int32.toUInt32 31)).toInt32) &&& 1431655765)).toUInt32 >>> ((2 : Int32).toUInt32 &&& Int32.toUInt32 31)).toInt32) &&& 858993459)))]) (S' := [.int ((((a1 - (((a1.toUInt32 >>> ((1 : Int32).toUInt32 &&& Int32.toUInt32 31)).toInt32) &&& 1431655765)) &&& 858993459) + ((((a1 - (((a1.toUInt32 >>> ((1 : Int32).toUInt32 &&& Int32.toUInt32 31)).toInt32) &&& 1431655765)).toUInt32 >>> ((2 : Int32).toUInt32 &&& Int32.toUInt32 31)).toInt32) &&& 858993459)) + (((((a1 - (((a1.toUInt32 >>> ((1 : Int32).toUInt32 &&& Int32.toUInt32 31)).toInt32) &&& 1431655765)) &&& 858993459) + ((((a1 - (((a1.toUInt32 >>> ((1 : Int32).toUInt32 &&& Int32.toUInt32 31)).toInt32) &&& 1431655765)).toUInt32 >>> ((2 : Int32).toUInt32 &&& Int32.toUInt32 31)).toInt32) &&& 858993459)).toUInt32 >>> ((4 : Int32).toUInt32 &&& Int32.toUInt32 31)).toInt32))]) (M' := sm g u) [pm_o .iand, pm_o .iadd, pm_o (.istore_n 0), pm_o (.iload_n 0), pm_o (.iload_n 0), pm_oi (.iconst 4) 4, pm_o .iushr, pm_o .iadd] (by decide +kernel) rfl ?_
  refine pm_ldcw (idx := 267) (v := 252645135) (by decide +kernel) (by decide +kernel) ?_
  refine pm_blk (pc' := 52) (L' := [(0, .int (((((((a1 - (((a1.toUInt32 >>> ((1 : Int32).toUInt32 &&& Int32.toUInt32 31)).toInt32) &&& 1431655765)) &&& 858993459) + ((((a1 - (((a1.toUInt32 >>> ((1 : Int32).toUInt32 &&& Int32.toUInt32 31)).toInt32) &&& 1431655765)).toUInt32 >>> ((2 : Int32).toUInt32 &&& Int32.toUInt32 31)).toInt32) &&& 858993459)) + (((((a1 - (((a1.toUInt32 >>> ((1 : Int32).toUInt32 &&& Int32.toUInt32 31)).toInt32) &&& 1431655765)) &&& 858993459) + ((((a1 - (((a1.toUInt32 >>> ((1 : Int32).toUInt32 &&& Int32.toUInt32 31)).toInt32) &&& 1431655765)).toUInt32 >>> ((2 : Int32).toUInt32 &&& Int32.toUInt32 31)).toInt32) &&& 858993459)).toUInt32 >>> ((4 : Int32).toUInt32 &&& Int32.toUInt32 31)).toInt32)) &&& 252645135) + (((((((a1 - (((a1.toUInt32 >>> ((1 : Int32).toUInt32 &&& Int32.toUInt32 31)).toInt32) &&& 1431655765)) &&& 858993459) + ((((a1 - (((a1.toUInt32 >>> ((1 : Int32).toUInt32 &&& Int32.toUInt32 31)).toInt32) &&& 1431655765)).toUInt32 >>> ((2 : Int32).toUInt32 &&& Int32.toUInt32 31)).toInt32) &&& 858993459)) + (((((a1 - (((a1.toUInt32 >>> ((1 : Int32).toUInt32 &&& Int32.toUInt32 31)).toInt32) &&& 1431655765)) &&& 858993459) + ((((a1 - (((a1.toUInt32 >>> ((1 : Int32).toUInt32 &&& Int32.toUInt32 31)).toInt32) &&& 1431655765)).toUInt32 >>> ((2 : Int32).toUInt32 &&& Int32.toUInt32 31)).toInt32) &&& 858993459)).toUInt32 >>> ((4 : Int32).toUInt32 &&& Int32.toUInt32 31)).toInt32)) &&& 252645135).toUInt32 >>> ((8 : Int32).toUInt32 &&& Int32.toUInt32 31)).toInt32)) + ((((((((a1 - (((a1.toUInt32 >>> ((1 : Int32).toUInt32 &&& Int32.toUInt32 31)).toInt32) &&& 1431655765)) &&& 858993459) + ((((a1 - (((a1.toUInt32 >>> ((1 : Int32).toUInt32 &&& Int32.toUInt32 31)).toInt32) &&& 1431655765)).toUInt32 >>> ((2 : Int32).toUInt32 &&& Int32.toUInt32 31)).toInt32) &&& 858993459)) + (((((a1 - (((a1.toUInt32 >>> ((1 : Int32).toUInt32 &&& Int32.toUInt32 31)).toInt32) &&& 1431655765)) &&& 858993459) + ((((a1 - (((a1.toUInt32 >>> ((1 : Int32).toUInt32 &&& Int32.toUInt32 31)).toInt32) &&& 1431655765)).toUInt32 >>> ((2 : Int32).toUInt32 &&& Int32.toUInt32 31)).toInt32) &&& 858993459)).toUInt32 >>> ((4 : Int32).toUInt32 &&& Int32.toUInt32 31)).toInt32)) &&& 252645135) + (((((((a1 - (((a1.toUInt32 >>> ((1 : Int32).toUInt32 &&& Int32.toUInt32 31)).toInt32) &&& 1431655765)) &&& 858993459) + ((((a1 - (((a1.toUInt32 >>> ((1 : Int32).toUInt32 &&& Int32.toUInt32 31)).toInt32) &&& 1431655765)).toUInt32 >>> ((2 : Int32).toUInt32 &&& Int32.toUInt32 31)).toInt32) &&& 858993459)) + (((((a1 - (((a1.toUInt32 >>> ((1 : Int32).toUInt32 &&& Int32.toUInt32 31)).toInt32) &&& 1431655765)) &&& 858993459) + ((((a1 - (((a1.toUInt32 >>> ((1 : Int32).toUInt32 &&& Int32.toUInt32 31)).toInt32) &&& 1431655765)).toUInt32 >>> ((2 : Int32).toUInt32 &&& Int32.toUInt32 31)).toInt32) &&& 858993459)).toUInt32 >>> ((4 : Int32).toUInt32 &&& Int32.toUInt32 31)).toInt32)) &&& 252645135).toUInt32 >>> ((8 : Int32).toUInt32 &&& Int32.toUInt32 31)).toInt32)).toUInt32 >>> ((16 : Int32).toUInt32 &&& Int32.toUInt32 31)).toInt32)))]) (S' := [.int ((((((((a1 - (((a1.toUInt32 >>> ((1 : Int32).toUInt32 &&& Int32.toUInt32 31)).toInt32) &&& 1431655765)) &&& 858993459) + ((((a1 - (((a1.toUInt32 >>> ((1 : Int32).toUInt32 &&& Int32.toUInt32 31)).toInt32) &&& 1431655765)).toUInt32 >>> ((2 : Int32).toUInt32 &&& Int32.toUInt32 31)).toInt32) &&& 858993459)) + (((((a1 - (((a1.toUInt32 >>> ((1 : Int32).toUInt32 &&& Int32.toUInt32 31)).toInt32) &&& 1431655765)) &&& 858993459) + ((((a1 - (((a1.toUInt32 >>> ((1 : Int32).toUInt32 &&& Int32.toUInt32 31)).toInt32) &&& 1431655765)).toUInt32 >>> ((2 : Int32).toUInt32 &&& Int32.toUInt32 31)).toInt32) &&& 858993459)).toUInt32 >>> ((4 : Int32).toUInt32 &&& Int32.toUInt32 31)).toInt32)) &&& 252645135) + (((((((a1 - (((a1.toUInt32 >>> ((1 : Int32).toUInt32 &&& Int32.toUInt32 31)).toInt32) &&& 1431655765)) &&& 858993459) + ((((a1 - (((a1.toUInt32 >>> ((1 : Int32).toUInt32 &&& Int32.toUInt32 31)).toInt32) &&& 1431655765)).toUInt32 >>> ((2 : Int32).toUInt32 &&& Int32.toUInt32 31)).toInt32) &&& 858993459)) + (((((a1 - (((a1.toUInt32 >>> ((1 : Int32).toUInt32 &&& Int32.toUInt32 31)).toInt32) &&& 1431655765)) &&& 858993459) + ((((a1 - (((a1.toUInt32 >>> ((1 : Int32).toUInt32 &&& Int32.toUInt32 31)).toInt32) &&& 1431655765)).toUInt32 >>> ((2 : Int32).toUInt32 &&& Int32.toUInt32 31)).toInt32) &&& 858993459)).toUInt32 >>> ((4 : Int32).toUInt32 &&& Int32.toUInt32 31)).toInt32)) &&& 252645135).toUInt32 >>> ((8 : Int32).toUInt32 &&& Int32.toUInt32 31)).toInt32)) + ((((((((a1 - (((a1.toUInt32 >>> ((1 : Int32).toUInt32 &&& Int32.toUInt32 31)).toInt32) &&& 1431655765)) &&& 858993459) + ((((a1 - (((a1.toUInt32 >>> ((1 : Int32).toUInt32 &&& Int32.toUInt32 31)).toInt32) &&& 1431655765)).toUInt32 >>> ((2 : Int32).toUInt32 &&& Int32.toUInt32 31)).toInt32) &&& 858993459)) + (((((a1 - (((a1.toUInt32 >>> ((1 : Int32).toUInt32 &&& Int32.toUInt32 31)).toInt32) &&& 1431655765)) &&& 858993459) + ((((a1 - (((a1.toUInt32 >>> ((1 : Int32).toUInt32 &&& Int32.toUInt32 31)).toInt32) &&& 1431655765)).toUInt32 >>> ((2 : Int32).toUInt32 &&& Int32.toUInt32 31)).toInt32) &&& 858993459)).toUInt32 >>> ((4 : Int32).toUInt32 &&& Int32.toUInt32 31)).toInt32)) &&& 252645135) + (((((((a1 - (((a1.toUInt32 >>> ((1 : Int32).toUInt32 &&& Int32.toUInt32 31)).toInt32) &&& 1431655765)) &&& 858993459) + ((((a1 - (((a1.toUInt32 >>> ((1 : Int32).toUInt32 &&& Int32.toUInt32 31)).toInt32) &&& 1431655765)).toUInt32 >>> ((2 : Int32).toUInt32 &&& Int32.toUInt32 31)).toInt32) &&& 858993459)) + (((((a1 - (((a1.toUInt32 >>> ((1 : Int32).toUInt32 &&& Int32.toUInt32 31)).toInt32) &&& 1431655765)) &&& 858993459) + ((((a1 - (((a1.toUInt32 >>> ((1 : Int32).toUInt32 &&& Int32.toUInt32 31)).toInt32) &&& 1431655765)).toUInt32 >>> ((2 : Int32).toUInt32 &&& Int32.toUInt32 31)).toInt32) &&& 858993459)).toUInt32 >>> ((4 : Int32).toUInt32 &&& Int32.toUInt32 31)).toInt32)) &&& 252645135).toUInt32 >>> ((8 : Int32).toUInt32 &&& Int32.toUInt32 31)).toInt32)).toUInt32 >>> ((16 : Int32).toUInt32 &&& Int32.toUInt32 31)).toInt32)) &&& 63)]) (M' := sm g u) [pm_o .iand, pm_o (.istore_n 0), pm_o (.iload_n 0), pm_o (.iload_n 0), pm_oi (.bipush 8) 8, pm_o .iushr, pm_o .iadd, pm_o (.istore_n 0), pm_o (.iload_n 0), pm_o (.iload_n 0), pm_oi (.bipush 16) 16, pm_o .iushr, pm_o .iadd, pm_o (.istore_n 0), pm_o (.iload_n 0), pm_oi (.bipush 63) 63, pm_o .iand] (by decide +kernel) rfl ?_
  have h9 := Option.some.inj h
  subst h9
  exact pm_reti rfl (by decide +kernel) rfl rfl rfl
def K_Parser_countLeaf_28 (N : Nat) (g : pm_s) (u : pm_J) : Option (pm_J) := some (wi (wi u 39 14 ((u.1 39 14) + 1)) 39 11 ((u.1 39 11) + 1))
set_option maxHeartbeats 4000000 in
set_option maxRecDepth 100000 in
theorem w_Parser_countLeaf_28 (l : Launch) (h0 : Nat) (D : pm_D) {g : pm_s} (hT : sh_T g) {N : Nat} {u0 : pm_J} {out : pm_J} {p : Program} {e : Env} {R : Room} {s : State} {m : MethodId} {args : Array Value} {below : List Frame} {meth : Method} {c : Code} : ∀  (u : pm_J), K_Parser_countLeaf_28 N g u = some out → pm_V (p, l, e, R, s, m, args, below, meth, c) m_Parser_countLeaf h0 D (g.1, g.2.1, g.1, g.2.1, 1) (pm_E (p, l, e, R, s, m, args, below, meth, c) h0 D (sm g u0) none (sm g out)) 28 [(0, .ref 39)] [] (sm g u) := by
    intro u h
    unfold K_Parser_countLeaf_28 at h
    refine pm_blk (pc' := 48) (L' := [(0, .ref 39)]) (S' := []) (M' := sm g (wi (wi u 39 14 ((u.1 39 14) + 1)) 39 11 ((u.1 39 11) + 1))) [pm_o (.aload_n 0), pm_o .dup, pm_of (.getfield 156) 7 14 0, pm_oi (.iconst 1) 1, pm_o .iadd, pm_of (.putfield 156) 7 14 0, pm_o (.aload_n 0), pm_o .dup, pm_of (.getfield 47) 7 11 0, pm_oi (.iconst 1) 1, pm_o .iadd, pm_of (.putfield 47) 7 11 0] (by decide +kernel) rfl ?_
    have h9 := Option.some.inj h
    subst h9
    exact pm_retv rfl (by decide +kernel) rfl rfl
def F_Parser_countLeaf (N : Nat) (g : pm_s) (u : pm_J) : Option (pm_J) := if (u.1 39 14) < 100 then K_Parser_countLeaf_28 N g  u else (F_Tokens_placeOf (u.1 39 11) g u).bind fun q2 => (F_Fault_tell_3 4 q2 g u).bind fun q3 => K_Parser_countLeaf_28 N g  q3
set_option maxHeartbeats 4000000 in
set_option maxRecDepth 100000 in
theorem c_Parser_countLeaf (l : Launch) (h0 : Nat) (D : pm_D) {g : pm_s} {u : pm_J} (hT : sh_T g) {N : Nat} {out : pm_J} (h : F_Parser_countLeaf N g u = some out) : pm_C l h0 D m_Parser_countLeaf (1) [.ref 39] (sm g u) none (sm g out) := by
  unfold F_Parser_countLeaf at h
  refine pm_met (by decide +kernel) (Nat.le_of_ble_eq_true rfl) (Nat.le_refl _) (Nat.le_refl _) ?_
  intro p e R s m args below meth c
  refine pm_blk (pc' := 6) (L' := [(0, .ref 39)]) (S' := [.int 100, .int (u.1 39 14)]) (M' := sm g u) [pm_o (.aload_n 0), pm_of (.getfield 156) 7 14 0, pm_oi (.bipush 100) 100] (by decide +kernel) rfl ?_
  refine pm_ic_lt (off := 22) 28 (by decide +kernel) (by decide) (fun hc1 => ?_) (fun hc1 => ?_)
  · rw [if_pos hc1] at h
    refine pm_loc [0] rfl ?_
    exact w_Parser_countLeaf_28 l h0 D hT  u h
  · rw [if_neg hc1] at h
    refine pm_blk (pc' := 22) (L' := [(0, .ref 39)]) (S' := [.int (u.1 39 11), .ref 5, .int 4, .ref 3]) (M' := sm g u) [pm_o (.aload_n 0), pm_of (.getfield 27) 7 4 2, pm_oi (.iconst 4) 4, pm_o (.aload_n 0), pm_of (.getfield 9) 7 0 2, pm_o (.aload_n 0), pm_of (.getfield 47) 7 11 0] (by decide +kernel) rfl ?_
    obtain ⟨q2, hq2, h⟩ := pm_bd h
    refine pm_cV (idx := 89) m_Tokens_placeOf (c_Tokens_placeOf l h0 D hT hq2) (As := [.int (u.1 39 11)]) (S0 := [.int 4, .ref 3]) rfl (by decide +kernel) k_Tokens_placeOf l_Parser_89 (Nat.le_of_ble_eq_true rfl) (Nat.le_of_ble_eq_true rfl) (Nat.le_refl _) (Nat.le_refl _) ?_
    refine pm_blk (pc' := 25) (L' := [(0, .ref 39)]) (S' := [.int q2, .int 4, .ref 3]) (M' := sm g u) [] (by decide +kernel) rfl ?_
    obtain ⟨q3, hq3, h⟩ := pm_bd h
    refine pm_cV (idx := 69) m_Fault_tell (c_Fault_tell_3 l h0 D hT hq3) (As := [.int 4, .int q2]) (S0 := []) rfl (by decide +kernel) k_Fault_tell l_Parser_69 (Nat.le_of_ble_eq_true rfl) (Nat.le_of_ble_eq_true rfl) (Nat.le_refl _) (Nat.le_refl _) ?_
    refine pm_blk (pc' := 28) (L' := [(0, .ref 39)]) (S' := []) (M' := sm g q3) [] (by decide +kernel) rfl ?_
    refine pm_loc [0] rfl ?_
    exact w_Parser_countLeaf_28 l h0 D hT  q3 h
def F_Parser_readLetter (N : Nat) (a1 : Int32) (g : pm_s) (u : pm_J) : Option (Int32 × pm_J) := (F_Tokens_value (u.1 39 11) g u).bind fun q1 => if a1 = 0 then if ((u.1 39 13) &&& ((1 : Int32) <<< (q1.toInt32 &&& 31))) = 0 then (F_Parser_here g u).bind fun q6 => (F_Fault_tell_4 5 q6 g u).bind fun q7 => (F_Parser_countLeaf N g q7).bind fun q8 => (F_Types_letter q1.toInt32 g q8).bind fun q9 => some (q9, q8) else (F_Parser_countLeaf N g u).bind fun q4 => (F_Types_letter q1.toInt32 g q4).bind fun q5 => some (q5, q4) else (F_Parser_countLeaf N g (wi u 39 13 ((u.1 39 13) ||| ((1 : Int32) <<< (q1.toInt32 &&& 31))))).bind fun q10 => (F_Types_letter q1.toInt32 g q10).bind fun q11 => some (q11, q10)
set_option maxHeartbeats 4000000 in
set_option maxRecDepth 100000 in
theorem c_Parser_readLetter (l : Launch) (h0 : Nat) (D : pm_D) {g : pm_s} {u : pm_J} (hT : sh_T g) {N : Nat} {a1 : Int32} {out : Int32 × pm_J} (h : F_Parser_readLetter N a1 g u = some out) : pm_C l h0 D m_Parser_readLetter (2) [.ref 39, .int a1] (sm g u) (some (.int out.1)) (sm g out.2) := by
  unfold F_Parser_readLetter at h
  refine pm_met (by decide +kernel) (Nat.le_of_ble_eq_true rfl) (Nat.le_refl _) (Nat.le_refl _) ?_
  intro p e R s m args below meth c
  refine pm_blk (pc' := 8) (L' := [(0, .ref 39), (1, .int a1)]) (S' := [.int (u.1 39 11), .ref 5]) (M' := sm g u) [pm_o (.aload_n 0), pm_of (.getfield 9) 7 0 2, pm_o (.aload_n 0), pm_of (.getfield 47) 7 11 0] (by decide +kernel) rfl ?_
  obtain ⟨q1, hq1, h⟩ := pm_bd h
  refine pm_cV (idx := 81) m_Tokens_value (c_Tokens_value l h0 D hT hq1) (As := [.int (u.1 39 11)]) (S0 := []) rfl (by decide +kernel) k_Tokens_value l_Parser_81 (Nat.le_of_ble_eq_true rfl) (Nat.le_of_ble_eq_true rfl) (Nat.le_refl _) (Nat.le_refl _) ?_
  refine pm_blk (pc' := 18) (L' := [(3, .int ((1 : Int32) <<< (q1.toInt32 &&& 31))), (2, .int q1.toInt32), (0, .ref 39), (1, .int a1)]) (S' := [.int a1]) (M' := sm g u) [pm_o .l2i, pm_o (.istore_n 2), pm_oi (.iconst 1) 1, pm_o (.iload_n 2), pm_o .ishl, pm_o (.istore_n 3), pm_o (.iload_n 1)] (by decide +kernel) rfl ?_
  refine pm_if_eq (off := 16) 34 (by decide +kernel) (by decide) (fun hc2 => ?_) (fun hc2 => ?_)
  · rw [if_pos hc2] at h
    refine pm_blk (pc' := 40) (L' := [(3, .int ((1 : Int32) <<< (q1.toInt32 &&& 31))), (2, .int q1.toInt32), (0, .ref 39), (1, .int a1)]) (S' := [.int ((u.1 39 13) &&& ((1 : Int32) <<< (q1.toInt32 &&& 31)))]) (M' := sm g u) [pm_o (.aload_n 0), pm_of (.getfield 103) 7 13 0, pm_o (.iload_n 3), pm_o .iand] (by decide +kernel) rfl ?_
    refine pm_if_ne (off := 15) 55 (by decide +kernel) (by decide) (fun hc3 => ?_) (fun hc3 => ?_)
    · rw [if_neg hc3] at h
      refine pm_blk (pc' := 56) (L' := [(3, .int ((1 : Int32) <<< (q1.toInt32 &&& 31))), (2, .int q1.toInt32), (0, .ref 39), (1, .int a1)]) (S' := [.ref 39]) (M' := sm g u) [pm_o (.aload_n 0)] (by decide +kernel) rfl ?_
      obtain ⟨q4, hq4, h⟩ := pm_bd h
      refine pm_cV (idx := 180) m_Parser_countLeaf (c_Parser_countLeaf l h0 D hT hq4) (As := []) (S0 := []) rfl (by decide +kernel) k_Parser_countLeaf l_Parser_180 (Nat.le_of_ble_eq_true rfl) (Nat.le_of_ble_eq_true rfl) (Nat.le_refl _) (Nat.le_refl _) ?_
      refine pm_blk (pc' := 64) (L' := [(3, .int ((1 : Int32) <<< (q1.toInt32 &&& 31))), (2, .int q1.toInt32), (0, .ref 39), (1, .int a1)]) (S' := [.int q1.toInt32, .ref 10]) (M' := sm g q4) [pm_o (.aload_n 0), pm_of (.getfield 15) 7 1 2, pm_o (.iload_n 2)] (by decide +kernel) rfl ?_
      obtain ⟨q5, hq5, h⟩ := pm_bd h
      refine pm_cV (idx := 187) m_Types_letter (c_Types_letter l h0 D hT hq5) (As := [.int q1.toInt32]) (S0 := []) rfl (by decide +kernel) k_Types_letter l_Parser_187 (Nat.le_of_ble_eq_true rfl) (Nat.le_of_ble_eq_true rfl) (Nat.le_refl _) (Nat.le_refl _) ?_
      refine pm_blk (pc' := 67) (L' := [(3, .int ((1 : Int32) <<< (q1.toInt32 &&& 31))), (2, .int q1.toInt32), (0, .ref 39), (1, .int a1)]) (S' := [.int q5]) (M' := sm g q4) [] (by decide +kernel) rfl ?_
      have h9 := Option.some.inj h
      subst h9
      exact pm_reti rfl (by decide +kernel) rfl rfl rfl
    · rw [if_pos hc3] at h
      refine pm_blk (pc' := 49) (L' := [(3, .int ((1 : Int32) <<< (q1.toInt32 &&& 31))), (2, .int q1.toInt32), (0, .ref 39), (1, .int a1)]) (S' := [.ref 39, .int 5, .ref 4]) (M' := sm g u) [pm_o (.aload_n 0), pm_of (.getfield 31) 7 5 2, pm_oi (.iconst 5) 5, pm_o (.aload_n 0)] (by decide +kernel) rfl ?_
      obtain ⟨q6, hq6, h⟩ := pm_bd h
      refine pm_cV (idx := 66) m_Parser_here (c_Parser_here l h0 D hT hq6) (As := []) (S0 := [.int 5, .ref 4]) rfl (by decide +kernel) k_Parser_here l_Parser_66 (Nat.le_of_ble_eq_true rfl) (Nat.le_of_ble_eq_true rfl) (Nat.le_refl _) (Nat.le_refl _) ?_
      refine pm_blk (pc' := 52) (L' := [(3, .int ((1 : Int32) <<< (q1.toInt32 &&& 31))), (2, .int q1.toInt32), (0, .ref 39), (1, .int a1)]) (S' := [.int q6, .int 5, .ref 4]) (M' := sm g u) [] (by decide +kernel) rfl ?_
      obtain ⟨q7, hq7, h⟩ := pm_bd h
      refine pm_cV (idx := 69) m_Fault_tell (c_Fault_tell_4 l h0 D hT hq7) (As := [.int 5, .int q6]) (S0 := []) rfl (by decide +kernel) k_Fault_tell l_Parser_69 (Nat.le_of_ble_eq_true rfl) (Nat.le_of_ble_eq_true rfl) (Nat.le_refl _) (Nat.le_refl _) ?_
      refine pm_blk (pc' := 56) (L' := [(3, .int ((1 : Int32) <<< (q1.toInt32 &&& 31))), (2, .int q1.toInt32), (0, .ref 39), (1, .int a1)]) (S' := [.ref 39]) (M' := sm g q7) [pm_o (.aload_n 0)] (by decide +kernel) rfl ?_
      obtain ⟨q8, hq8, h⟩ := pm_bd h
      refine pm_cV (idx := 180) m_Parser_countLeaf (c_Parser_countLeaf l h0 D hT hq8) (As := []) (S0 := []) rfl (by decide +kernel) k_Parser_countLeaf l_Parser_180 (Nat.le_of_ble_eq_true rfl) (Nat.le_of_ble_eq_true rfl) (Nat.le_refl _) (Nat.le_refl _) ?_
      refine pm_blk (pc' := 64) (L' := [(3, .int ((1 : Int32) <<< (q1.toInt32 &&& 31))), (2, .int q1.toInt32), (0, .ref 39), (1, .int a1)]) (S' := [.int q1.toInt32, .ref 10]) (M' := sm g q8) [pm_o (.aload_n 0), pm_of (.getfield 15) 7 1 2, pm_o (.iload_n 2)] (by decide +kernel) rfl ?_
      obtain ⟨q9, hq9, h⟩ := pm_bd h
      refine pm_cV (idx := 187) m_Types_letter (c_Types_letter l h0 D hT hq9) (As := [.int q1.toInt32]) (S0 := []) rfl (by decide +kernel) k_Types_letter l_Parser_187 (Nat.le_of_ble_eq_true rfl) (Nat.le_of_ble_eq_true rfl) (Nat.le_refl _) (Nat.le_refl _) ?_
      refine pm_blk (pc' := 67) (L' := [(3, .int ((1 : Int32) <<< (q1.toInt32 &&& 31))), (2, .int q1.toInt32), (0, .ref 39), (1, .int a1)]) (S' := [.int q9]) (M' := sm g q8) [] (by decide +kernel) rfl ?_
      have h9 := Option.some.inj h
      subst h9
      exact pm_reti rfl (by decide +kernel) rfl rfl rfl
  · rw [if_neg hc2] at h
    refine pm_blk (pc' := 31) (L' := [(3, .int ((1 : Int32) <<< (q1.toInt32 &&& 31))), (2, .int q1.toInt32), (0, .ref 39), (1, .int a1)]) (S' := []) (M' := sm g (wi u 39 13 ((u.1 39 13) ||| ((1 : Int32) <<< (q1.toInt32 &&& 31))))) [pm_o (.aload_n 0), pm_o .dup, pm_of (.getfield 103) 7 13 0, pm_o (.iload_n 3), pm_o .ior, pm_of (.putfield 103) 7 13 0] (by decide +kernel) rfl ?_
    refine pm_goto (off := 24) 55 (by decide +kernel) (by decide) ?_
    refine pm_blk (pc' := 56) (L' := [(3, .int ((1 : Int32) <<< (q1.toInt32 &&& 31))), (2, .int q1.toInt32), (0, .ref 39), (1, .int a1)]) (S' := [.ref 39]) (M' := sm g (wi u 39 13 ((u.1 39 13) ||| ((1 : Int32) <<< (q1.toInt32 &&& 31))))) [pm_o (.aload_n 0)] (by decide +kernel) rfl ?_
    obtain ⟨q10, hq10, h⟩ := pm_bd h
    refine pm_cV (idx := 180) m_Parser_countLeaf (c_Parser_countLeaf l h0 D hT hq10) (As := []) (S0 := []) rfl (by decide +kernel) k_Parser_countLeaf l_Parser_180 (Nat.le_of_ble_eq_true rfl) (Nat.le_of_ble_eq_true rfl) (Nat.le_refl _) (Nat.le_refl _) ?_
    refine pm_blk (pc' := 64) (L' := [(3, .int ((1 : Int32) <<< (q1.toInt32 &&& 31))), (2, .int q1.toInt32), (0, .ref 39), (1, .int a1)]) (S' := [.int q1.toInt32, .ref 10]) (M' := sm g q10) [pm_o (.aload_n 0), pm_of (.getfield 15) 7 1 2, pm_o (.iload_n 2)] (by decide +kernel) rfl ?_
    obtain ⟨q11, hq11, h⟩ := pm_bd h
    refine pm_cV (idx := 187) m_Types_letter (c_Types_letter l h0 D hT hq11) (As := [.int q1.toInt32]) (S0 := []) rfl (by decide +kernel) k_Types_letter l_Parser_187 (Nat.le_of_ble_eq_true rfl) (Nat.le_of_ble_eq_true rfl) (Nat.le_refl _) (Nat.le_refl _) ?_
    refine pm_blk (pc' := 67) (L' := [(3, .int ((1 : Int32) <<< (q1.toInt32 &&& 31))), (2, .int q1.toInt32), (0, .ref 39), (1, .int a1)]) (S' := [.int q11]) (M' := sm g q10) [] (by decide +kernel) rfl ?_
    have h9 := Option.some.inj h
    subst h9
    exact pm_reti rfl (by decide +kernel) rfl rfl rfl
def F_Parser_readBase (N : Nat) (r_Parser_readType : Int32 → Int32 → pm_s → pm_J → Option (Int32 × pm_s × pm_J)) (a1 : Int32) (a2 : Int32) (g : pm_s) (u : pm_J) : Option (Int32 × pm_s × pm_J) := pm_S g ((F_Parser_kind g u).bind fun q1 => if q1 = 4 then (F_Parser_readLetter N a2 g u).bind fun q3 => some (q3.1, g, q3.2) else if q1 = 5 then (F_Parser_countLeaf N g u).bind fun q5 => some (0, g, q5) else if q1 = 6 then (F_Parser_countLeaf N g u).bind fun q7 => some (1, g, q7) else if q1 = 15 then (r_Parser_readType (a1 + 1) a2 g (wi u 39 11 ((u.1 39 11) + 1))).bind fun q9 => if sh_Tb q9.2.1 = true then pm_S q9.2.1 ((F_Parser_expect 16 q9.2.1 q9.2.2).bind fun q12 => some (q9.1, q9.2.1, q12)) else none else (F_Parser_here g u).bind fun q13 => (F_Fault_tell_3 2 q13 g u).bind fun q14 => some ((-1), g, q14))
set_option maxHeartbeats 4000000 in
set_option maxRecDepth 100000 in
theorem c_Parser_readBase (l : Launch) (h0 : Nat) (D : pm_D) {g : pm_s} {u : pm_J} (hT : sh_T g) {N : Nat} {r_Parser_readType : Int32 → Int32 → pm_s → pm_J → Option (Int32 × pm_s × pm_J)} {dR_Parser_readType : Nat} (hdR_Parser_readType : 3 ≤ dR_Parser_readType) (hr_Parser_readType : ∀ {a1 : Int32} {a2 : Int32} {g : pm_s} {u : pm_J} {out : Int32 × pm_s × pm_J}, sh_T g → r_Parser_readType a1 a2 g u = some out → pm_C l h0 D m_Parser_readType dR_Parser_readType [.ref 39, .int a1, .int a2] (sm g u) (some (.int out.1)) (sm out.2.1 out.2.2)) {a1 : Int32} {a2 : Int32} {out : Int32 × pm_s × pm_J} (h : F_Parser_readBase N r_Parser_readType a1 a2 g u = some out) : pm_C l h0 D m_Parser_readBase (dR_Parser_readType + 1) [.ref 39, .int a1, .int a2] (sm g u) (some (.int out.1)) (sm out.2.1 out.2.2) := by
  unfold F_Parser_readBase at h
  obtain ⟨h, hle⟩ := pm_Ss h
  refine pm_met (by decide +kernel) (Nat.le_of_ble_eq_true rfl) hle.1 hle.2 ?_
  intro p e R s m args below meth c
  refine pm_blk (pc' := 1) (L' := [(0, .ref 39), (1, .int a1), (2, .int a2)]) (S' := [.ref 39]) (M' := sm g u) [pm_o (.aload_n 0)] (by decide +kernel) rfl ?_
  obtain ⟨q1, hq1, h⟩ := pm_bd h
  refine pm_cV (idx := 57) m_Parser_kind (c_Parser_kind l h0 D hT hq1) (As := []) (S0 := []) rfl (by decide +kernel) k_Parser_kind l_Parser_57 (show 1 + 1 ≤ dR_Parser_readType + 1 by omega) (Nat.le_of_ble_eq_true rfl) hle.1 hle.2 ?_
  refine pm_blk (pc' := 4) (L' := [(0, .ref 39), (1, .int a1), (2, .int a2)]) (S' := [.int q1]) (M' := sm g u) [] (by decide +kernel) rfl ?_
  refine pm_lsw (dflt := 89) (prs := #[(4, 56), (5, 44), (6, 50), (15, 62)]) (len := 44) [(4, 60), (5, 48), (6, 54), (15, 66)] 93 (by decide +kernel) (by decide +kernel) (by decide +kernel) ?_
  by_cases hs2 : q1 = 4
  · rw [if_pos hs2] at h
    rw [pm_sw_pos hs2]
    refine pm_blk (pc' := 62) (L' := [(0, .ref 39), (1, .int a1), (2, .int a2)]) (S' := [.int a2, .ref 39]) (M' := sm g u) [pm_o (.aload_n 0), pm_o (.iload_n 2)] (by decide +kernel) rfl ?_
    obtain ⟨q3, hq3, h⟩ := pm_bd h
    refine pm_cV (idx := 183) m_Parser_readLetter (c_Parser_readLetter l h0 D hT hq3) (As := [.int a2]) (S0 := []) rfl (by decide +kernel) k_Parser_readLetter l_Parser_183 (show 2 + 1 ≤ dR_Parser_readType + 1 by omega) (Nat.le_of_ble_eq_true rfl) hle.1 hle.2 ?_
    refine pm_blk (pc' := 65) (L' := [(0, .ref 39), (1, .int a1), (2, .int a2)]) (S' := [.int q3.1]) (M' := sm g q3.2) [] (by decide +kernel) rfl ?_
    have h9 := Option.some.inj h
    subst h9
    exact pm_reti rfl (by decide +kernel) rfl rfl rfl
  rw [if_neg hs2] at h
  rw [pm_sw_neg hs2]
  by_cases hs4 : q1 = 5
  · rw [if_pos hs4] at h
    rw [pm_sw_pos hs4]
    refine pm_blk (pc' := 49) (L' := [(0, .ref 39), (1, .int a1), (2, .int a2)]) (S' := [.ref 39]) (M' := sm g u) [pm_o (.aload_n 0)] (by decide +kernel) rfl ?_
    obtain ⟨q5, hq5, h⟩ := pm_bd h
    refine pm_cV (idx := 180) m_Parser_countLeaf (c_Parser_countLeaf l h0 D hT hq5) (As := []) (S0 := []) rfl (by decide +kernel) k_Parser_countLeaf l_Parser_180 (show 1 + 1 ≤ dR_Parser_readType + 1 by omega) (Nat.le_of_ble_eq_true rfl) hle.1 hle.2 ?_
    refine pm_blk (pc' := 53) (L' := [(0, .ref 39), (1, .int a1), (2, .int a2)]) (S' := [.int 0]) (M' := sm g q5) [pm_oi (.iconst 0) 0] (by decide +kernel) rfl ?_
    have h9 := Option.some.inj h
    subst h9
    exact pm_reti rfl (by decide +kernel) rfl rfl rfl
  rw [if_neg hs4] at h
  rw [pm_sw_neg hs4]
  by_cases hs6 : q1 = 6
  · rw [if_pos hs6] at h
    rw [pm_sw_pos hs6]
    refine pm_blk (pc' := 55) (L' := [(0, .ref 39), (1, .int a1), (2, .int a2)]) (S' := [.ref 39]) (M' := sm g u) [pm_o (.aload_n 0)] (by decide +kernel) rfl ?_
    obtain ⟨q7, hq7, h⟩ := pm_bd h
    refine pm_cV (idx := 180) m_Parser_countLeaf (c_Parser_countLeaf l h0 D hT hq7) (As := []) (S0 := []) rfl (by decide +kernel) k_Parser_countLeaf l_Parser_180 (show 1 + 1 ≤ dR_Parser_readType + 1 by omega) (Nat.le_of_ble_eq_true rfl) hle.1 hle.2 ?_
    refine pm_blk (pc' := 59) (L' := [(0, .ref 39), (1, .int a1), (2, .int a2)]) (S' := [.int 1]) (M' := sm g q7) [pm_oi (.iconst 1) 1] (by decide +kernel) rfl ?_
    have h9 := Option.some.inj h
    subst h9
    exact pm_reti rfl (by decide +kernel) rfl rfl rfl
  rw [if_neg hs6] at h
  rw [pm_sw_neg hs6]
  by_cases hs8 : q1 = 15
  · rw [if_pos hs8] at h
    rw [pm_sw_pos hs8]
    refine pm_blk (pc' := 81) (L' := [(0, .ref 39), (1, .int a1), (2, .int a2)]) (S' := [.int a2, .int (a1 + 1), .ref 39]) (M' := sm g (wi u 39 11 ((u.1 39 11) + 1))) [pm_o (.aload_n 0), pm_o .dup, pm_of (.getfield 47) 7 11 0, pm_oi (.iconst 1) 1, pm_o .iadd, pm_of (.putfield 47) 7 11 0, pm_o (.aload_n 0), pm_o (.iload_n 1), pm_oi (.iconst 1) 1, pm_o .iadd, pm_o (.iload_n 2)] (by decide +kernel) rfl ?_
    obtain ⟨q9, hq9, h⟩ := pm_bd h
    obtain ⟨hu10, h⟩ := pm_ifs h
    obtain ⟨h, hl11⟩ := pm_Ss h
    refine pm_cV (idx := 118) m_Parser_readType (hr_Parser_readType hT hq9) (As := [.int (a1 + 1), .int a2]) (S0 := []) rfl (by decide +kernel) k_Parser_readType l_Parser_118 (show dR_Parser_readType + 1 ≤ dR_Parser_readType + 1 by omega) (Nat.le_of_ble_eq_true rfl) hl11.1 hl11.2 ?_
    refine pm_blk (pc' := 88) (L' := [(3, .int q9.1), (0, .ref 39), (1, .int a1), (2, .int a2)]) (S' := [.int 16, .ref 39]) (M' := sm q9.2.1 q9.2.2) [pm_o (.istore_n 3), pm_o (.aload_n 0), pm_oi (.bipush 16) 16] (by decide +kernel) rfl ?_
    obtain ⟨q12, hq12, h⟩ := pm_bd h
    refine pm_cV (idx := 73) m_Parser_expect (c_Parser_expect l h0 D (sh_Tb_s hu10) hq12) (As := [.int 16]) (S0 := []) rfl (by decide +kernel) k_Parser_expect l_Parser_73 (show 2 + 1 ≤ dR_Parser_readType + 1 by omega) (Nat.le_of_ble_eq_true rfl) hl11.1 hl11.2 ?_
    refine pm_blk (pc' := 92) (L' := [(3, .int q9.1), (0, .ref 39), (1, .int a1), (2, .int a2)]) (S' := [.int q9.1]) (M' := sm q9.2.1 q12) [pm_o (.iload_n 3)] (by decide +kernel) rfl ?_
    have h9 := Option.some.inj h
    subst h9
    exact pm_reti rfl (by decide +kernel) rfl rfl rfl
  rw [if_neg hs8] at h
  rw [pm_sw_neg hs8]
  refine pm_pc (pc' := 93) rfl ?_
  refine pm_blk (pc' := 99) (L' := [(0, .ref 39), (1, .int a1), (2, .int a2)]) (S' := [.ref 39, .int 2, .ref 3]) (M' := sm g u) [pm_o (.aload_n 0), pm_of (.getfield 27) 7 4 2, pm_oi (.iconst 2) 2, pm_o (.aload_n 0)] (by decide +kernel) rfl ?_
  obtain ⟨q13, hq13, h⟩ := pm_bd h
  refine pm_cV (idx := 66) m_Parser_here (c_Parser_here l h0 D hT hq13) (As := []) (S0 := [.int 2, .ref 3]) rfl (by decide +kernel) k_Parser_here l_Parser_66 (show 1 + 1 ≤ dR_Parser_readType + 1 by omega) (Nat.le_of_ble_eq_true rfl) hle.1 hle.2 ?_
  refine pm_blk (pc' := 102) (L' := [(0, .ref 39), (1, .int a1), (2, .int a2)]) (S' := [.int q13, .int 2, .ref 3]) (M' := sm g u) [] (by decide +kernel) rfl ?_
  obtain ⟨q14, hq14, h⟩ := pm_bd h
  refine pm_cV (idx := 69) m_Fault_tell (c_Fault_tell_3 l h0 D hT hq14) (As := [.int 2, .int q13]) (S0 := []) rfl (by decide +kernel) k_Fault_tell l_Parser_69 (show 0 + 1 ≤ dR_Parser_readType + 1 by omega) (Nat.le_of_ble_eq_true rfl) hle.1 hle.2 ?_
  refine pm_blk (pc' := 106) (L' := [(0, .ref 39), (1, .int a1), (2, .int a2)]) (S' := [.int (-1)]) (M' := sm g q14) [pm_oi (.iconst (-1)) (-1)] (by decide +kernel) rfl ?_
  have h9 := Option.some.inj h
  subst h9
  exact pm_reti rfl (by decide +kernel) rfl rfl rfl
def F_Parser_pushBase (a1 : Int32) (g : pm_s) (u : pm_J) : Option (pm_J) := if 200 ≤ (u.1 39 10) then some u else if pm_ok (u.1 39 10) 200 = true then some (wi (wi u 42 ((u.1 39 10).toNatClampNeg) a1) 39 10 ((u.1 39 10) + 1)) else none
set_option maxHeartbeats 4000000 in
set_option maxRecDepth 100000 in
theorem c_Parser_pushBase (l : Launch) (h0 : Nat) (D : pm_D) {g : pm_s} {u : pm_J} (hT : sh_T g) {a1 : Int32} {out : pm_J} (h : F_Parser_pushBase a1 g u = some out) : pm_C l h0 D m_Parser_pushBase (0) [.ref 39, .int a1] (sm g u) none (sm g out) := by
  unfold F_Parser_pushBase at h
  refine pm_met (by decide +kernel) (Nat.le_of_ble_eq_true rfl) (Nat.le_refl _) (Nat.le_refl _) ?_
  intro p e R s m args below meth c
  refine pm_blk (pc' := 7) (L' := [(0, .ref 39), (1, .int a1)]) (S' := [.int 200, .int (u.1 39 10)]) (M' := sm g u) [pm_o (.aload_n 0), pm_of (.getfield 159) 7 10 0, pm_oi (.sipush 200) 200] (by decide +kernel) rfl ?_
  refine pm_ic_ge (off := 23) 30 (by decide +kernel) (by decide) (fun hc1 => ?_) (fun hc1 => ?_)
  · rw [if_pos hc1] at h
    have h9 := Option.some.inj h
    subst h9
    exact pm_retv rfl (by decide +kernel) rfl rfl
  · rw [if_neg hc1] at h
    refine pm_blk (pc' := 19) (L' := [(0, .ref 39), (1, .int a1)]) (S' := [.int a1, .int (u.1 39 10), .ref 42]) (M' := sm g u) [pm_o (.aload_n 0), pm_of (.getfield 44) 7 9 2, pm_o (.aload_n 0), pm_of (.getfield 159) 7 10 0, pm_o (.iload_n 1)] (by decide +kernel) rfl ?_
    obtain ⟨ho2, h⟩ := pm_ifs h
    refine pm_iast (by decide +kernel) rfl  (pm_ok_in ho2) ?_
    refine pm_blk (pc' := 30) (L' := [(0, .ref 39), (1, .int a1)]) (S' := []) (M' := sm g (wi (wi u 42 ((u.1 39 10).toNatClampNeg) a1) 39 10 ((u.1 39 10) + 1))) [pm_o (.aload_n 0), pm_o .dup, pm_of (.getfield 159) 7 10 0, pm_oi (.iconst 1) 1, pm_o .iadd, pm_of (.putfield 159) 7 10 0] (by decide +kernel) rfl ?_
    have h9 := Option.some.inj h
    subst h9
    exact pm_retv rfl (by decide +kernel) rfl rfl
def F_Parser_popBase (g : pm_s) (u : pm_J) : Option (Int32 × pm_J) := if 1 ≤ (u.1 39 10) then if pm_ok ((u.1 39 10) - 1) 200 = true then some (u.1 42 (((u.1 39 10) - 1).toNatClampNeg), (wi u 39 10 ((u.1 39 10) - 1))) else none else some ((-1), u)
set_option maxHeartbeats 4000000 in
set_option maxRecDepth 100000 in
theorem c_Parser_popBase (l : Launch) (h0 : Nat) (D : pm_D) {g : pm_s} {u : pm_J} (hT : sh_T g) {out : Int32 × pm_J} (h : F_Parser_popBase g u = some out) : pm_C l h0 D m_Parser_popBase (0) [.ref 39] (sm g u) (some (.int out.1)) (sm g out.2) := by
  unfold F_Parser_popBase at h
  refine pm_met (by decide +kernel) (Nat.le_of_ble_eq_true rfl) (Nat.le_refl _) (Nat.le_refl _) ?_
  intro p e R s m args below meth c
  refine pm_blk (pc' := 5) (L' := [(0, .ref 39)]) (S' := [.int 1, .int (u.1 39 10)]) (M' := sm g u) [pm_o (.aload_n 0), pm_of (.getfield 159) 7 10 0, pm_oi (.iconst 1) 1] (by decide +kernel) rfl ?_
  refine pm_ic_ge (off := 5) 10 (by decide +kernel) (by decide) (fun hc1 => ?_) (fun hc1 => ?_)
  · rw [if_pos hc1] at h
    refine pm_blk (pc' := 28) (L' := [(0, .ref 39)]) (S' := [.int ((u.1 39 10) - 1), .ref 42]) (M' := sm g (wi u 39 10 ((u.1 39 10) - 1))) [pm_o (.aload_n 0), pm_o .dup, pm_of (.getfield 159) 7 10 0, pm_oi (.iconst 1) 1, pm_o .isub, pm_of (.putfield 159) 7 10 0, pm_o (.aload_n 0), pm_of (.getfield 44) 7 9 2, pm_o (.aload_n 0), pm_of (.getfield 159) 7 10 0] (by decide +kernel) rfl ?_
    obtain ⟨ho2, h⟩ := pm_ifs h
    refine pm_iald (by decide +kernel) rfl (pm_ok_in ho2) ?_
    refine pm_blk (pc' := 29) (L' := [(0, .ref 39)]) (S' := [.int (u.1 42 (((u.1 39 10) - 1).toNatClampNeg))]) (M' := sm g (wi u 39 10 ((u.1 39 10) - 1))) [] (by decide +kernel) rfl ?_
    have h9 := Option.some.inj h
    subst h9
    exact pm_reti rfl (by decide +kernel) rfl rfl rfl
  · rw [if_neg hc1] at h
    refine pm_blk (pc' := 9) (L' := [(0, .ref 39)]) (S' := [.int (-1)]) (M' := sm g u) [pm_oi (.iconst (-1)) (-1)] (by decide +kernel) rfl ?_
    have h9 := Option.some.inj h
    subst h9
    exact pm_reti rfl (by decide +kernel) rfl rfl rfl
def K_Parser_readPart_91 (N : Nat) (r_Parser_readType : Int32 → Int32 → pm_s → pm_J → Option (Int32 × pm_s × pm_J)) : Nat → Int32 → Int32 → Int32 → pm_s → pm_J → Option (Int32 × pm_s × pm_J)
  | 0, _, _, _, _, _ => none
  | n + 1, x3, x4, x5, g, u => if 8 ≤ x5 then some (x4, g, u) else if (u.1 39 10) ≤ x3 then some (x4, g, u) else (F_Parser_popBase g u).bind fun q9 => (F_Types_make N 3 q9.1 x4 g q9.2).bind fun q10 => if sh_Tb q10.2.1 = true then pm_S q10.2.1 (K_Parser_readPart_91 N r_Parser_readType  n x3 q10.1 (x5 + 1) q10.2.1 q10.2.2) else none
set_option maxHeartbeats 4000000 in
set_option maxRecDepth 100000 in
theorem w_Parser_readPart_91 (l : Launch) (h0 : Nat) (D : pm_D) {N : Nat} {r_Parser_readType : Int32 → Int32 → pm_s → pm_J → Option (Int32 × pm_s × pm_J)} {dR_Parser_readType : Nat} (hdR_Parser_readType : 3 ≤ dR_Parser_readType) (hr_Parser_readType : ∀ {a1 : Int32} {a2 : Int32} {g : pm_s} {u : pm_J} {out : Int32 × pm_s × pm_J}, sh_T g → r_Parser_readType a1 a2 g u = some out → pm_C l h0 D m_Parser_readType dR_Parser_readType [.ref 39, .int a1, .int a2] (sm g u) (some (.int out.1)) (sm out.2.1 out.2.2)) {g0 : pm_s} {u0 : pm_J} {out : Int32 × pm_s × pm_J} {p : Program} {e : Env} {R : Room} {s : State} {m : MethodId} {args : Array Value} {below : List Frame} {meth : Method} {c : Code} : ∀ (n : Nat) (x3 : Int32) (x4 : Int32) (x5 : Int32) (g : pm_s) (u : pm_J) (hT : sh_T g) (hle : g.1 ≤ out.2.1.1 ∧ g.2.1 ≤ out.2.1.2.1), K_Parser_readPart_91 N r_Parser_readType n x3 x4 x5 g u = some out → pm_V (p, l, e, R, s, m, args, below, meth, c) m_Parser_readPart h0 D (g0.1, g0.2.1, out.2.1.1, out.2.1.2.1, dR_Parser_readType + 2) (pm_E (p, l, e, R, s, m, args, below, meth, c) h0 D (sm g0 u0) (some (.int out.1)) (sm out.2.1 out.2.2)) 91 [(0, .ref 39), (3, .int x3), (4, .int x4), (5, .int x5)] [] (sm g u) := by
  intro n
  induction n with
  | zero => intro x3 x4 x5 g u hT hle h; cases h
  | succ n ih =>
    intro x3 x4 x5 g u hT hle h
    rw [K_Parser_readPart_91] at h
    refine pm_blk (pc' := 95) (L' := [(0, .ref 39), (3, .int x3), (4, .int x4), (5, .int x5)]) (S' := [.int 8, .int x5]) (M' := sm g u) [pm_o (.iload 5), pm_oi (.bipush 8) 8] (by decide +kernel) rfl ?_
    refine pm_ic_ge (off := 33) 128 (by decide +kernel) (by decide) (fun hc7 => ?_) (fun hc7 => ?_)
    · rw [if_pos hc7] at h
      refine pm_blk (pc' := 130) (L' := [(0, .ref 39), (3, .int x3), (4, .int x4), (5, .int x5)]) (S' := [.int x4]) (M' := sm g u) [pm_o (.iload 4)] (by decide +kernel) rfl ?_
      have h9 := Option.some.inj h
      subst h9
      exact pm_reti rfl (by decide +kernel) rfl rfl rfl
    · rw [if_neg hc7] at h
      refine pm_blk (pc' := 103) (L' := [(0, .ref 39), (3, .int x3), (4, .int x4), (5, .int x5)]) (S' := [.int x3, .int (u.1 39 10)]) (M' := sm g u) [pm_o (.aload_n 0), pm_of (.getfield 159) 7 10 0, pm_o (.iload_n 3)] (by decide +kernel) rfl ?_
      refine pm_ic_le (off := 25) 128 (by decide +kernel) (by decide) (fun hc8 => ?_) (fun hc8 => ?_)
      · rw [if_pos hc8] at h
        refine pm_blk (pc' := 130) (L' := [(0, .ref 39), (3, .int x3), (4, .int x4), (5, .int x5)]) (S' := [.int x4]) (M' := sm g u) [pm_o (.iload 4)] (by decide +kernel) rfl ?_
        have h9 := Option.some.inj h
        subst h9
        exact pm_reti rfl (by decide +kernel) rfl rfl rfl
      · rw [if_neg hc8] at h
        refine pm_blk (pc' := 112) (L' := [(0, .ref 39), (3, .int x3), (4, .int x4), (5, .int x5)]) (S' := [.ref 39, .int 3, .ref 10]) (M' := sm g u) [pm_o (.aload_n 0), pm_of (.getfield 15) 7 1 2, pm_oi (.iconst 3) 3, pm_o (.aload_n 0)] (by decide +kernel) rfl ?_
        obtain ⟨q9, hq9, h⟩ := pm_bd h
        refine pm_cV (idx := 177) m_Parser_popBase (c_Parser_popBase l h0 D hT hq9) (As := []) (S0 := [.int 3, .ref 10]) rfl (by decide +kernel) k_Parser_popBase l_Parser_177 (show 0 + 1 ≤ dR_Parser_readType + 2 by omega) (Nat.le_of_ble_eq_true rfl) hle.1 hle.2 ?_
        refine pm_blk (pc' := 117) (L' := [(0, .ref 39), (3, .int x3), (4, .int x4), (5, .int x5)]) (S' := [.int x4, .int q9.1, .int 3, .ref 10]) (M' := sm g q9.2) [pm_o (.iload 4)] (by decide +kernel) rfl ?_
        obtain ⟨q10, hq10, h⟩ := pm_bd h
        obtain ⟨hu11, h⟩ := pm_ifs h
        obtain ⟨h, hl12⟩ := pm_Ss h
        refine pm_cV (idx := 167) m_Types_make (c_Types_make l h0 D hT hq10) (As := [.int 3, .int q9.1, .int x4]) (S0 := []) rfl (by decide +kernel) k_Types_make l_Parser_167 (show 2 + 1 ≤ dR_Parser_readType + 2 by omega) (Nat.le_of_ble_eq_true rfl) hl12.1 hl12.2 ?_
        refine pm_blk (pc' := 125) (L' := [(5, .int (x5 + 1)), (4, .int q10.1), (0, .ref 39), (3, .int x3)]) (S' := []) (M' := sm q10.2.1 q10.2.2) [pm_o (.istore 4), pm_oi (.iinc 5 1) 1] (by decide +kernel) rfl ?_
        refine pm_goto (off := -34) 91 (by decide +kernel) (by decide) ?_
        refine pm_loc [2, 3, 1, 0] rfl ?_
        exact ih x3 q10.1 (x5 + 1) q10.2.1 q10.2.2 (sh_Tb_s hu11) hl12 h
def K_Parser_readPart_18 (N : Nat) (r_Parser_readType : Int32 → Int32 → pm_s → pm_J → Option (Int32 × pm_s × pm_J)) : Nat → Int32 → Int32 → Int32 → Int32 → pm_s → pm_J → Option (Int32 × pm_s × pm_J)
  | 0, _, _, _, _, _, _ => none
  | n + 1, x1, x2, x3, x4, g, u => if 8 < x4 then (F_Parser_popBase g u).bind fun q6 => K_Parser_readPart_91 N r_Parser_readType N x3 q6.1 0 g q6.2 else (F_Parser_kind g u).bind fun q13 => if q13 = 21 then if x4 = 8 then (F_Parser_here g u).bind fun q21 => (F_Fault_tell_3 3 q21 g u).bind fun q22 => K_Parser_readPart_18 N r_Parser_readType  n x1 x2 x3 (x4 + 1) g q22 else (F_Parser_readBase N r_Parser_readType x1 x2 g (wi u 39 11 ((u.1 39 11) + 1))).bind fun q17 => if sh_Tb q17.2.1 = true then pm_S q17.2.1 ((F_Parser_pushBase q17.1 q17.2.1 q17.2.2).bind fun q20 => K_Parser_readPart_18 N r_Parser_readType  n x1 x2 x3 (x4 + 1) q17.2.1 q20) else none else (F_Parser_popBase g u).bind fun q15 => K_Parser_readPart_91 N r_Parser_readType N x3 q15.1 0 g q15.2
set_option maxHeartbeats 4000000 in
set_option maxRecDepth 100000 in
theorem w_Parser_readPart_18 (l : Launch) (h0 : Nat) (D : pm_D) {N : Nat} {r_Parser_readType : Int32 → Int32 → pm_s → pm_J → Option (Int32 × pm_s × pm_J)} {dR_Parser_readType : Nat} (hdR_Parser_readType : 3 ≤ dR_Parser_readType) (hr_Parser_readType : ∀ {a1 : Int32} {a2 : Int32} {g : pm_s} {u : pm_J} {out : Int32 × pm_s × pm_J}, sh_T g → r_Parser_readType a1 a2 g u = some out → pm_C l h0 D m_Parser_readType dR_Parser_readType [.ref 39, .int a1, .int a2] (sm g u) (some (.int out.1)) (sm out.2.1 out.2.2)) {g0 : pm_s} {u0 : pm_J} {out : Int32 × pm_s × pm_J} {p : Program} {e : Env} {R : Room} {s : State} {m : MethodId} {args : Array Value} {below : List Frame} {meth : Method} {c : Code} : ∀ (n : Nat) (x1 : Int32) (x2 : Int32) (x3 : Int32) (x4 : Int32) (g : pm_s) (u : pm_J) (hT : sh_T g) (hle : g.1 ≤ out.2.1.1 ∧ g.2.1 ≤ out.2.1.2.1), K_Parser_readPart_18 N r_Parser_readType n x1 x2 x3 x4 g u = some out → pm_V (p, l, e, R, s, m, args, below, meth, c) m_Parser_readPart h0 D (g0.1, g0.2.1, out.2.1.1, out.2.1.2.1, dR_Parser_readType + 2) (pm_E (p, l, e, R, s, m, args, below, meth, c) h0 D (sm g0 u0) (some (.int out.1)) (sm out.2.1 out.2.2)) 18 [(0, .ref 39), (1, .int x1), (2, .int x2), (3, .int x3), (4, .int x4)] [] (sm g u) := by
  intro n
  induction n with
  | zero => intro x1 x2 x3 x4 g u hT hle h; cases h
  | succ n ih =>
    intro x1 x2 x3 x4 g u hT hle h
    rw [K_Parser_readPart_18] at h
    refine pm_blk (pc' := 22) (L' := [(0, .ref 39), (1, .int x1), (2, .int x2), (3, .int x3), (4, .int x4)]) (S' := [.int 8, .int x4]) (M' := sm g u) [pm_o (.iload 4), pm_oi (.bipush 8) 8] (by decide +kernel) rfl ?_
    refine pm_ic_gt (off := 60) 82 (by decide +kernel) (by decide) (fun hc5 => ?_) (fun hc5 => ?_)
    · rw [if_pos hc5] at h
      refine pm_blk (pc' := 83) (L' := [(0, .ref 39), (1, .int x1), (2, .int x2), (3, .int x3), (4, .int x4)]) (S' := [.ref 39]) (M' := sm g u) [pm_o (.aload_n 0)] (by decide +kernel) rfl ?_
      obtain ⟨q6, hq6, h⟩ := pm_bd h
      refine pm_cV (idx := 177) m_Parser_popBase (c_Parser_popBase l h0 D hT hq6) (As := []) (S0 := []) rfl (by decide +kernel) k_Parser_popBase l_Parser_177 (show 0 + 1 ≤ dR_Parser_readType + 2 by omega) (Nat.le_of_ble_eq_true rfl) hle.1 hle.2 ?_
      refine pm_blk (pc' := 91) (L' := [(5, .int 0), (4, .int q6.1), (0, .ref 39), (1, .int x1), (2, .int x2), (3, .int x3)]) (S' := []) (M' := sm g q6.2) [pm_o (.istore 4), pm_oi (.iconst 0) 0, pm_o (.istore 5)] (by decide +kernel) rfl ?_
      refine pm_loc [2, 5, 1, 0] rfl ?_
      exact w_Parser_readPart_91 l h0 D hdR_Parser_readType hr_Parser_readType N x3 q6.1 0 g q6.2 hT hle h
    · rw [if_neg hc5] at h
      refine pm_blk (pc' := 26) (L' := [(0, .ref 39), (1, .int x1), (2, .int x2), (3, .int x3), (4, .int x4)]) (S' := [.ref 39]) (M' := sm g u) [pm_o (.aload_n 0)] (by decide +kernel) rfl ?_
      obtain ⟨q13, hq13, h⟩ := pm_bd h
      refine pm_cV (idx := 57) m_Parser_kind (c_Parser_kind l h0 D hT hq13) (As := []) (S0 := []) rfl (by decide +kernel) k_Parser_kind l_Parser_57 (show 1 + 1 ≤ dR_Parser_readType + 2 by omega) (Nat.le_of_ble_eq_true rfl) hle.1 hle.2 ?_
      refine pm_blk (pc' := 31) (L' := [(0, .ref 39), (1, .int x1), (2, .int x2), (3, .int x3), (4, .int x4)]) (S' := [.int 21, .int q13]) (M' := sm g u) [pm_oi (.bipush 21) 21] (by decide +kernel) rfl ?_
      refine pm_ic_ne (off := 51) 82 (by decide +kernel) (by decide) (fun hc14 => ?_) (fun hc14 => ?_)
      · rw [if_neg hc14] at h
        refine pm_blk (pc' := 83) (L' := [(0, .ref 39), (1, .int x1), (2, .int x2), (3, .int x3), (4, .int x4)]) (S' := [.ref 39]) (M' := sm g u) [pm_o (.aload_n 0)] (by decide +kernel) rfl ?_
        obtain ⟨q15, hq15, h⟩ := pm_bd h
        refine pm_cV (idx := 177) m_Parser_popBase (c_Parser_popBase l h0 D hT hq15) (As := []) (S0 := []) rfl (by decide +kernel) k_Parser_popBase l_Parser_177 (show 0 + 1 ≤ dR_Parser_readType + 2 by omega) (Nat.le_of_ble_eq_true rfl) hle.1 hle.2 ?_
        refine pm_blk (pc' := 91) (L' := [(5, .int 0), (4, .int q15.1), (0, .ref 39), (1, .int x1), (2, .int x2), (3, .int x3)]) (S' := []) (M' := sm g q15.2) [pm_o (.istore 4), pm_oi (.iconst 0) 0, pm_o (.istore 5)] (by decide +kernel) rfl ?_
        refine pm_loc [2, 5, 1, 0] rfl ?_
        exact w_Parser_readPart_91 l h0 D hdR_Parser_readType hr_Parser_readType N x3 q15.1 0 g q15.2 hT hle h
      · rw [if_pos hc14] at h
        refine pm_blk (pc' := 38) (L' := [(0, .ref 39), (1, .int x1), (2, .int x2), (3, .int x3), (4, .int x4)]) (S' := [.int 8, .int x4]) (M' := sm g u) [pm_o (.iload 4), pm_oi (.bipush 8) 8] (by decide +kernel) rfl ?_
        refine pm_ic_ne (off := 18) 56 (by decide +kernel) (by decide) (fun hc16 => ?_) (fun hc16 => ?_)
        · rw [if_neg hc16] at h
          refine pm_blk (pc' := 70) (L' := [(0, .ref 39), (1, .int x1), (2, .int x2), (3, .int x3), (4, .int x4)]) (S' := [.int x2, .int x1, .ref 39, .ref 39]) (M' := sm g (wi u 39 11 ((u.1 39 11) + 1))) [pm_o (.aload_n 0), pm_o .dup, pm_of (.getfield 47) 7 11 0, pm_oi (.iconst 1) 1, pm_o .iadd, pm_of (.putfield 47) 7 11 0, pm_o (.aload_n 0), pm_o (.aload_n 0), pm_o (.iload_n 1), pm_o (.iload_n 2)] (by decide +kernel) rfl ?_
          obtain ⟨q17, hq17, h⟩ := pm_bd h
          obtain ⟨hu18, h⟩ := pm_ifs h
          obtain ⟨h, hl19⟩ := pm_Ss h
          refine pm_cV (idx := 171) m_Parser_readBase (c_Parser_readBase l h0 D hT hdR_Parser_readType hr_Parser_readType hq17) (As := [.int x1, .int x2]) (S0 := [.ref 39]) rfl (by decide +kernel) k_Parser_readBase l_Parser_171 (show dR_Parser_readType + 1 + 1 ≤ dR_Parser_readType + 2 by omega) (Nat.le_of_ble_eq_true rfl) hl19.1 hl19.2 ?_
          refine pm_blk (pc' := 73) (L' := [(0, .ref 39), (1, .int x1), (2, .int x2), (3, .int x3), (4, .int x4)]) (S' := [.int q17.1, .ref 39]) (M' := sm q17.2.1 q17.2.2) [] (by decide +kernel) rfl ?_
          obtain ⟨q20, hq20, h⟩ := pm_bd h
          refine pm_cV (idx := 174) m_Parser_pushBase (c_Parser_pushBase l h0 D (sh_Tb_s hu18) hq20) (As := [.int q17.1]) (S0 := []) rfl (by decide +kernel) k_Parser_pushBase l_Parser_174 (show 0 + 1 ≤ dR_Parser_readType + 2 by omega) (Nat.le_of_ble_eq_true rfl) hl19.1 hl19.2 ?_
          refine pm_blk (pc' := 79) (L' := [(4, .int (x4 + 1)), (0, .ref 39), (1, .int x1), (2, .int x2), (3, .int x3)]) (S' := []) (M' := sm q17.2.1 q20) [pm_oi (.iinc 4 1) 1] (by decide +kernel) rfl ?_
          refine pm_goto (off := -61) 18 (by decide +kernel) (by decide) ?_
          refine pm_loc [1, 2, 3, 4, 0] rfl ?_
          exact ih x1 x2 x3 (x4 + 1) q17.2.1 q20 (sh_Tb_s hu18) hl19 h
        · rw [if_pos hc16] at h
          refine pm_blk (pc' := 47) (L' := [(0, .ref 39), (1, .int x1), (2, .int x2), (3, .int x3), (4, .int x4)]) (S' := [.ref 39, .int 3, .ref 3]) (M' := sm g u) [pm_o (.aload_n 0), pm_of (.getfield 27) 7 4 2, pm_oi (.iconst 3) 3, pm_o (.aload_n 0)] (by decide +kernel) rfl ?_
          obtain ⟨q21, hq21, h⟩ := pm_bd h
          refine pm_cV (idx := 66) m_Parser_here (c_Parser_here l h0 D hT hq21) (As := []) (S0 := [.int 3, .ref 3]) rfl (by decide +kernel) k_Parser_here l_Parser_66 (show 1 + 1 ≤ dR_Parser_readType + 2 by omega) (Nat.le_of_ble_eq_true rfl) hle.1 hle.2 ?_
          refine pm_blk (pc' := 50) (L' := [(0, .ref 39), (1, .int x1), (2, .int x2), (3, .int x3), (4, .int x4)]) (S' := [.int q21, .int 3, .ref 3]) (M' := sm g u) [] (by decide +kernel) rfl ?_
          obtain ⟨q22, hq22, h⟩ := pm_bd h
          refine pm_cV (idx := 69) m_Fault_tell (c_Fault_tell_3 l h0 D hT hq22) (As := [.int 3, .int q21]) (S0 := []) rfl (by decide +kernel) k_Fault_tell l_Parser_69 (show 0 + 1 ≤ dR_Parser_readType + 2 by omega) (Nat.le_of_ble_eq_true rfl) hle.1 hle.2 ?_
          refine pm_blk (pc' := 53) (L' := [(0, .ref 39), (1, .int x1), (2, .int x2), (3, .int x3), (4, .int x4)]) (S' := []) (M' := sm g q22) [] (by decide +kernel) rfl ?_
          refine pm_goto (off := 23) 76 (by decide +kernel) (by decide) ?_
          refine pm_blk (pc' := 79) (L' := [(4, .int (x4 + 1)), (0, .ref 39), (1, .int x1), (2, .int x2), (3, .int x3)]) (S' := []) (M' := sm g q22) [pm_oi (.iinc 4 1) 1] (by decide +kernel) rfl ?_
          refine pm_goto (off := -61) 18 (by decide +kernel) (by decide) ?_
          refine pm_loc [1, 2, 3, 4, 0] rfl ?_
          exact ih x1 x2 x3 (x4 + 1) g q22 hT hle h
def F_Parser_readPart (N : Nat) (r_Parser_readType : Int32 → Int32 → pm_s → pm_J → Option (Int32 × pm_s × pm_J)) (a1 : Int32) (a2 : Int32) (g : pm_s) (u : pm_J) : Option (Int32 × pm_s × pm_J) := pm_S g ((F_Parser_readBase N r_Parser_readType a1 a2 g u).bind fun q1 => if sh_Tb q1.2.1 = true then pm_S q1.2.1 ((F_Parser_pushBase q1.1 q1.2.1 q1.2.2).bind fun q4 => K_Parser_readPart_18 N r_Parser_readType N a1 a2 (u.1 39 10) 0 q1.2.1 q4) else none)
set_option maxHeartbeats 4000000 in
set_option maxRecDepth 100000 in
theorem c_Parser_readPart (l : Launch) (h0 : Nat) (D : pm_D) {g : pm_s} {u : pm_J} (hT : sh_T g) {N : Nat} {r_Parser_readType : Int32 → Int32 → pm_s → pm_J → Option (Int32 × pm_s × pm_J)} {dR_Parser_readType : Nat} (hdR_Parser_readType : 3 ≤ dR_Parser_readType) (hr_Parser_readType : ∀ {a1 : Int32} {a2 : Int32} {g : pm_s} {u : pm_J} {out : Int32 × pm_s × pm_J}, sh_T g → r_Parser_readType a1 a2 g u = some out → pm_C l h0 D m_Parser_readType dR_Parser_readType [.ref 39, .int a1, .int a2] (sm g u) (some (.int out.1)) (sm out.2.1 out.2.2)) {a1 : Int32} {a2 : Int32} {out : Int32 × pm_s × pm_J} (h : F_Parser_readPart N r_Parser_readType a1 a2 g u = some out) : pm_C l h0 D m_Parser_readPart (dR_Parser_readType + 2) [.ref 39, .int a1, .int a2] (sm g u) (some (.int out.1)) (sm out.2.1 out.2.2) := by
  unfold F_Parser_readPart at h
  obtain ⟨h, hle⟩ := pm_Ss h
  refine pm_met (by decide +kernel) (Nat.le_of_ble_eq_true rfl) hle.1 hle.2 ?_
  intro p e R s m args below meth c
  refine pm_blk (pc' := 9) (L' := [(3, .int (u.1 39 10)), (0, .ref 39), (1, .int a1), (2, .int a2)]) (S' := [.int a2, .int a1, .ref 39, .ref 39]) (M' := sm g u) [pm_o (.aload_n 0), pm_of (.getfield 159) 7 10 0, pm_o (.istore_n 3), pm_o (.aload_n 0), pm_o (.aload_n 0), pm_o (.iload_n 1), pm_o (.iload_n 2)] (by decide +kernel) rfl ?_
  obtain ⟨q1, hq1, h⟩ := pm_bd h
  obtain ⟨hu2, h⟩ := pm_ifs h
  obtain ⟨h, hl3⟩ := pm_Ss h
  refine pm_cV (idx := 171) m_Parser_readBase (c_Parser_readBase l h0 D hT hdR_Parser_readType hr_Parser_readType hq1) (As := [.int a1, .int a2]) (S0 := [.ref 39]) rfl (by decide +kernel) k_Parser_readBase l_Parser_171 (show dR_Parser_readType + 1 + 1 ≤ dR_Parser_readType + 2 by omega) (Nat.le_of_ble_eq_true rfl) hl3.1 hl3.2 ?_
  refine pm_blk (pc' := 12) (L' := [(3, .int (u.1 39 10)), (0, .ref 39), (1, .int a1), (2, .int a2)]) (S' := [.int q1.1, .ref 39]) (M' := sm q1.2.1 q1.2.2) [] (by decide +kernel) rfl ?_
  obtain ⟨q4, hq4, h⟩ := pm_bd h
  refine pm_cV (idx := 174) m_Parser_pushBase (c_Parser_pushBase l h0 D (sh_Tb_s hu2) hq4) (As := [.int q1.1]) (S0 := []) rfl (by decide +kernel) k_Parser_pushBase l_Parser_174 (show 0 + 1 ≤ dR_Parser_readType + 2 by omega) (Nat.le_of_ble_eq_true rfl) hl3.1 hl3.2 ?_
  refine pm_blk (pc' := 18) (L' := [(4, .int 0), (3, .int (u.1 39 10)), (0, .ref 39), (1, .int a1), (2, .int a2)]) (S' := []) (M' := sm q1.2.1 q4) [pm_oi (.iconst 0) 0, pm_o (.istore 4)] (by decide +kernel) rfl ?_
  refine pm_loc [2, 3, 4, 1, 0] rfl ?_
  exact w_Parser_readPart_18 l h0 D hdR_Parser_readType hr_Parser_readType N a1 a2 (u.1 39 10) 0 q1.2.1 q4 (sh_Tb_s hu2) hl3 h
def K_Parser_readType_35 (N : Nat) (r_Parser_readType : Int32 → Int32 → pm_s → pm_J → Option (Int32 × pm_s × pm_J)) (x1 : Int32) (x2 : Int32) (g : pm_s) (u : pm_J) : Option (Int32 × pm_s × pm_J) := (F_Parser_readPart N r_Parser_readType x1 x2 g u).bind fun q3 => if sh_Tb q3.2.1 = true then pm_S q3.2.1 ((F_Parser_kind q3.2.1 q3.2.2).bind fun q6 => if q6 = 25 then (r_Parser_readType (x1 + 1) x2 q3.2.1 (wi q3.2.2 39 11 ((q3.2.2.1 39 11) + 1))).bind fun q8 => if sh_Tb q8.2.1 = true then pm_S q8.2.1 ((F_Types_make N 4 q3.1 q8.1 q8.2.1 q8.2.2).bind fun q11 => if sh_Tb q11.2.1 = true then pm_S q11.2.1 (some (q11.1, q11.2.1, q11.2.2)) else none) else none else some (q3.1, q3.2.1, q3.2.2)) else none
set_option maxHeartbeats 4000000 in
set_option maxRecDepth 100000 in
theorem w_Parser_readType_35 (l : Launch) (h0 : Nat) (D : pm_D) {N : Nat} {r_Parser_readType : Int32 → Int32 → pm_s → pm_J → Option (Int32 × pm_s × pm_J)} {dR_Parser_readType : Nat} (hdR_Parser_readType : 3 ≤ dR_Parser_readType) (hr_Parser_readType : ∀ {a1 : Int32} {a2 : Int32} {g : pm_s} {u : pm_J} {out : Int32 × pm_s × pm_J}, sh_T g → r_Parser_readType a1 a2 g u = some out → pm_C l h0 D m_Parser_readType dR_Parser_readType [.ref 39, .int a1, .int a2] (sm g u) (some (.int out.1)) (sm out.2.1 out.2.2)) {g0 : pm_s} {u0 : pm_J} {out : Int32 × pm_s × pm_J} {p : Program} {e : Env} {R : Room} {s : State} {m : MethodId} {args : Array Value} {below : List Frame} {meth : Method} {c : Code} : ∀ (x1 : Int32) (x2 : Int32) (g : pm_s) (u : pm_J) (hT : sh_T g) (hle : g.1 ≤ out.2.1.1 ∧ g.2.1 ≤ out.2.1.2.1), K_Parser_readType_35 N r_Parser_readType x1 x2 g u = some out → pm_V (p, l, e, R, s, m, args, below, meth, c) m_Parser_readType h0 D (g0.1, g0.2.1, out.2.1.1, out.2.1.2.1, dR_Parser_readType + 3) (pm_E (p, l, e, R, s, m, args, below, meth, c) h0 D (sm g0 u0) (some (.int out.1)) (sm out.2.1 out.2.2)) 35 [(0, .ref 39), (1, .int x1), (2, .int x2)] [] (sm g u) := by
    intro x1 x2 g u hT hle h
    unfold K_Parser_readType_35 at h
    refine pm_blk (pc' := 38) (L' := [(0, .ref 39), (1, .int x1), (2, .int x2)]) (S' := [.int x2, .int x1, .ref 39]) (M' := sm g u) [pm_o (.aload_n 0), pm_o (.iload_n 1), pm_o (.iload_n 2)] (by decide +kernel) rfl ?_
    obtain ⟨q3, hq3, h⟩ := pm_bd h
    obtain ⟨hu4, h⟩ := pm_ifs h
    obtain ⟨h, hl5⟩ := pm_Ss h
    refine pm_cV (idx := 162) m_Parser_readPart (c_Parser_readPart l h0 D hT hdR_Parser_readType hr_Parser_readType hq3) (As := [.int x1, .int x2]) (S0 := []) rfl (by decide +kernel) k_Parser_readPart l_Parser_162 (show dR_Parser_readType + 2 + 1 ≤ dR_Parser_readType + 3 by omega) (Nat.le_of_ble_eq_true rfl) hl5.1 hl5.2 ?_
    refine pm_blk (pc' := 43) (L' := [(3, .int q3.1), (0, .ref 39), (1, .int x1), (2, .int x2)]) (S' := [.ref 39]) (M' := sm q3.2.1 q3.2.2) [pm_o (.istore_n 3), pm_o (.aload_n 0)] (by decide +kernel) rfl ?_
    obtain ⟨q6, hq6, h⟩ := pm_bd h
    refine pm_cV (idx := 57) m_Parser_kind (c_Parser_kind l h0 D (sh_Tb_s hu4) hq6) (As := []) (S0 := []) rfl (by decide +kernel) k_Parser_kind l_Parser_57 (show 1 + 1 ≤ dR_Parser_readType + 3 by omega) (Nat.le_of_ble_eq_true rfl) hl5.1 hl5.2 ?_
    refine pm_blk (pc' := 48) (L' := [(3, .int q3.1), (0, .ref 39), (1, .int x1), (2, .int x2)]) (S' := [.int 25, .int q6]) (M' := sm q3.2.1 q3.2.2) [pm_oi (.bipush 25) 25] (by decide +kernel) rfl ?_
    refine pm_ic_eq (off := 5) 53 (by decide +kernel) (by decide) (fun hc7 => ?_) (fun hc7 => ?_)
    · rw [if_pos hc7] at h
      refine pm_blk (pc' := 74) (L' := [(3, .int q3.1), (0, .ref 39), (1, .int x1), (2, .int x2)]) (S' := [.int x2, .int (x1 + 1), .ref 39, .int q3.1, .int 4, .ref 10]) (M' := sm q3.2.1 (wi q3.2.2 39 11 ((q3.2.2.1 39 11) + 1))) [pm_o (.aload_n 0), pm_o .dup, pm_of (.getfield 47) 7 11 0, pm_oi (.iconst 1) 1, pm_o .iadd, pm_of (.putfield 47) 7 11 0, pm_o (.aload_n 0), pm_of (.getfield 15) 7 1 2, pm_oi (.iconst 4) 4, pm_o (.iload_n 3), pm_o (.aload_n 0), pm_o (.iload_n 1), pm_oi (.iconst 1) 1, pm_o .iadd, pm_o (.iload_n 2)] (by decide +kernel) rfl ?_
      obtain ⟨q8, hq8, h⟩ := pm_bd h
      obtain ⟨hu9, h⟩ := pm_ifs h
      obtain ⟨h, hl10⟩ := pm_Ss h
      refine pm_cV (idx := 118) m_Parser_readType (hr_Parser_readType (sh_Tb_s hu4) hq8) (As := [.int (x1 + 1), .int x2]) (S0 := [.int q3.1, .int 4, .ref 10]) rfl (by decide +kernel) k_Parser_readType l_Parser_118 (show dR_Parser_readType + 1 ≤ dR_Parser_readType + 3 by omega) (Nat.le_of_ble_eq_true rfl) hl10.1 hl10.2 ?_
      refine pm_blk (pc' := 77) (L' := [(3, .int q3.1), (0, .ref 39), (1, .int x1), (2, .int x2)]) (S' := [.int q8.1, .int q3.1, .int 4, .ref 10]) (M' := sm q8.2.1 q8.2.2) [] (by decide +kernel) rfl ?_
      obtain ⟨q11, hq11, h⟩ := pm_bd h
      obtain ⟨hu12, h⟩ := pm_ifs h
      obtain ⟨h, hl13⟩ := pm_Ss h
      refine pm_cV (idx := 167) m_Types_make (c_Types_make l h0 D (sh_Tb_s hu9) hq11) (As := [.int 4, .int q3.1, .int q8.1]) (S0 := []) rfl (by decide +kernel) k_Types_make l_Parser_167 (show 2 + 1 ≤ dR_Parser_readType + 3 by omega) (Nat.le_of_ble_eq_true rfl) hl13.1 hl13.2 ?_
      refine pm_blk (pc' := 80) (L' := [(3, .int q3.1), (0, .ref 39), (1, .int x1), (2, .int x2)]) (S' := [.int q11.1]) (M' := sm q11.2.1 q11.2.2) [] (by decide +kernel) rfl ?_
      have h9 := Option.some.inj h
      subst h9
      exact pm_reti rfl (by decide +kernel) rfl rfl rfl
    · rw [if_neg hc7] at h
      refine pm_blk (pc' := 52) (L' := [(3, .int q3.1), (0, .ref 39), (1, .int x1), (2, .int x2)]) (S' := [.int q3.1]) (M' := sm q3.2.1 q3.2.2) [pm_o (.iload_n 3)] (by decide +kernel) rfl ?_
      have h9 := Option.some.inj h
      subst h9
      exact pm_reti rfl (by decide +kernel) rfl rfl rfl
def FO_Parser_readType (N : Nat) (r_Parser_readType : Int32 → Int32 → pm_s → pm_J → Option (Int32 × pm_s × pm_J)) (a1 : Int32) (a2 : Int32) (g : pm_s) (u : pm_J) : Option (Int32 × pm_s × pm_J) := pm_S g (if a1 ≤ 20 then if a1 = 1 then K_Parser_readType_35 N r_Parser_readType a1 a2 g (wi (wi u 39 14 0) 39 10 0) else K_Parser_readType_35 N r_Parser_readType a1 a2 g u else (F_Parser_here g u).bind fun q14 => (F_Fault_tell_3 3 q14 g u).bind fun q15 => some ((-1), g, q15))
set_option maxHeartbeats 4000000 in
set_option maxRecDepth 100000 in
theorem co_Parser_readType (l : Launch) (h0 : Nat) (D : pm_D) {g : pm_s} {u : pm_J} (hT : sh_T g) {N : Nat} {r_Parser_readType : Int32 → Int32 → pm_s → pm_J → Option (Int32 × pm_s × pm_J)} {dR_Parser_readType : Nat} (hdR_Parser_readType : 3 ≤ dR_Parser_readType) (hr_Parser_readType : ∀ {a1 : Int32} {a2 : Int32} {g : pm_s} {u : pm_J} {out : Int32 × pm_s × pm_J}, sh_T g → r_Parser_readType a1 a2 g u = some out → pm_C l h0 D m_Parser_readType dR_Parser_readType [.ref 39, .int a1, .int a2] (sm g u) (some (.int out.1)) (sm out.2.1 out.2.2)) {a1 : Int32} {a2 : Int32} {out : Int32 × pm_s × pm_J} (h : FO_Parser_readType N r_Parser_readType a1 a2 g u = some out) : pm_C l h0 D m_Parser_readType (dR_Parser_readType + 3) [.ref 39, .int a1, .int a2] (sm g u) (some (.int out.1)) (sm out.2.1 out.2.2) := by
  unfold FO_Parser_readType at h
  obtain ⟨h, hle⟩ := pm_Ss h
  refine pm_met (by decide +kernel) (Nat.le_of_ble_eq_true rfl) hle.1 hle.2 ?_
  intro p e R s m args below meth c
  refine pm_blk (pc' := 3) (L' := [(0, .ref 39), (1, .int a1), (2, .int a2)]) (S' := [.int 20, .int a1]) (M' := sm g u) [pm_o (.iload_n 1), pm_oi (.bipush 20) 20] (by decide +kernel) rfl ?_
  refine pm_ic_le (off := 17) 20 (by decide +kernel) (by decide) (fun hc1 => ?_) (fun hc1 => ?_)
  · rw [if_pos hc1] at h
    refine pm_blk (pc' := 22) (L' := [(0, .ref 39), (1, .int a1), (2, .int a2)]) (S' := [.int 1, .int a1]) (M' := sm g u) [pm_o (.iload_n 1), pm_oi (.iconst 1) 1] (by decide +kernel) rfl ?_
    refine pm_ic_ne (off := 13) 35 (by decide +kernel) (by decide) (fun hc2 => ?_) (fun hc2 => ?_)
    · rw [if_neg hc2] at h
      refine pm_loc [0, 1, 2] rfl ?_
      exact w_Parser_readType_35 l h0 D hdR_Parser_readType hr_Parser_readType a1 a2 g u hT hle h
    · rw [if_pos hc2] at h
      refine pm_blk (pc' := 35) (L' := [(0, .ref 39), (1, .int a1), (2, .int a2)]) (S' := []) (M' := sm g (wi (wi u 39 14 0) 39 10 0)) [pm_o (.aload_n 0), pm_oi (.iconst 0) 0, pm_of (.putfield 156) 7 14 0, pm_o (.aload_n 0), pm_oi (.iconst 0) 0, pm_of (.putfield 159) 7 10 0] (by decide +kernel) rfl ?_
      refine pm_loc [0, 1, 2] rfl ?_
      exact w_Parser_readType_35 l h0 D hdR_Parser_readType hr_Parser_readType a1 a2 g (wi (wi u 39 14 0) 39 10 0) hT hle h
  · rw [if_neg hc1] at h
    refine pm_blk (pc' := 12) (L' := [(0, .ref 39), (1, .int a1), (2, .int a2)]) (S' := [.ref 39, .int 3, .ref 3]) (M' := sm g u) [pm_o (.aload_n 0), pm_of (.getfield 27) 7 4 2, pm_oi (.iconst 3) 3, pm_o (.aload_n 0)] (by decide +kernel) rfl ?_
    obtain ⟨q14, hq14, h⟩ := pm_bd h
    refine pm_cV (idx := 66) m_Parser_here (c_Parser_here l h0 D hT hq14) (As := []) (S0 := [.int 3, .ref 3]) rfl (by decide +kernel) k_Parser_here l_Parser_66 (show 1 + 1 ≤ dR_Parser_readType + 3 by omega) (Nat.le_of_ble_eq_true rfl) hle.1 hle.2 ?_
    refine pm_blk (pc' := 15) (L' := [(0, .ref 39), (1, .int a1), (2, .int a2)]) (S' := [.int q14, .int 3, .ref 3]) (M' := sm g u) [] (by decide +kernel) rfl ?_
    obtain ⟨q15, hq15, h⟩ := pm_bd h
    refine pm_cV (idx := 69) m_Fault_tell (c_Fault_tell_3 l h0 D hT hq15) (As := [.int 3, .int q14]) (S0 := []) rfl (by decide +kernel) k_Fault_tell l_Parser_69 (show 0 + 1 ≤ dR_Parser_readType + 3 by omega) (Nat.le_of_ble_eq_true rfl) hle.1 hle.2 ?_
    refine pm_blk (pc' := 19) (L' := [(0, .ref 39), (1, .int a1), (2, .int a2)]) (S' := [.int (-1)]) (M' := sm g q15) [pm_oi (.iconst (-1)) (-1)] (by decide +kernel) rfl ?_
    have h9 := Option.some.inj h
    subst h9
    exact pm_reti rfl (by decide +kernel) rfl rfl rfl
def F_Parser_readType (N : Nat) : Nat → Int32 → Int32 → pm_s → pm_J → Option (Int32 × pm_s × pm_J)
  | 0, _, _, _, _ => none
  | k + 1, a1, a2, g, u => FO_Parser_readType N (F_Parser_readType N k) a1 a2 g u
theorem c_Parser_readType_k (l : Launch) (h0 : Nat) (D : pm_D) {N : Nat} (k : Nat) : ∀ {a1 : Int32} {a2 : Int32} {g : pm_s} {u : pm_J} {out : Int32 × pm_s × pm_J}, sh_T g → F_Parser_readType N k a1 a2 g u = some out → pm_C l h0 D m_Parser_readType (3 + 3 * k) [.ref 39, .int a1, .int a2] (sm g u) (some (.int out.1)) (sm out.2.1 out.2.2) := by
  induction k with
  | zero => intro a1 a2 g u out hT h; cases h
  | succ k ih =>
    intro a1 a2 g u out hT h
    have h9 := co_Parser_readType l h0 D hT (dR_Parser_readType := 3 + 3 * k) (show 3 ≤ 3 + 3 * k by omega) ih h
    rw [show 3 + 3 * k + 3 = 3 + 3 * (k + 1) by omega] at h9
    exact h9
theorem c_Parser_readType (l : Launch) (h0 : Nat) (D : pm_D) {g : pm_s} {u : pm_J} (hT : sh_T g) {N : Nat} {a1 : Int32} {a2 : Int32} {out : Int32 × pm_s × pm_J} (h : F_Parser_readType N 24 a1 a2 g u = some out) : pm_C l h0 D m_Parser_readType (3 + 3 * 24) [.ref 39, .int a1, .int a2] (sm g u) (some (.int out.1)) (sm out.2.1 out.2.2) := c_Parser_readType_k l h0 D 24 hT h
def K_Parser_readLocal_36 (N : Nat) (g : pm_s) (u : pm_J) : Option (Int32 × pm_J) := (F_Parser_expect 1 g u).bind fun q3 => (F_Fault_isTold_3 g q3).bind fun q4 => if q4 = 0 then (F_Table_addLocal (q3.1 39 12) g q3).bind fun q6 => some (q6.1, q6.2) else some ((-1), q3)
set_option maxHeartbeats 4000000 in
set_option maxRecDepth 100000 in
theorem w_Parser_readLocal_36 (l : Launch) (h0 : Nat) (D : pm_D) {g : pm_s} (hT : sh_T g) {N : Nat} {u0 : pm_J} {out : Int32 × pm_J} {p : Program} {e : Env} {R : Room} {s : State} {m : MethodId} {args : Array Value} {below : List Frame} {meth : Method} {c : Code} : ∀  (u : pm_J), K_Parser_readLocal_36 N g u = some out → pm_V (p, l, e, R, s, m, args, below, meth, c) m_Parser_readLocal h0 D (g.1, g.2.1, g.1, g.2.1, 3) (pm_E (p, l, e, R, s, m, args, below, meth, c) h0 D (sm g u0) (some (.int out.1)) (sm g out.2)) 36 [(0, .ref 39)] [] (sm g u) := by
    intro u h
    unfold K_Parser_readLocal_36 at h
    refine pm_blk (pc' := 38) (L' := [(0, .ref 39)]) (S' := [.int 1, .ref 39]) (M' := sm g u) [pm_o (.aload_n 0), pm_oi (.iconst 1) 1] (by decide +kernel) rfl ?_
    obtain ⟨q3, hq3, h⟩ := pm_bd h
    refine pm_cV (idx := 73) m_Parser_expect (c_Parser_expect l h0 D hT hq3) (As := [.int 1]) (S0 := []) rfl (by decide +kernel) k_Parser_expect l_Parser_73 (Nat.le_of_ble_eq_true rfl) (Nat.le_of_ble_eq_true rfl) (Nat.le_refl _) (Nat.le_refl _) ?_
    refine pm_blk (pc' := 45) (L' := [(0, .ref 39)]) (S' := [.ref 3]) (M' := sm g q3) [pm_o (.aload_n 0), pm_of (.getfield 27) 7 4 2] (by decide +kernel) rfl ?_
    obtain ⟨q4, hq4, h⟩ := pm_bd h
    refine pm_cV (idx := 77) m_Fault_isTold (c_Fault_isTold_3 l h0 D hT hq4) (As := []) (S0 := []) rfl (by decide +kernel) k_Fault_isTold l_Parser_77 (Nat.le_of_ble_eq_true rfl) (Nat.le_of_ble_eq_true rfl) (Nat.le_refl _) (Nat.le_refl _) ?_
    refine pm_blk (pc' := 48) (L' := [(0, .ref 39)]) (S' := [.int q4]) (M' := sm g q3) [] (by decide +kernel) rfl ?_
    refine pm_if_eq (off := 7) 55 (by decide +kernel) (by decide) (fun hc5 => ?_) (fun hc5 => ?_)
    · rw [if_pos hc5] at h
      refine pm_blk (pc' := 63) (L' := [(0, .ref 39)]) (S' := [.int (q3.1 39 12), .ref 29]) (M' := sm g q3) [pm_o (.aload_n 0), pm_of (.getfield 23) 7 3 2, pm_o (.aload_n 0), pm_of (.getfield 97) 7 12 0] (by decide +kernel) rfl ?_
      obtain ⟨q6, hq6, h⟩ := pm_bd h
      refine pm_cV (idx := 153) m_Table_addLocal (c_Table_addLocal l h0 D hT hq6) (As := [.int (q3.1 39 12)]) (S0 := []) rfl (by decide +kernel) k_Table_addLocal l_Parser_153 (Nat.le_of_ble_eq_true rfl) (Nat.le_of_ble_eq_true rfl) (Nat.le_refl _) (Nat.le_refl _) ?_
      refine pm_blk (pc' := 66) (L' := [(0, .ref 39)]) (S' := [.int q6.1]) (M' := sm g q6.2) [] (by decide +kernel) rfl ?_
      have h9 := Option.some.inj h
      subst h9
      exact pm_reti rfl (by decide +kernel) rfl rfl rfl
    · rw [if_neg hc5] at h
      refine pm_blk (pc' := 52) (L' := [(0, .ref 39)]) (S' := [.int (-1)]) (M' := sm g q3) [pm_oi (.iconst (-1)) (-1)] (by decide +kernel) rfl ?_
      refine pm_goto (off := 14) 66 (by decide +kernel) (by decide) ?_
      have h9 := Option.some.inj h
      subst h9
      exact pm_reti rfl (by decide +kernel) rfl rfl rfl
def F_Parser_readLocal (N : Nat) (g : pm_s) (u : pm_J) : Option (Int32 × pm_J) := (F_Parser_kind g u).bind fun q1 => if q1 = 1 then (F_Table_locals (u.1 39 12) g u).bind fun q7 => if q7 < 24 then K_Parser_readLocal_36 N g  u else (F_Parser_here g u).bind fun q9 => (F_Fault_tell_3 4 q9 g u).bind fun q10 => K_Parser_readLocal_36 N g  q10 else K_Parser_readLocal_36 N g  u
set_option maxHeartbeats 4000000 in
set_option maxRecDepth 100000 in
theorem c_Parser_readLocal (l : Launch) (h0 : Nat) (D : pm_D) {g : pm_s} {u : pm_J} (hT : sh_T g) {N : Nat} {out : Int32 × pm_J} (h : F_Parser_readLocal N g u = some out) : pm_C l h0 D m_Parser_readLocal (3) [.ref 39] (sm g u) (some (.int out.1)) (sm g out.2) := by
  unfold F_Parser_readLocal at h
  refine pm_met (by decide +kernel) (Nat.le_of_ble_eq_true rfl) (Nat.le_refl _) (Nat.le_refl _) ?_
  intro p e R s m args below meth c
  refine pm_blk (pc' := 1) (L' := [(0, .ref 39)]) (S' := [.ref 39]) (M' := sm g u) [pm_o (.aload_n 0)] (by decide +kernel) rfl ?_
  obtain ⟨q1, hq1, h⟩ := pm_bd h
  refine pm_cV (idx := 57) m_Parser_kind (c_Parser_kind l h0 D hT hq1) (As := []) (S0 := []) rfl (by decide +kernel) k_Parser_kind l_Parser_57 (Nat.le_of_ble_eq_true rfl) (Nat.le_of_ble_eq_true rfl) (Nat.le_refl _) (Nat.le_refl _) ?_
  refine pm_blk (pc' := 5) (L' := [(0, .ref 39)]) (S' := [.int 1, .int q1]) (M' := sm g u) [pm_oi (.iconst 1) 1] (by decide +kernel) rfl ?_
  refine pm_ic_ne (off := 31) 36 (by decide +kernel) (by decide) (fun hc2 => ?_) (fun hc2 => ?_)
  · rw [if_neg hc2] at h
    refine pm_loc [0] rfl ?_
    exact w_Parser_readLocal_36 l h0 D hT  u h
  · rw [if_pos hc2] at h
    refine pm_blk (pc' := 16) (L' := [(0, .ref 39)]) (S' := [.int (u.1 39 12), .ref 29]) (M' := sm g u) [pm_o (.aload_n 0), pm_of (.getfield 23) 7 3 2, pm_o (.aload_n 0), pm_of (.getfield 97) 7 12 0] (by decide +kernel) rfl ?_
    obtain ⟨q7, hq7, h⟩ := pm_bd h
    refine pm_cV (idx := 150) m_Table_locals (c_Table_locals l h0 D hT hq7) (As := [.int (u.1 39 12)]) (S0 := []) rfl (by decide +kernel) k_Table_locals l_Parser_150 (Nat.le_of_ble_eq_true rfl) (Nat.le_of_ble_eq_true rfl) (Nat.le_refl _) (Nat.le_refl _) ?_
    refine pm_blk (pc' := 21) (L' := [(0, .ref 39)]) (S' := [.int 24, .int q7]) (M' := sm g u) [pm_oi (.bipush 24) 24] (by decide +kernel) rfl ?_
    refine pm_ic_lt (off := 15) 36 (by decide +kernel) (by decide) (fun hc8 => ?_) (fun hc8 => ?_)
    · rw [if_pos hc8] at h
      refine pm_loc [0] rfl ?_
      exact w_Parser_readLocal_36 l h0 D hT  u h
    · rw [if_neg hc8] at h
      refine pm_blk (pc' := 30) (L' := [(0, .ref 39)]) (S' := [.ref 39, .int 4, .ref 3]) (M' := sm g u) [pm_o (.aload_n 0), pm_of (.getfield 27) 7 4 2, pm_oi (.iconst 4) 4, pm_o (.aload_n 0)] (by decide +kernel) rfl ?_
      obtain ⟨q9, hq9, h⟩ := pm_bd h
      refine pm_cV (idx := 66) m_Parser_here (c_Parser_here l h0 D hT hq9) (As := []) (S0 := [.int 4, .ref 3]) rfl (by decide +kernel) k_Parser_here l_Parser_66 (Nat.le_of_ble_eq_true rfl) (Nat.le_of_ble_eq_true rfl) (Nat.le_refl _) (Nat.le_refl _) ?_
      refine pm_blk (pc' := 33) (L' := [(0, .ref 39)]) (S' := [.int q9, .int 4, .ref 3]) (M' := sm g u) [] (by decide +kernel) rfl ?_
      obtain ⟨q10, hq10, h⟩ := pm_bd h
      refine pm_cV (idx := 69) m_Fault_tell (c_Fault_tell_3 l h0 D hT hq10) (As := [.int 4, .int q9]) (S0 := []) rfl (by decide +kernel) k_Fault_tell l_Parser_69 (Nat.le_of_ble_eq_true rfl) (Nat.le_of_ble_eq_true rfl) (Nat.le_refl _) (Nat.le_refl _) ?_
      refine pm_blk (pc' := 36) (L' := [(0, .ref 39)]) (S' := []) (M' := sm g q10) [] (by decide +kernel) rfl ?_
      refine pm_loc [0] rfl ?_
      exact w_Parser_readLocal_36 l h0 D hT  q10 h
def F_Parser_bind (a1 : Int64) (a2 : Int32) (g : pm_s) (u : pm_J) : Option (pm_J) := if (Nat.toInt32 24) ≤ (u.1 39 8) then some u else if pm_ok (u.1 39 8) 24 = true then if pm_ok (u.1 39 8) 24 = true then some (wi (wi (wj u 40 ((u.1 39 8).toNatClampNeg) a1) 41 ((u.1 39 8).toNatClampNeg) a2) 39 8 ((u.1 39 8) + 1)) else none else none
set_option maxHeartbeats 4000000 in
set_option maxRecDepth 100000 in
theorem c_Parser_bind (l : Launch) (h0 : Nat) (D : pm_D) {g : pm_s} {u : pm_J} (hT : sh_T g) {a1 : Int64} {a2 : Int32} {out : pm_J} (h : F_Parser_bind a1 a2 g u = some out) : pm_C l h0 D m_Parser_bind (0) [.ref 39, .long a1, .int a2] (sm g u) none (sm g out) := by
  unfold F_Parser_bind at h
  refine pm_met (by decide +kernel) (Nat.le_of_ble_eq_true rfl) (Nat.le_refl _) (Nat.le_refl _) ?_
  intro p e R s m args below meth c
  refine pm_blk (pc' := 9) (L' := [(0, .ref 39), (1, .long a1), (3, .int a2)]) (S' := [.int (Nat.toInt32 24), .int (u.1 39 8)]) (M' := sm g u) [pm_o (.aload_n 0), pm_of (.getfield 100) 7 8 0, pm_o (.aload_n 0), pm_of (.getfield 36) 7 6 2, pm_o .arraylength] (by decide +kernel) rfl ?_
  refine pm_ic_ge (off := 33) 42 (by decide +kernel) (by decide) (fun hc1 => ?_) (fun hc1 => ?_)
  · rw [if_pos hc1] at h
    have h9 := Option.some.inj h
    subst h9
    exact pm_retv rfl (by decide +kernel) rfl rfl
  · rw [if_neg hc1] at h
    refine pm_blk (pc' := 21) (L' := [(0, .ref 39), (1, .long a1), (3, .int a2)]) (S' := [.long a1, .int (u.1 39 8), .ref 40]) (M' := sm g u) [pm_o (.aload_n 0), pm_of (.getfield 36) 7 6 2, pm_o (.aload_n 0), pm_of (.getfield 100) 7 8 0, pm_o (.lload_n 1)] (by decide +kernel) rfl ?_
    obtain ⟨ho2, h⟩ := pm_ifs h
    refine pm_last (by decide +kernel) rfl  (pm_ok_in ho2) ?_
    refine pm_blk (pc' := 31) (L' := [(0, .ref 39), (1, .long a1), (3, .int a2)]) (S' := [.int a2, .int (u.1 39 8), .ref 41]) (M' := sm g (wj u 40 ((u.1 39 8).toNatClampNeg) a1)) [pm_o (.aload_n 0), pm_of (.getfield 40) 7 7 2, pm_o (.aload_n 0), pm_of (.getfield 100) 7 8 0, pm_o (.iload_n 3)] (by decide +kernel) rfl ?_
    obtain ⟨ho3, h⟩ := pm_ifs h
    refine pm_iast (by decide +kernel) rfl  (pm_ok_in ho3) ?_
    refine pm_blk (pc' := 42) (L' := [(0, .ref 39), (1, .long a1), (3, .int a2)]) (S' := []) (M' := sm g (wi (wi (wj u 40 ((u.1 39 8).toNatClampNeg) a1) 41 ((u.1 39 8).toNatClampNeg) a2) 39 8 ((u.1 39 8) + 1))) [pm_o (.aload_n 0), pm_o .dup, pm_of (.getfield 100) 7 8 0, pm_oi (.iconst 1) 1, pm_o .iadd, pm_of (.putfield 100) 7 8 0] (by decide +kernel) rfl ?_
    have h9 := Option.some.inj h
    subst h9
    exact pm_retv rfl (by decide +kernel) rfl rfl
def F_Parser_unbind (g : pm_s) (u : pm_J) : Option (pm_J) := some (wi u 39 8 (if 0 < ((u.1 39 8) - 1) then ((u.1 39 8) - 1) else 0))
set_option maxHeartbeats 4000000 in
set_option maxRecDepth 100000 in
theorem c_Parser_unbind (l : Launch) (h0 : Nat) (D : pm_D) {g : pm_s} {u : pm_J} (hT : sh_T g) {out : pm_J} (h : F_Parser_unbind g u = some out) : pm_C l h0 D m_Parser_unbind (1) [.ref 39] (sm g u) none (sm g out) := by
  unfold F_Parser_unbind at h
  refine pm_met (by decide +kernel) (Nat.le_of_ble_eq_true rfl) (Nat.le_refl _) (Nat.le_refl _) ?_
  intro p e R s m args below meth c
  refine pm_blk (pc' := 8) (L' := [(0, .ref 39)]) (S' := [.int ((u.1 39 8) - 1), .int 0, .ref 39]) (M' := sm g u) [pm_o (.aload_n 0), pm_oi (.iconst 0) 0, pm_o (.aload_n 0), pm_of (.getfield 100) 7 8 0, pm_oi (.iconst 1) 1, pm_o .isub] (by decide +kernel) rfl ?_
  refine pm_max (idx := 249) (by decide +kernel) l_Parser_249 (Nat.le_of_ble_eq_true rfl) (Nat.le_of_ble_eq_true rfl) (Nat.le_refl _) (Nat.le_refl _) ?_
  refine pm_blk (pc' := 14) (L' := [(0, .ref 39)]) (S' := []) (M' := sm g (wi u 39 8 (if 0 < ((u.1 39 8) - 1) then ((u.1 39 8) - 1) else 0))) [pm_of (.putfield 100) 7 8 0] (by decide +kernel) rfl ?_
  have h9 := Option.some.inj h
  subst h9
  exact pm_retv rfl (by decide +kernel) rfl rfl
def F_Parser_readLet (N : Nat) (r_Parser_readExpr : Int32 → pm_s → pm_J → Option (Int32 × pm_s × pm_J)) (a1 : Int32) (g : pm_s) (u : pm_J) : Option (Int32 × pm_s × pm_J) := pm_S g ((F_Parser_here g u).bind fun q1 => (F_Parser_readLocal N g (wi u 39 11 ((u.1 39 11) + 1))).bind fun q2 => (F_Parser_expect 18 g q2.2).bind fun q3 => (r_Parser_readExpr (a1 + 1) g q3).bind fun q4 => if sh_Tb q4.2.1 = true then pm_S q4.2.1 ((F_Table_setLocalBound (q4.2.2.1 39 12) q2.1 q4.1 q4.2.1 q4.2.2).bind fun q7 => (F_Parser_expect 8 q4.2.1 q7).bind fun q8 => (F_Tokens_value ((u.1 39 11) + 1) q4.2.1 q8).bind fun q9 => (F_Parser_bind q9 q2.1 q4.2.1 q8).bind fun q10 => (r_Parser_readExpr (a1 + 1) q4.2.1 q10).bind fun q11 => if sh_Tb q11.2.1 = true then pm_S q11.2.1 ((F_Parser_unbind q11.2.1 q11.2.2).bind fun q14 => (F_Tree_add N 7 q1 q4.1 q11.1 q2.1 q11.2.1 q14).bind fun q15 => some (q15.1, q11.2.1, q15.2)) else none) else none)
set_option maxHeartbeats 4000000 in
set_option maxRecDepth 100000 in
theorem c_Parser_readLet (l : Launch) (h0 : Nat) (D : pm_D) {g : pm_s} {u : pm_J} (hT : sh_T g) {N : Nat} {r_Parser_readExpr : Int32 → pm_s → pm_J → Option (Int32 × pm_s × pm_J)} {dR_Parser_readExpr : Nat} (hdR_Parser_readExpr : 76 ≤ dR_Parser_readExpr) (hr_Parser_readExpr : ∀ {a1 : Int32} {g : pm_s} {u : pm_J} {out : Int32 × pm_s × pm_J}, sh_T g → r_Parser_readExpr a1 g u = some out → pm_C l h0 D m_Parser_readExpr dR_Parser_readExpr [.ref 39, .int a1] (sm g u) (some (.int out.1)) (sm out.2.1 out.2.2)) {a1 : Int32} {out : Int32 × pm_s × pm_J} (h : F_Parser_readLet N r_Parser_readExpr a1 g u = some out) : pm_C l h0 D m_Parser_readLet (dR_Parser_readExpr + 1) [.ref 39, .int a1] (sm g u) (some (.int out.1)) (sm out.2.1 out.2.2) := by
  unfold F_Parser_readLet at h
  obtain ⟨h, hle⟩ := pm_Ss h
  refine pm_met (by decide +kernel) (Nat.le_of_ble_eq_true rfl) hle.1 hle.2 ?_
  intro p e R s m args below meth c
  refine pm_blk (pc' := 1) (L' := [(0, .ref 39), (1, .int a1)]) (S' := [.ref 39]) (M' := sm g u) [pm_o (.aload_n 0)] (by decide +kernel) rfl ?_
  obtain ⟨q1, hq1, h⟩ := pm_bd h
  refine pm_cV (idx := 66) m_Parser_here (c_Parser_here l h0 D hT hq1) (As := []) (S0 := []) rfl (by decide +kernel) k_Parser_here l_Parser_66 (show 1 + 1 ≤ dR_Parser_readExpr + 1 by omega) (Nat.le_of_ble_eq_true rfl) hle.1 hle.2 ?_
  refine pm_blk (pc' := 21) (L' := [(3, .int ((u.1 39 11) + 1)), (2, .int q1), (0, .ref 39), (1, .int a1)]) (S' := [.ref 39]) (M' := sm g (wi u 39 11 ((u.1 39 11) + 1))) [pm_o (.istore_n 2), pm_o (.aload_n 0), pm_o .dup, pm_of (.getfield 47) 7 11 0, pm_oi (.iconst 1) 1, pm_o .iadd, pm_of (.putfield 47) 7 11 0, pm_o (.aload_n 0), pm_of (.getfield 47) 7 11 0, pm_o (.istore_n 3), pm_o (.aload_n 0)] (by decide +kernel) rfl ?_
  obtain ⟨q2, hq2, h⟩ := pm_bd h
  refine pm_cV (idx := 137) m_Parser_readLocal (c_Parser_readLocal l h0 D hT hq2) (As := []) (S0 := []) rfl (by decide +kernel) k_Parser_readLocal l_Parser_137 (show 3 + 1 ≤ dR_Parser_readExpr + 1 by omega) (Nat.le_of_ble_eq_true rfl) hle.1 hle.2 ?_
  refine pm_blk (pc' := 29) (L' := [(4, .int q2.1), (3, .int ((u.1 39 11) + 1)), (2, .int q1), (0, .ref 39), (1, .int a1)]) (S' := [.int 18, .ref 39]) (M' := sm g q2.2) [pm_o (.istore 4), pm_o (.aload_n 0), pm_oi (.bipush 18) 18] (by decide +kernel) rfl ?_
  obtain ⟨q3, hq3, h⟩ := pm_bd h
  refine pm_cV (idx := 73) m_Parser_expect (c_Parser_expect l h0 D hT hq3) (As := [.int 18]) (S0 := []) rfl (by decide +kernel) k_Parser_expect l_Parser_73 (show 2 + 1 ≤ dR_Parser_readExpr + 1 by omega) (Nat.le_of_ble_eq_true rfl) hle.1 hle.2 ?_
  refine pm_blk (pc' := 36) (L' := [(4, .int q2.1), (3, .int ((u.1 39 11) + 1)), (2, .int q1), (0, .ref 39), (1, .int a1)]) (S' := [.int (a1 + 1), .ref 39]) (M' := sm g q3) [pm_o (.aload_n 0), pm_o (.iload_n 1), pm_oi (.iconst 1) 1, pm_o .iadd] (by decide +kernel) rfl ?_
  obtain ⟨q4, hq4, h⟩ := pm_bd h
  obtain ⟨hu5, h⟩ := pm_ifs h
  obtain ⟨h, hl6⟩ := pm_Ss h
  refine pm_cV (idx := 125) m_Parser_readExpr (hr_Parser_readExpr hT hq4) (As := [.int (a1 + 1)]) (S0 := []) rfl (by decide +kernel) k_Parser_readExpr l_Parser_125 (show dR_Parser_readExpr + 1 ≤ dR_Parser_readExpr + 1 by omega) (Nat.le_of_ble_eq_true rfl) hl6.1 hl6.2 ?_
  refine pm_blk (pc' := 53) (L' := [(5, .int q4.1), (4, .int q2.1), (3, .int ((u.1 39 11) + 1)), (2, .int q1), (0, .ref 39), (1, .int a1)]) (S' := [.int q4.1, .int q2.1, .int (q4.2.2.1 39 12), .ref 29]) (M' := sm q4.2.1 q4.2.2) [pm_o (.istore 5), pm_o (.aload_n 0), pm_of (.getfield 23) 7 3 2, pm_o (.aload_n 0), pm_of (.getfield 97) 7 12 0, pm_o (.iload 4), pm_o (.iload 5)] (by decide +kernel) rfl ?_
  obtain ⟨q7, hq7, h⟩ := pm_bd h
  refine pm_cV (idx := 202) m_Table_setLocalBound (c_Table_setLocalBound l h0 D (sh_Tb_s hu5) hq7) (As := [.int (q4.2.2.1 39 12), .int q2.1, .int q4.1]) (S0 := []) rfl (by decide +kernel) k_Table_setLocalBound l_Parser_202 (show 1 + 1 ≤ dR_Parser_readExpr + 1 by omega) (Nat.le_of_ble_eq_true rfl) hl6.1 hl6.2 ?_
  refine pm_blk (pc' := 59) (L' := [(5, .int q4.1), (4, .int q2.1), (3, .int ((u.1 39 11) + 1)), (2, .int q1), (0, .ref 39), (1, .int a1)]) (S' := [.int 8, .ref 39]) (M' := sm q4.2.1 q7) [pm_o (.aload_n 0), pm_oi (.bipush 8) 8] (by decide +kernel) rfl ?_
  obtain ⟨q8, hq8, h⟩ := pm_bd h
  refine pm_cV (idx := 73) m_Parser_expect (c_Parser_expect l h0 D (sh_Tb_s hu5) hq8) (As := [.int 8]) (S0 := []) rfl (by decide +kernel) k_Parser_expect l_Parser_73 (show 2 + 1 ≤ dR_Parser_readExpr + 1 by omega) (Nat.le_of_ble_eq_true rfl) hl6.1 hl6.2 ?_
  refine pm_blk (pc' := 68) (L' := [(5, .int q4.1), (4, .int q2.1), (3, .int ((u.1 39 11) + 1)), (2, .int q1), (0, .ref 39), (1, .int a1)]) (S' := [.int ((u.1 39 11) + 1), .ref 5, .ref 39]) (M' := sm q4.2.1 q8) [pm_o (.aload_n 0), pm_o (.aload_n 0), pm_of (.getfield 9) 7 0 2, pm_o (.iload_n 3)] (by decide +kernel) rfl ?_
  obtain ⟨q9, hq9, h⟩ := pm_bd h
  refine pm_cV (idx := 81) m_Tokens_value (c_Tokens_value l h0 D (sh_Tb_s hu5) hq9) (As := [.int ((u.1 39 11) + 1)]) (S0 := [.ref 39]) rfl (by decide +kernel) k_Tokens_value l_Parser_81 (show 0 + 1 ≤ dR_Parser_readExpr + 1 by omega) (Nat.le_of_ble_eq_true rfl) hl6.1 hl6.2 ?_
  refine pm_blk (pc' := 73) (L' := [(5, .int q4.1), (4, .int q2.1), (3, .int ((u.1 39 11) + 1)), (2, .int q1), (0, .ref 39), (1, .int a1)]) (S' := [.int q2.1, .long q9, .ref 39]) (M' := sm q4.2.1 q8) [pm_o (.iload 4)] (by decide +kernel) rfl ?_
  obtain ⟨q10, hq10, h⟩ := pm_bd h
  refine pm_cV (idx := 143) m_Parser_bind (c_Parser_bind l h0 D (sh_Tb_s hu5) hq10) (As := [.long q9, .int q2.1]) (S0 := []) rfl (by decide +kernel) k_Parser_bind l_Parser_143 (show 0 + 1 ≤ dR_Parser_readExpr + 1 by omega) (Nat.le_of_ble_eq_true rfl) hl6.1 hl6.2 ?_
  refine pm_blk (pc' := 80) (L' := [(5, .int q4.1), (4, .int q2.1), (3, .int ((u.1 39 11) + 1)), (2, .int q1), (0, .ref 39), (1, .int a1)]) (S' := [.int (a1 + 1), .ref 39]) (M' := sm q4.2.1 q10) [pm_o (.aload_n 0), pm_o (.iload_n 1), pm_oi (.iconst 1) 1, pm_o .iadd] (by decide +kernel) rfl ?_
  obtain ⟨q11, hq11, h⟩ := pm_bd h
  obtain ⟨hu12, h⟩ := pm_ifs h
  obtain ⟨h, hl13⟩ := pm_Ss h
  refine pm_cV (idx := 125) m_Parser_readExpr (hr_Parser_readExpr (sh_Tb_s hu5) hq11) (As := [.int (a1 + 1)]) (S0 := []) rfl (by decide +kernel) k_Parser_readExpr l_Parser_125 (show dR_Parser_readExpr + 1 ≤ dR_Parser_readExpr + 1 by omega) (Nat.le_of_ble_eq_true rfl) hl13.1 hl13.2 ?_
  refine pm_blk (pc' := 86) (L' := [(6, .int q11.1), (5, .int q4.1), (4, .int q2.1), (3, .int ((u.1 39 11) + 1)), (2, .int q1), (0, .ref 39), (1, .int a1)]) (S' := [.ref 39]) (M' := sm q11.2.1 q11.2.2) [pm_o (.istore 6), pm_o (.aload_n 0)] (by decide +kernel) rfl ?_
  obtain ⟨q14, hq14, h⟩ := pm_bd h
  refine pm_cV (idx := 205) m_Parser_unbind (c_Parser_unbind l h0 D (sh_Tb_s hu12) hq14) (As := []) (S0 := []) rfl (by decide +kernel) k_Parser_unbind l_Parser_205 (show 1 + 1 ≤ dR_Parser_readExpr + 1 by omega) (Nat.le_of_ble_eq_true rfl) hl13.1 hl13.2 ?_
  refine pm_blk (pc' := 102) (L' := [(6, .int q11.1), (5, .int q4.1), (4, .int q2.1), (3, .int ((u.1 39 11) + 1)), (2, .int q1), (0, .ref 39), (1, .int a1)]) (S' := [.int q2.1, .int q11.1, .int q4.1, .int q1, .int 7, .ref 18]) (M' := sm q11.2.1 q14) [pm_o (.aload_n 0), pm_of (.getfield 19) 7 2 2, pm_oi (.bipush 7) 7, pm_o (.iload_n 2), pm_o (.iload 5), pm_o (.iload 6), pm_o (.iload 4)] (by decide +kernel) rfl ?_
  obtain ⟨q15, hq15, h⟩ := pm_bd h
  refine pm_cV (idx := 208) m_Tree_add (c_Tree_add l h0 D (sh_Tb_s hu12) hq15) (As := [.int 7, .int q1, .int q4.1, .int q11.1, .int q2.1]) (S0 := []) rfl (by decide +kernel) k_Tree_add l_Parser_208 (show 2 + 1 ≤ dR_Parser_readExpr + 1 by omega) (Nat.le_of_ble_eq_true rfl) hl13.1 hl13.2 ?_
  refine pm_blk (pc' := 105) (L' := [(6, .int q11.1), (5, .int q4.1), (4, .int q2.1), (3, .int ((u.1 39 11) + 1)), (2, .int q1), (0, .ref 39), (1, .int a1)]) (S' := [.int q15.1]) (M' := sm q11.2.1 q15.2) [] (by decide +kernel) rfl ?_
  have h9 := Option.some.inj h
  subst h9
  exact pm_reti rfl (by decide +kernel) rfl rfl rfl
def F_Parser_readIf (N : Nat) (r_Parser_readExpr : Int32 → pm_s → pm_J → Option (Int32 × pm_s × pm_J)) (a1 : Int32) (g : pm_s) (u : pm_J) : Option (Int32 × pm_s × pm_J) := pm_S g ((F_Parser_here g u).bind fun q1 => (r_Parser_readExpr (a1 + 1) g (wi u 39 11 ((u.1 39 11) + 1))).bind fun q2 => if sh_Tb q2.2.1 = true then pm_S q2.2.1 ((F_Parser_expect 10 q2.2.1 q2.2.2).bind fun q5 => (r_Parser_readExpr (a1 + 1) q2.2.1 q5).bind fun q6 => if sh_Tb q6.2.1 = true then pm_S q6.2.1 ((F_Parser_expect 11 q6.2.1 q6.2.2).bind fun q9 => (r_Parser_readExpr (a1 + 1) q6.2.1 q9).bind fun q10 => if sh_Tb q10.2.1 = true then pm_S q10.2.1 ((F_Tree_add N 8 q1 q2.1 q6.1 q10.1 q10.2.1 q10.2.2).bind fun q13 => some (q13.1, q10.2.1, q13.2)) else none) else none) else none)
set_option maxHeartbeats 4000000 in
set_option maxRecDepth 100000 in
theorem c_Parser_readIf (l : Launch) (h0 : Nat) (D : pm_D) {g : pm_s} {u : pm_J} (hT : sh_T g) {N : Nat} {r_Parser_readExpr : Int32 → pm_s → pm_J → Option (Int32 × pm_s × pm_J)} {dR_Parser_readExpr : Nat} (hdR_Parser_readExpr : 76 ≤ dR_Parser_readExpr) (hr_Parser_readExpr : ∀ {a1 : Int32} {g : pm_s} {u : pm_J} {out : Int32 × pm_s × pm_J}, sh_T g → r_Parser_readExpr a1 g u = some out → pm_C l h0 D m_Parser_readExpr dR_Parser_readExpr [.ref 39, .int a1] (sm g u) (some (.int out.1)) (sm out.2.1 out.2.2)) {a1 : Int32} {out : Int32 × pm_s × pm_J} (h : F_Parser_readIf N r_Parser_readExpr a1 g u = some out) : pm_C l h0 D m_Parser_readIf (dR_Parser_readExpr + 1) [.ref 39, .int a1] (sm g u) (some (.int out.1)) (sm out.2.1 out.2.2) := by
  unfold F_Parser_readIf at h
  obtain ⟨h, hle⟩ := pm_Ss h
  refine pm_met (by decide +kernel) (Nat.le_of_ble_eq_true rfl) hle.1 hle.2 ?_
  intro p e R s m args below meth c
  refine pm_blk (pc' := 1) (L' := [(0, .ref 39), (1, .int a1)]) (S' := [.ref 39]) (M' := sm g u) [pm_o (.aload_n 0)] (by decide +kernel) rfl ?_
  obtain ⟨q1, hq1, h⟩ := pm_bd h
  refine pm_cV (idx := 66) m_Parser_here (c_Parser_here l h0 D hT hq1) (As := []) (S0 := []) rfl (by decide +kernel) k_Parser_here l_Parser_66 (show 1 + 1 ≤ dR_Parser_readExpr + 1 by omega) (Nat.le_of_ble_eq_true rfl) hle.1 hle.2 ?_
  refine pm_blk (pc' := 19) (L' := [(2, .int q1), (0, .ref 39), (1, .int a1)]) (S' := [.int (a1 + 1), .ref 39]) (M' := sm g (wi u 39 11 ((u.1 39 11) + 1))) [pm_o (.istore_n 2), pm_o (.aload_n 0), pm_o .dup, pm_of (.getfield 47) 7 11 0, pm_oi (.iconst 1) 1, pm_o .iadd, pm_of (.putfield 47) 7 11 0, pm_o (.aload_n 0), pm_o (.iload_n 1), pm_oi (.iconst 1) 1, pm_o .iadd] (by decide +kernel) rfl ?_
  obtain ⟨q2, hq2, h⟩ := pm_bd h
  obtain ⟨hu3, h⟩ := pm_ifs h
  obtain ⟨h, hl4⟩ := pm_Ss h
  refine pm_cV (idx := 125) m_Parser_readExpr (hr_Parser_readExpr hT hq2) (As := [.int (a1 + 1)]) (S0 := []) rfl (by decide +kernel) k_Parser_readExpr l_Parser_125 (show dR_Parser_readExpr + 1 ≤ dR_Parser_readExpr + 1 by omega) (Nat.le_of_ble_eq_true rfl) hl4.1 hl4.2 ?_
  refine pm_blk (pc' := 26) (L' := [(3, .int q2.1), (2, .int q1), (0, .ref 39), (1, .int a1)]) (S' := [.int 10, .ref 39]) (M' := sm q2.2.1 q2.2.2) [pm_o (.istore_n 3), pm_o (.aload_n 0), pm_oi (.bipush 10) 10] (by decide +kernel) rfl ?_
  obtain ⟨q5, hq5, h⟩ := pm_bd h
  refine pm_cV (idx := 73) m_Parser_expect (c_Parser_expect l h0 D (sh_Tb_s hu3) hq5) (As := [.int 10]) (S0 := []) rfl (by decide +kernel) k_Parser_expect l_Parser_73 (show 2 + 1 ≤ dR_Parser_readExpr + 1 by omega) (Nat.le_of_ble_eq_true rfl) hl4.1 hl4.2 ?_
  refine pm_blk (pc' := 33) (L' := [(3, .int q2.1), (2, .int q1), (0, .ref 39), (1, .int a1)]) (S' := [.int (a1 + 1), .ref 39]) (M' := sm q2.2.1 q5) [pm_o (.aload_n 0), pm_o (.iload_n 1), pm_oi (.iconst 1) 1, pm_o .iadd] (by decide +kernel) rfl ?_
  obtain ⟨q6, hq6, h⟩ := pm_bd h
  obtain ⟨hu7, h⟩ := pm_ifs h
  obtain ⟨h, hl8⟩ := pm_Ss h
  refine pm_cV (idx := 125) m_Parser_readExpr (hr_Parser_readExpr (sh_Tb_s hu3) hq6) (As := [.int (a1 + 1)]) (S0 := []) rfl (by decide +kernel) k_Parser_readExpr l_Parser_125 (show dR_Parser_readExpr + 1 ≤ dR_Parser_readExpr + 1 by omega) (Nat.le_of_ble_eq_true rfl) hl8.1 hl8.2 ?_
  refine pm_blk (pc' := 41) (L' := [(4, .int q6.1), (3, .int q2.1), (2, .int q1), (0, .ref 39), (1, .int a1)]) (S' := [.int 11, .ref 39]) (M' := sm q6.2.1 q6.2.2) [pm_o (.istore 4), pm_o (.aload_n 0), pm_oi (.bipush 11) 11] (by decide +kernel) rfl ?_
  obtain ⟨q9, hq9, h⟩ := pm_bd h
  refine pm_cV (idx := 73) m_Parser_expect (c_Parser_expect l h0 D (sh_Tb_s hu7) hq9) (As := [.int 11]) (S0 := []) rfl (by decide +kernel) k_Parser_expect l_Parser_73 (show 2 + 1 ≤ dR_Parser_readExpr + 1 by omega) (Nat.le_of_ble_eq_true rfl) hl8.1 hl8.2 ?_
  refine pm_blk (pc' := 48) (L' := [(4, .int q6.1), (3, .int q2.1), (2, .int q1), (0, .ref 39), (1, .int a1)]) (S' := [.int (a1 + 1), .ref 39]) (M' := sm q6.2.1 q9) [pm_o (.aload_n 0), pm_o (.iload_n 1), pm_oi (.iconst 1) 1, pm_o .iadd] (by decide +kernel) rfl ?_
  obtain ⟨q10, hq10, h⟩ := pm_bd h
  obtain ⟨hu11, h⟩ := pm_ifs h
  obtain ⟨h, hl12⟩ := pm_Ss h
  refine pm_cV (idx := 125) m_Parser_readExpr (hr_Parser_readExpr (sh_Tb_s hu7) hq10) (As := [.int (a1 + 1)]) (S0 := []) rfl (by decide +kernel) k_Parser_readExpr l_Parser_125 (show dR_Parser_readExpr + 1 ≤ dR_Parser_readExpr + 1 by omega) (Nat.le_of_ble_eq_true rfl) hl12.1 hl12.2 ?_
  refine pm_blk (pc' := 65) (L' := [(5, .int q10.1), (4, .int q6.1), (3, .int q2.1), (2, .int q1), (0, .ref 39), (1, .int a1)]) (S' := [.int q10.1, .int q6.1, .int q2.1, .int q1, .int 8, .ref 18]) (M' := sm q10.2.1 q10.2.2) [pm_o (.istore 5), pm_o (.aload_n 0), pm_of (.getfield 19) 7 2 2, pm_oi (.bipush 8) 8, pm_o (.iload_n 2), pm_o (.iload_n 3), pm_o (.iload 4), pm_o (.iload 5)] (by decide +kernel) rfl ?_
  obtain ⟨q13, hq13, h⟩ := pm_bd h
  refine pm_cV (idx := 208) m_Tree_add (c_Tree_add l h0 D (sh_Tb_s hu11) hq13) (As := [.int 8, .int q1, .int q2.1, .int q6.1, .int q10.1]) (S0 := []) rfl (by decide +kernel) k_Tree_add l_Parser_208 (show 2 + 1 ≤ dR_Parser_readExpr + 1 by omega) (Nat.le_of_ble_eq_true rfl) hl12.1 hl12.2 ?_
  refine pm_blk (pc' := 68) (L' := [(5, .int q10.1), (4, .int q6.1), (3, .int q2.1), (2, .int q1), (0, .ref 39), (1, .int a1)]) (S' := [.int q13.1]) (M' := sm q10.2.1 q13.2) [] (by decide +kernel) rfl ?_
  have h9 := Option.some.inj h
  subst h9
  exact pm_reti rfl (by decide +kernel) rfl rfl rfl
def F_Parser_readFn (N : Nat) (r_Parser_readExpr : Int32 → pm_s → pm_J → Option (Int32 × pm_s × pm_J)) (a1 : Int32) (g : pm_s) (u : pm_J) : Option (Int32 × pm_s × pm_J) := pm_S g ((F_Parser_here g u).bind fun q1 => (F_Parser_expect 15 g (wi u 39 11 ((u.1 39 11) + 1))).bind fun q2 => (F_Parser_readLocal N g q2).bind fun q3 => (F_Parser_expect 17 g q3.2).bind fun q4 => (F_Parser_readType N 24 1 0 g q4).bind fun q5 => if sh_Tb q5.2.1 = true then pm_S q5.2.1 ((F_Table_setLocalType (q4.1 39 12) q3.1 q5.1 q5.2.1 q5.2.2).bind fun q8 => (F_Parser_expect 16 q5.2.1 q8).bind fun q9 => (F_Parser_expect 25 q5.2.1 q9).bind fun q10 => (F_Tokens_value (q2.1 39 11) q5.2.1 q10).bind fun q11 => (F_Parser_bind q11 q3.1 q5.2.1 q10).bind fun q12 => (r_Parser_readExpr (a1 + 1) q5.2.1 q12).bind fun q13 => if sh_Tb q13.2.1 = true then pm_S q13.2.1 ((F_Parser_unbind q13.2.1 q13.2.2).bind fun q16 => (F_Tree_add N 9 q1 q13.1 (-1) q3.1 q13.2.1 q16).bind fun q17 => (F_Tree_setValue q17.1 ((q17.2.1 39 12).toInt64) q13.2.1 q17.2).bind fun q18 => some (q17.1, q13.2.1, q18)) else none) else none)
set_option maxHeartbeats 4000000 in
set_option maxRecDepth 100000 in
theorem c_Parser_readFn (l : Launch) (h0 : Nat) (D : pm_D) {g : pm_s} {u : pm_J} (hT : sh_T g) {N : Nat} {r_Parser_readExpr : Int32 → pm_s → pm_J → Option (Int32 × pm_s × pm_J)} {dR_Parser_readExpr : Nat} (hdR_Parser_readExpr : 76 ≤ dR_Parser_readExpr) (hr_Parser_readExpr : ∀ {a1 : Int32} {g : pm_s} {u : pm_J} {out : Int32 × pm_s × pm_J}, sh_T g → r_Parser_readExpr a1 g u = some out → pm_C l h0 D m_Parser_readExpr dR_Parser_readExpr [.ref 39, .int a1] (sm g u) (some (.int out.1)) (sm out.2.1 out.2.2)) {a1 : Int32} {out : Int32 × pm_s × pm_J} (h : F_Parser_readFn N r_Parser_readExpr a1 g u = some out) : pm_C l h0 D m_Parser_readFn (dR_Parser_readExpr + 1) [.ref 39, .int a1] (sm g u) (some (.int out.1)) (sm out.2.1 out.2.2) := by
  unfold F_Parser_readFn at h
  obtain ⟨h, hle⟩ := pm_Ss h
  refine pm_met (by decide +kernel) (Nat.le_of_ble_eq_true rfl) hle.1 hle.2 ?_
  intro p e R s m args below meth c
  refine pm_blk (pc' := 1) (L' := [(0, .ref 39), (1, .int a1)]) (S' := [.ref 39]) (M' := sm g u) [pm_o (.aload_n 0)] (by decide +kernel) rfl ?_
  obtain ⟨q1, hq1, h⟩ := pm_bd h
  refine pm_cV (idx := 66) m_Parser_here (c_Parser_here l h0 D hT hq1) (As := []) (S0 := []) rfl (by decide +kernel) k_Parser_here l_Parser_66 (show 1 + 1 ≤ dR_Parser_readExpr + 1 by omega) (Nat.le_of_ble_eq_true rfl) hle.1 hle.2 ?_
  refine pm_blk (pc' := 18) (L' := [(2, .int q1), (0, .ref 39), (1, .int a1)]) (S' := [.int 15, .ref 39]) (M' := sm g (wi u 39 11 ((u.1 39 11) + 1))) [pm_o (.istore_n 2), pm_o (.aload_n 0), pm_o .dup, pm_of (.getfield 47) 7 11 0, pm_oi (.iconst 1) 1, pm_o .iadd, pm_of (.putfield 47) 7 11 0, pm_o (.aload_n 0), pm_oi (.bipush 15) 15] (by decide +kernel) rfl ?_
  obtain ⟨q2, hq2, h⟩ := pm_bd h
  refine pm_cV (idx := 73) m_Parser_expect (c_Parser_expect l h0 D hT hq2) (As := [.int 15]) (S0 := []) rfl (by decide +kernel) k_Parser_expect l_Parser_73 (show 2 + 1 ≤ dR_Parser_readExpr + 1 by omega) (Nat.le_of_ble_eq_true rfl) hle.1 hle.2 ?_
  refine pm_blk (pc' := 27) (L' := [(3, .int (q2.1 39 11)), (2, .int q1), (0, .ref 39), (1, .int a1)]) (S' := [.ref 39]) (M' := sm g q2) [pm_o (.aload_n 0), pm_of (.getfield 47) 7 11 0, pm_o (.istore_n 3), pm_o (.aload_n 0)] (by decide +kernel) rfl ?_
  obtain ⟨q3, hq3, h⟩ := pm_bd h
  refine pm_cV (idx := 137) m_Parser_readLocal (c_Parser_readLocal l h0 D hT hq3) (As := []) (S0 := []) rfl (by decide +kernel) k_Parser_readLocal l_Parser_137 (show 3 + 1 ≤ dR_Parser_readExpr + 1 by omega) (Nat.le_of_ble_eq_true rfl) hle.1 hle.2 ?_
  refine pm_blk (pc' := 35) (L' := [(4, .int q3.1), (3, .int (q2.1 39 11)), (2, .int q1), (0, .ref 39), (1, .int a1)]) (S' := [.int 17, .ref 39]) (M' := sm g q3.2) [pm_o (.istore 4), pm_o (.aload_n 0), pm_oi (.bipush 17) 17] (by decide +kernel) rfl ?_
  obtain ⟨q4, hq4, h⟩ := pm_bd h
  refine pm_cV (idx := 73) m_Parser_expect (c_Parser_expect l h0 D hT hq4) (As := [.int 17]) (S0 := []) rfl (by decide +kernel) k_Parser_expect l_Parser_73 (show 2 + 1 ≤ dR_Parser_readExpr + 1 by omega) (Nat.le_of_ble_eq_true rfl) hle.1 hle.2 ?_
  refine pm_blk (pc' := 51) (L' := [(4, .int q3.1), (3, .int (q2.1 39 11)), (2, .int q1), (0, .ref 39), (1, .int a1)]) (S' := [.int 0, .int 1, .ref 39, .int q3.1, .int (q4.1 39 12), .ref 29]) (M' := sm g q4) [pm_o (.aload_n 0), pm_of (.getfield 23) 7 3 2, pm_o (.aload_n 0), pm_of (.getfield 97) 7 12 0, pm_o (.iload 4), pm_o (.aload_n 0), pm_oi (.iconst 1) 1, pm_oi (.iconst 0) 0] (by decide +kernel) rfl ?_
  obtain ⟨q5, hq5, h⟩ := pm_bd h
  obtain ⟨hu6, h⟩ := pm_ifs h
  obtain ⟨h, hl7⟩ := pm_Ss h
  refine pm_cV (idx := 118) m_Parser_readType (c_Parser_readType l h0 D hT hq5) (As := [.int 1, .int 0]) (S0 := [.int q3.1, .int (q4.1 39 12), .ref 29]) rfl (by decide +kernel) k_Parser_readType l_Parser_118 (show 75 + 1 ≤ dR_Parser_readExpr + 1 by omega) (Nat.le_of_ble_eq_true rfl) hl7.1 hl7.2 ?_
  refine pm_blk (pc' := 54) (L' := [(4, .int q3.1), (3, .int (q2.1 39 11)), (2, .int q1), (0, .ref 39), (1, .int a1)]) (S' := [.int q5.1, .int q3.1, .int (q4.1 39 12), .ref 29]) (M' := sm q5.2.1 q5.2.2) [] (by decide +kernel) rfl ?_
  obtain ⟨q8, hq8, h⟩ := pm_bd h
  refine pm_cV (idx := 147) m_Table_setLocalType (c_Table_setLocalType l h0 D (sh_Tb_s hu6) hq8) (As := [.int (q4.1 39 12), .int q3.1, .int q5.1]) (S0 := []) rfl (by decide +kernel) k_Table_setLocalType l_Parser_147 (show 1 + 1 ≤ dR_Parser_readExpr + 1 by omega) (Nat.le_of_ble_eq_true rfl) hl7.1 hl7.2 ?_
  refine pm_blk (pc' := 60) (L' := [(4, .int q3.1), (3, .int (q2.1 39 11)), (2, .int q1), (0, .ref 39), (1, .int a1)]) (S' := [.int 16, .ref 39]) (M' := sm q5.2.1 q8) [pm_o (.aload_n 0), pm_oi (.bipush 16) 16] (by decide +kernel) rfl ?_
  obtain ⟨q9, hq9, h⟩ := pm_bd h
  refine pm_cV (idx := 73) m_Parser_expect (c_Parser_expect l h0 D (sh_Tb_s hu6) hq9) (As := [.int 16]) (S0 := []) rfl (by decide +kernel) k_Parser_expect l_Parser_73 (show 2 + 1 ≤ dR_Parser_readExpr + 1 by omega) (Nat.le_of_ble_eq_true rfl) hl7.1 hl7.2 ?_
  refine pm_blk (pc' := 66) (L' := [(4, .int q3.1), (3, .int (q2.1 39 11)), (2, .int q1), (0, .ref 39), (1, .int a1)]) (S' := [.int 25, .ref 39]) (M' := sm q5.2.1 q9) [pm_o (.aload_n 0), pm_oi (.bipush 25) 25] (by decide +kernel) rfl ?_
  obtain ⟨q10, hq10, h⟩ := pm_bd h
  refine pm_cV (idx := 73) m_Parser_expect (c_Parser_expect l h0 D (sh_Tb_s hu6) hq10) (As := [.int 25]) (S0 := []) rfl (by decide +kernel) k_Parser_expect l_Parser_73 (show 2 + 1 ≤ dR_Parser_readExpr + 1 by omega) (Nat.le_of_ble_eq_true rfl) hl7.1 hl7.2 ?_
  refine pm_blk (pc' := 75) (L' := [(4, .int q3.1), (3, .int (q2.1 39 11)), (2, .int q1), (0, .ref 39), (1, .int a1)]) (S' := [.int (q2.1 39 11), .ref 5, .ref 39]) (M' := sm q5.2.1 q10) [pm_o (.aload_n 0), pm_o (.aload_n 0), pm_of (.getfield 9) 7 0 2, pm_o (.iload_n 3)] (by decide +kernel) rfl ?_
  obtain ⟨q11, hq11, h⟩ := pm_bd h
  refine pm_cV (idx := 81) m_Tokens_value (c_Tokens_value l h0 D (sh_Tb_s hu6) hq11) (As := [.int (q2.1 39 11)]) (S0 := [.ref 39]) rfl (by decide +kernel) k_Tokens_value l_Parser_81 (show 0 + 1 ≤ dR_Parser_readExpr + 1 by omega) (Nat.le_of_ble_eq_true rfl) hl7.1 hl7.2 ?_
  refine pm_blk (pc' := 80) (L' := [(4, .int q3.1), (3, .int (q2.1 39 11)), (2, .int q1), (0, .ref 39), (1, .int a1)]) (S' := [.int q3.1, .long q11, .ref 39]) (M' := sm q5.2.1 q10) [pm_o (.iload 4)] (by decide +kernel) rfl ?_
  obtain ⟨q12, hq12, h⟩ := pm_bd h
  refine pm_cV (idx := 143) m_Parser_bind (c_Parser_bind l h0 D (sh_Tb_s hu6) hq12) (As := [.long q11, .int q3.1]) (S0 := []) rfl (by decide +kernel) k_Parser_bind l_Parser_143 (show 0 + 1 ≤ dR_Parser_readExpr + 1 by omega) (Nat.le_of_ble_eq_true rfl) hl7.1 hl7.2 ?_
  refine pm_blk (pc' := 87) (L' := [(4, .int q3.1), (3, .int (q2.1 39 11)), (2, .int q1), (0, .ref 39), (1, .int a1)]) (S' := [.int (a1 + 1), .ref 39]) (M' := sm q5.2.1 q12) [pm_o (.aload_n 0), pm_o (.iload_n 1), pm_oi (.iconst 1) 1, pm_o .iadd] (by decide +kernel) rfl ?_
  obtain ⟨q13, hq13, h⟩ := pm_bd h
  obtain ⟨hu14, h⟩ := pm_ifs h
  obtain ⟨h, hl15⟩ := pm_Ss h
  refine pm_cV (idx := 125) m_Parser_readExpr (hr_Parser_readExpr (sh_Tb_s hu6) hq13) (As := [.int (a1 + 1)]) (S0 := []) rfl (by decide +kernel) k_Parser_readExpr l_Parser_125 (show dR_Parser_readExpr + 1 ≤ dR_Parser_readExpr + 1 by omega) (Nat.le_of_ble_eq_true rfl) hl15.1 hl15.2 ?_
  refine pm_blk (pc' := 93) (L' := [(5, .int q13.1), (4, .int q3.1), (3, .int (q2.1 39 11)), (2, .int q1), (0, .ref 39), (1, .int a1)]) (S' := [.ref 39]) (M' := sm q13.2.1 q13.2.2) [pm_o (.istore 5), pm_o (.aload_n 0)] (by decide +kernel) rfl ?_
  obtain ⟨q16, hq16, h⟩ := pm_bd h
  refine pm_cV (idx := 205) m_Parser_unbind (c_Parser_unbind l h0 D (sh_Tb_s hu14) hq16) (As := []) (S0 := []) rfl (by decide +kernel) k_Parser_unbind l_Parser_205 (show 1 + 1 ≤ dR_Parser_readExpr + 1 by omega) (Nat.le_of_ble_eq_true rfl) hl15.1 hl15.2 ?_
  refine pm_blk (pc' := 108) (L' := [(5, .int q13.1), (4, .int q3.1), (3, .int (q2.1 39 11)), (2, .int q1), (0, .ref 39), (1, .int a1)]) (S' := [.int q3.1, .int (-1), .int q13.1, .int q1, .int 9, .ref 18]) (M' := sm q13.2.1 q16) [pm_o (.aload_n 0), pm_of (.getfield 19) 7 2 2, pm_oi (.bipush 9) 9, pm_o (.iload_n 2), pm_o (.iload 5), pm_oi (.iconst (-1)) (-1), pm_o (.iload 4)] (by decide +kernel) rfl ?_
  obtain ⟨q17, hq17, h⟩ := pm_bd h
  refine pm_cV (idx := 208) m_Tree_add (c_Tree_add l h0 D (sh_Tb_s hu14) hq17) (As := [.int 9, .int q1, .int q13.1, .int (-1), .int q3.1]) (S0 := []) rfl (by decide +kernel) k_Tree_add l_Parser_208 (show 2 + 1 ≤ dR_Parser_readExpr + 1 by omega) (Nat.le_of_ble_eq_true rfl) hl15.1 hl15.2 ?_
  refine pm_blk (pc' := 124) (L' := [(6, .int q17.1), (5, .int q13.1), (4, .int q3.1), (3, .int (q2.1 39 11)), (2, .int q1), (0, .ref 39), (1, .int a1)]) (S' := [.long ((q17.2.1 39 12).toInt64), .int q17.1, .ref 18]) (M' := sm q13.2.1 q17.2) [pm_o (.istore 6), pm_o (.aload_n 0), pm_of (.getfield 19) 7 2 2, pm_o (.iload 6), pm_o (.aload_n 0), pm_of (.getfield 97) 7 12 0, pm_o .i2l] (by decide +kernel) rfl ?_
  obtain ⟨q18, hq18, h⟩ := pm_bd h
  refine pm_cV (idx := 211) m_Tree_setValue (c_Tree_setValue l h0 D (sh_Tb_s hu14) hq18) (As := [.int q17.1, .long ((q17.2.1 39 12).toInt64)]) (S0 := []) rfl (by decide +kernel) k_Tree_setValue l_Parser_211 (show 0 + 1 ≤ dR_Parser_readExpr + 1 by omega) (Nat.le_of_ble_eq_true rfl) hl15.1 hl15.2 ?_
  refine pm_blk (pc' := 129) (L' := [(6, .int q17.1), (5, .int q13.1), (4, .int q3.1), (3, .int (q2.1 39 11)), (2, .int q1), (0, .ref 39), (1, .int a1)]) (S' := [.int q17.1]) (M' := sm q13.2.1 q18) [pm_o (.iload 6)] (by decide +kernel) rfl ?_
  have h9 := Option.some.inj h
  subst h9
  exact pm_reti rfl (by decide +kernel) rfl rfl rfl
def K_Parser_findLocal_7 (N : Nat) (g : pm_s) (u : pm_J) : Nat → Int64 → Int32 → Option (Int32)
  | 0, _, _ => none
  | n + 1, y1, x3 => if x3 < 0 then some (-1) else if pm_ok x3 24 = true then if (lg_cmp (u.2 40 x3.toNatClampNeg) y1) = 0 then if pm_ok x3 24 = true then some (u.1 41 x3.toNatClampNeg) else none else K_Parser_findLocal_7 N g u  n y1 (x3 + (-1)) else none
set_option maxHeartbeats 4000000 in
set_option maxRecDepth 100000 in
theorem w_Parser_findLocal_7 (l : Launch) (h0 : Nat) (D : pm_D) {g : pm_s} (hT : sh_T g) {N : Nat} {u : pm_J} {out : Int32} {p : Program} {e : Env} {R : Room} {s : State} {m : MethodId} {args : Array Value} {below : List Frame} {meth : Method} {c : Code} : ∀ (n : Nat) (y1 : Int64) (x3 : Int32), K_Parser_findLocal_7 N g u n y1 x3 = some out → pm_V (p, l, e, R, s, m, args, below, meth, c) m_Parser_findLocal h0 D (g.1, g.2.1, g.1, g.2.1, 0) (pm_E (p, l, e, R, s, m, args, below, meth, c) h0 D (sm g u) (some (.int out)) (sm g u)) 7 [(0, .ref 39), (1, .long y1), (3, .int x3)] [] (sm g u) := by
  intro n
  induction n with
  | zero => intro y1 x3 h; cases h
  | succ n ih =>
    intro y1 x3 h
    rw [K_Parser_findLocal_7] at h
    refine pm_blk (pc' := 8) (L' := [(0, .ref 39), (1, .long y1), (3, .int x3)]) (S' := [.int x3]) (M' := sm g u) [pm_o (.iload_n 3)] (by decide +kernel) rfl ?_
    refine pm_if_lt (off := 27) 35 (by decide +kernel) (by decide) (fun hc1 => ?_) (fun hc1 => ?_)
    · rw [if_pos hc1] at h
      refine pm_blk (pc' := 36) (L' := [(0, .ref 39), (1, .long y1), (3, .int x3)]) (S' := [.int (-1)]) (M' := sm g u) [pm_oi (.iconst (-1)) (-1)] (by decide +kernel) rfl ?_
      have h9 := Option.some.inj h
      subst h9
      exact pm_reti rfl (by decide +kernel) rfl rfl rfl
    · rw [if_neg hc1] at h
      refine pm_blk (pc' := 16) (L' := [(0, .ref 39), (1, .long y1), (3, .int x3)]) (S' := [.int x3, .ref 40]) (M' := sm g u) [pm_o (.aload_n 0), pm_of (.getfield 36) 7 6 2, pm_o (.iload_n 3)] (by decide +kernel) rfl ?_
      obtain ⟨ho2, h⟩ := pm_ifs h
      refine pm_lald (by decide +kernel) rfl (pm_ok_in ho2) ?_
      refine pm_blk (pc' := 19) (L' := [(0, .ref 39), (1, .long y1), (3, .int x3)]) (S' := [.int (lg_cmp (u.2 40 x3.toNatClampNeg) y1)]) (M' := sm g u) [pm_o (.lload_n 1), pm_o .lcmp] (by decide +kernel) rfl ?_
      refine pm_if_ne (off := 10) 29 (by decide +kernel) (by decide) (fun hc3 => ?_) (fun hc3 => ?_)
      · rw [if_neg hc3] at h
        refine pm_blk (pc' := 32) (L' := [(3, .int (x3 + (-1))), (0, .ref 39), (1, .long y1)]) (S' := []) (M' := sm g u) [pm_oi (.iinc 3 (-1)) (-1)] (by decide +kernel) rfl ?_
        refine pm_goto (off := -25) 7 (by decide +kernel) (by decide) ?_
        refine pm_loc [1, 2, 0] rfl ?_
        exact ih y1 (x3 + (-1)) h
      · rw [if_pos hc3] at h
        refine pm_blk (pc' := 27) (L' := [(0, .ref 39), (1, .long y1), (3, .int x3)]) (S' := [.int x3, .ref 41]) (M' := sm g u) [pm_o (.aload_n 0), pm_of (.getfield 40) 7 7 2, pm_o (.iload_n 3)] (by decide +kernel) rfl ?_
        obtain ⟨ho4, h⟩ := pm_ifs h
        refine pm_iald (by decide +kernel) rfl (pm_ok_in ho4) ?_
        refine pm_blk (pc' := 28) (L' := [(0, .ref 39), (1, .long y1), (3, .int x3)]) (S' := [.int (u.1 41 x3.toNatClampNeg)]) (M' := sm g u) [] (by decide +kernel) rfl ?_
        have h9 := Option.some.inj h
        subst h9
        exact pm_reti rfl (by decide +kernel) rfl rfl rfl
def F_Parser_findLocal (N : Nat) (a1 : Int64) (g : pm_s) (u : pm_J) : Option (Int32) := K_Parser_findLocal_7 N g u N a1 ((u.1 39 8) - 1)
set_option maxHeartbeats 4000000 in
set_option maxRecDepth 100000 in
theorem c_Parser_findLocal (l : Launch) (h0 : Nat) (D : pm_D) {g : pm_s} {u : pm_J} (hT : sh_T g) {N : Nat} {a1 : Int64} {out : Int32} (h : F_Parser_findLocal N a1 g u = some out) : pm_C l h0 D m_Parser_findLocal (0) [.ref 39, .long a1] (sm g u) (some (.int out)) (sm g u) := by
  unfold F_Parser_findLocal at h
  refine pm_met (by decide +kernel) (Nat.le_of_ble_eq_true rfl) (Nat.le_refl _) (Nat.le_refl _) ?_
  intro p e R s m args below meth c
  refine pm_blk (pc' := 7) (L' := [(3, .int ((u.1 39 8) - 1)), (0, .ref 39), (1, .long a1)]) (S' := []) (M' := sm g u) [pm_o (.aload_n 0), pm_of (.getfield 100) 7 8 0, pm_oi (.iconst 1) 1, pm_o .isub, pm_o (.istore_n 3)] (by decide +kernel) rfl ?_
  refine pm_loc [1, 2, 0] rfl ?_
  exact w_Parser_findLocal_7 l h0 D hT N a1 ((u.1 39 8) - 1) h
def F_Parser_readLeafExpr (N : Nat) (a1 : Int32) (a2 : Int32) (g : pm_s) (u : pm_J) : Option (Int32 × pm_J) := (F_Parser_here g u).bind fun q1 => (F_Tree_add N a1 q1 a2 (-1) (-1) g u).bind fun q2 => (F_Tokens_value (q2.2.1 39 11) g q2.2).bind fun q3 => (F_Tree_setValue q2.1 q3 g q2.2).bind fun q4 => some (q2.1, (wi q4 39 11 ((q4.1 39 11) + 1)))
set_option maxHeartbeats 4000000 in
set_option maxRecDepth 100000 in
theorem c_Parser_readLeafExpr (l : Launch) (h0 : Nat) (D : pm_D) {g : pm_s} {u : pm_J} (hT : sh_T g) {N : Nat} {a1 : Int32} {a2 : Int32} {out : Int32 × pm_J} (h : F_Parser_readLeafExpr N a1 a2 g u = some out) : pm_C l h0 D m_Parser_readLeafExpr (3) [.ref 39, .int a1, .int a2] (sm g u) (some (.int out.1)) (sm g out.2) := by
  unfold F_Parser_readLeafExpr at h
  refine pm_met (by decide +kernel) (Nat.le_of_ble_eq_true rfl) (Nat.le_refl _) (Nat.le_refl _) ?_
  intro p e R s m args below meth c
  refine pm_blk (pc' := 6) (L' := [(0, .ref 39), (1, .int a1), (2, .int a2)]) (S' := [.ref 39, .int a1, .ref 18]) (M' := sm g u) [pm_o (.aload_n 0), pm_of (.getfield 19) 7 2 2, pm_o (.iload_n 1), pm_o (.aload_n 0)] (by decide +kernel) rfl ?_
  obtain ⟨q1, hq1, h⟩ := pm_bd h
  refine pm_cV (idx := 66) m_Parser_here (c_Parser_here l h0 D hT hq1) (As := []) (S0 := [.int a1, .ref 18]) rfl (by decide +kernel) k_Parser_here l_Parser_66 (Nat.le_of_ble_eq_true rfl) (Nat.le_of_ble_eq_true rfl) (Nat.le_refl _) (Nat.le_refl _) ?_
  refine pm_blk (pc' := 12) (L' := [(0, .ref 39), (1, .int a1), (2, .int a2)]) (S' := [.int (-1), .int (-1), .int a2, .int q1, .int a1, .ref 18]) (M' := sm g u) [pm_o (.iload_n 2), pm_oi (.iconst (-1)) (-1), pm_oi (.iconst (-1)) (-1)] (by decide +kernel) rfl ?_
  obtain ⟨q2, hq2, h⟩ := pm_bd h
  refine pm_cV (idx := 208) m_Tree_add (c_Tree_add l h0 D hT hq2) (As := [.int a1, .int q1, .int a2, .int (-1), .int (-1)]) (S0 := []) rfl (by decide +kernel) k_Tree_add l_Parser_208 (Nat.le_of_ble_eq_true rfl) (Nat.le_of_ble_eq_true rfl) (Nat.le_refl _) (Nat.le_refl _) ?_
  refine pm_blk (pc' := 29) (L' := [(3, .int q2.1), (0, .ref 39), (1, .int a1), (2, .int a2)]) (S' := [.int (q2.2.1 39 11), .ref 5, .int q2.1, .ref 18]) (M' := sm g q2.2) [pm_o (.istore_n 3), pm_o (.aload_n 0), pm_of (.getfield 19) 7 2 2, pm_o (.iload_n 3), pm_o (.aload_n 0), pm_of (.getfield 9) 7 0 2, pm_o (.aload_n 0), pm_of (.getfield 47) 7 11 0] (by decide +kernel) rfl ?_
  obtain ⟨q3, hq3, h⟩ := pm_bd h
  refine pm_cV (idx := 81) m_Tokens_value (c_Tokens_value l h0 D hT hq3) (As := [.int (q2.2.1 39 11)]) (S0 := [.int q2.1, .ref 18]) rfl (by decide +kernel) k_Tokens_value l_Parser_81 (Nat.le_of_ble_eq_true rfl) (Nat.le_of_ble_eq_true rfl) (Nat.le_refl _) (Nat.le_refl _) ?_
  refine pm_blk (pc' := 32) (L' := [(3, .int q2.1), (0, .ref 39), (1, .int a1), (2, .int a2)]) (S' := [.long q3, .int q2.1, .ref 18]) (M' := sm g q2.2) [] (by decide +kernel) rfl ?_
  obtain ⟨q4, hq4, h⟩ := pm_bd h
  refine pm_cV (idx := 211) m_Tree_setValue (c_Tree_setValue l h0 D hT hq4) (As := [.int q2.1, .long q3]) (S0 := []) rfl (by decide +kernel) k_Tree_setValue l_Parser_211 (Nat.le_of_ble_eq_true rfl) (Nat.le_of_ble_eq_true rfl) (Nat.le_refl _) (Nat.le_refl _) ?_
  refine pm_blk (pc' := 46) (L' := [(3, .int q2.1), (0, .ref 39), (1, .int a1), (2, .int a2)]) (S' := [.int q2.1]) (M' := sm g (wi q4 39 11 ((q4.1 39 11) + 1))) [pm_o (.aload_n 0), pm_o .dup, pm_of (.getfield 47) 7 11 0, pm_oi (.iconst 1) 1, pm_o .iadd, pm_of (.putfield 47) 7 11 0, pm_o (.iload_n 3)] (by decide +kernel) rfl ?_
  have h9 := Option.some.inj h
  subst h9
  exact pm_reti rfl (by decide +kernel) rfl rfl rfl
def F_Parser_readBrackets (N : Nat) (r_Parser_readExpr : Int32 → pm_s → pm_J → Option (Int32 × pm_s × pm_J)) (a1 : Int32) (g : pm_s) (u : pm_J) : Option (Int32 × pm_s × pm_J) := pm_S g ((F_Parser_expect 15 g u).bind fun q1 => (r_Parser_readExpr (a1 + 1) g q1).bind fun q2 => if sh_Tb q2.2.1 = true then pm_S q2.2.1 ((F_Parser_kind q2.2.1 q2.2.2).bind fun q5 => if q5 = 20 then (F_Parser_here q2.2.1 q2.2.2).bind fun q8 => (r_Parser_readExpr (a1 + 1) q2.2.1 (wi q2.2.2 39 11 ((q2.2.2.1 39 11) + 1))).bind fun q9 => if sh_Tb q9.2.1 = true then pm_S q9.2.1 ((F_Tree_add N 13 q8 q2.1 q9.1 (-1) q9.2.1 q9.2.2).bind fun q12 => (F_Parser_expect 16 q9.2.1 q12.2).bind fun q13 => some (q12.1, q9.2.1, q13)) else none else (F_Parser_expect 16 q2.2.1 q2.2.2).bind fun q7 => some (q2.1, q2.2.1, q7)) else none)
set_option maxHeartbeats 4000000 in
set_option maxRecDepth 100000 in
theorem c_Parser_readBrackets (l : Launch) (h0 : Nat) (D : pm_D) {g : pm_s} {u : pm_J} (hT : sh_T g) {N : Nat} {r_Parser_readExpr : Int32 → pm_s → pm_J → Option (Int32 × pm_s × pm_J)} {dR_Parser_readExpr : Nat} (hdR_Parser_readExpr : 76 ≤ dR_Parser_readExpr) (hr_Parser_readExpr : ∀ {a1 : Int32} {g : pm_s} {u : pm_J} {out : Int32 × pm_s × pm_J}, sh_T g → r_Parser_readExpr a1 g u = some out → pm_C l h0 D m_Parser_readExpr dR_Parser_readExpr [.ref 39, .int a1] (sm g u) (some (.int out.1)) (sm out.2.1 out.2.2)) {a1 : Int32} {out : Int32 × pm_s × pm_J} (h : F_Parser_readBrackets N r_Parser_readExpr a1 g u = some out) : pm_C l h0 D m_Parser_readBrackets (dR_Parser_readExpr + 1) [.ref 39, .int a1] (sm g u) (some (.int out.1)) (sm out.2.1 out.2.2) := by
  unfold F_Parser_readBrackets at h
  obtain ⟨h, hle⟩ := pm_Ss h
  refine pm_met (by decide +kernel) (Nat.le_of_ble_eq_true rfl) hle.1 hle.2 ?_
  intro p e R s m args below meth c
  refine pm_blk (pc' := 3) (L' := [(0, .ref 39), (1, .int a1)]) (S' := [.int 15, .ref 39]) (M' := sm g u) [pm_o (.aload_n 0), pm_oi (.bipush 15) 15] (by decide +kernel) rfl ?_
  obtain ⟨q1, hq1, h⟩ := pm_bd h
  refine pm_cV (idx := 73) m_Parser_expect (c_Parser_expect l h0 D hT hq1) (As := [.int 15]) (S0 := []) rfl (by decide +kernel) k_Parser_expect l_Parser_73 (show 2 + 1 ≤ dR_Parser_readExpr + 1 by omega) (Nat.le_of_ble_eq_true rfl) hle.1 hle.2 ?_
  refine pm_blk (pc' := 10) (L' := [(0, .ref 39), (1, .int a1)]) (S' := [.int (a1 + 1), .ref 39]) (M' := sm g q1) [pm_o (.aload_n 0), pm_o (.iload_n 1), pm_oi (.iconst 1) 1, pm_o .iadd] (by decide +kernel) rfl ?_
  obtain ⟨q2, hq2, h⟩ := pm_bd h
  obtain ⟨hu3, h⟩ := pm_ifs h
  obtain ⟨h, hl4⟩ := pm_Ss h
  refine pm_cV (idx := 125) m_Parser_readExpr (hr_Parser_readExpr hT hq2) (As := [.int (a1 + 1)]) (S0 := []) rfl (by decide +kernel) k_Parser_readExpr l_Parser_125 (show dR_Parser_readExpr + 1 ≤ dR_Parser_readExpr + 1 by omega) (Nat.le_of_ble_eq_true rfl) hl4.1 hl4.2 ?_
  refine pm_blk (pc' := 15) (L' := [(2, .int q2.1), (0, .ref 39), (1, .int a1)]) (S' := [.ref 39]) (M' := sm q2.2.1 q2.2.2) [pm_o (.istore_n 2), pm_o (.aload_n 0)] (by decide +kernel) rfl ?_
  obtain ⟨q5, hq5, h⟩ := pm_bd h
  refine pm_cV (idx := 57) m_Parser_kind (c_Parser_kind l h0 D (sh_Tb_s hu3) hq5) (As := []) (S0 := []) rfl (by decide +kernel) k_Parser_kind l_Parser_57 (show 1 + 1 ≤ dR_Parser_readExpr + 1 by omega) (Nat.le_of_ble_eq_true rfl) hl4.1 hl4.2 ?_
  refine pm_blk (pc' := 20) (L' := [(2, .int q2.1), (0, .ref 39), (1, .int a1)]) (S' := [.int 20, .int q5]) (M' := sm q2.2.1 q2.2.2) [pm_oi (.bipush 20) 20] (by decide +kernel) rfl ?_
  refine pm_ic_ne (off := 42) 62 (by decide +kernel) (by decide) (fun hc6 => ?_) (fun hc6 => ?_)
  · rw [if_neg hc6] at h
    refine pm_blk (pc' := 65) (L' := [(2, .int q2.1), (0, .ref 39), (1, .int a1)]) (S' := [.int 16, .ref 39]) (M' := sm q2.2.1 q2.2.2) [pm_o (.aload_n 0), pm_oi (.bipush 16) 16] (by decide +kernel) rfl ?_
    obtain ⟨q7, hq7, h⟩ := pm_bd h
    refine pm_cV (idx := 73) m_Parser_expect (c_Parser_expect l h0 D (sh_Tb_s hu3) hq7) (As := [.int 16]) (S0 := []) rfl (by decide +kernel) k_Parser_expect l_Parser_73 (show 2 + 1 ≤ dR_Parser_readExpr + 1 by omega) (Nat.le_of_ble_eq_true rfl) hl4.1 hl4.2 ?_
    refine pm_blk (pc' := 69) (L' := [(2, .int q2.1), (0, .ref 39), (1, .int a1)]) (S' := [.int q2.1]) (M' := sm q2.2.1 q7) [pm_o (.iload_n 2)] (by decide +kernel) rfl ?_
    have h9 := Option.some.inj h
    subst h9
    exact pm_reti rfl (by decide +kernel) rfl rfl rfl
  · rw [if_pos hc6] at h
    refine pm_blk (pc' := 24) (L' := [(2, .int q2.1), (0, .ref 39), (1, .int a1)]) (S' := [.ref 39]) (M' := sm q2.2.1 q2.2.2) [pm_o (.aload_n 0)] (by decide +kernel) rfl ?_
    obtain ⟨q8, hq8, h⟩ := pm_bd h
    refine pm_cV (idx := 66) m_Parser_here (c_Parser_here l h0 D (sh_Tb_s hu3) hq8) (As := []) (S0 := []) rfl (by decide +kernel) k_Parser_here l_Parser_66 (show 1 + 1 ≤ dR_Parser_readExpr + 1 by omega) (Nat.le_of_ble_eq_true rfl) hl4.1 hl4.2 ?_
    refine pm_blk (pc' := 42) (L' := [(3, .int q8), (2, .int q2.1), (0, .ref 39), (1, .int a1)]) (S' := [.int (a1 + 1), .ref 39]) (M' := sm q2.2.1 (wi q2.2.2 39 11 ((q2.2.2.1 39 11) + 1))) [pm_o (.istore_n 3), pm_o (.aload_n 0), pm_o .dup, pm_of (.getfield 47) 7 11 0, pm_oi (.iconst 1) 1, pm_o .iadd, pm_of (.putfield 47) 7 11 0, pm_o (.aload_n 0), pm_o (.iload_n 1), pm_oi (.iconst 1) 1, pm_o .iadd] (by decide +kernel) rfl ?_
    obtain ⟨q9, hq9, h⟩ := pm_bd h
    obtain ⟨hu10, h⟩ := pm_ifs h
    obtain ⟨h, hl11⟩ := pm_Ss h
    refine pm_cV (idx := 125) m_Parser_readExpr (hr_Parser_readExpr (sh_Tb_s hu3) hq9) (As := [.int (a1 + 1)]) (S0 := []) rfl (by decide +kernel) k_Parser_readExpr l_Parser_125 (show dR_Parser_readExpr + 1 ≤ dR_Parser_readExpr + 1 by omega) (Nat.le_of_ble_eq_true rfl) hl11.1 hl11.2 ?_
    refine pm_blk (pc' := 58) (L' := [(4, .int q9.1), (3, .int q8), (2, .int q2.1), (0, .ref 39), (1, .int a1)]) (S' := [.int (-1), .int q9.1, .int q2.1, .int q8, .int 13, .ref 18]) (M' := sm q9.2.1 q9.2.2) [pm_o (.istore 4), pm_o (.aload_n 0), pm_of (.getfield 19) 7 2 2, pm_oi (.bipush 13) 13, pm_o (.iload_n 3), pm_o (.iload_n 2), pm_o (.iload 4), pm_oi (.iconst (-1)) (-1)] (by decide +kernel) rfl ?_
    obtain ⟨q12, hq12, h⟩ := pm_bd h
    refine pm_cV (idx := 208) m_Tree_add (c_Tree_add l h0 D (sh_Tb_s hu10) hq12) (As := [.int 13, .int q8, .int q2.1, .int q9.1, .int (-1)]) (S0 := []) rfl (by decide +kernel) k_Tree_add l_Parser_208 (show 2 + 1 ≤ dR_Parser_readExpr + 1 by omega) (Nat.le_of_ble_eq_true rfl) hl11.1 hl11.2 ?_
    refine pm_blk (pc' := 65) (L' := [(2, .int q12.1), (4, .int q9.1), (3, .int q8), (0, .ref 39), (1, .int a1)]) (S' := [.int 16, .ref 39]) (M' := sm q9.2.1 q12.2) [pm_o (.istore_n 2), pm_o (.aload_n 0), pm_oi (.bipush 16) 16] (by decide +kernel) rfl ?_
    obtain ⟨q13, hq13, h⟩ := pm_bd h
    refine pm_cV (idx := 73) m_Parser_expect (c_Parser_expect l h0 D (sh_Tb_s hu10) hq13) (As := [.int 16]) (S0 := []) rfl (by decide +kernel) k_Parser_expect l_Parser_73 (show 2 + 1 ≤ dR_Parser_readExpr + 1 by omega) (Nat.le_of_ble_eq_true rfl) hl11.1 hl11.2 ?_
    refine pm_blk (pc' := 69) (L' := [(2, .int q12.1), (4, .int q9.1), (3, .int q8), (0, .ref 39), (1, .int a1)]) (S' := [.int q12.1]) (M' := sm q9.2.1 q13) [pm_o (.iload_n 2)] (by decide +kernel) rfl ?_
    have h9 := Option.some.inj h
    subst h9
    exact pm_reti rfl (by decide +kernel) rfl rfl rfl
def F_Parser_readAtom (N : Nat) (r_Parser_readExpr : Int32 → pm_s → pm_J → Option (Int32 × pm_s × pm_J)) (a1 : Int32) (g : pm_s) (u : pm_J) : Option (Int32 × pm_s × pm_J) := pm_S g ((F_Parser_kind g u).bind fun q1 => if q1 = 1 then (F_Tokens_value (u.1 39 11) g u).bind fun q3 => (F_Parser_findLocal N q3 g u).bind fun q4 => if q4 = (-1) then (F_Parser_readLeafExpr N 3 q4 g u).bind fun q7 => some (q7.1, g, q7.2) else (F_Parser_readLeafExpr N 2 q4 g u).bind fun q6 => some (q6.1, g, q6.2) else if q1 = 2 then (F_Parser_readLeafExpr N 0 (-1) g u).bind fun q9 => some (q9.1, g, q9.2) else if q1 = 3 then (F_Parser_readLeafExpr N 1 (-1) g u).bind fun q11 => some (q11.1, g, q11.2) else if q1 = 15 then (F_Parser_readBrackets N r_Parser_readExpr a1 g u).bind fun q13 => if sh_Tb q13.2.1 = true then pm_S q13.2.1 (some (q13.1, q13.2.1, q13.2.2)) else none else (F_Parser_here g u).bind fun q16 => (F_Fault_tell_3 2 q16 g u).bind fun q17 => some ((-1), g, q17))
set_option maxHeartbeats 4000000 in
set_option maxRecDepth 100000 in
theorem c_Parser_readAtom (l : Launch) (h0 : Nat) (D : pm_D) {g : pm_s} {u : pm_J} (hT : sh_T g) {N : Nat} {r_Parser_readExpr : Int32 → pm_s → pm_J → Option (Int32 × pm_s × pm_J)} {dR_Parser_readExpr : Nat} (hdR_Parser_readExpr : 76 ≤ dR_Parser_readExpr) (hr_Parser_readExpr : ∀ {a1 : Int32} {g : pm_s} {u : pm_J} {out : Int32 × pm_s × pm_J}, sh_T g → r_Parser_readExpr a1 g u = some out → pm_C l h0 D m_Parser_readExpr dR_Parser_readExpr [.ref 39, .int a1] (sm g u) (some (.int out.1)) (sm out.2.1 out.2.2)) {a1 : Int32} {out : Int32 × pm_s × pm_J} (h : F_Parser_readAtom N r_Parser_readExpr a1 g u = some out) : pm_C l h0 D m_Parser_readAtom (dR_Parser_readExpr + 2) [.ref 39, .int a1] (sm g u) (some (.int out.1)) (sm out.2.1 out.2.2) := by
  unfold F_Parser_readAtom at h
  obtain ⟨h, hle⟩ := pm_Ss h
  refine pm_met (by decide +kernel) (Nat.le_of_ble_eq_true rfl) hle.1 hle.2 ?_
  intro p e R s m args below meth c
  refine pm_blk (pc' := 1) (L' := [(0, .ref 39), (1, .int a1)]) (S' := [.ref 39]) (M' := sm g u) [pm_o (.aload_n 0)] (by decide +kernel) rfl ?_
  obtain ⟨q1, hq1, h⟩ := pm_bd h
  refine pm_cV (idx := 57) m_Parser_kind (c_Parser_kind l h0 D hT hq1) (As := []) (S0 := []) rfl (by decide +kernel) k_Parser_kind l_Parser_57 (show 1 + 1 ≤ dR_Parser_readExpr + 2 by omega) (Nat.le_of_ble_eq_true rfl) hle.1 hle.2 ?_
  refine pm_blk (pc' := 4) (L' := [(0, .ref 39), (1, .int a1)]) (S' := [.int q1]) (M' := sm g u) [] (by decide +kernel) rfl ?_
  refine pm_lsw (dflt := 96) (prs := #[(1, 58), (2, 44), (3, 51), (15, 90)]) (len := 44) [(1, 62), (2, 48), (3, 55), (15, 94)] 100 (by decide +kernel) (by decide +kernel) (by decide +kernel) ?_
  by_cases hs2 : q1 = 1
  · rw [if_pos hs2] at h
    rw [pm_sw_pos hs2]
    refine pm_blk (pc' := 71) (L' := [(0, .ref 39), (1, .int a1)]) (S' := [.int (u.1 39 11), .ref 5, .ref 39]) (M' := sm g u) [pm_o (.aload_n 0), pm_o (.aload_n 0), pm_of (.getfield 9) 7 0 2, pm_o (.aload_n 0), pm_of (.getfield 47) 7 11 0] (by decide +kernel) rfl ?_
    obtain ⟨q3, hq3, h⟩ := pm_bd h
    refine pm_cV (idx := 81) m_Tokens_value (c_Tokens_value l h0 D hT hq3) (As := [.int (u.1 39 11)]) (S0 := [.ref 39]) rfl (by decide +kernel) k_Tokens_value l_Parser_81 (show 0 + 1 ≤ dR_Parser_readExpr + 2 by omega) (Nat.le_of_ble_eq_true rfl) hle.1 hle.2 ?_
    refine pm_blk (pc' := 74) (L' := [(0, .ref 39), (1, .int a1)]) (S' := [.long q3, .ref 39]) (M' := sm g u) [] (by decide +kernel) rfl ?_
    obtain ⟨q4, hq4, h⟩ := pm_bd h
    refine pm_cV (idx := 140) m_Parser_findLocal (c_Parser_findLocal l h0 D hT hq4) (As := [.long q3]) (S0 := []) rfl (by decide +kernel) k_Parser_findLocal l_Parser_140 (show 0 + 1 ≤ dR_Parser_readExpr + 2 by omega) (Nat.le_of_ble_eq_true rfl) hle.1 hle.2 ?_
    refine pm_blk (pc' := 81) (L' := [(2, .int q4), (0, .ref 39), (1, .int a1)]) (S' := [.int (-1), .int q4, .ref 39]) (M' := sm g u) [pm_o (.istore_n 2), pm_o (.aload_n 0), pm_o (.iload_n 2), pm_oi (.iconst (-1)) (-1)] (by decide +kernel) rfl ?_
    refine pm_ic_ne (off := 7) 88 (by decide +kernel) (by decide) (fun hc5 => ?_) (fun hc5 => ?_)
    · rw [if_neg hc5] at h
      refine pm_blk (pc' := 90) (L' := [(2, .int q4), (0, .ref 39), (1, .int a1)]) (S' := [.int q4, .int 2, .ref 39]) (M' := sm g u) [pm_oi (.iconst 2) 2, pm_o (.iload_n 2)] (by decide +kernel) rfl ?_
      obtain ⟨q6, hq6, h⟩ := pm_bd h
      refine pm_cV (idx := 243) m_Parser_readLeafExpr (c_Parser_readLeafExpr l h0 D hT hq6) (As := [.int 2, .int q4]) (S0 := []) rfl (by decide +kernel) k_Parser_readLeafExpr l_Parser_243 (show 3 + 1 ≤ dR_Parser_readExpr + 2 by omega) (Nat.le_of_ble_eq_true rfl) hle.1 hle.2 ?_
      refine pm_blk (pc' := 93) (L' := [(2, .int q4), (0, .ref 39), (1, .int a1)]) (S' := [.int q6.1]) (M' := sm g q6.2) [] (by decide +kernel) rfl ?_
      have h9 := Option.some.inj h
      subst h9
      exact pm_reti rfl (by decide +kernel) rfl rfl rfl
    · rw [if_pos hc5] at h
      refine pm_blk (pc' := 85) (L' := [(2, .int q4), (0, .ref 39), (1, .int a1)]) (S' := [.int 3, .ref 39]) (M' := sm g u) [pm_oi (.iconst 3) 3] (by decide +kernel) rfl ?_
      refine pm_goto (off := 4) 89 (by decide +kernel) (by decide) ?_
      refine pm_blk (pc' := 90) (L' := [(2, .int q4), (0, .ref 39), (1, .int a1)]) (S' := [.int q4, .int 3, .ref 39]) (M' := sm g u) [pm_o (.iload_n 2)] (by decide +kernel) rfl ?_
      obtain ⟨q7, hq7, h⟩ := pm_bd h
      refine pm_cV (idx := 243) m_Parser_readLeafExpr (c_Parser_readLeafExpr l h0 D hT hq7) (As := [.int 3, .int q4]) (S0 := []) rfl (by decide +kernel) k_Parser_readLeafExpr l_Parser_243 (show 3 + 1 ≤ dR_Parser_readExpr + 2 by omega) (Nat.le_of_ble_eq_true rfl) hle.1 hle.2 ?_
      refine pm_blk (pc' := 93) (L' := [(2, .int q4), (0, .ref 39), (1, .int a1)]) (S' := [.int q7.1]) (M' := sm g q7.2) [] (by decide +kernel) rfl ?_
      have h9 := Option.some.inj h
      subst h9
      exact pm_reti rfl (by decide +kernel) rfl rfl rfl
  rw [if_neg hs2] at h
  rw [pm_sw_neg hs2]
  by_cases hs8 : q1 = 2
  · rw [if_pos hs8] at h
    rw [pm_sw_pos hs8]
    refine pm_blk (pc' := 51) (L' := [(0, .ref 39), (1, .int a1)]) (S' := [.int (-1), .int 0, .ref 39]) (M' := sm g u) [pm_o (.aload_n 0), pm_oi (.iconst 0) 0, pm_oi (.iconst (-1)) (-1)] (by decide +kernel) rfl ?_
    obtain ⟨q9, hq9, h⟩ := pm_bd h
    refine pm_cV (idx := 243) m_Parser_readLeafExpr (c_Parser_readLeafExpr l h0 D hT hq9) (As := [.int 0, .int (-1)]) (S0 := []) rfl (by decide +kernel) k_Parser_readLeafExpr l_Parser_243 (show 3 + 1 ≤ dR_Parser_readExpr + 2 by omega) (Nat.le_of_ble_eq_true rfl) hle.1 hle.2 ?_
    refine pm_blk (pc' := 54) (L' := [(0, .ref 39), (1, .int a1)]) (S' := [.int q9.1]) (M' := sm g q9.2) [] (by decide +kernel) rfl ?_
    have h9 := Option.some.inj h
    subst h9
    exact pm_reti rfl (by decide +kernel) rfl rfl rfl
  rw [if_neg hs8] at h
  rw [pm_sw_neg hs8]
  by_cases hs10 : q1 = 3
  · rw [if_pos hs10] at h
    rw [pm_sw_pos hs10]
    refine pm_blk (pc' := 58) (L' := [(0, .ref 39), (1, .int a1)]) (S' := [.int (-1), .int 1, .ref 39]) (M' := sm g u) [pm_o (.aload_n 0), pm_oi (.iconst 1) 1, pm_oi (.iconst (-1)) (-1)] (by decide +kernel) rfl ?_
    obtain ⟨q11, hq11, h⟩ := pm_bd h
    refine pm_cV (idx := 243) m_Parser_readLeafExpr (c_Parser_readLeafExpr l h0 D hT hq11) (As := [.int 1, .int (-1)]) (S0 := []) rfl (by decide +kernel) k_Parser_readLeafExpr l_Parser_243 (show 3 + 1 ≤ dR_Parser_readExpr + 2 by omega) (Nat.le_of_ble_eq_true rfl) hle.1 hle.2 ?_
    refine pm_blk (pc' := 61) (L' := [(0, .ref 39), (1, .int a1)]) (S' := [.int q11.1]) (M' := sm g q11.2) [] (by decide +kernel) rfl ?_
    have h9 := Option.some.inj h
    subst h9
    exact pm_reti rfl (by decide +kernel) rfl rfl rfl
  rw [if_neg hs10] at h
  rw [pm_sw_neg hs10]
  by_cases hs12 : q1 = 15
  · rw [if_pos hs12] at h
    rw [pm_sw_pos hs12]
    refine pm_blk (pc' := 96) (L' := [(0, .ref 39), (1, .int a1)]) (S' := [.int a1, .ref 39]) (M' := sm g u) [pm_o (.aload_n 0), pm_o (.iload_n 1)] (by decide +kernel) rfl ?_
    obtain ⟨q13, hq13, h⟩ := pm_bd h
    obtain ⟨hu14, h⟩ := pm_ifs h
    obtain ⟨h, hl15⟩ := pm_Ss h
    refine pm_cV (idx := 246) m_Parser_readBrackets (c_Parser_readBrackets l h0 D hT hdR_Parser_readExpr hr_Parser_readExpr hq13) (As := [.int a1]) (S0 := []) rfl (by decide +kernel) k_Parser_readBrackets l_Parser_246 (show dR_Parser_readExpr + 1 + 1 ≤ dR_Parser_readExpr + 2 by omega) (Nat.le_of_ble_eq_true rfl) hl15.1 hl15.2 ?_
    refine pm_blk (pc' := 99) (L' := [(0, .ref 39), (1, .int a1)]) (S' := [.int q13.1]) (M' := sm q13.2.1 q13.2.2) [] (by decide +kernel) rfl ?_
    have h9 := Option.some.inj h
    subst h9
    exact pm_reti rfl (by decide +kernel) rfl rfl rfl
  rw [if_neg hs12] at h
  rw [pm_sw_neg hs12]
  refine pm_pc (pc' := 100) rfl ?_
  refine pm_blk (pc' := 106) (L' := [(0, .ref 39), (1, .int a1)]) (S' := [.ref 39, .int 2, .ref 3]) (M' := sm g u) [pm_o (.aload_n 0), pm_of (.getfield 27) 7 4 2, pm_oi (.iconst 2) 2, pm_o (.aload_n 0)] (by decide +kernel) rfl ?_
  obtain ⟨q16, hq16, h⟩ := pm_bd h
  refine pm_cV (idx := 66) m_Parser_here (c_Parser_here l h0 D hT hq16) (As := []) (S0 := [.int 2, .ref 3]) rfl (by decide +kernel) k_Parser_here l_Parser_66 (show 1 + 1 ≤ dR_Parser_readExpr + 2 by omega) (Nat.le_of_ble_eq_true rfl) hle.1 hle.2 ?_
  refine pm_blk (pc' := 109) (L' := [(0, .ref 39), (1, .int a1)]) (S' := [.int q16, .int 2, .ref 3]) (M' := sm g u) [] (by decide +kernel) rfl ?_
  obtain ⟨q17, hq17, h⟩ := pm_bd h
  refine pm_cV (idx := 69) m_Fault_tell (c_Fault_tell_3 l h0 D hT hq17) (As := [.int 2, .int q16]) (S0 := []) rfl (by decide +kernel) k_Fault_tell l_Parser_69 (show 0 + 1 ≤ dR_Parser_readExpr + 2 by omega) (Nat.le_of_ble_eq_true rfl) hle.1 hle.2 ?_
  refine pm_blk (pc' := 113) (L' := [(0, .ref 39), (1, .int a1)]) (S' := [.int (-1)]) (M' := sm g q17) [pm_oi (.iconst (-1)) (-1)] (by decide +kernel) rfl ?_
  have h9 := Option.some.inj h
  subst h9
  exact pm_reti rfl (by decide +kernel) rfl rfl rfl
def F_Parser_beginsAtom (g : pm_s) (u : pm_J) : Option (Int32) := (F_Parser_kind g u).bind fun q1 => if q1 = 2 then some 1 else if q1 = 3 then some 1 else if q1 = 1 then some 1 else if q1 = 15 then some 1 else some 0
set_option maxHeartbeats 4000000 in
set_option maxRecDepth 100000 in
theorem c_Parser_beginsAtom (l : Launch) (h0 : Nat) (D : pm_D) {g : pm_s} {u : pm_J} (hT : sh_T g) {out : Int32} (h : F_Parser_beginsAtom g u = some out) : pm_C l h0 D m_Parser_beginsAtom (2) [.ref 39] (sm g u) (some (.int out)) (sm g u) := by
  unfold F_Parser_beginsAtom at h
  refine pm_met (by decide +kernel) (Nat.le_of_ble_eq_true rfl) (Nat.le_refl _) (Nat.le_refl _) ?_
  intro p e R s m args below meth c
  refine pm_blk (pc' := 1) (L' := [(0, .ref 39)]) (S' := [.ref 39]) (M' := sm g u) [pm_o (.aload_n 0)] (by decide +kernel) rfl ?_
  obtain ⟨q1, hq1, h⟩ := pm_bd h
  refine pm_cV (idx := 57) m_Parser_kind (c_Parser_kind l h0 D hT hq1) (As := []) (S0 := []) rfl (by decide +kernel) k_Parser_kind l_Parser_57 (Nat.le_of_ble_eq_true rfl) (Nat.le_of_ble_eq_true rfl) (Nat.le_refl _) (Nat.le_refl _) ?_
  refine pm_blk (pc' := 7) (L' := [(1, .int q1), (0, .ref 39)]) (S' := [.int 2, .int q1]) (M' := sm g u) [pm_o (.istore_n 1), pm_o (.iload_n 1), pm_oi (.iconst 2) 2] (by decide +kernel) rfl ?_
  refine pm_ic_eq (off := 19) 26 (by decide +kernel) (by decide) (fun hc2 => ?_) (fun hc2 => ?_)
  · rw [if_pos hc2] at h
    refine pm_blk (pc' := 27) (L' := [(1, .int q1), (0, .ref 39)]) (S' := [.int 1]) (M' := sm g u) [pm_oi (.iconst 1) 1] (by decide +kernel) rfl ?_
    refine pm_goto (off := 4) 31 (by decide +kernel) (by decide) ?_
    have h9 := Option.some.inj h
    subst h9
    exact pm_retz rfl (by decide +kernel) rfl rfl rfl rfl
  · rw [if_neg hc2] at h
    refine pm_blk (pc' := 12) (L' := [(1, .int q1), (0, .ref 39)]) (S' := [.int 3, .int q1]) (M' := sm g u) [pm_o (.iload_n 1), pm_oi (.iconst 3) 3] (by decide +kernel) rfl ?_
    refine pm_ic_eq (off := 14) 26 (by decide +kernel) (by decide) (fun hc3 => ?_) (fun hc3 => ?_)
    · rw [if_pos hc3] at h
      refine pm_blk (pc' := 27) (L' := [(1, .int q1), (0, .ref 39)]) (S' := [.int 1]) (M' := sm g u) [pm_oi (.iconst 1) 1] (by decide +kernel) rfl ?_
      refine pm_goto (off := 4) 31 (by decide +kernel) (by decide) ?_
      have h9 := Option.some.inj h
      subst h9
      exact pm_retz rfl (by decide +kernel) rfl rfl rfl rfl
    · rw [if_neg hc3] at h
      refine pm_blk (pc' := 17) (L' := [(1, .int q1), (0, .ref 39)]) (S' := [.int 1, .int q1]) (M' := sm g u) [pm_o (.iload_n 1), pm_oi (.iconst 1) 1] (by decide +kernel) rfl ?_
      refine pm_ic_eq (off := 9) 26 (by decide +kernel) (by decide) (fun hc4 => ?_) (fun hc4 => ?_)
      · rw [if_pos hc4] at h
        refine pm_blk (pc' := 27) (L' := [(1, .int q1), (0, .ref 39)]) (S' := [.int 1]) (M' := sm g u) [pm_oi (.iconst 1) 1] (by decide +kernel) rfl ?_
        refine pm_goto (off := 4) 31 (by decide +kernel) (by decide) ?_
        have h9 := Option.some.inj h
        subst h9
        exact pm_retz rfl (by decide +kernel) rfl rfl rfl rfl
      · rw [if_neg hc4] at h
        refine pm_blk (pc' := 23) (L' := [(1, .int q1), (0, .ref 39)]) (S' := [.int 15, .int q1]) (M' := sm g u) [pm_o (.iload_n 1), pm_oi (.bipush 15) 15] (by decide +kernel) rfl ?_
        refine pm_ic_ne (off := 7) 30 (by decide +kernel) (by decide) (fun hc5 => ?_) (fun hc5 => ?_)
        · rw [if_neg hc5] at h
          refine pm_blk (pc' := 31) (L' := [(1, .int q1), (0, .ref 39)]) (S' := [.int 0]) (M' := sm g u) [pm_oi (.iconst 0) 0] (by decide +kernel) rfl ?_
          have h9 := Option.some.inj h
          subst h9
          exact pm_retz rfl (by decide +kernel) rfl rfl rfl rfl
        · rw [if_pos hc5] at h
          refine pm_blk (pc' := 27) (L' := [(1, .int q1), (0, .ref 39)]) (S' := [.int 1]) (M' := sm g u) [pm_oi (.iconst 1) 1] (by decide +kernel) rfl ?_
          refine pm_goto (off := 4) 31 (by decide +kernel) (by decide) ?_
          have h9 := Option.some.inj h
          subst h9
          exact pm_retz rfl (by decide +kernel) rfl rfl rfl rfl
def K_Parser_readAtoms_73 (N : Nat) (r_Parser_readExpr : Int32 → pm_s → pm_J → Option (Int32 × pm_s × pm_J)) (x1 : Int32) (x4 : Int32) (g : pm_s) (u : pm_J) : Option (Int32 × pm_s × pm_J) := (F_Tree_placeOf x1 g u).bind fun q2 => (F_Tree_add N 16 q2 x1 (-1) x4 g u).bind fun q3 => some (q3.1, g, q3.2)
set_option maxHeartbeats 4000000 in
set_option maxRecDepth 100000 in
theorem w_Parser_readAtoms_73 (l : Launch) (h0 : Nat) (D : pm_D) {N : Nat} {r_Parser_readExpr : Int32 → pm_s → pm_J → Option (Int32 × pm_s × pm_J)} {dR_Parser_readExpr : Nat} (hdR_Parser_readExpr : 76 ≤ dR_Parser_readExpr) (hr_Parser_readExpr : ∀ {a1 : Int32} {g : pm_s} {u : pm_J} {out : Int32 × pm_s × pm_J}, sh_T g → r_Parser_readExpr a1 g u = some out → pm_C l h0 D m_Parser_readExpr dR_Parser_readExpr [.ref 39, .int a1] (sm g u) (some (.int out.1)) (sm out.2.1 out.2.2)) {g0 : pm_s} {u0 : pm_J} {out : Int32 × pm_s × pm_J} {p : Program} {e : Env} {R : Room} {s : State} {m : MethodId} {args : Array Value} {below : List Frame} {meth : Method} {c : Code} : ∀ (x1 : Int32) (x4 : Int32) (g : pm_s) (u : pm_J) (hT : sh_T g) (hle : g.1 ≤ out.2.1.1 ∧ g.2.1 ≤ out.2.1.2.1), K_Parser_readAtoms_73 N r_Parser_readExpr x1 x4 g u = some out → pm_V (p, l, e, R, s, m, args, below, meth, c) m_Parser_readAtoms h0 D (g0.1, g0.2.1, out.2.1.1, out.2.1.2.1, dR_Parser_readExpr + 3) (pm_E (p, l, e, R, s, m, args, below, meth, c) h0 D (sm g0 u0) (some (.int out.1)) (sm out.2.1 out.2.2)) 73 [(0, .ref 39), (1, .int x1), (4, .int x4)] [] (sm g u) := by
    intro x1 x4 g u hT hle h
    unfold K_Parser_readAtoms_73 at h
    refine pm_blk (pc' := 84) (L' := [(0, .ref 39), (1, .int x1), (4, .int x4)]) (S' := [.int x1, .ref 18, .int 16, .ref 18]) (M' := sm g u) [pm_o (.aload_n 0), pm_of (.getfield 19) 7 2 2, pm_oi (.bipush 16) 16, pm_o (.aload_n 0), pm_of (.getfield 19) 7 2 2, pm_o (.iload_n 1)] (by decide +kernel) rfl ?_
    obtain ⟨q2, hq2, h⟩ := pm_bd h
    refine pm_cV (idx := 242) m_Tree_placeOf (c_Tree_placeOf l h0 D hT hq2) (As := [.int x1]) (S0 := [.int 16, .ref 18]) rfl (by decide +kernel) k_Tree_placeOf l_Parser_242 (show 0 + 1 ≤ dR_Parser_readExpr + 3 by omega) (Nat.le_of_ble_eq_true rfl) hle.1 hle.2 ?_
    refine pm_blk (pc' := 91) (L' := [(0, .ref 39), (1, .int x1), (4, .int x4)]) (S' := [.int x4, .int (-1), .int x1, .int q2, .int 16, .ref 18]) (M' := sm g u) [pm_o (.iload_n 1), pm_oi (.iconst (-1)) (-1), pm_o (.iload 4)] (by decide +kernel) rfl ?_
    obtain ⟨q3, hq3, h⟩ := pm_bd h
    refine pm_cV (idx := 208) m_Tree_add (c_Tree_add l h0 D hT hq3) (As := [.int 16, .int q2, .int x1, .int (-1), .int x4]) (S0 := []) rfl (by decide +kernel) k_Tree_add l_Parser_208 (show 2 + 1 ≤ dR_Parser_readExpr + 3 by omega) (Nat.le_of_ble_eq_true rfl) hle.1 hle.2 ?_
    refine pm_blk (pc' := 94) (L' := [(0, .ref 39), (1, .int x1), (4, .int x4)]) (S' := [.int q3.1]) (M' := sm g q3.2) [] (by decide +kernel) rfl ?_
    have h9 := Option.some.inj h
    subst h9
    exact pm_reti rfl (by decide +kernel) rfl rfl rfl
def K_Parser_readAtoms_8 (N : Nat) (r_Parser_readExpr : Int32 → pm_s → pm_J → Option (Int32 × pm_s × pm_J)) : Nat → Int32 → Int32 → Int32 → Int32 → Int32 → pm_s → pm_J → Option (Int32 × pm_s × pm_J)
  | 0, _, _, _, _, _, _, _ => none
  | n + 1, x1, x2, x3, x4, x5, g, u => if 8 < x5 then K_Parser_readAtoms_73 N r_Parser_readExpr x1 x4 g u else (F_Parser_beginsAtom g u).bind fun q4 => if q4 = 0 then K_Parser_readAtoms_73 N r_Parser_readExpr x1 x4 g u else if x5 = 8 then (F_Parser_here g u).bind fun q11 => (F_Fault_tell_3 3 q11 g u).bind fun q12 => K_Parser_readAtoms_8 N r_Parser_readExpr  n x1 x2 x3 x4 (x5 + 1) g q12 else (F_Parser_readAtom N r_Parser_readExpr x2 g u).bind fun q7 => if sh_Tb q7.2.1 = true then pm_S q7.2.1 ((F_Tree_chain x3 q7.1 q7.2.1 q7.2.2).bind fun q10 => K_Parser_readAtoms_8 N r_Parser_readExpr  n x1 x2 q7.1 (x4 + 1) (x5 + 1) q7.2.1 q10) else none
set_option maxHeartbeats 4000000 in
set_option maxRecDepth 100000 in
theorem w_Parser_readAtoms_8 (l : Launch) (h0 : Nat) (D : pm_D) {N : Nat} {r_Parser_readExpr : Int32 → pm_s → pm_J → Option (Int32 × pm_s × pm_J)} {dR_Parser_readExpr : Nat} (hdR_Parser_readExpr : 76 ≤ dR_Parser_readExpr) (hr_Parser_readExpr : ∀ {a1 : Int32} {g : pm_s} {u : pm_J} {out : Int32 × pm_s × pm_J}, sh_T g → r_Parser_readExpr a1 g u = some out → pm_C l h0 D m_Parser_readExpr dR_Parser_readExpr [.ref 39, .int a1] (sm g u) (some (.int out.1)) (sm out.2.1 out.2.2)) {g0 : pm_s} {u0 : pm_J} {out : Int32 × pm_s × pm_J} {p : Program} {e : Env} {R : Room} {s : State} {m : MethodId} {args : Array Value} {below : List Frame} {meth : Method} {c : Code} : ∀ (n : Nat) (x1 : Int32) (x2 : Int32) (x3 : Int32) (x4 : Int32) (x5 : Int32) (g : pm_s) (u : pm_J) (hT : sh_T g) (hle : g.1 ≤ out.2.1.1 ∧ g.2.1 ≤ out.2.1.2.1), K_Parser_readAtoms_8 N r_Parser_readExpr n x1 x2 x3 x4 x5 g u = some out → pm_V (p, l, e, R, s, m, args, below, meth, c) m_Parser_readAtoms h0 D (g0.1, g0.2.1, out.2.1.1, out.2.1.2.1, dR_Parser_readExpr + 3) (pm_E (p, l, e, R, s, m, args, below, meth, c) h0 D (sm g0 u0) (some (.int out.1)) (sm out.2.1 out.2.2)) 8 [(0, .ref 39), (1, .int x1), (2, .int x2), (3, .int x3), (4, .int x4), (5, .int x5)] [] (sm g u) := by
  intro n
  induction n with
  | zero => intro x1 x2 x3 x4 x5 g u hT hle h; cases h
  | succ n ih =>
    intro x1 x2 x3 x4 x5 g u hT hle h
    rw [K_Parser_readAtoms_8] at h
    refine pm_blk (pc' := 12) (L' := [(0, .ref 39), (1, .int x1), (2, .int x2), (3, .int x3), (4, .int x4), (5, .int x5)]) (S' := [.int 8, .int x5]) (M' := sm g u) [pm_o (.iload 5), pm_oi (.bipush 8) 8] (by decide +kernel) rfl ?_
    refine pm_ic_gt (off := 61) 73 (by decide +kernel) (by decide) (fun hc1 => ?_) (fun hc1 => ?_)
    · rw [if_pos hc1] at h
      refine pm_loc [0, 1, 4] rfl ?_
      exact w_Parser_readAtoms_73 l h0 D hdR_Parser_readExpr hr_Parser_readExpr x1 x4 g u hT hle h
    · rw [if_neg hc1] at h
      refine pm_blk (pc' := 16) (L' := [(0, .ref 39), (1, .int x1), (2, .int x2), (3, .int x3), (4, .int x4), (5, .int x5)]) (S' := [.ref 39]) (M' := sm g u) [pm_o (.aload_n 0)] (by decide +kernel) rfl ?_
      obtain ⟨q4, hq4, h⟩ := pm_bd h
      refine pm_cV (idx := 227) m_Parser_beginsAtom (c_Parser_beginsAtom l h0 D hT hq4) (As := []) (S0 := []) rfl (by decide +kernel) k_Parser_beginsAtom l_Parser_227 (show 2 + 1 ≤ dR_Parser_readExpr + 3 by omega) (Nat.le_of_ble_eq_true rfl) hle.1 hle.2 ?_
      refine pm_blk (pc' := 19) (L' := [(0, .ref 39), (1, .int x1), (2, .int x2), (3, .int x3), (4, .int x4), (5, .int x5)]) (S' := [.int q4]) (M' := sm g u) [] (by decide +kernel) rfl ?_
      refine pm_if_eq (off := 54) 73 (by decide +kernel) (by decide) (fun hc5 => ?_) (fun hc5 => ?_)
      · rw [if_pos hc5] at h
        refine pm_loc [0, 1, 4] rfl ?_
        exact w_Parser_readAtoms_73 l h0 D hdR_Parser_readExpr hr_Parser_readExpr x1 x4 g u hT hle h
      · rw [if_neg hc5] at h
        refine pm_blk (pc' := 26) (L' := [(0, .ref 39), (1, .int x1), (2, .int x2), (3, .int x3), (4, .int x4), (5, .int x5)]) (S' := [.int 8, .int x5]) (M' := sm g u) [pm_o (.iload 5), pm_oi (.bipush 8) 8] (by decide +kernel) rfl ?_
        refine pm_ic_ne (off := 18) 44 (by decide +kernel) (by decide) (fun hc6 => ?_) (fun hc6 => ?_)
        · rw [if_neg hc6] at h
          refine pm_blk (pc' := 46) (L' := [(0, .ref 39), (1, .int x1), (2, .int x2), (3, .int x3), (4, .int x4), (5, .int x5)]) (S' := [.int x2, .ref 39]) (M' := sm g u) [pm_o (.aload_n 0), pm_o (.iload_n 2)] (by decide +kernel) rfl ?_
          obtain ⟨q7, hq7, h⟩ := pm_bd h
          obtain ⟨hu8, h⟩ := pm_ifs h
          obtain ⟨h, hl9⟩ := pm_Ss h
          refine pm_cV (idx := 224) m_Parser_readAtom (c_Parser_readAtom l h0 D hT hdR_Parser_readExpr hr_Parser_readExpr hq7) (As := [.int x2]) (S0 := []) rfl (by decide +kernel) k_Parser_readAtom l_Parser_224 (show dR_Parser_readExpr + 2 + 1 ≤ dR_Parser_readExpr + 3 by omega) (Nat.le_of_ble_eq_true rfl) hl9.1 hl9.2 ?_
          refine pm_blk (pc' := 58) (L' := [(6, .int q7.1), (0, .ref 39), (1, .int x1), (2, .int x2), (3, .int x3), (4, .int x4), (5, .int x5)]) (S' := [.int q7.1, .int x3, .ref 18]) (M' := sm q7.2.1 q7.2.2) [pm_o (.istore 6), pm_o (.aload_n 0), pm_of (.getfield 19) 7 2 2, pm_o (.iload_n 3), pm_o (.iload 6)] (by decide +kernel) rfl ?_
          obtain ⟨q10, hq10, h⟩ := pm_bd h
          refine pm_cV (idx := 239) m_Tree_chain (c_Tree_chain l h0 D (sh_Tb_s hu8) hq10) (As := [.int x3, .int q7.1]) (S0 := []) rfl (by decide +kernel) k_Tree_chain l_Parser_239 (show 0 + 1 ≤ dR_Parser_readExpr + 3 by omega) (Nat.le_of_ble_eq_true rfl) hl9.1 hl9.2 ?_
          refine pm_blk (pc' := 70) (L' := [(5, .int (x5 + 1)), (4, .int (x4 + 1)), (3, .int q7.1), (6, .int q7.1), (0, .ref 39), (1, .int x1), (2, .int x2)]) (S' := []) (M' := sm q7.2.1 q10) [pm_o (.iload 6), pm_o (.istore_n 3), pm_oi (.iinc 4 1) 1, pm_oi (.iinc 5 1) 1] (by decide +kernel) rfl ?_
          refine pm_goto (off := -62) 8 (by decide +kernel) (by decide) ?_
          refine pm_loc [4, 5, 6, 2, 1, 0] rfl ?_
          exact ih x1 x2 q7.1 (x4 + 1) (x5 + 1) q7.2.1 q10 (sh_Tb_s hu8) hl9 h
        · rw [if_pos hc6] at h
          refine pm_blk (pc' := 35) (L' := [(0, .ref 39), (1, .int x1), (2, .int x2), (3, .int x3), (4, .int x4), (5, .int x5)]) (S' := [.ref 39, .int 3, .ref 3]) (M' := sm g u) [pm_o (.aload_n 0), pm_of (.getfield 27) 7 4 2, pm_oi (.iconst 3) 3, pm_o (.aload_n 0)] (by decide +kernel) rfl ?_
          obtain ⟨q11, hq11, h⟩ := pm_bd h
          refine pm_cV (idx := 66) m_Parser_here (c_Parser_here l h0 D hT hq11) (As := []) (S0 := [.int 3, .ref 3]) rfl (by decide +kernel) k_Parser_here l_Parser_66 (show 1 + 1 ≤ dR_Parser_readExpr + 3 by omega) (Nat.le_of_ble_eq_true rfl) hle.1 hle.2 ?_
          refine pm_blk (pc' := 38) (L' := [(0, .ref 39), (1, .int x1), (2, .int x2), (3, .int x3), (4, .int x4), (5, .int x5)]) (S' := [.int q11, .int 3, .ref 3]) (M' := sm g u) [] (by decide +kernel) rfl ?_
          obtain ⟨q12, hq12, h⟩ := pm_bd h
          refine pm_cV (idx := 69) m_Fault_tell (c_Fault_tell_3 l h0 D hT hq12) (As := [.int 3, .int q11]) (S0 := []) rfl (by decide +kernel) k_Fault_tell l_Parser_69 (show 0 + 1 ≤ dR_Parser_readExpr + 3 by omega) (Nat.le_of_ble_eq_true rfl) hle.1 hle.2 ?_
          refine pm_blk (pc' := 41) (L' := [(0, .ref 39), (1, .int x1), (2, .int x2), (3, .int x3), (4, .int x4), (5, .int x5)]) (S' := []) (M' := sm g q12) [] (by decide +kernel) rfl ?_
          refine pm_goto (off := 26) 67 (by decide +kernel) (by decide) ?_
          refine pm_blk (pc' := 70) (L' := [(5, .int (x5 + 1)), (0, .ref 39), (1, .int x1), (2, .int x2), (3, .int x3), (4, .int x4)]) (S' := []) (M' := sm g q12) [pm_oi (.iinc 5 1) 1] (by decide +kernel) rfl ?_
          refine pm_goto (off := -62) 8 (by decide +kernel) (by decide) ?_
          refine pm_loc [1, 2, 3, 4, 5, 0] rfl ?_
          exact ih x1 x2 x3 x4 (x5 + 1) g q12 hT hle h
def F_Parser_readAtoms (N : Nat) (r_Parser_readExpr : Int32 → pm_s → pm_J → Option (Int32 × pm_s × pm_J)) (a1 : Int32) (a2 : Int32) (g : pm_s) (u : pm_J) : Option (Int32 × pm_s × pm_J) := pm_S g (K_Parser_readAtoms_8 N r_Parser_readExpr N a1 a2 a1 0 0 g u)
set_option maxHeartbeats 4000000 in
set_option maxRecDepth 100000 in
theorem c_Parser_readAtoms (l : Launch) (h0 : Nat) (D : pm_D) {g : pm_s} {u : pm_J} (hT : sh_T g) {N : Nat} {r_Parser_readExpr : Int32 → pm_s → pm_J → Option (Int32 × pm_s × pm_J)} {dR_Parser_readExpr : Nat} (hdR_Parser_readExpr : 76 ≤ dR_Parser_readExpr) (hr_Parser_readExpr : ∀ {a1 : Int32} {g : pm_s} {u : pm_J} {out : Int32 × pm_s × pm_J}, sh_T g → r_Parser_readExpr a1 g u = some out → pm_C l h0 D m_Parser_readExpr dR_Parser_readExpr [.ref 39, .int a1] (sm g u) (some (.int out.1)) (sm out.2.1 out.2.2)) {a1 : Int32} {a2 : Int32} {out : Int32 × pm_s × pm_J} (h : F_Parser_readAtoms N r_Parser_readExpr a1 a2 g u = some out) : pm_C l h0 D m_Parser_readAtoms (dR_Parser_readExpr + 3) [.ref 39, .int a1, .int a2] (sm g u) (some (.int out.1)) (sm out.2.1 out.2.2) := by
  unfold F_Parser_readAtoms at h
  obtain ⟨h, hle⟩ := pm_Ss h
  refine pm_met (by decide +kernel) (Nat.le_of_ble_eq_true rfl) hle.1 hle.2 ?_
  intro p e R s m args below meth c
  refine pm_blk (pc' := 8) (L' := [(5, .int 0), (4, .int 0), (3, .int a1), (0, .ref 39), (1, .int a1), (2, .int a2)]) (S' := []) (M' := sm g u) [pm_o (.iload_n 1), pm_o (.istore_n 3), pm_oi (.iconst 0) 0, pm_o (.istore 4), pm_oi (.iconst 0) 0, pm_o (.istore 5)] (by decide +kernel) rfl ?_
  refine pm_loc [3, 4, 5, 2, 1, 0] rfl ?_
  exact w_Parser_readAtoms_8 l h0 D hdR_Parser_readExpr hr_Parser_readExpr N a1 a2 a1 0 0 g u hT hle h
def K_Parser_readCall_34 (N : Nat) (r_Parser_readExpr : Int32 → pm_s → pm_J → Option (Int32 × pm_s × pm_J)) (x1 : Int32) (t0 : Int32) (g : pm_s) (u : pm_J) : Option (Int32 × pm_s × pm_J) := (F_Parser_here g u).bind fun q5 => (F_Parser_readAtom N r_Parser_readExpr x1 g (wi u 39 11 ((u.1 39 11) + 1))).bind fun q6 => if sh_Tb q6.2.1 = true then pm_S q6.2.1 ((F_Tree_add N t0 q5 q6.1 (-1) (-1) q6.2.1 q6.2.2).bind fun q9 => some (q9.1, q6.2.1, q9.2)) else none
set_option maxHeartbeats 4000000 in
set_option maxRecDepth 100000 in
theorem w_Parser_readCall_34 (l : Launch) (h0 : Nat) (D : pm_D) {N : Nat} {r_Parser_readExpr : Int32 → pm_s → pm_J → Option (Int32 × pm_s × pm_J)} {dR_Parser_readExpr : Nat} (hdR_Parser_readExpr : 76 ≤ dR_Parser_readExpr) (hr_Parser_readExpr : ∀ {a1 : Int32} {g : pm_s} {u : pm_J} {out : Int32 × pm_s × pm_J}, sh_T g → r_Parser_readExpr a1 g u = some out → pm_C l h0 D m_Parser_readExpr dR_Parser_readExpr [.ref 39, .int a1] (sm g u) (some (.int out.1)) (sm out.2.1 out.2.2)) {g0 : pm_s} {u0 : pm_J} {out : Int32 × pm_s × pm_J} {p : Program} {e : Env} {R : Room} {s : State} {m : MethodId} {args : Array Value} {below : List Frame} {meth : Method} {c : Code} : ∀ (x1 : Int32) (t0 : Int32) (g : pm_s) (u : pm_J) (hT : sh_T g) (hle : g.1 ≤ out.2.1.1 ∧ g.2.1 ≤ out.2.1.2.1), K_Parser_readCall_34 N r_Parser_readExpr x1 t0 g u = some out → pm_V (p, l, e, R, s, m, args, below, meth, c) m_Parser_readCall h0 D (g0.1, g0.2.1, out.2.1.1, out.2.1.2.1, dR_Parser_readExpr + 4) (pm_E (p, l, e, R, s, m, args, below, meth, c) h0 D (sm g0 u0) (some (.int out.1)) (sm out.2.1 out.2.2)) 34 [(0, .ref 39), (1, .int x1)] [.int t0] (sm g u) := by
    intro x1 t0 g u hT hle h
    unfold K_Parser_readCall_34 at h
    refine pm_blk (pc' := 36) (L' := [(2, .int t0), (0, .ref 39), (1, .int x1)]) (S' := [.ref 39]) (M' := sm g u) [pm_o (.istore_n 2), pm_o (.aload_n 0)] (by decide +kernel) rfl ?_
    obtain ⟨q5, hq5, h⟩ := pm_bd h
    refine pm_cV (idx := 66) m_Parser_here (c_Parser_here l h0 D hT hq5) (As := []) (S0 := []) rfl (by decide +kernel) k_Parser_here l_Parser_66 (show 1 + 1 ≤ dR_Parser_readExpr + 4 by omega) (Nat.le_of_ble_eq_true rfl) hle.1 hle.2 ?_
    refine pm_blk (pc' := 58) (L' := [(3, .int q5), (2, .int t0), (0, .ref 39), (1, .int x1)]) (S' := [.int x1, .ref 39, .int q5, .int t0, .ref 18]) (M' := sm g (wi u 39 11 ((u.1 39 11) + 1))) [pm_o (.istore_n 3), pm_o (.aload_n 0), pm_o .dup, pm_of (.getfield 47) 7 11 0, pm_oi (.iconst 1) 1, pm_o .iadd, pm_of (.putfield 47) 7 11 0, pm_o (.aload_n 0), pm_of (.getfield 19) 7 2 2, pm_o (.iload_n 2), pm_o (.iload_n 3), pm_o (.aload_n 0), pm_o (.iload_n 1)] (by decide +kernel) rfl ?_
    obtain ⟨q6, hq6, h⟩ := pm_bd h
    obtain ⟨hu7, h⟩ := pm_ifs h
    obtain ⟨h, hl8⟩ := pm_Ss h
    refine pm_cV (idx := 224) m_Parser_readAtom (c_Parser_readAtom l h0 D hT hdR_Parser_readExpr hr_Parser_readExpr hq6) (As := [.int x1]) (S0 := [.int q5, .int t0, .ref 18]) rfl (by decide +kernel) k_Parser_readAtom l_Parser_224 (show dR_Parser_readExpr + 2 + 1 ≤ dR_Parser_readExpr + 4 by omega) (Nat.le_of_ble_eq_true rfl) hl8.1 hl8.2 ?_
    refine pm_blk (pc' := 63) (L' := [(3, .int q5), (2, .int t0), (0, .ref 39), (1, .int x1)]) (S' := [.int (-1), .int (-1), .int q6.1, .int q5, .int t0, .ref 18]) (M' := sm q6.2.1 q6.2.2) [pm_oi (.iconst (-1)) (-1), pm_oi (.iconst (-1)) (-1)] (by decide +kernel) rfl ?_
    obtain ⟨q9, hq9, h⟩ := pm_bd h
    refine pm_cV (idx := 208) m_Tree_add (c_Tree_add l h0 D (sh_Tb_s hu7) hq9) (As := [.int t0, .int q5, .int q6.1, .int (-1), .int (-1)]) (S0 := []) rfl (by decide +kernel) k_Tree_add l_Parser_208 (show 2 + 1 ≤ dR_Parser_readExpr + 4 by omega) (Nat.le_of_ble_eq_true rfl) hl8.1 hl8.2 ?_
    refine pm_blk (pc' := 66) (L' := [(3, .int q5), (2, .int t0), (0, .ref 39), (1, .int x1)]) (S' := [.int q9.1]) (M' := sm q6.2.1 q9.2) [] (by decide +kernel) rfl ?_
    have h9 := Option.some.inj h
    subst h9
    exact pm_reti rfl (by decide +kernel) rfl rfl rfl
def K_Parser_readCall_80 (N : Nat) (r_Parser_readExpr : Int32 → pm_s → pm_J → Option (Int32 × pm_s × pm_J)) (x1 : Int32) (t0 : Int32) (g : pm_s) (u : pm_J) : Option (Int32 × pm_s × pm_J) := (F_Parser_readAtom N r_Parser_readExpr x1 g u).bind fun q14 => if sh_Tb q14.2.1 = true then pm_S q14.2.1 ((F_Parser_beginsAtom q14.2.1 q14.2.2).bind fun q17 => if q17 = 0 then some (q14.1, q14.2.1, q14.2.2) else if t0 = 0 then (F_Parser_readAtoms N r_Parser_readExpr q14.1 x1 q14.2.1 q14.2.2).bind fun q20 => if sh_Tb q20.2.1 = true then pm_S q20.2.1 (some (q20.1, q20.2.1, q20.2.2)) else none else (F_Tree_kind q14.1 q14.2.1 q14.2.2).bind fun q23 => if q23 = 3 then (F_Tree_turnInto q14.1 4 q14.2.1 q14.2.2).bind fun q28 => (F_Parser_readAtoms N r_Parser_readExpr q14.1 x1 q14.2.1 q28).bind fun q29 => if sh_Tb q29.2.1 = true then pm_S q29.2.1 (some (q29.1, q29.2.1, q29.2.2)) else none else (F_Parser_readAtoms N r_Parser_readExpr q14.1 x1 q14.2.1 q14.2.2).bind fun q25 => if sh_Tb q25.2.1 = true then pm_S q25.2.1 (some (q25.1, q25.2.1, q25.2.2)) else none) else none
set_option maxHeartbeats 4000000 in
set_option maxRecDepth 100000 in
theorem w_Parser_readCall_80 (l : Launch) (h0 : Nat) (D : pm_D) {N : Nat} {r_Parser_readExpr : Int32 → pm_s → pm_J → Option (Int32 × pm_s × pm_J)} {dR_Parser_readExpr : Nat} (hdR_Parser_readExpr : 76 ≤ dR_Parser_readExpr) (hr_Parser_readExpr : ∀ {a1 : Int32} {g : pm_s} {u : pm_J} {out : Int32 × pm_s × pm_J}, sh_T g → r_Parser_readExpr a1 g u = some out → pm_C l h0 D m_Parser_readExpr dR_Parser_readExpr [.ref 39, .int a1] (sm g u) (some (.int out.1)) (sm out.2.1 out.2.2)) {g0 : pm_s} {u0 : pm_J} {out : Int32 × pm_s × pm_J} {p : Program} {e : Env} {R : Room} {s : State} {m : MethodId} {args : Array Value} {below : List Frame} {meth : Method} {c : Code} : ∀ (x1 : Int32) (t0 : Int32) (g : pm_s) (u : pm_J) (hT : sh_T g) (hle : g.1 ≤ out.2.1.1 ∧ g.2.1 ≤ out.2.1.2.1), K_Parser_readCall_80 N r_Parser_readExpr x1 t0 g u = some out → pm_V (p, l, e, R, s, m, args, below, meth, c) m_Parser_readCall h0 D (g0.1, g0.2.1, out.2.1.1, out.2.1.2.1, dR_Parser_readExpr + 4) (pm_E (p, l, e, R, s, m, args, below, meth, c) h0 D (sm g0 u0) (some (.int out.1)) (sm out.2.1 out.2.2)) 80 [(0, .ref 39), (1, .int x1)] [.int t0] (sm g u) := by
    intro x1 t0 g u hT hle h
    unfold K_Parser_readCall_80 at h
    refine pm_blk (pc' := 83) (L' := [(2, .int t0), (0, .ref 39), (1, .int x1)]) (S' := [.int x1, .ref 39]) (M' := sm g u) [pm_o (.istore_n 2), pm_o (.aload_n 0), pm_o (.iload_n 1)] (by decide +kernel) rfl ?_
    obtain ⟨q14, hq14, h⟩ := pm_bd h
    obtain ⟨hu15, h⟩ := pm_ifs h
    obtain ⟨h, hl16⟩ := pm_Ss h
    refine pm_cV (idx := 224) m_Parser_readAtom (c_Parser_readAtom l h0 D hT hdR_Parser_readExpr hr_Parser_readExpr hq14) (As := [.int x1]) (S0 := []) rfl (by decide +kernel) k_Parser_readAtom l_Parser_224 (show dR_Parser_readExpr + 2 + 1 ≤ dR_Parser_readExpr + 4 by omega) (Nat.le_of_ble_eq_true rfl) hl16.1 hl16.2 ?_
    refine pm_blk (pc' := 88) (L' := [(3, .int q14.1), (2, .int t0), (0, .ref 39), (1, .int x1)]) (S' := [.ref 39]) (M' := sm q14.2.1 q14.2.2) [pm_o (.istore_n 3), pm_o (.aload_n 0)] (by decide +kernel) rfl ?_
    obtain ⟨q17, hq17, h⟩ := pm_bd h
    refine pm_cV (idx := 227) m_Parser_beginsAtom (c_Parser_beginsAtom l h0 D (sh_Tb_s hu15) hq17) (As := []) (S0 := []) rfl (by decide +kernel) k_Parser_beginsAtom l_Parser_227 (show 2 + 1 ≤ dR_Parser_readExpr + 4 by omega) (Nat.le_of_ble_eq_true rfl) hl16.1 hl16.2 ?_
    refine pm_blk (pc' := 91) (L' := [(3, .int q14.1), (2, .int t0), (0, .ref 39), (1, .int x1)]) (S' := [.int q17]) (M' := sm q14.2.1 q14.2.2) [] (by decide +kernel) rfl ?_
    refine pm_if_ne (off := 5) 96 (by decide +kernel) (by decide) (fun hc18 => ?_) (fun hc18 => ?_)
    · rw [if_neg hc18] at h
      refine pm_blk (pc' := 97) (L' := [(3, .int q14.1), (2, .int t0), (0, .ref 39), (1, .int x1)]) (S' := [.int t0]) (M' := sm q14.2.1 q14.2.2) [pm_o (.iload_n 2)] (by decide +kernel) rfl ?_
      refine pm_if_eq (off := 24) 121 (by decide +kernel) (by decide) (fun hc19 => ?_) (fun hc19 => ?_)
      · rw [if_pos hc19] at h
        refine pm_blk (pc' := 124) (L' := [(3, .int q14.1), (2, .int t0), (0, .ref 39), (1, .int x1)]) (S' := [.int x1, .int q14.1, .ref 39]) (M' := sm q14.2.1 q14.2.2) [pm_o (.aload_n 0), pm_o (.iload_n 3), pm_o (.iload_n 1)] (by decide +kernel) rfl ?_
        obtain ⟨q20, hq20, h⟩ := pm_bd h
        obtain ⟨hu21, h⟩ := pm_ifs h
        obtain ⟨h, hl22⟩ := pm_Ss h
        refine pm_cV (idx := 235) m_Parser_readAtoms (c_Parser_readAtoms l h0 D (sh_Tb_s hu15) hdR_Parser_readExpr hr_Parser_readExpr hq20) (As := [.int q14.1, .int x1]) (S0 := []) rfl (by decide +kernel) k_Parser_readAtoms l_Parser_235 (show dR_Parser_readExpr + 3 + 1 ≤ dR_Parser_readExpr + 4 by omega) (Nat.le_of_ble_eq_true rfl) hl22.1 hl22.2 ?_
        refine pm_blk (pc' := 127) (L' := [(3, .int q14.1), (2, .int t0), (0, .ref 39), (1, .int x1)]) (S' := [.int q20.1]) (M' := sm q20.2.1 q20.2.2) [] (by decide +kernel) rfl ?_
        have h9 := Option.some.inj h
        subst h9
        exact pm_reti rfl (by decide +kernel) rfl rfl rfl
      · rw [if_neg hc19] at h
        refine pm_blk (pc' := 105) (L' := [(3, .int q14.1), (2, .int t0), (0, .ref 39), (1, .int x1)]) (S' := [.int q14.1, .ref 18]) (M' := sm q14.2.1 q14.2.2) [pm_o (.aload_n 0), pm_of (.getfield 19) 7 2 2, pm_o (.iload_n 3)] (by decide +kernel) rfl ?_
        obtain ⟨q23, hq23, h⟩ := pm_bd h
        refine pm_cV (idx := 230) m_Tree_kind (c_Tree_kind l h0 D (sh_Tb_s hu15) hq23) (As := [.int q14.1]) (S0 := []) rfl (by decide +kernel) k_Tree_kind l_Parser_230 (show 0 + 1 ≤ dR_Parser_readExpr + 4 by omega) (Nat.le_of_ble_eq_true rfl) hl16.1 hl16.2 ?_
        refine pm_blk (pc' := 109) (L' := [(3, .int q14.1), (2, .int t0), (0, .ref 39), (1, .int x1)]) (S' := [.int 3, .int q23]) (M' := sm q14.2.1 q14.2.2) [pm_oi (.iconst 3) 3] (by decide +kernel) rfl ?_
        refine pm_ic_ne (off := 12) 121 (by decide +kernel) (by decide) (fun hc24 => ?_) (fun hc24 => ?_)
        · rw [if_neg hc24] at h
          refine pm_blk (pc' := 124) (L' := [(3, .int q14.1), (2, .int t0), (0, .ref 39), (1, .int x1)]) (S' := [.int x1, .int q14.1, .ref 39]) (M' := sm q14.2.1 q14.2.2) [pm_o (.aload_n 0), pm_o (.iload_n 3), pm_o (.iload_n 1)] (by decide +kernel) rfl ?_
          obtain ⟨q25, hq25, h⟩ := pm_bd h
          obtain ⟨hu26, h⟩ := pm_ifs h
          obtain ⟨h, hl27⟩ := pm_Ss h
          refine pm_cV (idx := 235) m_Parser_readAtoms (c_Parser_readAtoms l h0 D (sh_Tb_s hu15) hdR_Parser_readExpr hr_Parser_readExpr hq25) (As := [.int q14.1, .int x1]) (S0 := []) rfl (by decide +kernel) k_Parser_readAtoms l_Parser_235 (show dR_Parser_readExpr + 3 + 1 ≤ dR_Parser_readExpr + 4 by omega) (Nat.le_of_ble_eq_true rfl) hl27.1 hl27.2 ?_
          refine pm_blk (pc' := 127) (L' := [(3, .int q14.1), (2, .int t0), (0, .ref 39), (1, .int x1)]) (S' := [.int q25.1]) (M' := sm q25.2.1 q25.2.2) [] (by decide +kernel) rfl ?_
          have h9 := Option.some.inj h
          subst h9
          exact pm_reti rfl (by decide +kernel) rfl rfl rfl
        · rw [if_pos hc24] at h
          refine pm_blk (pc' := 118) (L' := [(3, .int q14.1), (2, .int t0), (0, .ref 39), (1, .int x1)]) (S' := [.int 4, .int q14.1, .ref 18]) (M' := sm q14.2.1 q14.2.2) [pm_o (.aload_n 0), pm_of (.getfield 19) 7 2 2, pm_o (.iload_n 3), pm_oi (.iconst 4) 4] (by decide +kernel) rfl ?_
          obtain ⟨q28, hq28, h⟩ := pm_bd h
          refine pm_cV (idx := 232) m_Tree_turnInto (c_Tree_turnInto l h0 D (sh_Tb_s hu15) hq28) (As := [.int q14.1, .int 4]) (S0 := []) rfl (by decide +kernel) k_Tree_turnInto l_Parser_232 (show 0 + 1 ≤ dR_Parser_readExpr + 4 by omega) (Nat.le_of_ble_eq_true rfl) hl16.1 hl16.2 ?_
          refine pm_blk (pc' := 124) (L' := [(3, .int q14.1), (2, .int t0), (0, .ref 39), (1, .int x1)]) (S' := [.int x1, .int q14.1, .ref 39]) (M' := sm q14.2.1 q28) [pm_o (.aload_n 0), pm_o (.iload_n 3), pm_o (.iload_n 1)] (by decide +kernel) rfl ?_
          obtain ⟨q29, hq29, h⟩ := pm_bd h
          obtain ⟨hu30, h⟩ := pm_ifs h
          obtain ⟨h, hl31⟩ := pm_Ss h
          refine pm_cV (idx := 235) m_Parser_readAtoms (c_Parser_readAtoms l h0 D (sh_Tb_s hu15) hdR_Parser_readExpr hr_Parser_readExpr hq29) (As := [.int q14.1, .int x1]) (S0 := []) rfl (by decide +kernel) k_Parser_readAtoms l_Parser_235 (show dR_Parser_readExpr + 3 + 1 ≤ dR_Parser_readExpr + 4 by omega) (Nat.le_of_ble_eq_true rfl) hl31.1 hl31.2 ?_
          refine pm_blk (pc' := 127) (L' := [(3, .int q14.1), (2, .int t0), (0, .ref 39), (1, .int x1)]) (S' := [.int q29.1]) (M' := sm q29.2.1 q29.2.2) [] (by decide +kernel) rfl ?_
          have h9 := Option.some.inj h
          subst h9
          exact pm_reti rfl (by decide +kernel) rfl rfl rfl
    · rw [if_pos hc18] at h
      refine pm_blk (pc' := 95) (L' := [(3, .int q14.1), (2, .int t0), (0, .ref 39), (1, .int x1)]) (S' := [.int q14.1]) (M' := sm q14.2.1 q14.2.2) [pm_o (.iload_n 3)] (by decide +kernel) rfl ?_
      have h9 := Option.some.inj h
      subst h9
      exact pm_reti rfl (by decide +kernel) rfl rfl rfl
def F_Parser_readCall (N : Nat) (r_Parser_readExpr : Int32 → pm_s → pm_J → Option (Int32 × pm_s × pm_J)) (a1 : Int32) (g : pm_s) (u : pm_J) : Option (Int32 × pm_s × pm_J) := pm_S g ((F_Parser_kind g u).bind fun q1 => if q1 = 13 then (F_Parser_kind g u).bind fun q3 => if q3 = 13 then K_Parser_readCall_34 N r_Parser_readExpr a1 14 g u else K_Parser_readCall_34 N r_Parser_readExpr a1 15 g u else (F_Parser_kind g u).bind fun q10 => if q10 = 14 then (F_Parser_kind g u).bind fun q32 => if q32 = 13 then K_Parser_readCall_34 N r_Parser_readExpr a1 14 g u else K_Parser_readCall_34 N r_Parser_readExpr a1 15 g u else (F_Parser_kind g u).bind fun q12 => if q12 = 1 then K_Parser_readCall_80 N r_Parser_readExpr a1 1 g u else K_Parser_readCall_80 N r_Parser_readExpr a1 0 g u)
set_option maxHeartbeats 4000000 in
set_option maxRecDepth 100000 in
theorem c_Parser_readCall (l : Launch) (h0 : Nat) (D : pm_D) {g : pm_s} {u : pm_J} (hT : sh_T g) {N : Nat} {r_Parser_readExpr : Int32 → pm_s → pm_J → Option (Int32 × pm_s × pm_J)} {dR_Parser_readExpr : Nat} (hdR_Parser_readExpr : 76 ≤ dR_Parser_readExpr) (hr_Parser_readExpr : ∀ {a1 : Int32} {g : pm_s} {u : pm_J} {out : Int32 × pm_s × pm_J}, sh_T g → r_Parser_readExpr a1 g u = some out → pm_C l h0 D m_Parser_readExpr dR_Parser_readExpr [.ref 39, .int a1] (sm g u) (some (.int out.1)) (sm out.2.1 out.2.2)) {a1 : Int32} {out : Int32 × pm_s × pm_J} (h : F_Parser_readCall N r_Parser_readExpr a1 g u = some out) : pm_C l h0 D m_Parser_readCall (dR_Parser_readExpr + 4) [.ref 39, .int a1] (sm g u) (some (.int out.1)) (sm out.2.1 out.2.2) := by
  unfold F_Parser_readCall at h
  obtain ⟨h, hle⟩ := pm_Ss h
  refine pm_met (by decide +kernel) (Nat.le_of_ble_eq_true rfl) hle.1 hle.2 ?_
  intro p e R s m args below meth c
  refine pm_blk (pc' := 1) (L' := [(0, .ref 39), (1, .int a1)]) (S' := [.ref 39]) (M' := sm g u) [pm_o (.aload_n 0)] (by decide +kernel) rfl ?_
  obtain ⟨q1, hq1, h⟩ := pm_bd h
  refine pm_cV (idx := 57) m_Parser_kind (c_Parser_kind l h0 D hT hq1) (As := []) (S0 := []) rfl (by decide +kernel) k_Parser_kind l_Parser_57 (show 1 + 1 ≤ dR_Parser_readExpr + 4 by omega) (Nat.le_of_ble_eq_true rfl) hle.1 hle.2 ?_
  refine pm_blk (pc' := 6) (L' := [(0, .ref 39), (1, .int a1)]) (S' := [.int 13, .int q1]) (M' := sm g u) [pm_oi (.bipush 13) 13] (by decide +kernel) rfl ?_
  refine pm_ic_eq (off := 12) 18 (by decide +kernel) (by decide) (fun hc2 => ?_) (fun hc2 => ?_)
  · rw [if_pos hc2] at h
    refine pm_blk (pc' := 19) (L' := [(0, .ref 39), (1, .int a1)]) (S' := [.ref 39]) (M' := sm g u) [pm_o (.aload_n 0)] (by decide +kernel) rfl ?_
    obtain ⟨q3, hq3, h⟩ := pm_bd h
    refine pm_cV (idx := 57) m_Parser_kind (c_Parser_kind l h0 D hT hq3) (As := []) (S0 := []) rfl (by decide +kernel) k_Parser_kind l_Parser_57 (show 1 + 1 ≤ dR_Parser_readExpr + 4 by omega) (Nat.le_of_ble_eq_true rfl) hle.1 hle.2 ?_
    refine pm_blk (pc' := 24) (L' := [(0, .ref 39), (1, .int a1)]) (S' := [.int 13, .int q3]) (M' := sm g u) [pm_oi (.bipush 13) 13] (by decide +kernel) rfl ?_
    refine pm_ic_ne (off := 8) 32 (by decide +kernel) (by decide) (fun hc4 => ?_) (fun hc4 => ?_)
    · rw [if_neg hc4] at h
      refine pm_blk (pc' := 34) (L' := [(0, .ref 39), (1, .int a1)]) (S' := [.int 15]) (M' := sm g u) [pm_oi (.bipush 15) 15] (by decide +kernel) rfl ?_
      refine pm_loc [0, 1] rfl ?_
      exact w_Parser_readCall_34 l h0 D hdR_Parser_readExpr hr_Parser_readExpr a1 15 g u hT hle h
    · rw [if_pos hc4] at h
      refine pm_blk (pc' := 29) (L' := [(0, .ref 39), (1, .int a1)]) (S' := [.int 14]) (M' := sm g u) [pm_oi (.bipush 14) 14] (by decide +kernel) rfl ?_
      refine pm_goto (off := 5) 34 (by decide +kernel) (by decide) ?_
      refine pm_loc [0, 1] rfl ?_
      exact w_Parser_readCall_34 l h0 D hdR_Parser_readExpr hr_Parser_readExpr a1 14 g u hT hle h
  · rw [if_neg hc2] at h
    refine pm_blk (pc' := 10) (L' := [(0, .ref 39), (1, .int a1)]) (S' := [.ref 39]) (M' := sm g u) [pm_o (.aload_n 0)] (by decide +kernel) rfl ?_
    obtain ⟨q10, hq10, h⟩ := pm_bd h
    refine pm_cV (idx := 57) m_Parser_kind (c_Parser_kind l h0 D hT hq10) (As := []) (S0 := []) rfl (by decide +kernel) k_Parser_kind l_Parser_57 (show 1 + 1 ≤ dR_Parser_readExpr + 4 by omega) (Nat.le_of_ble_eq_true rfl) hle.1 hle.2 ?_
    refine pm_blk (pc' := 15) (L' := [(0, .ref 39), (1, .int a1)]) (S' := [.int 14, .int q10]) (M' := sm g u) [pm_oi (.bipush 14) 14] (by decide +kernel) rfl ?_
    refine pm_ic_ne (off := 52) 67 (by decide +kernel) (by decide) (fun hc11 => ?_) (fun hc11 => ?_)
    · rw [if_neg hc11] at h
      refine pm_blk (pc' := 68) (L' := [(0, .ref 39), (1, .int a1)]) (S' := [.ref 39]) (M' := sm g u) [pm_o (.aload_n 0)] (by decide +kernel) rfl ?_
      obtain ⟨q12, hq12, h⟩ := pm_bd h
      refine pm_cV (idx := 57) m_Parser_kind (c_Parser_kind l h0 D hT hq12) (As := []) (S0 := []) rfl (by decide +kernel) k_Parser_kind l_Parser_57 (show 1 + 1 ≤ dR_Parser_readExpr + 4 by omega) (Nat.le_of_ble_eq_true rfl) hle.1 hle.2 ?_
      refine pm_blk (pc' := 72) (L' := [(0, .ref 39), (1, .int a1)]) (S' := [.int 1, .int q12]) (M' := sm g u) [pm_oi (.iconst 1) 1] (by decide +kernel) rfl ?_
      refine pm_ic_ne (off := 7) 79 (by decide +kernel) (by decide) (fun hc13 => ?_) (fun hc13 => ?_)
      · rw [if_neg hc13] at h
        refine pm_blk (pc' := 80) (L' := [(0, .ref 39), (1, .int a1)]) (S' := [.int 0]) (M' := sm g u) [pm_oi (.iconst 0) 0] (by decide +kernel) rfl ?_
        refine pm_loc [0, 1] rfl ?_
        exact w_Parser_readCall_80 l h0 D hdR_Parser_readExpr hr_Parser_readExpr a1 0 g u hT hle h
      · rw [if_pos hc13] at h
        refine pm_blk (pc' := 76) (L' := [(0, .ref 39), (1, .int a1)]) (S' := [.int 1]) (M' := sm g u) [pm_oi (.iconst 1) 1] (by decide +kernel) rfl ?_
        refine pm_goto (off := 4) 80 (by decide +kernel) (by decide) ?_
        refine pm_loc [0, 1] rfl ?_
        exact w_Parser_readCall_80 l h0 D hdR_Parser_readExpr hr_Parser_readExpr a1 1 g u hT hle h
    · rw [if_pos hc11] at h
      refine pm_blk (pc' := 19) (L' := [(0, .ref 39), (1, .int a1)]) (S' := [.ref 39]) (M' := sm g u) [pm_o (.aload_n 0)] (by decide +kernel) rfl ?_
      obtain ⟨q32, hq32, h⟩ := pm_bd h
      refine pm_cV (idx := 57) m_Parser_kind (c_Parser_kind l h0 D hT hq32) (As := []) (S0 := []) rfl (by decide +kernel) k_Parser_kind l_Parser_57 (show 1 + 1 ≤ dR_Parser_readExpr + 4 by omega) (Nat.le_of_ble_eq_true rfl) hle.1 hle.2 ?_
      refine pm_blk (pc' := 24) (L' := [(0, .ref 39), (1, .int a1)]) (S' := [.int 13, .int q32]) (M' := sm g u) [pm_oi (.bipush 13) 13] (by decide +kernel) rfl ?_
      refine pm_ic_ne (off := 8) 32 (by decide +kernel) (by decide) (fun hc33 => ?_) (fun hc33 => ?_)
      · rw [if_neg hc33] at h
        refine pm_blk (pc' := 34) (L' := [(0, .ref 39), (1, .int a1)]) (S' := [.int 15]) (M' := sm g u) [pm_oi (.bipush 15) 15] (by decide +kernel) rfl ?_
        refine pm_loc [0, 1] rfl ?_
        exact w_Parser_readCall_34 l h0 D hdR_Parser_readExpr hr_Parser_readExpr a1 15 g u hT hle h
      · rw [if_pos hc33] at h
        refine pm_blk (pc' := 29) (L' := [(0, .ref 39), (1, .int a1)]) (S' := [.int 14]) (M' := sm g u) [pm_oi (.bipush 14) 14] (by decide +kernel) rfl ?_
        refine pm_goto (off := 5) 34 (by decide +kernel) (by decide) ?_
        refine pm_loc [0, 1] rfl ?_
        exact w_Parser_readCall_34 l h0 D hdR_Parser_readExpr hr_Parser_readExpr a1 14 g u hT hle h
def F_Parser_isSumSign (g : pm_s) (u : pm_J) : Option (Int32) := (F_Parser_kind g u).bind fun q1 => if q1 = 22 then some 1 else (F_Parser_kind g u).bind fun q3 => if q3 = 23 then some 1 else some 0
set_option maxHeartbeats 4000000 in
set_option maxRecDepth 100000 in
theorem c_Parser_isSumSign (l : Launch) (h0 : Nat) (D : pm_D) {g : pm_s} {u : pm_J} (hT : sh_T g) {out : Int32} (h : F_Parser_isSumSign g u = some out) : pm_C l h0 D m_Parser_isSumSign (2) [.ref 39] (sm g u) (some (.int out)) (sm g u) := by
  unfold F_Parser_isSumSign at h
  refine pm_met (by decide +kernel) (Nat.le_of_ble_eq_true rfl) (Nat.le_refl _) (Nat.le_refl _) ?_
  intro p e R s m args below meth c
  refine pm_blk (pc' := 1) (L' := [(0, .ref 39)]) (S' := [.ref 39]) (M' := sm g u) [pm_o (.aload_n 0)] (by decide +kernel) rfl ?_
  obtain ⟨q1, hq1, h⟩ := pm_bd h
  refine pm_cV (idx := 57) m_Parser_kind (c_Parser_kind l h0 D hT hq1) (As := []) (S0 := []) rfl (by decide +kernel) k_Parser_kind l_Parser_57 (Nat.le_of_ble_eq_true rfl) (Nat.le_of_ble_eq_true rfl) (Nat.le_refl _) (Nat.le_refl _) ?_
  refine pm_blk (pc' := 6) (L' := [(0, .ref 39)]) (S' := [.int 22, .int q1]) (M' := sm g u) [pm_oi (.bipush 22) 22] (by decide +kernel) rfl ?_
  refine pm_ic_eq (off := 12) 18 (by decide +kernel) (by decide) (fun hc2 => ?_) (fun hc2 => ?_)
  · rw [if_pos hc2] at h
    refine pm_blk (pc' := 19) (L' := [(0, .ref 39)]) (S' := [.int 1]) (M' := sm g u) [pm_oi (.iconst 1) 1] (by decide +kernel) rfl ?_
    refine pm_goto (off := 4) 23 (by decide +kernel) (by decide) ?_
    have h9 := Option.some.inj h
    subst h9
    exact pm_retz rfl (by decide +kernel) rfl rfl rfl rfl
  · rw [if_neg hc2] at h
    refine pm_blk (pc' := 10) (L' := [(0, .ref 39)]) (S' := [.ref 39]) (M' := sm g u) [pm_o (.aload_n 0)] (by decide +kernel) rfl ?_
    obtain ⟨q3, hq3, h⟩ := pm_bd h
    refine pm_cV (idx := 57) m_Parser_kind (c_Parser_kind l h0 D hT hq3) (As := []) (S0 := []) rfl (by decide +kernel) k_Parser_kind l_Parser_57 (Nat.le_of_ble_eq_true rfl) (Nat.le_of_ble_eq_true rfl) (Nat.le_refl _) (Nat.le_refl _) ?_
    refine pm_blk (pc' := 15) (L' := [(0, .ref 39)]) (S' := [.int 23, .int q3]) (M' := sm g u) [pm_oi (.bipush 23) 23] (by decide +kernel) rfl ?_
    refine pm_ic_ne (off := 7) 22 (by decide +kernel) (by decide) (fun hc4 => ?_) (fun hc4 => ?_)
    · rw [if_neg hc4] at h
      refine pm_blk (pc' := 23) (L' := [(0, .ref 39)]) (S' := [.int 0]) (M' := sm g u) [pm_oi (.iconst 0) 0] (by decide +kernel) rfl ?_
      have h9 := Option.some.inj h
      subst h9
      exact pm_retz rfl (by decide +kernel) rfl rfl rfl rfl
    · rw [if_pos hc4] at h
      refine pm_blk (pc' := 19) (L' := [(0, .ref 39)]) (S' := [.int 1]) (M' := sm g u) [pm_oi (.iconst 1) 1] (by decide +kernel) rfl ?_
      refine pm_goto (off := 4) 23 (by decide +kernel) (by decide) ?_
      have h9 := Option.some.inj h
      subst h9
      exact pm_retz rfl (by decide +kernel) rfl rfl rfl rfl
def K_Parser_readSum_58 (N : Nat) (r_Parser_readExpr : Int32 → pm_s → pm_J → Option (Int32 × pm_s × pm_J)) (k8 : Int32 → Int32 → Int32 → pm_s → pm_J → Option (Int32 × pm_s × pm_J)) (x1 : Int32) (x2 : Int32) (x3 : Int32) (t0 : Int32) (g : pm_s) (u : pm_J) : Option (Int32 × pm_s × pm_J) := (F_Parser_here g u).bind fun q10 => (F_Parser_readCall N r_Parser_readExpr x1 g (wi u 39 11 ((u.1 39 11) + 1))).bind fun q11 => if sh_Tb q11.2.1 = true then pm_S q11.2.1 ((F_Tree_add N t0 q10 x2 q11.1 (-1) q11.2.1 q11.2.2).bind fun q14 => k8 x1 q14.1 (x3 + 1) q11.2.1 q14.2) else none
set_option maxHeartbeats 4000000 in
set_option maxRecDepth 100000 in
theorem w_Parser_readSum_58 (l : Launch) (h0 : Nat) (D : pm_D) {N : Nat} {r_Parser_readExpr : Int32 → pm_s → pm_J → Option (Int32 × pm_s × pm_J)} {dR_Parser_readExpr : Nat} (hdR_Parser_readExpr : 76 ≤ dR_Parser_readExpr) (hr_Parser_readExpr : ∀ {a1 : Int32} {g : pm_s} {u : pm_J} {out : Int32 × pm_s × pm_J}, sh_T g → r_Parser_readExpr a1 g u = some out → pm_C l h0 D m_Parser_readExpr dR_Parser_readExpr [.ref 39, .int a1] (sm g u) (some (.int out.1)) (sm out.2.1 out.2.2)) {g0 : pm_s} {u0 : pm_J} {out : Int32 × pm_s × pm_J} {p : Program} {e : Env} {R : Room} {s : State} {m : MethodId} {args : Array Value} {below : List Frame} {meth : Method} {c : Code} {k8 : Int32 → Int32 → Int32 → pm_s → pm_J → Option (Int32 × pm_s × pm_J)} (hk8 : ∀ (x1 : Int32) (x2 : Int32) (x3 : Int32) (g : pm_s) (u : pm_J) (hT : sh_T g) (hle : g.1 ≤ out.2.1.1 ∧ g.2.1 ≤ out.2.1.2.1), k8 x1 x2 x3 g u = some out → pm_V (p, l, e, R, s, m, args, below, meth, c) m_Parser_readSum h0 D (g0.1, g0.2.1, out.2.1.1, out.2.1.2.1, dR_Parser_readExpr + 5) (pm_E (p, l, e, R, s, m, args, below, meth, c) h0 D (sm g0 u0) (some (.int out.1)) (sm out.2.1 out.2.2)) 8 [(0, .ref 39), (1, .int x1), (2, .int x2), (3, .int x3)] [] (sm g u)) : ∀ (x1 : Int32) (x2 : Int32) (x3 : Int32) (t0 : Int32) (g : pm_s) (u : pm_J) (hT : sh_T g) (hle : g.1 ≤ out.2.1.1 ∧ g.2.1 ≤ out.2.1.2.1), K_Parser_readSum_58 N r_Parser_readExpr k8 x1 x2 x3 t0 g u = some out → pm_V (p, l, e, R, s, m, args, below, meth, c) m_Parser_readSum h0 D (g0.1, g0.2.1, out.2.1.1, out.2.1.2.1, dR_Parser_readExpr + 5) (pm_E (p, l, e, R, s, m, args, below, meth, c) h0 D (sm g0 u0) (some (.int out.1)) (sm out.2.1 out.2.2)) 58 [(0, .ref 39), (1, .int x1), (2, .int x2), (3, .int x3)] [.int t0] (sm g u) := by
    intro x1 x2 x3 t0 g u hT hle h
    unfold K_Parser_readSum_58 at h
    refine pm_blk (pc' := 61) (L' := [(4, .int t0), (0, .ref 39), (1, .int x1), (2, .int x2), (3, .int x3)]) (S' := [.ref 39]) (M' := sm g u) [pm_o (.istore 4), pm_o (.aload_n 0)] (by decide +kernel) rfl ?_
    obtain ⟨q10, hq10, h⟩ := pm_bd h
    refine pm_cV (idx := 66) m_Parser_here (c_Parser_here l h0 D hT hq10) (As := []) (S0 := []) rfl (by decide +kernel) k_Parser_here l_Parser_66 (show 1 + 1 ≤ dR_Parser_readExpr + 5 by omega) (Nat.le_of_ble_eq_true rfl) hle.1 hle.2 ?_
    refine pm_blk (pc' := 78) (L' := [(5, .int q10), (4, .int t0), (0, .ref 39), (1, .int x1), (2, .int x2), (3, .int x3)]) (S' := [.int x1, .ref 39]) (M' := sm g (wi u 39 11 ((u.1 39 11) + 1))) [pm_o (.istore 5), pm_o (.aload_n 0), pm_o .dup, pm_of (.getfield 47) 7 11 0, pm_oi (.iconst 1) 1, pm_o .iadd, pm_of (.putfield 47) 7 11 0, pm_o (.aload_n 0), pm_o (.iload_n 1)] (by decide +kernel) rfl ?_
    obtain ⟨q11, hq11, h⟩ := pm_bd h
    obtain ⟨hu12, h⟩ := pm_ifs h
    obtain ⟨h, hl13⟩ := pm_Ss h
    refine pm_cV (idx := 218) m_Parser_readCall (c_Parser_readCall l h0 D hT hdR_Parser_readExpr hr_Parser_readExpr hq11) (As := [.int x1]) (S0 := []) rfl (by decide +kernel) k_Parser_readCall l_Parser_218 (show dR_Parser_readExpr + 4 + 1 ≤ dR_Parser_readExpr + 5 by omega) (Nat.le_of_ble_eq_true rfl) hl13.1 hl13.2 ?_
    refine pm_blk (pc' := 95) (L' := [(6, .int q11.1), (5, .int q10), (4, .int t0), (0, .ref 39), (1, .int x1), (2, .int x2), (3, .int x3)]) (S' := [.int (-1), .int q11.1, .int x2, .int q10, .int t0, .ref 18]) (M' := sm q11.2.1 q11.2.2) [pm_o (.istore 6), pm_o (.aload_n 0), pm_of (.getfield 19) 7 2 2, pm_o (.iload 4), pm_o (.iload 5), pm_o (.iload_n 2), pm_o (.iload 6), pm_oi (.iconst (-1)) (-1)] (by decide +kernel) rfl ?_
    obtain ⟨q14, hq14, h⟩ := pm_bd h
    refine pm_cV (idx := 208) m_Tree_add (c_Tree_add l h0 D (sh_Tb_s hu12) hq14) (As := [.int t0, .int q10, .int x2, .int q11.1, .int (-1)]) (S0 := []) rfl (by decide +kernel) k_Tree_add l_Parser_208 (show 2 + 1 ≤ dR_Parser_readExpr + 5 by omega) (Nat.le_of_ble_eq_true rfl) hl13.1 hl13.2 ?_
    refine pm_blk (pc' := 102) (L' := [(3, .int (x3 + 1)), (2, .int q14.1), (6, .int q11.1), (5, .int q10), (4, .int t0), (0, .ref 39), (1, .int x1)]) (S' := []) (M' := sm q11.2.1 q14.2) [pm_o (.istore_n 2), pm_oi (.iinc 3 1) 1] (by decide +kernel) rfl ?_
    refine pm_goto (off := -94) 8 (by decide +kernel) (by decide) ?_
    refine pm_loc [5, 6, 1, 0] rfl ?_
    exact hk8 x1 q14.1 (x3 + 1) q11.2.1 q14.2 (sh_Tb_s hu12) hl13 h
def K_Parser_readSum_8 (N : Nat) (r_Parser_readExpr : Int32 → pm_s → pm_J → Option (Int32 × pm_s × pm_J)) : Nat → Int32 → Int32 → Int32 → pm_s → pm_J → Option (Int32 × pm_s × pm_J)
  | 0, _, _, _, _, _ => none
  | n + 1, x1, x2, x3, g, u => if 8 < x3 then some (x2, g, u) else (F_Parser_isSumSign g u).bind fun q5 => if q5 = 0 then some (x2, g, u) else if x3 = 8 then (F_Parser_here g u).bind fun q15 => (F_Fault_tell_3 3 q15 g u).bind fun q16 => K_Parser_readSum_8 N r_Parser_readExpr  n x1 x2 (x3 + 1) g q16 else (F_Parser_kind g u).bind fun q8 => if q8 = 22 then K_Parser_readSum_58 N r_Parser_readExpr (K_Parser_readSum_8 N r_Parser_readExpr  n) x1 x2 x3 10 g u else K_Parser_readSum_58 N r_Parser_readExpr (K_Parser_readSum_8 N r_Parser_readExpr  n) x1 x2 x3 11 g u
set_option maxHeartbeats 4000000 in
set_option maxRecDepth 100000 in
theorem w_Parser_readSum_8 (l : Launch) (h0 : Nat) (D : pm_D) {N : Nat} {r_Parser_readExpr : Int32 → pm_s → pm_J → Option (Int32 × pm_s × pm_J)} {dR_Parser_readExpr : Nat} (hdR_Parser_readExpr : 76 ≤ dR_Parser_readExpr) (hr_Parser_readExpr : ∀ {a1 : Int32} {g : pm_s} {u : pm_J} {out : Int32 × pm_s × pm_J}, sh_T g → r_Parser_readExpr a1 g u = some out → pm_C l h0 D m_Parser_readExpr dR_Parser_readExpr [.ref 39, .int a1] (sm g u) (some (.int out.1)) (sm out.2.1 out.2.2)) {g0 : pm_s} {u0 : pm_J} {out : Int32 × pm_s × pm_J} {p : Program} {e : Env} {R : Room} {s : State} {m : MethodId} {args : Array Value} {below : List Frame} {meth : Method} {c : Code} : ∀ (n : Nat) (x1 : Int32) (x2 : Int32) (x3 : Int32) (g : pm_s) (u : pm_J) (hT : sh_T g) (hle : g.1 ≤ out.2.1.1 ∧ g.2.1 ≤ out.2.1.2.1), K_Parser_readSum_8 N r_Parser_readExpr n x1 x2 x3 g u = some out → pm_V (p, l, e, R, s, m, args, below, meth, c) m_Parser_readSum h0 D (g0.1, g0.2.1, out.2.1.1, out.2.1.2.1, dR_Parser_readExpr + 5) (pm_E (p, l, e, R, s, m, args, below, meth, c) h0 D (sm g0 u0) (some (.int out.1)) (sm out.2.1 out.2.2)) 8 [(0, .ref 39), (1, .int x1), (2, .int x2), (3, .int x3)] [] (sm g u) := by
  intro n
  induction n with
  | zero => intro x1 x2 x3 g u hT hle h; cases h
  | succ n ih =>
    intro x1 x2 x3 g u hT hle h
    rw [K_Parser_readSum_8] at h
    refine pm_blk (pc' := 11) (L' := [(0, .ref 39), (1, .int x1), (2, .int x2), (3, .int x3)]) (S' := [.int 8, .int x3]) (M' := sm g u) [pm_o (.iload_n 3), pm_oi (.bipush 8) 8] (by decide +kernel) rfl ?_
    refine pm_ic_gt (off := 94) 105 (by decide +kernel) (by decide) (fun hc4 => ?_) (fun hc4 => ?_)
    · rw [if_pos hc4] at h
      refine pm_blk (pc' := 106) (L' := [(0, .ref 39), (1, .int x1), (2, .int x2), (3, .int x3)]) (S' := [.int x2]) (M' := sm g u) [pm_o (.iload_n 2)] (by decide +kernel) rfl ?_
      have h9 := Option.some.inj h
      subst h9
      exact pm_reti rfl (by decide +kernel) rfl rfl rfl
    · rw [if_neg hc4] at h
      refine pm_blk (pc' := 15) (L' := [(0, .ref 39), (1, .int x1), (2, .int x2), (3, .int x3)]) (S' := [.ref 39]) (M' := sm g u) [pm_o (.aload_n 0)] (by decide +kernel) rfl ?_
      obtain ⟨q5, hq5, h⟩ := pm_bd h
      refine pm_cV (idx := 221) m_Parser_isSumSign (c_Parser_isSumSign l h0 D hT hq5) (As := []) (S0 := []) rfl (by decide +kernel) k_Parser_isSumSign l_Parser_221 (show 2 + 1 ≤ dR_Parser_readExpr + 5 by omega) (Nat.le_of_ble_eq_true rfl) hle.1 hle.2 ?_
      refine pm_blk (pc' := 18) (L' := [(0, .ref 39), (1, .int x1), (2, .int x2), (3, .int x3)]) (S' := [.int q5]) (M' := sm g u) [] (by decide +kernel) rfl ?_
      refine pm_if_eq (off := 87) 105 (by decide +kernel) (by decide) (fun hc6 => ?_) (fun hc6 => ?_)
      · rw [if_pos hc6] at h
        refine pm_blk (pc' := 106) (L' := [(0, .ref 39), (1, .int x1), (2, .int x2), (3, .int x3)]) (S' := [.int x2]) (M' := sm g u) [pm_o (.iload_n 2)] (by decide +kernel) rfl ?_
        have h9 := Option.some.inj h
        subst h9
        exact pm_reti rfl (by decide +kernel) rfl rfl rfl
      · rw [if_neg hc6] at h
        refine pm_blk (pc' := 24) (L' := [(0, .ref 39), (1, .int x1), (2, .int x2), (3, .int x3)]) (S' := [.int 8, .int x3]) (M' := sm g u) [pm_o (.iload_n 3), pm_oi (.bipush 8) 8] (by decide +kernel) rfl ?_
        refine pm_ic_ne (off := 18) 42 (by decide +kernel) (by decide) (fun hc7 => ?_) (fun hc7 => ?_)
        · rw [if_neg hc7] at h
          refine pm_blk (pc' := 43) (L' := [(0, .ref 39), (1, .int x1), (2, .int x2), (3, .int x3)]) (S' := [.ref 39]) (M' := sm g u) [pm_o (.aload_n 0)] (by decide +kernel) rfl ?_
          obtain ⟨q8, hq8, h⟩ := pm_bd h
          refine pm_cV (idx := 57) m_Parser_kind (c_Parser_kind l h0 D hT hq8) (As := []) (S0 := []) rfl (by decide +kernel) k_Parser_kind l_Parser_57 (show 1 + 1 ≤ dR_Parser_readExpr + 5 by omega) (Nat.le_of_ble_eq_true rfl) hle.1 hle.2 ?_
          refine pm_blk (pc' := 48) (L' := [(0, .ref 39), (1, .int x1), (2, .int x2), (3, .int x3)]) (S' := [.int 22, .int q8]) (M' := sm g u) [pm_oi (.bipush 22) 22] (by decide +kernel) rfl ?_
          refine pm_ic_ne (off := 8) 56 (by decide +kernel) (by decide) (fun hc9 => ?_) (fun hc9 => ?_)
          · rw [if_neg hc9] at h
            refine pm_blk (pc' := 58) (L' := [(0, .ref 39), (1, .int x1), (2, .int x2), (3, .int x3)]) (S' := [.int 11]) (M' := sm g u) [pm_oi (.bipush 11) 11] (by decide +kernel) rfl ?_
            refine pm_loc [0, 1, 2, 3] rfl ?_
            exact w_Parser_readSum_58 l h0 D hdR_Parser_readExpr hr_Parser_readExpr ih x1 x2 x3 11 g u hT hle h
          · rw [if_pos hc9] at h
            refine pm_blk (pc' := 53) (L' := [(0, .ref 39), (1, .int x1), (2, .int x2), (3, .int x3)]) (S' := [.int 10]) (M' := sm g u) [pm_oi (.bipush 10) 10] (by decide +kernel) rfl ?_
            refine pm_goto (off := 5) 58 (by decide +kernel) (by decide) ?_
            refine pm_loc [0, 1, 2, 3] rfl ?_
            exact w_Parser_readSum_58 l h0 D hdR_Parser_readExpr hr_Parser_readExpr ih x1 x2 x3 10 g u hT hle h
        · rw [if_pos hc7] at h
          refine pm_blk (pc' := 33) (L' := [(0, .ref 39), (1, .int x1), (2, .int x2), (3, .int x3)]) (S' := [.ref 39, .int 3, .ref 3]) (M' := sm g u) [pm_o (.aload_n 0), pm_of (.getfield 27) 7 4 2, pm_oi (.iconst 3) 3, pm_o (.aload_n 0)] (by decide +kernel) rfl ?_
          obtain ⟨q15, hq15, h⟩ := pm_bd h
          refine pm_cV (idx := 66) m_Parser_here (c_Parser_here l h0 D hT hq15) (As := []) (S0 := [.int 3, .ref 3]) rfl (by decide +kernel) k_Parser_here l_Parser_66 (show 1 + 1 ≤ dR_Parser_readExpr + 5 by omega) (Nat.le_of_ble_eq_true rfl) hle.1 hle.2 ?_
          refine pm_blk (pc' := 36) (L' := [(0, .ref 39), (1, .int x1), (2, .int x2), (3, .int x3)]) (S' := [.int q15, .int 3, .ref 3]) (M' := sm g u) [] (by decide +kernel) rfl ?_
          obtain ⟨q16, hq16, h⟩ := pm_bd h
          refine pm_cV (idx := 69) m_Fault_tell (c_Fault_tell_3 l h0 D hT hq16) (As := [.int 3, .int q15]) (S0 := []) rfl (by decide +kernel) k_Fault_tell l_Parser_69 (show 0 + 1 ≤ dR_Parser_readExpr + 5 by omega) (Nat.le_of_ble_eq_true rfl) hle.1 hle.2 ?_
          refine pm_blk (pc' := 39) (L' := [(0, .ref 39), (1, .int x1), (2, .int x2), (3, .int x3)]) (S' := []) (M' := sm g q16) [] (by decide +kernel) rfl ?_
          refine pm_goto (off := 60) 99 (by decide +kernel) (by decide) ?_
          refine pm_blk (pc' := 102) (L' := [(3, .int (x3 + 1)), (0, .ref 39), (1, .int x1), (2, .int x2)]) (S' := []) (M' := sm g q16) [pm_oi (.iinc 3 1) 1] (by decide +kernel) rfl ?_
          refine pm_goto (off := -94) 8 (by decide +kernel) (by decide) ?_
          refine pm_loc [1, 2, 3, 0] rfl ?_
          exact ih x1 x2 (x3 + 1) g q16 hT hle h
def F_Parser_readSum (N : Nat) (r_Parser_readExpr : Int32 → pm_s → pm_J → Option (Int32 × pm_s × pm_J)) (a1 : Int32) (g : pm_s) (u : pm_J) : Option (Int32 × pm_s × pm_J) := pm_S g ((F_Parser_readCall N r_Parser_readExpr a1 g u).bind fun q1 => if sh_Tb q1.2.1 = true then pm_S q1.2.1 (K_Parser_readSum_8 N r_Parser_readExpr N a1 q1.1 0 q1.2.1 q1.2.2) else none)
set_option maxHeartbeats 4000000 in
set_option maxRecDepth 100000 in
theorem c_Parser_readSum (l : Launch) (h0 : Nat) (D : pm_D) {g : pm_s} {u : pm_J} (hT : sh_T g) {N : Nat} {r_Parser_readExpr : Int32 → pm_s → pm_J → Option (Int32 × pm_s × pm_J)} {dR_Parser_readExpr : Nat} (hdR_Parser_readExpr : 76 ≤ dR_Parser_readExpr) (hr_Parser_readExpr : ∀ {a1 : Int32} {g : pm_s} {u : pm_J} {out : Int32 × pm_s × pm_J}, sh_T g → r_Parser_readExpr a1 g u = some out → pm_C l h0 D m_Parser_readExpr dR_Parser_readExpr [.ref 39, .int a1] (sm g u) (some (.int out.1)) (sm out.2.1 out.2.2)) {a1 : Int32} {out : Int32 × pm_s × pm_J} (h : F_Parser_readSum N r_Parser_readExpr a1 g u = some out) : pm_C l h0 D m_Parser_readSum (dR_Parser_readExpr + 5) [.ref 39, .int a1] (sm g u) (some (.int out.1)) (sm out.2.1 out.2.2) := by
  unfold F_Parser_readSum at h
  obtain ⟨h, hle⟩ := pm_Ss h
  refine pm_met (by decide +kernel) (Nat.le_of_ble_eq_true rfl) hle.1 hle.2 ?_
  intro p e R s m args below meth c
  refine pm_blk (pc' := 2) (L' := [(0, .ref 39), (1, .int a1)]) (S' := [.int a1, .ref 39]) (M' := sm g u) [pm_o (.aload_n 0), pm_o (.iload_n 1)] (by decide +kernel) rfl ?_
  obtain ⟨q1, hq1, h⟩ := pm_bd h
  obtain ⟨hu2, h⟩ := pm_ifs h
  obtain ⟨h, hl3⟩ := pm_Ss h
  refine pm_cV (idx := 218) m_Parser_readCall (c_Parser_readCall l h0 D hT hdR_Parser_readExpr hr_Parser_readExpr hq1) (As := [.int a1]) (S0 := []) rfl (by decide +kernel) k_Parser_readCall l_Parser_218 (show dR_Parser_readExpr + 4 + 1 ≤ dR_Parser_readExpr + 5 by omega) (Nat.le_of_ble_eq_true rfl) hl3.1 hl3.2 ?_
  refine pm_blk (pc' := 8) (L' := [(3, .int 0), (2, .int q1.1), (0, .ref 39), (1, .int a1)]) (S' := []) (M' := sm q1.2.1 q1.2.2) [pm_o (.istore_n 2), pm_oi (.iconst 0) 0, pm_o (.istore_n 3)] (by decide +kernel) rfl ?_
  refine pm_loc [2, 3, 1, 0] rfl ?_
  exact w_Parser_readSum_8 l h0 D hdR_Parser_readExpr hr_Parser_readExpr N a1 q1.1 0 q1.2.1 q1.2.2 (sh_Tb_s hu2) hl3 h
def F_Parser_readComparison (N : Nat) (r_Parser_readExpr : Int32 → pm_s → pm_J → Option (Int32 × pm_s × pm_J)) (a1 : Int32) (g : pm_s) (u : pm_J) : Option (Int32 × pm_s × pm_J) := pm_S g ((F_Parser_readSum N r_Parser_readExpr a1 g u).bind fun q1 => if sh_Tb q1.2.1 = true then pm_S q1.2.1 ((F_Parser_kind q1.2.1 q1.2.2).bind fun q4 => if q4 = 24 then (F_Parser_here q1.2.1 q1.2.2).bind fun q6 => (F_Parser_readSum N r_Parser_readExpr a1 q1.2.1 (wi q1.2.2 39 11 ((q1.2.2.1 39 11) + 1))).bind fun q7 => if sh_Tb q7.2.1 = true then pm_S q7.2.1 ((F_Tree_add N 12 q6 q1.1 q7.1 (-1) q7.2.1 q7.2.2).bind fun q10 => some (q10.1, q7.2.1, q10.2)) else none else some (q1.1, q1.2.1, q1.2.2)) else none)
set_option maxHeartbeats 4000000 in
set_option maxRecDepth 100000 in
theorem c_Parser_readComparison (l : Launch) (h0 : Nat) (D : pm_D) {g : pm_s} {u : pm_J} (hT : sh_T g) {N : Nat} {r_Parser_readExpr : Int32 → pm_s → pm_J → Option (Int32 × pm_s × pm_J)} {dR_Parser_readExpr : Nat} (hdR_Parser_readExpr : 76 ≤ dR_Parser_readExpr) (hr_Parser_readExpr : ∀ {a1 : Int32} {g : pm_s} {u : pm_J} {out : Int32 × pm_s × pm_J}, sh_T g → r_Parser_readExpr a1 g u = some out → pm_C l h0 D m_Parser_readExpr dR_Parser_readExpr [.ref 39, .int a1] (sm g u) (some (.int out.1)) (sm out.2.1 out.2.2)) {a1 : Int32} {out : Int32 × pm_s × pm_J} (h : F_Parser_readComparison N r_Parser_readExpr a1 g u = some out) : pm_C l h0 D m_Parser_readComparison (dR_Parser_readExpr + 6) [.ref 39, .int a1] (sm g u) (some (.int out.1)) (sm out.2.1 out.2.2) := by
  unfold F_Parser_readComparison at h
  obtain ⟨h, hle⟩ := pm_Ss h
  refine pm_met (by decide +kernel) (Nat.le_of_ble_eq_true rfl) hle.1 hle.2 ?_
  intro p e R s m args below meth c
  refine pm_blk (pc' := 2) (L' := [(0, .ref 39), (1, .int a1)]) (S' := [.int a1, .ref 39]) (M' := sm g u) [pm_o (.aload_n 0), pm_o (.iload_n 1)] (by decide +kernel) rfl ?_
  obtain ⟨q1, hq1, h⟩ := pm_bd h
  obtain ⟨hu2, h⟩ := pm_ifs h
  obtain ⟨h, hl3⟩ := pm_Ss h
  refine pm_cV (idx := 215) m_Parser_readSum (c_Parser_readSum l h0 D hT hdR_Parser_readExpr hr_Parser_readExpr hq1) (As := [.int a1]) (S0 := []) rfl (by decide +kernel) k_Parser_readSum l_Parser_215 (show dR_Parser_readExpr + 5 + 1 ≤ dR_Parser_readExpr + 6 by omega) (Nat.le_of_ble_eq_true rfl) hl3.1 hl3.2 ?_
  refine pm_blk (pc' := 7) (L' := [(2, .int q1.1), (0, .ref 39), (1, .int a1)]) (S' := [.ref 39]) (M' := sm q1.2.1 q1.2.2) [pm_o (.istore_n 2), pm_o (.aload_n 0)] (by decide +kernel) rfl ?_
  obtain ⟨q4, hq4, h⟩ := pm_bd h
  refine pm_cV (idx := 57) m_Parser_kind (c_Parser_kind l h0 D (sh_Tb_s hu2) hq4) (As := []) (S0 := []) rfl (by decide +kernel) k_Parser_kind l_Parser_57 (show 1 + 1 ≤ dR_Parser_readExpr + 6 by omega) (Nat.le_of_ble_eq_true rfl) hl3.1 hl3.2 ?_
  refine pm_blk (pc' := 12) (L' := [(2, .int q1.1), (0, .ref 39), (1, .int a1)]) (S' := [.int 24, .int q4]) (M' := sm q1.2.1 q1.2.2) [pm_oi (.bipush 24) 24] (by decide +kernel) rfl ?_
  refine pm_ic_eq (off := 5) 17 (by decide +kernel) (by decide) (fun hc5 => ?_) (fun hc5 => ?_)
  · rw [if_pos hc5] at h
    refine pm_blk (pc' := 18) (L' := [(2, .int q1.1), (0, .ref 39), (1, .int a1)]) (S' := [.ref 39]) (M' := sm q1.2.1 q1.2.2) [pm_o (.aload_n 0)] (by decide +kernel) rfl ?_
    obtain ⟨q6, hq6, h⟩ := pm_bd h
    refine pm_cV (idx := 66) m_Parser_here (c_Parser_here l h0 D (sh_Tb_s hu2) hq6) (As := []) (S0 := []) rfl (by decide +kernel) k_Parser_here l_Parser_66 (show 1 + 1 ≤ dR_Parser_readExpr + 6 by omega) (Nat.le_of_ble_eq_true rfl) hl3.1 hl3.2 ?_
    refine pm_blk (pc' := 34) (L' := [(3, .int q6), (2, .int q1.1), (0, .ref 39), (1, .int a1)]) (S' := [.int a1, .ref 39]) (M' := sm q1.2.1 (wi q1.2.2 39 11 ((q1.2.2.1 39 11) + 1))) [pm_o (.istore_n 3), pm_o (.aload_n 0), pm_o .dup, pm_of (.getfield 47) 7 11 0, pm_oi (.iconst 1) 1, pm_o .iadd, pm_of (.putfield 47) 7 11 0, pm_o (.aload_n 0), pm_o (.iload_n 1)] (by decide +kernel) rfl ?_
    obtain ⟨q7, hq7, h⟩ := pm_bd h
    obtain ⟨hu8, h⟩ := pm_ifs h
    obtain ⟨h, hl9⟩ := pm_Ss h
    refine pm_cV (idx := 215) m_Parser_readSum (c_Parser_readSum l h0 D (sh_Tb_s hu2) hdR_Parser_readExpr hr_Parser_readExpr hq7) (As := [.int a1]) (S0 := []) rfl (by decide +kernel) k_Parser_readSum l_Parser_215 (show dR_Parser_readExpr + 5 + 1 ≤ dR_Parser_readExpr + 6 by omega) (Nat.le_of_ble_eq_true rfl) hl9.1 hl9.2 ?_
    refine pm_blk (pc' := 50) (L' := [(4, .int q7.1), (3, .int q6), (2, .int q1.1), (0, .ref 39), (1, .int a1)]) (S' := [.int (-1), .int q7.1, .int q1.1, .int q6, .int 12, .ref 18]) (M' := sm q7.2.1 q7.2.2) [pm_o (.istore 4), pm_o (.aload_n 0), pm_of (.getfield 19) 7 2 2, pm_oi (.bipush 12) 12, pm_o (.iload_n 3), pm_o (.iload_n 2), pm_o (.iload 4), pm_oi (.iconst (-1)) (-1)] (by decide +kernel) rfl ?_
    obtain ⟨q10, hq10, h⟩ := pm_bd h
    refine pm_cV (idx := 208) m_Tree_add (c_Tree_add l h0 D (sh_Tb_s hu8) hq10) (As := [.int 12, .int q6, .int q1.1, .int q7.1, .int (-1)]) (S0 := []) rfl (by decide +kernel) k_Tree_add l_Parser_208 (show 2 + 1 ≤ dR_Parser_readExpr + 6 by omega) (Nat.le_of_ble_eq_true rfl) hl9.1 hl9.2 ?_
    refine pm_blk (pc' := 53) (L' := [(4, .int q7.1), (3, .int q6), (2, .int q1.1), (0, .ref 39), (1, .int a1)]) (S' := [.int q10.1]) (M' := sm q7.2.1 q10.2) [] (by decide +kernel) rfl ?_
    have h9 := Option.some.inj h
    subst h9
    exact pm_reti rfl (by decide +kernel) rfl rfl rfl
  · rw [if_neg hc5] at h
    refine pm_blk (pc' := 16) (L' := [(2, .int q1.1), (0, .ref 39), (1, .int a1)]) (S' := [.int q1.1]) (M' := sm q1.2.1 q1.2.2) [pm_o (.iload_n 2)] (by decide +kernel) rfl ?_
    have h9 := Option.some.inj h
    subst h9
    exact pm_reti rfl (by decide +kernel) rfl rfl rfl
