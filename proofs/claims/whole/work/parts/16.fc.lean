def FO_Parser_readExpr (N : Nat) (r_Parser_readExpr : Int32 → pm_s → pm_J → Option (Int32 × pm_s × pm_J)) (a1 : Int32) (g : pm_s) (u : pm_J) : Option (Int32 × pm_s × pm_J) := pm_S g (if a1 ≤ 20 then (F_Parser_kind g u).bind fun q2 => if q2 = 7 then (F_Parser_readLet N r_Parser_readExpr a1 g u).bind fun q4 => if sh_Tb q4.2.1 = true then pm_S q4.2.1 (some (q4.1, q4.2.1, q4.2.2)) else none else if q2 = 9 then (F_Parser_readIf N r_Parser_readExpr a1 g u).bind fun q8 => if sh_Tb q8.2.1 = true then pm_S q8.2.1 (some (q8.1, q8.2.1, q8.2.2)) else none else if q2 = 12 then (F_Parser_readFn N r_Parser_readExpr a1 g u).bind fun q12 => if sh_Tb q12.2.1 = true then pm_S q12.2.1 (some (q12.1, q12.2.1, q12.2.2)) else none else (F_Parser_readComparison N r_Parser_readExpr a1 g u).bind fun q15 => if sh_Tb q15.2.1 = true then pm_S q15.2.1 (some (q15.1, q15.2.1, q15.2.2)) else none else (F_Parser_here g u).bind fun q18 => (F_Fault_tell_3 3 q18 g u).bind fun q19 => some ((-1), g, q19))
set_option maxHeartbeats 4000000 in
set_option maxRecDepth 100000 in
theorem co_Parser_readExpr (l : Launch) (h0 : Nat) (D : pm_D) {g : pm_s} {u : pm_J} (hT : sh_T g) {N : Nat} {r_Parser_readExpr : Int32 → pm_s → pm_J → Option (Int32 × pm_s × pm_J)} {dR_Parser_readExpr : Nat} (hdR_Parser_readExpr : 76 ≤ dR_Parser_readExpr) (hr_Parser_readExpr : ∀ {a1 : Int32} {g : pm_s} {u : pm_J} {out : Int32 × pm_s × pm_J}, sh_T g → r_Parser_readExpr a1 g u = some out → pm_C l h0 D m_Parser_readExpr dR_Parser_readExpr [.ref 39, .int a1] (sm g u) (some (.int out.1)) (sm out.2.1 out.2.2)) {a1 : Int32} {out : Int32 × pm_s × pm_J} (h : FO_Parser_readExpr N r_Parser_readExpr a1 g u = some out) : pm_C l h0 D m_Parser_readExpr (dR_Parser_readExpr + 7) [.ref 39, .int a1] (sm g u) (some (.int out.1)) (sm out.2.1 out.2.2) := by
  unfold FO_Parser_readExpr at h
  obtain ⟨h, hle⟩ := pm_Ss h
  refine pm_met (by decide +kernel) (Nat.le_of_ble_eq_true rfl) hle.1 hle.2 ?_
  intro p e R s m args below meth c
  refine pm_blk (pc' := 3) (L' := [(0, .ref 39), (1, .int a1)]) (S' := [.int 20, .int a1]) (M' := sm g u) [pm_o (.iload_n 1), pm_oi (.bipush 20) 20] (by decide +kernel) rfl ?_
  refine pm_ic_le (off := 17) 20 (by decide +kernel) (by decide) (fun hc1 => ?_) (fun hc1 => ?_)
  · rw [if_pos hc1] at h
    refine pm_blk (pc' := 21) (L' := [(0, .ref 39), (1, .int a1)]) (S' := [.ref 39]) (M' := sm g u) [pm_o (.aload_n 0)] (by decide +kernel) rfl ?_
    obtain ⟨q2, hq2, h⟩ := pm_bd h
    refine pm_cV (idx := 57) m_Parser_kind (c_Parser_kind l h0 D hT hq2) (As := []) (S0 := []) rfl (by decide +kernel) k_Parser_kind l_Parser_57 (show 1 + 1 ≤ dR_Parser_readExpr + 7 by omega) (Nat.le_of_ble_eq_true rfl) hle.1 hle.2 ?_
    refine pm_blk (pc' := 24) (L' := [(0, .ref 39), (1, .int a1)]) (S' := [.int q2]) (M' := sm g u) [] (by decide +kernel) rfl ?_
    refine pm_lsw (dflt := 54) (prs := #[(7, 36), (9, 42), (12, 48)]) (len := 36) [(7, 60), (9, 66), (12, 72)] 78 (by decide +kernel) (by decide +kernel) (by decide +kernel) ?_
    by_cases hs3 : q2 = 7
    · rw [if_pos hs3] at h
      rw [pm_sw_pos hs3]
      refine pm_blk (pc' := 62) (L' := [(0, .ref 39), (1, .int a1)]) (S' := [.int a1, .ref 39]) (M' := sm g u) [pm_o (.aload_n 0), pm_o (.iload_n 1)] (by decide +kernel) rfl ?_
      obtain ⟨q4, hq4, h⟩ := pm_bd h
      obtain ⟨hu5, h⟩ := pm_ifs h
      obtain ⟨h, hl6⟩ := pm_Ss h
      refine pm_cV (idx := 190) m_Parser_readLet (c_Parser_readLet l h0 D hT hdR_Parser_readExpr hr_Parser_readExpr hq4) (As := [.int a1]) (S0 := []) rfl (by decide +kernel) k_Parser_readLet l_Parser_190 (show dR_Parser_readExpr + 1 + 1 ≤ dR_Parser_readExpr + 7 by omega) (Nat.le_of_ble_eq_true rfl) hl6.1 hl6.2 ?_
      refine pm_blk (pc' := 65) (L' := [(0, .ref 39), (1, .int a1)]) (S' := [.int q4.1]) (M' := sm q4.2.1 q4.2.2) [] (by decide +kernel) rfl ?_
      have h9 := Option.some.inj h
      subst h9
      exact pm_reti rfl (by decide +kernel) rfl rfl rfl
    rw [if_neg hs3] at h
    rw [pm_sw_neg hs3]
    by_cases hs7 : q2 = 9
    · rw [if_pos hs7] at h
      rw [pm_sw_pos hs7]
      refine pm_blk (pc' := 68) (L' := [(0, .ref 39), (1, .int a1)]) (S' := [.int a1, .ref 39]) (M' := sm g u) [pm_o (.aload_n 0), pm_o (.iload_n 1)] (by decide +kernel) rfl ?_
      obtain ⟨q8, hq8, h⟩ := pm_bd h
      obtain ⟨hu9, h⟩ := pm_ifs h
      obtain ⟨h, hl10⟩ := pm_Ss h
      refine pm_cV (idx := 193) m_Parser_readIf (c_Parser_readIf l h0 D hT hdR_Parser_readExpr hr_Parser_readExpr hq8) (As := [.int a1]) (S0 := []) rfl (by decide +kernel) k_Parser_readIf l_Parser_193 (show dR_Parser_readExpr + 1 + 1 ≤ dR_Parser_readExpr + 7 by omega) (Nat.le_of_ble_eq_true rfl) hl10.1 hl10.2 ?_
      refine pm_blk (pc' := 71) (L' := [(0, .ref 39), (1, .int a1)]) (S' := [.int q8.1]) (M' := sm q8.2.1 q8.2.2) [] (by decide +kernel) rfl ?_
      have h9 := Option.some.inj h
      subst h9
      exact pm_reti rfl (by decide +kernel) rfl rfl rfl
    rw [if_neg hs7] at h
    rw [pm_sw_neg hs7]
    by_cases hs11 : q2 = 12
    · rw [if_pos hs11] at h
      rw [pm_sw_pos hs11]
      refine pm_blk (pc' := 74) (L' := [(0, .ref 39), (1, .int a1)]) (S' := [.int a1, .ref 39]) (M' := sm g u) [pm_o (.aload_n 0), pm_o (.iload_n 1)] (by decide +kernel) rfl ?_
      obtain ⟨q12, hq12, h⟩ := pm_bd h
      obtain ⟨hu13, h⟩ := pm_ifs h
      obtain ⟨h, hl14⟩ := pm_Ss h
      refine pm_cV (idx := 196) m_Parser_readFn (c_Parser_readFn l h0 D hT hdR_Parser_readExpr hr_Parser_readExpr hq12) (As := [.int a1]) (S0 := []) rfl (by decide +kernel) k_Parser_readFn l_Parser_196 (show dR_Parser_readExpr + 1 + 1 ≤ dR_Parser_readExpr + 7 by omega) (Nat.le_of_ble_eq_true rfl) hl14.1 hl14.2 ?_
      refine pm_blk (pc' := 77) (L' := [(0, .ref 39), (1, .int a1)]) (S' := [.int q12.1]) (M' := sm q12.2.1 q12.2.2) [] (by decide +kernel) rfl ?_
      have h9 := Option.some.inj h
      subst h9
      exact pm_reti rfl (by decide +kernel) rfl rfl rfl
    rw [if_neg hs11] at h
    rw [pm_sw_neg hs11]
    refine pm_pc (pc' := 78) rfl ?_
    refine pm_blk (pc' := 80) (L' := [(0, .ref 39), (1, .int a1)]) (S' := [.int a1, .ref 39]) (M' := sm g u) [pm_o (.aload_n 0), pm_o (.iload_n 1)] (by decide +kernel) rfl ?_
    obtain ⟨q15, hq15, h⟩ := pm_bd h
    obtain ⟨hu16, h⟩ := pm_ifs h
    obtain ⟨h, hl17⟩ := pm_Ss h
    refine pm_cV (idx := 199) m_Parser_readComparison (c_Parser_readComparison l h0 D hT hdR_Parser_readExpr hr_Parser_readExpr hq15) (As := [.int a1]) (S0 := []) rfl (by decide +kernel) k_Parser_readComparison l_Parser_199 (show dR_Parser_readExpr + 6 + 1 ≤ dR_Parser_readExpr + 7 by omega) (Nat.le_of_ble_eq_true rfl) hl17.1 hl17.2 ?_
    refine pm_blk (pc' := 83) (L' := [(0, .ref 39), (1, .int a1)]) (S' := [.int q15.1]) (M' := sm q15.2.1 q15.2.2) [] (by decide +kernel) rfl ?_
    have h9 := Option.some.inj h
    subst h9
    exact pm_reti rfl (by decide +kernel) rfl rfl rfl
  · rw [if_neg hc1] at h
    refine pm_blk (pc' := 12) (L' := [(0, .ref 39), (1, .int a1)]) (S' := [.ref 39, .int 3, .ref 3]) (M' := sm g u) [pm_o (.aload_n 0), pm_of (.getfield 27) 7 4 2, pm_oi (.iconst 3) 3, pm_o (.aload_n 0)] (by decide +kernel) rfl ?_
    obtain ⟨q18, hq18, h⟩ := pm_bd h
    refine pm_cV (idx := 66) m_Parser_here (c_Parser_here l h0 D hT hq18) (As := []) (S0 := [.int 3, .ref 3]) rfl (by decide +kernel) k_Parser_here l_Parser_66 (show 1 + 1 ≤ dR_Parser_readExpr + 7 by omega) (Nat.le_of_ble_eq_true rfl) hle.1 hle.2 ?_
    refine pm_blk (pc' := 15) (L' := [(0, .ref 39), (1, .int a1)]) (S' := [.int q18, .int 3, .ref 3]) (M' := sm g u) [] (by decide +kernel) rfl ?_
    obtain ⟨q19, hq19, h⟩ := pm_bd h
    refine pm_cV (idx := 69) m_Fault_tell (c_Fault_tell_3 l h0 D hT hq19) (As := [.int 3, .int q18]) (S0 := []) rfl (by decide +kernel) k_Fault_tell l_Parser_69 (show 0 + 1 ≤ dR_Parser_readExpr + 7 by omega) (Nat.le_of_ble_eq_true rfl) hle.1 hle.2 ?_
    refine pm_blk (pc' := 19) (L' := [(0, .ref 39), (1, .int a1)]) (S' := [.int (-1)]) (M' := sm g q19) [pm_oi (.iconst (-1)) (-1)] (by decide +kernel) rfl ?_
    have h9 := Option.some.inj h
    subst h9
    exact pm_reti rfl (by decide +kernel) rfl rfl rfl
def F_Parser_readExpr (N : Nat) : Nat → Int32 → pm_s → pm_J → Option (Int32 × pm_s × pm_J)
  | 0, _, _, _ => none
  | k + 1, a1, g, u => FO_Parser_readExpr N (F_Parser_readExpr N k) a1 g u
theorem c_Parser_readExpr_k (l : Launch) (h0 : Nat) (D : pm_D) {N : Nat} (k : Nat) : ∀ {a1 : Int32} {g : pm_s} {u : pm_J} {out : Int32 × pm_s × pm_J}, sh_T g → F_Parser_readExpr N k a1 g u = some out → pm_C l h0 D m_Parser_readExpr (76 + 7 * k) [.ref 39, .int a1] (sm g u) (some (.int out.1)) (sm out.2.1 out.2.2) := by
  induction k with
  | zero => intro a1 g u out hT h; cases h
  | succ k ih =>
    intro a1 g u out hT h
    have h9 := co_Parser_readExpr l h0 D hT (dR_Parser_readExpr := 76 + 7 * k) (show 76 ≤ 76 + 7 * k by omega) ih h
    rw [show 76 + 7 * k + 7 = 76 + 7 * (k + 1) by omega] at h9
    exact h9
theorem c_Parser_readExpr (l : Launch) (h0 : Nat) (D : pm_D) {g : pm_s} {u : pm_J} (hT : sh_T g) {N : Nat} {a1 : Int32} {out : Int32 × pm_s × pm_J} (h : F_Parser_readExpr N 24 a1 g u = some out) : pm_C l h0 D m_Parser_readExpr (76 + 7 * 24) [.ref 39, .int a1] (sm g u) (some (.int out.1)) (sm out.2.1 out.2.2) := c_Parser_readExpr_k l h0 D 24 hT h
def K_Parser_readParameter_84 (N : Nat) (x1 : Int32) (x2 : Int32) (g : pm_s) (u : pm_J) : Option (Unit × pm_s × pm_J) := (F_Tokens_value x1 g u).bind fun q8 => (F_Parser_bind q8 x2 g u).bind fun q9 => (F_Table_count (q9.1 39 12) 0 1 g q9).bind fun q10 => (F_Parser_expect 17 g q10).bind fun q11 => (F_Parser_readType N 24 1 1 g q11).bind fun q12 => if sh_Tb q12.2.1 = true then pm_S q12.2.1 ((F_Table_setLocalType (q11.1 39 12) x2 q12.1 q12.2.1 q12.2.2).bind fun q15 => (F_Parser_expect 16 q12.2.1 q15).bind fun q16 => some ((), q12.2.1, q16)) else none
set_option maxHeartbeats 4000000 in
set_option maxRecDepth 100000 in
theorem w_Parser_readParameter_84 (l : Launch) (h0 : Nat) (D : pm_D) {N : Nat} {g0 : pm_s} {u0 : pm_J} {out : Unit × pm_s × pm_J} {p : Program} {e : Env} {R : Room} {s : State} {m : MethodId} {args : Array Value} {below : List Frame} {meth : Method} {c : Code} : ∀ (x1 : Int32) (x2 : Int32) (g : pm_s) (u : pm_J) (hT : sh_T g) (hle : g.1 ≤ out.2.1.1 ∧ g.2.1 ≤ out.2.1.2.1), K_Parser_readParameter_84 N x1 x2 g u = some out → pm_V (p, l, e, R, s, m, args, below, meth, c) m_Parser_readParameter h0 D (g0.1, g0.2.1, out.2.1.1, out.2.1.2.1, 76) (pm_E (p, l, e, R, s, m, args, below, meth, c) h0 D (sm g0 u0) none (sm out.2.1 out.2.2)) 84 [(0, .ref 39), (1, .int x1), (2, .int x2)] [] (sm g u) := by
    intro x1 x2 g u hT hle h
    unfold K_Parser_readParameter_84 at h
    refine pm_blk (pc' := 90) (L' := [(0, .ref 39), (1, .int x1), (2, .int x2)]) (S' := [.int x1, .ref 5, .ref 39]) (M' := sm g u) [pm_o (.aload_n 0), pm_o (.aload_n 0), pm_of (.getfield 9) 7 0 2, pm_o (.iload_n 1)] (by decide +kernel) rfl ?_
    obtain ⟨q8, hq8, h⟩ := pm_bd h
    refine pm_cV (idx := 81) m_Tokens_value (c_Tokens_value l h0 D hT hq8) (As := [.int x1]) (S0 := [.ref 39]) rfl (by decide +kernel) k_Tokens_value l_Parser_81 (Nat.le_of_ble_eq_true rfl) (Nat.le_of_ble_eq_true rfl) hle.1 hle.2 ?_
    refine pm_blk (pc' := 94) (L' := [(0, .ref 39), (1, .int x1), (2, .int x2)]) (S' := [.int x2, .long q8, .ref 39]) (M' := sm g u) [pm_o (.iload_n 2)] (by decide +kernel) rfl ?_
    obtain ⟨q9, hq9, h⟩ := pm_bd h
    refine pm_cV (idx := 143) m_Parser_bind (c_Parser_bind l h0 D hT hq9) (As := [.long q8, .int x2]) (S0 := []) rfl (by decide +kernel) k_Parser_bind l_Parser_143 (Nat.le_of_ble_eq_true rfl) (Nat.le_of_ble_eq_true rfl) hle.1 hle.2 ?_
    refine pm_blk (pc' := 107) (L' := [(0, .ref 39), (1, .int x1), (2, .int x2)]) (S' := [.int 1, .int 0, .int (q9.1 39 12), .ref 29]) (M' := sm g q9) [pm_o (.aload_n 0), pm_of (.getfield 23) 7 3 2, pm_o (.aload_n 0), pm_of (.getfield 97) 7 12 0, pm_oi (.iconst 0) 0, pm_oi (.iconst 1) 1] (by decide +kernel) rfl ?_
    obtain ⟨q10, hq10, h⟩ := pm_bd h
    refine pm_cV (idx := 114) m_Table_count (c_Table_count l h0 D hT hq10) (As := [.int (q9.1 39 12), .int 0, .int 1]) (S0 := []) rfl (by decide +kernel) k_Table_count l_Parser_114 (Nat.le_of_ble_eq_true rfl) (Nat.le_of_ble_eq_true rfl) hle.1 hle.2 ?_
    refine pm_blk (pc' := 113) (L' := [(0, .ref 39), (1, .int x1), (2, .int x2)]) (S' := [.int 17, .ref 39]) (M' := sm g q10) [pm_o (.aload_n 0), pm_oi (.bipush 17) 17] (by decide +kernel) rfl ?_
    obtain ⟨q11, hq11, h⟩ := pm_bd h
    refine pm_cV (idx := 73) m_Parser_expect (c_Parser_expect l h0 D hT hq11) (As := [.int 17]) (S0 := []) rfl (by decide +kernel) k_Parser_expect l_Parser_73 (Nat.le_of_ble_eq_true rfl) (Nat.le_of_ble_eq_true rfl) hle.1 hle.2 ?_
    refine pm_blk (pc' := 128) (L' := [(0, .ref 39), (1, .int x1), (2, .int x2)]) (S' := [.int 1, .int 1, .ref 39, .int x2, .int (q11.1 39 12), .ref 29]) (M' := sm g q11) [pm_o (.aload_n 0), pm_of (.getfield 23) 7 3 2, pm_o (.aload_n 0), pm_of (.getfield 97) 7 12 0, pm_o (.iload_n 2), pm_o (.aload_n 0), pm_oi (.iconst 1) 1, pm_oi (.iconst 1) 1] (by decide +kernel) rfl ?_
    obtain ⟨q12, hq12, h⟩ := pm_bd h
    obtain ⟨hu13, h⟩ := pm_ifs h
    obtain ⟨h, hl14⟩ := pm_Ss h
    refine pm_cV (idx := 118) m_Parser_readType (c_Parser_readType l h0 D hT hq12) (As := [.int 1, .int 1]) (S0 := [.int x2, .int (q11.1 39 12), .ref 29]) rfl (by decide +kernel) k_Parser_readType l_Parser_118 (Nat.le_of_ble_eq_true rfl) (Nat.le_of_ble_eq_true rfl) hl14.1 hl14.2 ?_
    refine pm_blk (pc' := 131) (L' := [(0, .ref 39), (1, .int x1), (2, .int x2)]) (S' := [.int q12.1, .int x2, .int (q11.1 39 12), .ref 29]) (M' := sm q12.2.1 q12.2.2) [] (by decide +kernel) rfl ?_
    obtain ⟨q15, hq15, h⟩ := pm_bd h
    refine pm_cV (idx := 147) m_Table_setLocalType (c_Table_setLocalType l h0 D (sh_Tb_s hu13) hq15) (As := [.int (q11.1 39 12), .int x2, .int q12.1]) (S0 := []) rfl (by decide +kernel) k_Table_setLocalType l_Parser_147 (Nat.le_of_ble_eq_true rfl) (Nat.le_of_ble_eq_true rfl) hl14.1 hl14.2 ?_
    refine pm_blk (pc' := 137) (L' := [(0, .ref 39), (1, .int x1), (2, .int x2)]) (S' := [.int 16, .ref 39]) (M' := sm q12.2.1 q15) [pm_o (.aload_n 0), pm_oi (.bipush 16) 16] (by decide +kernel) rfl ?_
    obtain ⟨q16, hq16, h⟩ := pm_bd h
    refine pm_cV (idx := 73) m_Parser_expect (c_Parser_expect l h0 D (sh_Tb_s hu13) hq16) (As := [.int 16]) (S0 := []) rfl (by decide +kernel) k_Parser_expect l_Parser_73 (Nat.le_of_ble_eq_true rfl) (Nat.le_of_ble_eq_true rfl) hl14.1 hl14.2 ?_
    refine pm_blk (pc' := 140) (L' := [(0, .ref 39), (1, .int x1), (2, .int x2)]) (S' := []) (M' := sm q12.2.1 q16) [] (by decide +kernel) rfl ?_
    have h9 := Option.some.inj h
    subst h9
    exact pm_retv rfl (by decide +kernel) rfl rfl
def K_Parser_readParameter_42 (N : Nat) (g : pm_s) (u : pm_J) : Option (Unit × pm_s × pm_J) := (F_Parser_readLocal N g u).bind fun q4 => (F_Tokens_value (u.1 39 11) g q4.2).bind fun q5 => (F_Parser_findLocal N q5 g q4.2).bind fun q6 => if q6 = (-1) then K_Parser_readParameter_84 N (u.1 39 11) q4.1 g q4.2 else (F_Tokens_placeOf (u.1 39 11) g q4.2).bind fun q17 => (F_Fault_tell_4 5 q17 g q4.2).bind fun q18 => K_Parser_readParameter_84 N (u.1 39 11) q4.1 g q18
set_option maxHeartbeats 4000000 in
set_option maxRecDepth 100000 in
theorem w_Parser_readParameter_42 (l : Launch) (h0 : Nat) (D : pm_D) {N : Nat} {g0 : pm_s} {u0 : pm_J} {out : Unit × pm_s × pm_J} {p : Program} {e : Env} {R : Room} {s : State} {m : MethodId} {args : Array Value} {below : List Frame} {meth : Method} {c : Code} : ∀  (g : pm_s) (u : pm_J) (hT : sh_T g) (hle : g.1 ≤ out.2.1.1 ∧ g.2.1 ≤ out.2.1.2.1), K_Parser_readParameter_42 N g u = some out → pm_V (p, l, e, R, s, m, args, below, meth, c) m_Parser_readParameter h0 D (g0.1, g0.2.1, out.2.1.1, out.2.1.2.1, 76) (pm_E (p, l, e, R, s, m, args, below, meth, c) h0 D (sm g0 u0) none (sm out.2.1 out.2.2)) 42 [(0, .ref 39)] [] (sm g u) := by
    intro g u hT hle h
    unfold K_Parser_readParameter_42 at h
    refine pm_blk (pc' := 48) (L' := [(1, .int (u.1 39 11)), (0, .ref 39)]) (S' := [.ref 39]) (M' := sm g u) [pm_o (.aload_n 0), pm_of (.getfield 47) 7 11 0, pm_o (.istore_n 1), pm_o (.aload_n 0)] (by decide +kernel) rfl ?_
    obtain ⟨q4, hq4, h⟩ := pm_bd h
    refine pm_cV (idx := 137) m_Parser_readLocal (c_Parser_readLocal l h0 D hT hq4) (As := []) (S0 := []) rfl (by decide +kernel) k_Parser_readLocal l_Parser_137 (Nat.le_of_ble_eq_true rfl) (Nat.le_of_ble_eq_true rfl) hle.1 hle.2 ?_
    refine pm_blk (pc' := 58) (L' := [(2, .int q4.1), (1, .int (u.1 39 11)), (0, .ref 39)]) (S' := [.int (u.1 39 11), .ref 5, .ref 39]) (M' := sm g q4.2) [pm_o (.istore_n 2), pm_o (.aload_n 0), pm_o (.aload_n 0), pm_of (.getfield 9) 7 0 2, pm_o (.iload_n 1)] (by decide +kernel) rfl ?_
    obtain ⟨q5, hq5, h⟩ := pm_bd h
    refine pm_cV (idx := 81) m_Tokens_value (c_Tokens_value l h0 D hT hq5) (As := [.int (u.1 39 11)]) (S0 := [.ref 39]) rfl (by decide +kernel) k_Tokens_value l_Parser_81 (Nat.le_of_ble_eq_true rfl) (Nat.le_of_ble_eq_true rfl) hle.1 hle.2 ?_
    refine pm_blk (pc' := 61) (L' := [(2, .int q4.1), (1, .int (u.1 39 11)), (0, .ref 39)]) (S' := [.long q5, .ref 39]) (M' := sm g q4.2) [] (by decide +kernel) rfl ?_
    obtain ⟨q6, hq6, h⟩ := pm_bd h
    refine pm_cV (idx := 140) m_Parser_findLocal (c_Parser_findLocal l h0 D hT hq6) (As := [.long q5]) (S0 := []) rfl (by decide +kernel) k_Parser_findLocal l_Parser_140 (Nat.le_of_ble_eq_true rfl) (Nat.le_of_ble_eq_true rfl) hle.1 hle.2 ?_
    refine pm_blk (pc' := 65) (L' := [(2, .int q4.1), (1, .int (u.1 39 11)), (0, .ref 39)]) (S' := [.int (-1), .int q6]) (M' := sm g q4.2) [pm_oi (.iconst (-1)) (-1)] (by decide +kernel) rfl ?_
    refine pm_ic_eq (off := 19) 84 (by decide +kernel) (by decide) (fun hc7 => ?_) (fun hc7 => ?_)
    · rw [if_pos hc7] at h
      refine pm_loc [2, 1, 0] rfl ?_
      exact w_Parser_readParameter_84 l h0 D (u.1 39 11) q4.1 g q4.2 hT hle h
    · rw [if_neg hc7] at h
      refine pm_blk (pc' := 78) (L' := [(2, .int q4.1), (1, .int (u.1 39 11)), (0, .ref 39)]) (S' := [.int (u.1 39 11), .ref 5, .int 5, .ref 4]) (M' := sm g q4.2) [pm_o (.aload_n 0), pm_of (.getfield 31) 7 5 2, pm_oi (.iconst 5) 5, pm_o (.aload_n 0), pm_of (.getfield 9) 7 0 2, pm_o (.iload_n 1)] (by decide +kernel) rfl ?_
      obtain ⟨q17, hq17, h⟩ := pm_bd h
      refine pm_cV (idx := 89) m_Tokens_placeOf (c_Tokens_placeOf l h0 D hT hq17) (As := [.int (u.1 39 11)]) (S0 := [.int 5, .ref 4]) rfl (by decide +kernel) k_Tokens_placeOf l_Parser_89 (Nat.le_of_ble_eq_true rfl) (Nat.le_of_ble_eq_true rfl) hle.1 hle.2 ?_
      refine pm_blk (pc' := 81) (L' := [(2, .int q4.1), (1, .int (u.1 39 11)), (0, .ref 39)]) (S' := [.int q17, .int 5, .ref 4]) (M' := sm g q4.2) [] (by decide +kernel) rfl ?_
      obtain ⟨q18, hq18, h⟩ := pm_bd h
      refine pm_cV (idx := 69) m_Fault_tell (c_Fault_tell_4 l h0 D hT hq18) (As := [.int 5, .int q17]) (S0 := []) rfl (by decide +kernel) k_Fault_tell l_Parser_69 (Nat.le_of_ble_eq_true rfl) (Nat.le_of_ble_eq_true rfl) hle.1 hle.2 ?_
      refine pm_blk (pc' := 84) (L' := [(2, .int q4.1), (1, .int (u.1 39 11)), (0, .ref 39)]) (S' := []) (M' := sm g q18) [] (by decide +kernel) rfl ?_
      refine pm_loc [2, 1, 0] rfl ?_
      exact w_Parser_readParameter_84 l h0 D (u.1 39 11) q4.1 g q18 hT hle h
def F_Parser_readParameter (N : Nat) (g : pm_s) (u : pm_J) : Option (Unit × pm_s × pm_J) := pm_S g ((F_Parser_expect 15 g u).bind fun q1 => (F_Parser_kind g q1).bind fun q2 => if q2 = 1 then (F_Table_parameters (q1.1 39 12) g q1).bind fun q19 => if q19 < 6 then K_Parser_readParameter_42 N  g q1 else (F_Parser_here g q1).bind fun q21 => (F_Fault_tell_3 4 q21 g q1).bind fun q22 => K_Parser_readParameter_42 N  g q22 else K_Parser_readParameter_42 N  g q1)
set_option maxHeartbeats 4000000 in
set_option maxRecDepth 100000 in
theorem c_Parser_readParameter (l : Launch) (h0 : Nat) (D : pm_D) {g : pm_s} {u : pm_J} (hT : sh_T g) {N : Nat} {out : Unit × pm_s × pm_J} (h : F_Parser_readParameter N g u = some out) : pm_C l h0 D m_Parser_readParameter (76) [.ref 39] (sm g u) none (sm out.2.1 out.2.2) := by
  unfold F_Parser_readParameter at h
  obtain ⟨h, hle⟩ := pm_Ss h
  refine pm_met (by decide +kernel) (Nat.le_of_ble_eq_true rfl) hle.1 hle.2 ?_
  intro p e R s m args below meth c
  refine pm_blk (pc' := 3) (L' := [(0, .ref 39)]) (S' := [.int 15, .ref 39]) (M' := sm g u) [pm_o (.aload_n 0), pm_oi (.bipush 15) 15] (by decide +kernel) rfl ?_
  obtain ⟨q1, hq1, h⟩ := pm_bd h
  refine pm_cV (idx := 73) m_Parser_expect (c_Parser_expect l h0 D hT hq1) (As := [.int 15]) (S0 := []) rfl (by decide +kernel) k_Parser_expect l_Parser_73 (Nat.le_of_ble_eq_true rfl) (Nat.le_of_ble_eq_true rfl) hle.1 hle.2 ?_
  refine pm_blk (pc' := 7) (L' := [(0, .ref 39)]) (S' := [.ref 39]) (M' := sm g q1) [pm_o (.aload_n 0)] (by decide +kernel) rfl ?_
  obtain ⟨q2, hq2, h⟩ := pm_bd h
  refine pm_cV (idx := 57) m_Parser_kind (c_Parser_kind l h0 D hT hq2) (As := []) (S0 := []) rfl (by decide +kernel) k_Parser_kind l_Parser_57 (Nat.le_of_ble_eq_true rfl) (Nat.le_of_ble_eq_true rfl) hle.1 hle.2 ?_
  refine pm_blk (pc' := 11) (L' := [(0, .ref 39)]) (S' := [.int 1, .int q2]) (M' := sm g q1) [pm_oi (.iconst 1) 1] (by decide +kernel) rfl ?_
  refine pm_ic_ne (off := 31) 42 (by decide +kernel) (by decide) (fun hc3 => ?_) (fun hc3 => ?_)
  · rw [if_neg hc3] at h
    refine pm_loc [0] rfl ?_
    exact w_Parser_readParameter_42 l h0 D  g q1 hT hle h
  · rw [if_pos hc3] at h
    refine pm_blk (pc' := 22) (L' := [(0, .ref 39)]) (S' := [.int (q1.1 39 12), .ref 29]) (M' := sm g q1) [pm_o (.aload_n 0), pm_of (.getfield 23) 7 3 2, pm_o (.aload_n 0), pm_of (.getfield 97) 7 12 0] (by decide +kernel) rfl ?_
    obtain ⟨q19, hq19, h⟩ := pm_bd h
    refine pm_cV (idx := 134) m_Table_parameters (c_Table_parameters l h0 D hT hq19) (As := [.int (q1.1 39 12)]) (S0 := []) rfl (by decide +kernel) k_Table_parameters l_Parser_134 (Nat.le_of_ble_eq_true rfl) (Nat.le_of_ble_eq_true rfl) hle.1 hle.2 ?_
    refine pm_blk (pc' := 27) (L' := [(0, .ref 39)]) (S' := [.int 6, .int q19]) (M' := sm g q1) [pm_oi (.bipush 6) 6] (by decide +kernel) rfl ?_
    refine pm_ic_lt (off := 15) 42 (by decide +kernel) (by decide) (fun hc20 => ?_) (fun hc20 => ?_)
    · rw [if_pos hc20] at h
      refine pm_loc [0] rfl ?_
      exact w_Parser_readParameter_42 l h0 D  g q1 hT hle h
    · rw [if_neg hc20] at h
      refine pm_blk (pc' := 36) (L' := [(0, .ref 39)]) (S' := [.ref 39, .int 4, .ref 3]) (M' := sm g q1) [pm_o (.aload_n 0), pm_of (.getfield 27) 7 4 2, pm_oi (.iconst 4) 4, pm_o (.aload_n 0)] (by decide +kernel) rfl ?_
      obtain ⟨q21, hq21, h⟩ := pm_bd h
      refine pm_cV (idx := 66) m_Parser_here (c_Parser_here l h0 D hT hq21) (As := []) (S0 := [.int 4, .ref 3]) rfl (by decide +kernel) k_Parser_here l_Parser_66 (Nat.le_of_ble_eq_true rfl) (Nat.le_of_ble_eq_true rfl) hle.1 hle.2 ?_
      refine pm_blk (pc' := 39) (L' := [(0, .ref 39)]) (S' := [.int q21, .int 4, .ref 3]) (M' := sm g q1) [] (by decide +kernel) rfl ?_
      obtain ⟨q22, hq22, h⟩ := pm_bd h
      refine pm_cV (idx := 69) m_Fault_tell (c_Fault_tell_3 l h0 D hT hq22) (As := [.int 4, .int q21]) (S0 := []) rfl (by decide +kernel) k_Fault_tell l_Parser_69 (Nat.le_of_ble_eq_true rfl) (Nat.le_of_ble_eq_true rfl) hle.1 hle.2 ?_
      refine pm_blk (pc' := 42) (L' := [(0, .ref 39)]) (S' := []) (M' := sm g q22) [] (by decide +kernel) rfl ?_
      refine pm_loc [0] rfl ?_
      exact w_Parser_readParameter_42 l h0 D  g q22 hT hle h
def K_Parser_readDef_157 (N : Nat) (g : pm_s) (u : pm_J) : Option (Unit × pm_s × pm_J) := (F_Integer_bitCount (u.1 39 13) g u).bind fun q14 => (F_Table_count (u.1 39 12) 1 q14 g u).bind fun q15 => (F_Parser_expect 17 g q15).bind fun q16 => (F_Parser_readType N 24 1 0 g q16).bind fun q17 => if sh_Tb q17.2.1 = true then pm_S q17.2.1 ((F_Table_setType (q16.1 39 12) q17.1 q17.2.1 q17.2.2).bind fun q20 => (F_Parser_expect 18 q17.2.1 q20).bind fun q21 => (F_Parser_readExpr N 24 1 q17.2.1 q21).bind fun q22 => if sh_Tb q22.2.1 = true then pm_S q22.2.1 ((F_Parser_expect 19 q22.2.1 q22.2.2).bind fun q25 => (F_Tree_size q22.2.1 q25).bind fun q26 => (F_Table_setRoot (q25.1 39 12) q22.1 q26 q22.2.1 q25).bind fun q27 => some ((), q22.2.1, q27)) else none) else none
set_option maxHeartbeats 4000000 in
set_option maxRecDepth 100000 in
theorem w_Parser_readDef_157 (l : Launch) (h0 : Nat) (D : pm_D) {N : Nat} {g0 : pm_s} {u0 : pm_J} {out : Unit × pm_s × pm_J} {p : Program} {e : Env} {R : Room} {s : State} {m : MethodId} {args : Array Value} {below : List Frame} {meth : Method} {c : Code} : ∀  (g : pm_s) (u : pm_J) (hT : sh_T g) (hle : g.1 ≤ out.2.1.1 ∧ g.2.1 ≤ out.2.1.2.1), K_Parser_readDef_157 N g u = some out → pm_V (p, l, e, R, s, m, args, below, meth, c) m_Parser_readDef h0 D (g0.1, g0.2.1, out.2.1.1, out.2.1.2.1, 245) (pm_E (p, l, e, R, s, m, args, below, meth, c) h0 D (sm g0 u0) none (sm out.2.1 out.2.2)) 157 [(0, .ref 39)] [] (sm g u) := by
    intro g u hT hle h
    unfold K_Parser_readDef_157 at h
    refine pm_blk (pc' := 170) (L' := [(0, .ref 39)]) (S' := [.int (u.1 39 13), .int 1, .int (u.1 39 12), .ref 29]) (M' := sm g u) [pm_o (.aload_n 0), pm_of (.getfield 23) 7 3 2, pm_o (.aload_n 0), pm_of (.getfield 97) 7 12 0, pm_oi (.iconst 1) 1, pm_o (.aload_n 0), pm_of (.getfield 103) 7 13 0] (by decide +kernel) rfl ?_
    obtain ⟨q14, hq14, h⟩ := pm_bd h
    refine pm_cS (idx := 109) m_Integer_bitCount (c_Integer_bitCount l h0 D hT hq14) (As := [.int (u.1 39 13)]) (S0 := [.int 1, .int (u.1 39 12), .ref 29]) rfl (by decide +kernel) k_Integer_bitCount l_Parser_109 (Nat.le_of_ble_eq_true rfl) (Nat.le_of_ble_eq_true rfl) hle.1 hle.2 ?_
    refine pm_blk (pc' := 173) (L' := [(0, .ref 39)]) (S' := [.int q14, .int 1, .int (u.1 39 12), .ref 29]) (M' := sm g u) [] (by decide +kernel) rfl ?_
    obtain ⟨q15, hq15, h⟩ := pm_bd h
    refine pm_cV (idx := 114) m_Table_count (c_Table_count l h0 D hT hq15) (As := [.int (u.1 39 12), .int 1, .int q14]) (S0 := []) rfl (by decide +kernel) k_Table_count l_Parser_114 (Nat.le_of_ble_eq_true rfl) (Nat.le_of_ble_eq_true rfl) hle.1 hle.2 ?_
    refine pm_blk (pc' := 179) (L' := [(0, .ref 39)]) (S' := [.int 17, .ref 39]) (M' := sm g q15) [pm_o (.aload_n 0), pm_oi (.bipush 17) 17] (by decide +kernel) rfl ?_
    obtain ⟨q16, hq16, h⟩ := pm_bd h
    refine pm_cV (idx := 73) m_Parser_expect (c_Parser_expect l h0 D hT hq16) (As := [.int 17]) (S0 := []) rfl (by decide +kernel) k_Parser_expect l_Parser_73 (Nat.le_of_ble_eq_true rfl) (Nat.le_of_ble_eq_true rfl) hle.1 hle.2 ?_
    refine pm_blk (pc' := 193) (L' := [(0, .ref 39)]) (S' := [.int 0, .int 1, .ref 39, .int (q16.1 39 12), .ref 29]) (M' := sm g q16) [pm_o (.aload_n 0), pm_of (.getfield 23) 7 3 2, pm_o (.aload_n 0), pm_of (.getfield 97) 7 12 0, pm_o (.aload_n 0), pm_oi (.iconst 1) 1, pm_oi (.iconst 0) 0] (by decide +kernel) rfl ?_
    obtain ⟨q17, hq17, h⟩ := pm_bd h
    obtain ⟨hu18, h⟩ := pm_ifs h
    obtain ⟨h, hl19⟩ := pm_Ss h
    refine pm_cV (idx := 118) m_Parser_readType (c_Parser_readType l h0 D hT hq17) (As := [.int 1, .int 0]) (S0 := [.int (q16.1 39 12), .ref 29]) rfl (by decide +kernel) k_Parser_readType l_Parser_118 (Nat.le_of_ble_eq_true rfl) (Nat.le_of_ble_eq_true rfl) hl19.1 hl19.2 ?_
    refine pm_blk (pc' := 196) (L' := [(0, .ref 39)]) (S' := [.int q17.1, .int (q16.1 39 12), .ref 29]) (M' := sm q17.2.1 q17.2.2) [] (by decide +kernel) rfl ?_
    obtain ⟨q20, hq20, h⟩ := pm_bd h
    refine pm_cV (idx := 122) m_Table_setType (c_Table_setType l h0 D (sh_Tb_s hu18) hq20) (As := [.int (q16.1 39 12), .int q17.1]) (S0 := []) rfl (by decide +kernel) k_Table_setType l_Parser_122 (Nat.le_of_ble_eq_true rfl) (Nat.le_of_ble_eq_true rfl) hl19.1 hl19.2 ?_
    refine pm_blk (pc' := 202) (L' := [(0, .ref 39)]) (S' := [.int 18, .ref 39]) (M' := sm q17.2.1 q20) [pm_o (.aload_n 0), pm_oi (.bipush 18) 18] (by decide +kernel) rfl ?_
    obtain ⟨q21, hq21, h⟩ := pm_bd h
    refine pm_cV (idx := 73) m_Parser_expect (c_Parser_expect l h0 D (sh_Tb_s hu18) hq21) (As := [.int 18]) (S0 := []) rfl (by decide +kernel) k_Parser_expect l_Parser_73 (Nat.le_of_ble_eq_true rfl) (Nat.le_of_ble_eq_true rfl) hl19.1 hl19.2 ?_
    refine pm_blk (pc' := 207) (L' := [(0, .ref 39)]) (S' := [.int 1, .ref 39]) (M' := sm q17.2.1 q21) [pm_o (.aload_n 0), pm_oi (.iconst 1) 1] (by decide +kernel) rfl ?_
    obtain ⟨q22, hq22, h⟩ := pm_bd h
    obtain ⟨hu23, h⟩ := pm_ifs h
    obtain ⟨h, hl24⟩ := pm_Ss h
    refine pm_cV (idx := 125) m_Parser_readExpr (c_Parser_readExpr l h0 D (sh_Tb_s hu18) hq22) (As := [.int 1]) (S0 := []) rfl (by decide +kernel) k_Parser_readExpr l_Parser_125 (Nat.le_of_ble_eq_true rfl) (Nat.le_of_ble_eq_true rfl) hl24.1 hl24.2 ?_
    refine pm_blk (pc' := 214) (L' := [(2, .int q22.1), (0, .ref 39)]) (S' := [.int 19, .ref 39]) (M' := sm q22.2.1 q22.2.2) [pm_o (.istore_n 2), pm_o (.aload_n 0), pm_oi (.bipush 19) 19] (by decide +kernel) rfl ?_
    obtain ⟨q25, hq25, h⟩ := pm_bd h
    refine pm_cV (idx := 73) m_Parser_expect (c_Parser_expect l h0 D (sh_Tb_s hu23) hq25) (As := [.int 19]) (S0 := []) rfl (by decide +kernel) k_Parser_expect l_Parser_73 (Nat.le_of_ble_eq_true rfl) (Nat.le_of_ble_eq_true rfl) hl24.1 hl24.2 ?_
    refine pm_blk (pc' := 230) (L' := [(2, .int q22.1), (0, .ref 39)]) (S' := [.ref 18, .int q22.1, .int (q25.1 39 12), .ref 29]) (M' := sm q22.2.1 q25) [pm_o (.aload_n 0), pm_of (.getfield 23) 7 3 2, pm_o (.aload_n 0), pm_of (.getfield 97) 7 12 0, pm_o (.iload_n 2), pm_o (.aload_n 0), pm_of (.getfield 19) 7 2 2] (by decide +kernel) rfl ?_
    obtain ⟨q26, hq26, h⟩ := pm_bd h
    refine pm_cV (idx := 128) m_Tree_size (c_Tree_size l h0 D (sh_Tb_s hu23) hq26) (As := []) (S0 := [.int q22.1, .int (q25.1 39 12), .ref 29]) rfl (by decide +kernel) k_Tree_size l_Parser_128 (Nat.le_of_ble_eq_true rfl) (Nat.le_of_ble_eq_true rfl) hl24.1 hl24.2 ?_
    refine pm_blk (pc' := 233) (L' := [(2, .int q22.1), (0, .ref 39)]) (S' := [.int q26, .int q22.1, .int (q25.1 39 12), .ref 29]) (M' := sm q22.2.1 q25) [] (by decide +kernel) rfl ?_
    obtain ⟨q27, hq27, h⟩ := pm_bd h
    refine pm_cV (idx := 131) m_Table_setRoot (c_Table_setRoot l h0 D (sh_Tb_s hu23) hq27) (As := [.int (q25.1 39 12), .int q22.1, .int q26]) (S0 := []) rfl (by decide +kernel) k_Table_setRoot l_Parser_131 (Nat.le_of_ble_eq_true rfl) (Nat.le_of_ble_eq_true rfl) hl24.1 hl24.2 ?_
    refine pm_blk (pc' := 236) (L' := [(2, .int q22.1), (0, .ref 39)]) (S' := []) (M' := sm q22.2.1 q27) [] (by decide +kernel) rfl ?_
    have h9 := Option.some.inj h
    subst h9
    exact pm_retv rfl (by decide +kernel) rfl rfl
def K_Parser_readDef_127 (N : Nat) : Nat → Int32 → pm_s → pm_J → Option (Unit × pm_s × pm_J)
  | 0, _, _, _ => none
  | n + 1, x2, g, u => (F_Tokens_size g u).bind fun q12 => if q12 ≤ x2 then K_Parser_readDef_157 N  g u else (F_Parser_kind g u).bind fun q28 => if q28 = 15 then (F_Parser_readParameter N g u).bind fun q30 => if sh_Tb q30.2.1 = true then pm_S q30.2.1 (K_Parser_readDef_127 N  n (x2 + 1) q30.2.1 q30.2.2) else none else K_Parser_readDef_157 N  g u
set_option maxHeartbeats 4000000 in
set_option maxRecDepth 100000 in
theorem w_Parser_readDef_127 (l : Launch) (h0 : Nat) (D : pm_D) {N : Nat} {g0 : pm_s} {u0 : pm_J} {out : Unit × pm_s × pm_J} {p : Program} {e : Env} {R : Room} {s : State} {m : MethodId} {args : Array Value} {below : List Frame} {meth : Method} {c : Code} : ∀ (n : Nat) (x2 : Int32) (g : pm_s) (u : pm_J) (hT : sh_T g) (hle : g.1 ≤ out.2.1.1 ∧ g.2.1 ≤ out.2.1.2.1), K_Parser_readDef_127 N n x2 g u = some out → pm_V (p, l, e, R, s, m, args, below, meth, c) m_Parser_readDef h0 D (g0.1, g0.2.1, out.2.1.1, out.2.1.2.1, 245) (pm_E (p, l, e, R, s, m, args, below, meth, c) h0 D (sm g0 u0) none (sm out.2.1 out.2.2)) 127 [(0, .ref 39), (2, .int x2)] [] (sm g u) := by
  intro n
  induction n with
  | zero => intro x2 g u hT hle h; cases h
  | succ n ih =>
    intro x2 g u hT hle h
    rw [K_Parser_readDef_127] at h
    refine pm_blk (pc' := 132) (L' := [(0, .ref 39), (2, .int x2)]) (S' := [.ref 5, .int x2]) (M' := sm g u) [pm_o (.iload_n 2), pm_o (.aload_n 0), pm_of (.getfield 9) 7 0 2] (by decide +kernel) rfl ?_
    obtain ⟨q12, hq12, h⟩ := pm_bd h
    refine pm_cV (idx := 51) m_Tokens_size (c_Tokens_size l h0 D hT hq12) (As := []) (S0 := [.int x2]) rfl (by decide +kernel) k_Tokens_size l_Parser_51 (Nat.le_of_ble_eq_true rfl) (Nat.le_of_ble_eq_true rfl) hle.1 hle.2 ?_
    refine pm_blk (pc' := 135) (L' := [(0, .ref 39), (2, .int x2)]) (S' := [.int q12, .int x2]) (M' := sm g u) [] (by decide +kernel) rfl ?_
    refine pm_ic_ge (off := 22) 157 (by decide +kernel) (by decide) (fun hc13 => ?_) (fun hc13 => ?_)
    · rw [if_pos hc13] at h
      refine pm_loc [0] rfl ?_
      exact w_Parser_readDef_157 l h0 D  g u hT hle h
    · rw [if_neg hc13] at h
      refine pm_blk (pc' := 139) (L' := [(0, .ref 39), (2, .int x2)]) (S' := [.ref 39]) (M' := sm g u) [pm_o (.aload_n 0)] (by decide +kernel) rfl ?_
      obtain ⟨q28, hq28, h⟩ := pm_bd h
      refine pm_cV (idx := 57) m_Parser_kind (c_Parser_kind l h0 D hT hq28) (As := []) (S0 := []) rfl (by decide +kernel) k_Parser_kind l_Parser_57 (Nat.le_of_ble_eq_true rfl) (Nat.le_of_ble_eq_true rfl) hle.1 hle.2 ?_
      refine pm_blk (pc' := 144) (L' := [(0, .ref 39), (2, .int x2)]) (S' := [.int 15, .int q28]) (M' := sm g u) [pm_oi (.bipush 15) 15] (by decide +kernel) rfl ?_
      refine pm_ic_ne (off := 13) 157 (by decide +kernel) (by decide) (fun hc29 => ?_) (fun hc29 => ?_)
      · rw [if_neg hc29] at h
        refine pm_loc [0] rfl ?_
        exact w_Parser_readDef_157 l h0 D  g u hT hle h
      · rw [if_pos hc29] at h
        refine pm_blk (pc' := 148) (L' := [(0, .ref 39), (2, .int x2)]) (S' := [.ref 39]) (M' := sm g u) [pm_o (.aload_n 0)] (by decide +kernel) rfl ?_
        obtain ⟨q30, hq30, h⟩ := pm_bd h
        obtain ⟨hu31, h⟩ := pm_ifs h
        obtain ⟨h, hl32⟩ := pm_Ss h
        refine pm_cV (idx := 106) m_Parser_readParameter (c_Parser_readParameter l h0 D hT hq30) (As := []) (S0 := []) rfl (by decide +kernel) k_Parser_readParameter l_Parser_106 (Nat.le_of_ble_eq_true rfl) (Nat.le_of_ble_eq_true rfl) hl32.1 hl32.2 ?_
        refine pm_blk (pc' := 154) (L' := [(2, .int (x2 + 1)), (0, .ref 39)]) (S' := []) (M' := sm q30.2.1 q30.2.2) [pm_oi (.iinc 2 1) 1] (by decide +kernel) rfl ?_
        refine pm_goto (off := -27) 127 (by decide +kernel) (by decide) ?_
        refine pm_loc [1, 0] rfl ?_
        exact ih (x2 + 1) q30.2.1 q30.2.2 (sh_Tb_s hu31) hl32 h
def K_Parser_readDef_88 (N : Nat) (x1 : Int32) (g : pm_s) (u : pm_J) : Option (Unit × pm_s × pm_J) := (F_Tokens_value x1 g u).bind fun q9 => (F_Tokens_placeOf x1 g u).bind fun q10 => (F_Table_add q9 q10 g u).bind fun q11 => K_Parser_readDef_127 N N 0 g (wi (wi (wi q11.2 39 12 q11.1) 39 8 0) 39 13 0)
set_option maxHeartbeats 4000000 in
set_option maxRecDepth 100000 in
theorem w_Parser_readDef_88 (l : Launch) (h0 : Nat) (D : pm_D) {N : Nat} {g0 : pm_s} {u0 : pm_J} {out : Unit × pm_s × pm_J} {p : Program} {e : Env} {R : Room} {s : State} {m : MethodId} {args : Array Value} {below : List Frame} {meth : Method} {c : Code} : ∀ (x1 : Int32) (g : pm_s) (u : pm_J) (hT : sh_T g) (hle : g.1 ≤ out.2.1.1 ∧ g.2.1 ≤ out.2.1.2.1), K_Parser_readDef_88 N x1 g u = some out → pm_V (p, l, e, R, s, m, args, below, meth, c) m_Parser_readDef h0 D (g0.1, g0.2.1, out.2.1.1, out.2.1.2.1, 245) (pm_E (p, l, e, R, s, m, args, below, meth, c) h0 D (sm g0 u0) none (sm out.2.1 out.2.2)) 88 [(0, .ref 39), (1, .int x1)] [] (sm g u) := by
    intro x1 g u hT hle h
    unfold K_Parser_readDef_88 at h
    refine pm_blk (pc' := 98) (L' := [(0, .ref 39), (1, .int x1)]) (S' := [.int x1, .ref 5, .ref 29, .ref 39]) (M' := sm g u) [pm_o (.aload_n 0), pm_o (.aload_n 0), pm_of (.getfield 23) 7 3 2, pm_o (.aload_n 0), pm_of (.getfield 9) 7 0 2, pm_o (.iload_n 1)] (by decide +kernel) rfl ?_
    obtain ⟨q9, hq9, h⟩ := pm_bd h
    refine pm_cV (idx := 81) m_Tokens_value (c_Tokens_value l h0 D hT hq9) (As := [.int x1]) (S0 := [.ref 29, .ref 39]) rfl (by decide +kernel) k_Tokens_value l_Parser_81 (Nat.le_of_ble_eq_true rfl) (Nat.le_of_ble_eq_true rfl) hle.1 hle.2 ?_
    refine pm_blk (pc' := 106) (L' := [(0, .ref 39), (1, .int x1)]) (S' := [.int x1, .ref 5, .long q9, .ref 29, .ref 39]) (M' := sm g u) [pm_o (.aload_n 0), pm_of (.getfield 9) 7 0 2, pm_o (.iload_n 1)] (by decide +kernel) rfl ?_
    obtain ⟨q10, hq10, h⟩ := pm_bd h
    refine pm_cV (idx := 89) m_Tokens_placeOf (c_Tokens_placeOf l h0 D hT hq10) (As := [.int x1]) (S0 := [.long q9, .ref 29, .ref 39]) rfl (by decide +kernel) k_Tokens_placeOf l_Parser_89 (Nat.le_of_ble_eq_true rfl) (Nat.le_of_ble_eq_true rfl) hle.1 hle.2 ?_
    refine pm_blk (pc' := 109) (L' := [(0, .ref 39), (1, .int x1)]) (S' := [.int q10, .long q9, .ref 29, .ref 39]) (M' := sm g u) [] (by decide +kernel) rfl ?_
    obtain ⟨q11, hq11, h⟩ := pm_bd h
    refine pm_cV (idx := 93) m_Table_add (c_Table_add l h0 D hT hq11) (As := [.long q9, .int q10]) (S0 := [.ref 39]) rfl (by decide +kernel) k_Table_add l_Parser_93 (Nat.le_of_ble_eq_true rfl) (Nat.le_of_ble_eq_true rfl) hle.1 hle.2 ?_
    refine pm_blk (pc' := 127) (L' := [(2, .int 0), (0, .ref 39), (1, .int x1)]) (S' := []) (M' := sm g (wi (wi (wi q11.2 39 12 q11.1) 39 8 0) 39 13 0)) [pm_of (.putfield 97) 7 12 0, pm_o (.aload_n 0), pm_oi (.iconst 0) 0, pm_of (.putfield 100) 7 8 0, pm_o (.aload_n 0), pm_oi (.iconst 0) 0, pm_of (.putfield 103) 7 13 0, pm_oi (.iconst 0) 0, pm_o (.istore_n 2)] (by decide +kernel) rfl ?_
    refine pm_loc [1, 0] rfl ?_
    exact w_Parser_readDef_127 l h0 D N 0 g (wi (wi (wi q11.2 39 12 q11.1) 39 8 0) 39 13 0) hT hle h
def K_Parser_readDef_32 (N : Nat) (g : pm_s) (u : pm_J) : Option (Unit × pm_s × pm_J) := (F_Parser_expect 1 g u).bind fun q3 => (F_Fault_isTold_3 g q3).bind fun q4 => if q4 = 0 then (F_Tokens_value (u.1 39 11) g q3).bind fun q6 => (F_Table_find N q6 g q3).bind fun q7 => if q7 = (-1) then K_Parser_readDef_88 N (u.1 39 11) g q3 else (F_Tokens_placeOf (u.1 39 11) g q3).bind fun q33 => (F_Fault_tell_4 5 q33 g q3).bind fun q34 => K_Parser_readDef_88 N (u.1 39 11) g q34 else some ((), g, q3)
set_option maxHeartbeats 4000000 in
set_option maxRecDepth 100000 in
theorem w_Parser_readDef_32 (l : Launch) (h0 : Nat) (D : pm_D) {N : Nat} {g0 : pm_s} {u0 : pm_J} {out : Unit × pm_s × pm_J} {p : Program} {e : Env} {R : Room} {s : State} {m : MethodId} {args : Array Value} {below : List Frame} {meth : Method} {c : Code} : ∀  (g : pm_s) (u : pm_J) (hT : sh_T g) (hle : g.1 ≤ out.2.1.1 ∧ g.2.1 ≤ out.2.1.2.1), K_Parser_readDef_32 N g u = some out → pm_V (p, l, e, R, s, m, args, below, meth, c) m_Parser_readDef h0 D (g0.1, g0.2.1, out.2.1.1, out.2.1.2.1, 245) (pm_E (p, l, e, R, s, m, args, below, meth, c) h0 D (sm g0 u0) none (sm out.2.1 out.2.2)) 32 [(0, .ref 39)] [] (sm g u) := by
    intro g u hT hle h
    unfold K_Parser_readDef_32 at h
    refine pm_blk (pc' := 39) (L' := [(1, .int (u.1 39 11)), (0, .ref 39)]) (S' := [.int 1, .ref 39]) (M' := sm g u) [pm_o (.aload_n 0), pm_of (.getfield 47) 7 11 0, pm_o (.istore_n 1), pm_o (.aload_n 0), pm_oi (.iconst 1) 1] (by decide +kernel) rfl ?_
    obtain ⟨q3, hq3, h⟩ := pm_bd h
    refine pm_cV (idx := 73) m_Parser_expect (c_Parser_expect l h0 D hT hq3) (As := [.int 1]) (S0 := []) rfl (by decide +kernel) k_Parser_expect l_Parser_73 (Nat.le_of_ble_eq_true rfl) (Nat.le_of_ble_eq_true rfl) hle.1 hle.2 ?_
    refine pm_blk (pc' := 46) (L' := [(1, .int (u.1 39 11)), (0, .ref 39)]) (S' := [.ref 3]) (M' := sm g q3) [pm_o (.aload_n 0), pm_of (.getfield 27) 7 4 2] (by decide +kernel) rfl ?_
    obtain ⟨q4, hq4, h⟩ := pm_bd h
    refine pm_cV (idx := 77) m_Fault_isTold (c_Fault_isTold_3 l h0 D hT hq4) (As := []) (S0 := []) rfl (by decide +kernel) k_Fault_isTold l_Parser_77 (Nat.le_of_ble_eq_true rfl) (Nat.le_of_ble_eq_true rfl) hle.1 hle.2 ?_
    refine pm_blk (pc' := 49) (L' := [(1, .int (u.1 39 11)), (0, .ref 39)]) (S' := [.int q4]) (M' := sm g q3) [] (by decide +kernel) rfl ?_
    refine pm_if_eq (off := 4) 53 (by decide +kernel) (by decide) (fun hc5 => ?_) (fun hc5 => ?_)
    · rw [if_pos hc5] at h
      refine pm_blk (pc' := 62) (L' := [(1, .int (u.1 39 11)), (0, .ref 39)]) (S' := [.int (u.1 39 11), .ref 5, .ref 29]) (M' := sm g q3) [pm_o (.aload_n 0), pm_of (.getfield 23) 7 3 2, pm_o (.aload_n 0), pm_of (.getfield 9) 7 0 2, pm_o (.iload_n 1)] (by decide +kernel) rfl ?_
      obtain ⟨q6, hq6, h⟩ := pm_bd h
      refine pm_cV (idx := 81) m_Tokens_value (c_Tokens_value l h0 D hT hq6) (As := [.int (u.1 39 11)]) (S0 := [.ref 29]) rfl (by decide +kernel) k_Tokens_value l_Parser_81 (Nat.le_of_ble_eq_true rfl) (Nat.le_of_ble_eq_true rfl) hle.1 hle.2 ?_
      refine pm_blk (pc' := 65) (L' := [(1, .int (u.1 39 11)), (0, .ref 39)]) (S' := [.long q6, .ref 29]) (M' := sm g q3) [] (by decide +kernel) rfl ?_
      obtain ⟨q7, hq7, h⟩ := pm_bd h
      refine pm_cV (idx := 85) m_Table_find (c_Table_find l h0 D hT hq7) (As := [.long q6]) (S0 := []) rfl (by decide +kernel) k_Table_find l_Parser_85 (Nat.le_of_ble_eq_true rfl) (Nat.le_of_ble_eq_true rfl) hle.1 hle.2 ?_
      refine pm_blk (pc' := 69) (L' := [(1, .int (u.1 39 11)), (0, .ref 39)]) (S' := [.int (-1), .int q7]) (M' := sm g q3) [pm_oi (.iconst (-1)) (-1)] (by decide +kernel) rfl ?_
      refine pm_ic_eq (off := 19) 88 (by decide +kernel) (by decide) (fun hc8 => ?_) (fun hc8 => ?_)
      · rw [if_pos hc8] at h
        refine pm_loc [1, 0] rfl ?_
        exact w_Parser_readDef_88 l h0 D (u.1 39 11) g q3 hT hle h
      · rw [if_neg hc8] at h
        refine pm_blk (pc' := 82) (L' := [(1, .int (u.1 39 11)), (0, .ref 39)]) (S' := [.int (u.1 39 11), .ref 5, .int 5, .ref 4]) (M' := sm g q3) [pm_o (.aload_n 0), pm_of (.getfield 31) 7 5 2, pm_oi (.iconst 5) 5, pm_o (.aload_n 0), pm_of (.getfield 9) 7 0 2, pm_o (.iload_n 1)] (by decide +kernel) rfl ?_
        obtain ⟨q33, hq33, h⟩ := pm_bd h
        refine pm_cV (idx := 89) m_Tokens_placeOf (c_Tokens_placeOf l h0 D hT hq33) (As := [.int (u.1 39 11)]) (S0 := [.int 5, .ref 4]) rfl (by decide +kernel) k_Tokens_placeOf l_Parser_89 (Nat.le_of_ble_eq_true rfl) (Nat.le_of_ble_eq_true rfl) hle.1 hle.2 ?_
        refine pm_blk (pc' := 85) (L' := [(1, .int (u.1 39 11)), (0, .ref 39)]) (S' := [.int q33, .int 5, .ref 4]) (M' := sm g q3) [] (by decide +kernel) rfl ?_
        obtain ⟨q34, hq34, h⟩ := pm_bd h
        refine pm_cV (idx := 69) m_Fault_tell (c_Fault_tell_4 l h0 D hT hq34) (As := [.int 5, .int q33]) (S0 := []) rfl (by decide +kernel) k_Fault_tell l_Parser_69 (Nat.le_of_ble_eq_true rfl) (Nat.le_of_ble_eq_true rfl) hle.1 hle.2 ?_
        refine pm_blk (pc' := 88) (L' := [(1, .int (u.1 39 11)), (0, .ref 39)]) (S' := []) (M' := sm g q34) [] (by decide +kernel) rfl ?_
        refine pm_loc [1, 0] rfl ?_
        exact w_Parser_readDef_88 l h0 D (u.1 39 11) g q34 hT hle h
    · rw [if_neg hc5] at h
      have h9 := Option.some.inj h
      subst h9
      exact pm_retv rfl (by decide +kernel) rfl rfl
def F_Parser_readDef (N : Nat) (g : pm_s) (u : pm_J) : Option (Unit × pm_s × pm_J) := pm_S g ((F_Parser_kind g u).bind fun q1 => if q1 = 1 then (F_Table_size g u).bind fun q35 => if q35 < 30 then K_Parser_readDef_32 N  g u else (F_Parser_here g u).bind fun q37 => (F_Fault_tell_3 4 q37 g u).bind fun q38 => K_Parser_readDef_32 N  g q38 else K_Parser_readDef_32 N  g u)
set_option maxHeartbeats 4000000 in
set_option maxRecDepth 100000 in
theorem c_Parser_readDef (l : Launch) (h0 : Nat) (D : pm_D) {g : pm_s} {u : pm_J} (hT : sh_T g) {N : Nat} {out : Unit × pm_s × pm_J} (h : F_Parser_readDef N g u = some out) : pm_C l h0 D m_Parser_readDef (245) [.ref 39] (sm g u) none (sm out.2.1 out.2.2) := by
  unfold F_Parser_readDef at h
  obtain ⟨h, hle⟩ := pm_Ss h
  refine pm_met (by decide +kernel) (Nat.le_of_ble_eq_true rfl) hle.1 hle.2 ?_
  intro p e R s m args below meth c
  refine pm_blk (pc' := 1) (L' := [(0, .ref 39)]) (S' := [.ref 39]) (M' := sm g u) [pm_o (.aload_n 0)] (by decide +kernel) rfl ?_
  obtain ⟨q1, hq1, h⟩ := pm_bd h
  refine pm_cV (idx := 57) m_Parser_kind (c_Parser_kind l h0 D hT hq1) (As := []) (S0 := []) rfl (by decide +kernel) k_Parser_kind l_Parser_57 (Nat.le_of_ble_eq_true rfl) (Nat.le_of_ble_eq_true rfl) hle.1 hle.2 ?_
  refine pm_blk (pc' := 5) (L' := [(0, .ref 39)]) (S' := [.int 1, .int q1]) (M' := sm g u) [pm_oi (.iconst 1) 1] (by decide +kernel) rfl ?_
  refine pm_ic_ne (off := 27) 32 (by decide +kernel) (by decide) (fun hc2 => ?_) (fun hc2 => ?_)
  · rw [if_neg hc2] at h
    refine pm_loc [0] rfl ?_
    exact w_Parser_readDef_32 l h0 D  g u hT hle h
  · rw [if_pos hc2] at h
    refine pm_blk (pc' := 12) (L' := [(0, .ref 39)]) (S' := [.ref 29]) (M' := sm g u) [pm_o (.aload_n 0), pm_of (.getfield 23) 7 3 2] (by decide +kernel) rfl ?_
    obtain ⟨q35, hq35, h⟩ := pm_bd h
    refine pm_cV (idx := 63) m_Table_size (c_Table_size l h0 D hT hq35) (As := []) (S0 := []) rfl (by decide +kernel) k_Table_size l_Parser_63 (Nat.le_of_ble_eq_true rfl) (Nat.le_of_ble_eq_true rfl) hle.1 hle.2 ?_
    refine pm_blk (pc' := 17) (L' := [(0, .ref 39)]) (S' := [.int 30, .int q35]) (M' := sm g u) [pm_oi (.bipush 30) 30] (by decide +kernel) rfl ?_
    refine pm_ic_lt (off := 15) 32 (by decide +kernel) (by decide) (fun hc36 => ?_) (fun hc36 => ?_)
    · rw [if_pos hc36] at h
      refine pm_loc [0] rfl ?_
      exact w_Parser_readDef_32 l h0 D  g u hT hle h
    · rw [if_neg hc36] at h
      refine pm_blk (pc' := 26) (L' := [(0, .ref 39)]) (S' := [.ref 39, .int 4, .ref 3]) (M' := sm g u) [pm_o (.aload_n 0), pm_of (.getfield 27) 7 4 2, pm_oi (.iconst 4) 4, pm_o (.aload_n 0)] (by decide +kernel) rfl ?_
      obtain ⟨q37, hq37, h⟩ := pm_bd h
      refine pm_cV (idx := 66) m_Parser_here (c_Parser_here l h0 D hT hq37) (As := []) (S0 := [.int 4, .ref 3]) rfl (by decide +kernel) k_Parser_here l_Parser_66 (Nat.le_of_ble_eq_true rfl) (Nat.le_of_ble_eq_true rfl) hle.1 hle.2 ?_
      refine pm_blk (pc' := 29) (L' := [(0, .ref 39)]) (S' := [.int q37, .int 4, .ref 3]) (M' := sm g u) [] (by decide +kernel) rfl ?_
      obtain ⟨q38, hq38, h⟩ := pm_bd h
      refine pm_cV (idx := 69) m_Fault_tell (c_Fault_tell_3 l h0 D hT hq38) (As := [.int 4, .int q37]) (S0 := []) rfl (by decide +kernel) k_Fault_tell l_Parser_69 (Nat.le_of_ble_eq_true rfl) (Nat.le_of_ble_eq_true rfl) hle.1 hle.2 ?_
      refine pm_blk (pc' := 32) (L' := [(0, .ref 39)]) (S' := []) (M' := sm g q38) [] (by decide +kernel) rfl ?_
      refine pm_loc [0] rfl ?_
      exact w_Parser_readDef_32 l h0 D  g q38 hT hle h
def K_Parser_readProgram_7 (N : Nat) : Nat → Int32 → pm_s → pm_J → Option (Unit × pm_s × pm_J)
  | 0, _, _, _ => none
  | n + 1, x1, g, u => (F_Tokens_size g u).bind fun q1 => if q1 ≤ x1 then some ((), g, u) else (F_Parser_kind g u).bind fun q3 => if q3 = 0 then some ((), g, u) else (F_Parser_readDef N g u).bind fun q5 => if sh_Tb q5.2.1 = true then pm_S q5.2.1 (K_Parser_readProgram_7 N  n (x1 + 1) q5.2.1 q5.2.2) else none
set_option maxHeartbeats 4000000 in
set_option maxRecDepth 100000 in
theorem w_Parser_readProgram_7 (l : Launch) (h0 : Nat) (D : pm_D) {N : Nat} {g0 : pm_s} {u0 : pm_J} {out : Unit × pm_s × pm_J} {p : Program} {e : Env} {R : Room} {s : State} {m : MethodId} {args : Array Value} {below : List Frame} {meth : Method} {c : Code} : ∀ (n : Nat) (x1 : Int32) (g : pm_s) (u : pm_J) (hT : sh_T g) (hle : g.1 ≤ out.2.1.1 ∧ g.2.1 ≤ out.2.1.2.1), K_Parser_readProgram_7 N n x1 g u = some out → pm_V (p, l, e, R, s, m, args, below, meth, c) m_Parser_readProgram h0 D (g0.1, g0.2.1, out.2.1.1, out.2.1.2.1, 246) (pm_E (p, l, e, R, s, m, args, below, meth, c) h0 D (sm g0 u0) none (sm out.2.1 out.2.2)) 7 [(0, .ref 39), (1, .int x1)] [] (sm g u) := by
  intro n
  induction n with
  | zero => intro x1 g u hT hle h; cases h
  | succ n ih =>
    intro x1 g u hT hle h
    rw [K_Parser_readProgram_7] at h
    refine pm_blk (pc' := 12) (L' := [(0, .ref 39), (1, .int x1)]) (S' := [.ref 5, .int x1]) (M' := sm g u) [pm_o (.iload_n 1), pm_o (.aload_n 0), pm_of (.getfield 9) 7 0 2] (by decide +kernel) rfl ?_
    obtain ⟨q1, hq1, h⟩ := pm_bd h
    refine pm_cV (idx := 51) m_Tokens_size (c_Tokens_size l h0 D hT hq1) (As := []) (S0 := [.int x1]) rfl (by decide +kernel) k_Tokens_size l_Parser_51 (Nat.le_of_ble_eq_true rfl) (Nat.le_of_ble_eq_true rfl) hle.1 hle.2 ?_
    refine pm_blk (pc' := 15) (L' := [(0, .ref 39), (1, .int x1)]) (S' := [.int q1, .int x1]) (M' := sm g u) [] (by decide +kernel) rfl ?_
    refine pm_ic_ge (off := 20) 35 (by decide +kernel) (by decide) (fun hc2 => ?_) (fun hc2 => ?_)
    · rw [if_pos hc2] at h
      have h9 := Option.some.inj h
      subst h9
      exact pm_retv rfl (by decide +kernel) rfl rfl
    · rw [if_neg hc2] at h
      refine pm_blk (pc' := 19) (L' := [(0, .ref 39), (1, .int x1)]) (S' := [.ref 39]) (M' := sm g u) [pm_o (.aload_n 0)] (by decide +kernel) rfl ?_
      obtain ⟨q3, hq3, h⟩ := pm_bd h
      refine pm_cV (idx := 57) m_Parser_kind (c_Parser_kind l h0 D hT hq3) (As := []) (S0 := []) rfl (by decide +kernel) k_Parser_kind l_Parser_57 (Nat.le_of_ble_eq_true rfl) (Nat.le_of_ble_eq_true rfl) hle.1 hle.2 ?_
      refine pm_blk (pc' := 22) (L' := [(0, .ref 39), (1, .int x1)]) (S' := [.int q3]) (M' := sm g u) [] (by decide +kernel) rfl ?_
      refine pm_if_eq (off := 13) 35 (by decide +kernel) (by decide) (fun hc4 => ?_) (fun hc4 => ?_)
      · rw [if_pos hc4] at h
        have h9 := Option.some.inj h
        subst h9
        exact pm_retv rfl (by decide +kernel) rfl rfl
      · rw [if_neg hc4] at h
        refine pm_blk (pc' := 26) (L' := [(0, .ref 39), (1, .int x1)]) (S' := [.ref 39]) (M' := sm g u) [pm_o (.aload_n 0)] (by decide +kernel) rfl ?_
        obtain ⟨q5, hq5, h⟩ := pm_bd h
        obtain ⟨hu6, h⟩ := pm_ifs h
        obtain ⟨h, hl7⟩ := pm_Ss h
        refine pm_cV (idx := 60) m_Parser_readDef (c_Parser_readDef l h0 D hT hq5) (As := []) (S0 := []) rfl (by decide +kernel) k_Parser_readDef l_Parser_60 (Nat.le_of_ble_eq_true rfl) (Nat.le_of_ble_eq_true rfl) hl7.1 hl7.2 ?_
        refine pm_blk (pc' := 32) (L' := [(1, .int (x1 + 1)), (0, .ref 39)]) (S' := []) (M' := sm q5.2.1 q5.2.2) [pm_oi (.iinc 1 1) 1] (by decide +kernel) rfl ?_
        refine pm_goto (off := -25) 7 (by decide +kernel) (by decide) ?_
        refine pm_loc [1, 0] rfl ?_
        exact ih (x1 + 1) q5.2.1 q5.2.2 (sh_Tb_s hu6) hl7 h
def F_Parser_readProgram (N : Nat) (g : pm_s) (u : pm_J) : Option (Unit × pm_s × pm_J) := pm_S g (K_Parser_readProgram_7 N N 0 g (wi u 39 11 0))
set_option maxHeartbeats 4000000 in
set_option maxRecDepth 100000 in
theorem c_Parser_readProgram (l : Launch) (h0 : Nat) (D : pm_D) {g : pm_s} {u : pm_J} (hT : sh_T g) {N : Nat} {out : Unit × pm_s × pm_J} (h : F_Parser_readProgram N g u = some out) : pm_C l h0 D m_Parser_readProgram (246) [.ref 39] (sm g u) none (sm out.2.1 out.2.2) := by
  unfold F_Parser_readProgram at h
  obtain ⟨h, hle⟩ := pm_Ss h
  refine pm_met (by decide +kernel) (Nat.le_of_ble_eq_true rfl) hle.1 hle.2 ?_
  intro p e R s m args below meth c
  refine pm_blk (pc' := 7) (L' := [(1, .int 0), (0, .ref 39)]) (S' := []) (M' := sm g (wi u 39 11 0)) [pm_o (.aload_n 0), pm_oi (.iconst 0) 0, pm_of (.putfield 47) 7 11 0, pm_oi (.iconst 0) 0, pm_o (.istore_n 1)] (by decide +kernel) rfl ?_
  refine pm_loc [1, 0] rfl ?_
  exact w_Parser_readProgram_7 l h0 D N 0 g (wi u 39 11 0) hT hle h
def K_Checker_countCall_40 (N : Nat) (g : pm_s) : Nat → Int32 → Int32 → Int32 → Int32 → Int32 → pm_J → Option (pm_J)
  | 0, _, _, _, _, _, _ => none
  | n + 1, x1, x2, x3, x4, x5, u => (F_Table_parameters x3 g u).bind fun q5 => if q5 ≤ x5 then (F_Table_type x3 g u).bind fun q7 => (F_Types_letters q7 g u).bind fun q8 => if q8 = 0 then some u else (F_Tree_isShort x2 g u).bind fun q10 => if q10 = 0 then (F_Table_count x1 4 1 g u).bind fun q12 => some q12 else some u else (F_Tree_isShort x4 g u).bind fun q13 => if q13 = 0 then (F_Table_localType x3 x5 g u).bind fun q15 => (F_Types_letters q15 g u).bind fun q16 => if q16 = 0 then (F_Tree_next x4 g u).bind fun q18 => K_Checker_countCall_40 N g  n x1 x2 x3 q18 (x5 + 1) u else (F_Table_count x1 3 1 g u).bind fun q19 => (F_Tree_next x4 g q19).bind fun q20 => K_Checker_countCall_40 N g  n x1 x2 x3 q20 (x5 + 1) q19 else (F_Table_count x1 5 1 g u).bind fun q21 => (F_Tree_next x4 g q21).bind fun q22 => K_Checker_countCall_40 N g  n x1 x2 x3 q22 (x5 + 1) q21
set_option maxHeartbeats 4000000 in
set_option maxRecDepth 100000 in
theorem w_Checker_countCall_40 (l : Launch) (h0 : Nat) (D : pm_D) {g : pm_s} (hT : sh_T g) {N : Nat} {u0 : pm_J} {out : pm_J} {p : Program} {e : Env} {R : Room} {s : State} {m : MethodId} {args : Array Value} {below : List Frame} {meth : Method} {c : Code} : ∀ (n : Nat) (x1 : Int32) (x2 : Int32) (x3 : Int32) (x4 : Int32) (x5 : Int32) (u : pm_J), K_Checker_countCall_40 N g n x1 x2 x3 x4 x5 u = some out → pm_V (p, l, e, R, s, m, args, below, meth, c) m_Checker_countCall h0 D (g.1, g.2.1, g.1, g.2.1, 2) (pm_E (p, l, e, R, s, m, args, below, meth, c) h0 D (sm g u0) none (sm g out)) 40 [(0, .ref 43), (1, .int x1), (2, .int x2), (3, .int x3), (4, .int x4), (5, .int x5)] [] (sm g u) := by
  intro n
  induction n with
  | zero => intro x1 x2 x3 x4 x5 u h; cases h
  | succ n ih =>
    intro x1 x2 x3 x4 x5 u h
    rw [K_Checker_countCall_40] at h
    refine pm_blk (pc' := 47) (L' := [(0, .ref 43), (1, .int x1), (2, .int x2), (3, .int x3), (4, .int x4), (5, .int x5)]) (S' := [.int x3, .ref 29, .int x5]) (M' := sm g u) [pm_o (.iload 5), pm_o (.aload_n 0), pm_of (.getfield 19) 2 2 2, pm_o (.iload_n 3)] (by decide +kernel) rfl ?_
    obtain ⟨q5, hq5, h⟩ := pm_bd h
    refine pm_cV (idx := 96) m_Table_parameters (c_Table_parameters l h0 D hT hq5) (As := [.int x3]) (S0 := [.int x5]) rfl (by decide +kernel) k_Table_parameters l_Checker_96 (Nat.le_of_ble_eq_true rfl) (Nat.le_of_ble_eq_true rfl) (Nat.le_refl _) (Nat.le_refl _) ?_
    refine pm_blk (pc' := 50) (L' := [(0, .ref 43), (1, .int x1), (2, .int x2), (3, .int x3), (4, .int x4), (5, .int x5)]) (S' := [.int q5, .int x5]) (M' := sm g u) [] (by decide +kernel) rfl ?_
    refine pm_ic_ge (off := 75) 125 (by decide +kernel) (by decide) (fun hc6 => ?_) (fun hc6 => ?_)
    · rw [if_pos hc6] at h
      refine pm_blk (pc' := 134) (L' := [(0, .ref 43), (1, .int x1), (2, .int x2), (3, .int x3), (4, .int x4), (5, .int x5)]) (S' := [.int x3, .ref 29, .ref 10]) (M' := sm g u) [pm_o (.aload_n 0), pm_of (.getfield 9) 2 0 2, pm_o (.aload_n 0), pm_of (.getfield 19) 2 2 2, pm_o (.iload_n 3)] (by decide +kernel) rfl ?_
      obtain ⟨q7, hq7, h⟩ := pm_bd h
      refine pm_cV (idx := 59) m_Table_type (c_Table_type l h0 D hT hq7) (As := [.int x3]) (S0 := [.ref 10]) rfl (by decide +kernel) k_Table_type l_Checker_59 (Nat.le_of_ble_eq_true rfl) (Nat.le_of_ble_eq_true rfl) (Nat.le_refl _) (Nat.le_refl _) ?_
      refine pm_blk (pc' := 137) (L' := [(0, .ref 43), (1, .int x1), (2, .int x2), (3, .int x3), (4, .int x4), (5, .int x5)]) (S' := [.int q7, .ref 10]) (M' := sm g u) [] (by decide +kernel) rfl ?_
      obtain ⟨q8, hq8, h⟩ := pm_bd h
      refine pm_cV (idx := 160) m_Types_letters (c_Types_letters l h0 D hT hq8) (As := [.int q7]) (S0 := []) rfl (by decide +kernel) k_Types_letters l_Checker_160 (Nat.le_of_ble_eq_true rfl) (Nat.le_of_ble_eq_true rfl) (Nat.le_refl _) (Nat.le_refl _) ?_
      refine pm_blk (pc' := 140) (L' := [(0, .ref 43), (1, .int x1), (2, .int x2), (3, .int x3), (4, .int x4), (5, .int x5)]) (S' := [.int q8]) (M' := sm g u) [] (by decide +kernel) rfl ?_
      refine pm_if_eq (off := 24) 164 (by decide +kernel) (by decide) (fun hc9 => ?_) (fun hc9 => ?_)
      · rw [if_pos hc9] at h
        have h9 := Option.some.inj h
        subst h9
        exact pm_retv rfl (by decide +kernel) rfl rfl
      · rw [if_neg hc9] at h
        refine pm_blk (pc' := 148) (L' := [(0, .ref 43), (1, .int x1), (2, .int x2), (3, .int x3), (4, .int x4), (5, .int x5)]) (S' := [.int x2, .ref 18]) (M' := sm g u) [pm_o (.aload_n 0), pm_of (.getfield 15) 2 1 2, pm_o (.iload_n 2)] (by decide +kernel) rfl ?_
        obtain ⟨q10, hq10, h⟩ := pm_bd h
        refine pm_cV (idx := 178) m_Tree_isShort (c_Tree_isShort l h0 D hT hq10) (As := [.int x2]) (S0 := []) rfl (by decide +kernel) k_Tree_isShort l_Checker_178 (Nat.le_of_ble_eq_true rfl) (Nat.le_of_ble_eq_true rfl) (Nat.le_refl _) (Nat.le_refl _) ?_
        refine pm_blk (pc' := 151) (L' := [(0, .ref 43), (1, .int x1), (2, .int x2), (3, .int x3), (4, .int x4), (5, .int x5)]) (S' := [.int q10]) (M' := sm g u) [] (by decide +kernel) rfl ?_
        refine pm_if_ne (off := 13) 164 (by decide +kernel) (by decide) (fun hc11 => ?_) (fun hc11 => ?_)
        · rw [if_neg hc11] at h
          have h9 := Option.some.inj h
          subst h9
          exact pm_retv rfl (by decide +kernel) rfl rfl
        · rw [if_pos hc11] at h
          refine pm_blk (pc' := 161) (L' := [(0, .ref 43), (1, .int x1), (2, .int x2), (3, .int x3), (4, .int x4), (5, .int x5)]) (S' := [.int 1, .int 4, .int x1, .ref 29]) (M' := sm g u) [pm_o (.aload_n 0), pm_of (.getfield 19) 2 2 2, pm_o (.iload_n 1), pm_oi (.iconst 4) 4, pm_oi (.iconst 1) 1] (by decide +kernel) rfl ?_
          obtain ⟨q12, hq12, h⟩ := pm_bd h
          refine pm_cV (idx := 172) m_Table_count (c_Table_count l h0 D hT hq12) (As := [.int x1, .int 4, .int 1]) (S0 := []) rfl (by decide +kernel) k_Table_count l_Checker_172 (Nat.le_of_ble_eq_true rfl) (Nat.le_of_ble_eq_true rfl) (Nat.le_refl _) (Nat.le_refl _) ?_
          refine pm_blk (pc' := 164) (L' := [(0, .ref 43), (1, .int x1), (2, .int x2), (3, .int x3), (4, .int x4), (5, .int x5)]) (S' := []) (M' := sm g q12) [] (by decide +kernel) rfl ?_
          have h9 := Option.some.inj h
          subst h9
          exact pm_retv rfl (by decide +kernel) rfl rfl
    · rw [if_neg hc6] at h
      refine pm_blk (pc' := 59) (L' := [(0, .ref 43), (1, .int x1), (2, .int x2), (3, .int x3), (4, .int x4), (5, .int x5)]) (S' := [.int x4, .ref 18]) (M' := sm g u) [pm_o (.aload_n 0), pm_of (.getfield 15) 2 1 2, pm_o (.iload 4)] (by decide +kernel) rfl ?_
      obtain ⟨q13, hq13, h⟩ := pm_bd h
      refine pm_cV (idx := 178) m_Tree_isShort (c_Tree_isShort l h0 D hT hq13) (As := [.int x4]) (S0 := []) rfl (by decide +kernel) k_Tree_isShort l_Checker_178 (Nat.le_of_ble_eq_true rfl) (Nat.le_of_ble_eq_true rfl) (Nat.le_refl _) (Nat.le_refl _) ?_
      refine pm_blk (pc' := 62) (L' := [(0, .ref 43), (1, .int x1), (2, .int x2), (3, .int x3), (4, .int x4), (5, .int x5)]) (S' := [.int q13]) (M' := sm g u) [] (by decide +kernel) rfl ?_
      refine pm_if_eq (off := 16) 78 (by decide +kernel) (by decide) (fun hc14 => ?_) (fun hc14 => ?_)
      · rw [if_pos hc14] at h
        refine pm_blk (pc' := 89) (L' := [(0, .ref 43), (1, .int x1), (2, .int x2), (3, .int x3), (4, .int x4), (5, .int x5)]) (S' := [.int x5, .int x3, .ref 29, .ref 10]) (M' := sm g u) [pm_o (.aload_n 0), pm_of (.getfield 9) 2 0 2, pm_o (.aload_n 0), pm_of (.getfield 19) 2 2 2, pm_o (.iload_n 3), pm_o (.iload 5)] (by decide +kernel) rfl ?_
        obtain ⟨q15, hq15, h⟩ := pm_bd h
        refine pm_cV (idx := 136) m_Table_localType (c_Table_localType l h0 D hT hq15) (As := [.int x3, .int x5]) (S0 := [.ref 10]) rfl (by decide +kernel) k_Table_localType l_Checker_136 (Nat.le_of_ble_eq_true rfl) (Nat.le_of_ble_eq_true rfl) (Nat.le_refl _) (Nat.le_refl _) ?_
        refine pm_blk (pc' := 92) (L' := [(0, .ref 43), (1, .int x1), (2, .int x2), (3, .int x3), (4, .int x4), (5, .int x5)]) (S' := [.int q15, .ref 10]) (M' := sm g u) [] (by decide +kernel) rfl ?_
        obtain ⟨q16, hq16, h⟩ := pm_bd h
        refine pm_cV (idx := 160) m_Types_letters (c_Types_letters l h0 D hT hq16) (As := [.int q15]) (S0 := []) rfl (by decide +kernel) k_Types_letters l_Checker_160 (Nat.le_of_ble_eq_true rfl) (Nat.le_of_ble_eq_true rfl) (Nat.le_refl _) (Nat.le_refl _) ?_
        refine pm_blk (pc' := 95) (L' := [(0, .ref 43), (1, .int x1), (2, .int x2), (3, .int x3), (4, .int x4), (5, .int x5)]) (S' := [.int q16]) (M' := sm g u) [] (by decide +kernel) rfl ?_
        refine pm_if_eq (off := 13) 108 (by decide +kernel) (by decide) (fun hc17 => ?_) (fun hc17 => ?_)
        · rw [if_pos hc17] at h
          refine pm_blk (pc' := 114) (L' := [(0, .ref 43), (1, .int x1), (2, .int x2), (3, .int x3), (4, .int x4), (5, .int x5)]) (S' := [.int x4, .ref 18]) (M' := sm g u) [pm_o (.aload_n 0), pm_of (.getfield 15) 2 1 2, pm_o (.iload 4)] (by decide +kernel) rfl ?_
          obtain ⟨q18, hq18, h⟩ := pm_bd h
          refine pm_cV (idx := 139) m_Tree_next (c_Tree_next l h0 D hT hq18) (As := [.int x4]) (S0 := []) rfl (by decide +kernel) k_Tree_next l_Checker_139 (Nat.le_of_ble_eq_true rfl) (Nat.le_of_ble_eq_true rfl) (Nat.le_refl _) (Nat.le_refl _) ?_
          refine pm_blk (pc' := 122) (L' := [(5, .int (x5 + 1)), (4, .int q18), (0, .ref 43), (1, .int x1), (2, .int x2), (3, .int x3)]) (S' := []) (M' := sm g u) [pm_o (.istore 4), pm_oi (.iinc 5 1) 1] (by decide +kernel) rfl ?_
          refine pm_goto (off := -82) 40 (by decide +kernel) (by decide) ?_
          refine pm_loc [2, 3, 4, 5, 1, 0] rfl ?_
          exact ih x1 x2 x3 q18 (x5 + 1) u h
        · rw [if_neg hc17] at h
          refine pm_blk (pc' := 105) (L' := [(0, .ref 43), (1, .int x1), (2, .int x2), (3, .int x3), (4, .int x4), (5, .int x5)]) (S' := [.int 1, .int 3, .int x1, .ref 29]) (M' := sm g u) [pm_o (.aload_n 0), pm_of (.getfield 19) 2 2 2, pm_o (.iload_n 1), pm_oi (.iconst 3) 3, pm_oi (.iconst 1) 1] (by decide +kernel) rfl ?_
          obtain ⟨q19, hq19, h⟩ := pm_bd h
          refine pm_cV (idx := 172) m_Table_count (c_Table_count l h0 D hT hq19) (As := [.int x1, .int 3, .int 1]) (S0 := []) rfl (by decide +kernel) k_Table_count l_Checker_172 (Nat.le_of_ble_eq_true rfl) (Nat.le_of_ble_eq_true rfl) (Nat.le_refl _) (Nat.le_refl _) ?_
          refine pm_blk (pc' := 114) (L' := [(0, .ref 43), (1, .int x1), (2, .int x2), (3, .int x3), (4, .int x4), (5, .int x5)]) (S' := [.int x4, .ref 18]) (M' := sm g q19) [pm_o (.aload_n 0), pm_of (.getfield 15) 2 1 2, pm_o (.iload 4)] (by decide +kernel) rfl ?_
          obtain ⟨q20, hq20, h⟩ := pm_bd h
          refine pm_cV (idx := 139) m_Tree_next (c_Tree_next l h0 D hT hq20) (As := [.int x4]) (S0 := []) rfl (by decide +kernel) k_Tree_next l_Checker_139 (Nat.le_of_ble_eq_true rfl) (Nat.le_of_ble_eq_true rfl) (Nat.le_refl _) (Nat.le_refl _) ?_
          refine pm_blk (pc' := 122) (L' := [(5, .int (x5 + 1)), (4, .int q20), (0, .ref 43), (1, .int x1), (2, .int x2), (3, .int x3)]) (S' := []) (M' := sm g q19) [pm_o (.istore 4), pm_oi (.iinc 5 1) 1] (by decide +kernel) rfl ?_
          refine pm_goto (off := -82) 40 (by decide +kernel) (by decide) ?_
          refine pm_loc [2, 3, 4, 5, 1, 0] rfl ?_
          exact ih x1 x2 x3 q20 (x5 + 1) q19 h
      · rw [if_neg hc14] at h
        refine pm_blk (pc' := 72) (L' := [(0, .ref 43), (1, .int x1), (2, .int x2), (3, .int x3), (4, .int x4), (5, .int x5)]) (S' := [.int 1, .int 5, .int x1, .ref 29]) (M' := sm g u) [pm_o (.aload_n 0), pm_of (.getfield 19) 2 2 2, pm_o (.iload_n 1), pm_oi (.iconst 5) 5, pm_oi (.iconst 1) 1] (by decide +kernel) rfl ?_
        obtain ⟨q21, hq21, h⟩ := pm_bd h
        refine pm_cV (idx := 172) m_Table_count (c_Table_count l h0 D hT hq21) (As := [.int x1, .int 5, .int 1]) (S0 := []) rfl (by decide +kernel) k_Table_count l_Checker_172 (Nat.le_of_ble_eq_true rfl) (Nat.le_of_ble_eq_true rfl) (Nat.le_refl _) (Nat.le_refl _) ?_
        refine pm_blk (pc' := 75) (L' := [(0, .ref 43), (1, .int x1), (2, .int x2), (3, .int x3), (4, .int x4), (5, .int x5)]) (S' := []) (M' := sm g q21) [] (by decide +kernel) rfl ?_
        refine pm_goto (off := 33) 108 (by decide +kernel) (by decide) ?_
        refine pm_blk (pc' := 114) (L' := [(0, .ref 43), (1, .int x1), (2, .int x2), (3, .int x3), (4, .int x4), (5, .int x5)]) (S' := [.int x4, .ref 18]) (M' := sm g q21) [pm_o (.aload_n 0), pm_of (.getfield 15) 2 1 2, pm_o (.iload 4)] (by decide +kernel) rfl ?_
        obtain ⟨q22, hq22, h⟩ := pm_bd h
        refine pm_cV (idx := 139) m_Tree_next (c_Tree_next l h0 D hT hq22) (As := [.int x4]) (S0 := []) rfl (by decide +kernel) k_Tree_next l_Checker_139 (Nat.le_of_ble_eq_true rfl) (Nat.le_of_ble_eq_true rfl) (Nat.le_refl _) (Nat.le_refl _) ?_
        refine pm_blk (pc' := 122) (L' := [(5, .int (x5 + 1)), (4, .int q22), (0, .ref 43), (1, .int x1), (2, .int x2), (3, .int x3)]) (S' := []) (M' := sm g q21) [pm_o (.istore 4), pm_oi (.iinc 5 1) 1] (by decide +kernel) rfl ?_
        refine pm_goto (off := -82) 40 (by decide +kernel) (by decide) ?_
        refine pm_loc [2, 3, 4, 5, 1, 0] rfl ?_
        exact ih x1 x2 x3 q22 (x5 + 1) q21 h
def F_Checker_countCall (N : Nat) (a1 : Int32) (a2 : Int32) (g : pm_s) (u : pm_J) : Option (pm_J) := (F_Tree_value a2 g u).bind fun q1 => (F_Tree_first a2 g u).bind fun q2 => (F_Tree_next q2 g u).bind fun q3 => (F_Table_count a1 2 1 g u).bind fun q4 => K_Checker_countCall_40 N g N a1 a2 q1.toInt32 q3 0 q4
set_option maxHeartbeats 4000000 in
set_option maxRecDepth 100000 in
theorem c_Checker_countCall (l : Launch) (h0 : Nat) (D : pm_D) {g : pm_s} {u : pm_J} (hT : sh_T g) {N : Nat} {a1 : Int32} {a2 : Int32} {out : pm_J} (h : F_Checker_countCall N a1 a2 g u = some out) : pm_C l h0 D m_Checker_countCall (2) [.ref 43, .int a1, .int a2] (sm g u) none (sm g out) := by
  unfold F_Checker_countCall at h
  refine pm_met (by decide +kernel) (Nat.le_of_ble_eq_true rfl) (Nat.le_refl _) (Nat.le_refl _) ?_
  intro p e R s m args below meth c
  refine pm_blk (pc' := 5) (L' := [(0, .ref 43), (1, .int a1), (2, .int a2)]) (S' := [.int a2, .ref 18]) (M' := sm g u) [pm_o (.aload_n 0), pm_of (.getfield 15) 2 1 2, pm_o (.iload_n 2)] (by decide +kernel) rfl ?_
  obtain ⟨q1, hq1, h⟩ := pm_bd h
  refine pm_cV (idx := 88) m_Tree_value (c_Tree_value l h0 D hT hq1) (As := [.int a2]) (S0 := []) rfl (by decide +kernel) k_Tree_value l_Checker_88 (Nat.le_of_ble_eq_true rfl) (Nat.le_of_ble_eq_true rfl) (Nat.le_refl _) (Nat.le_refl _) ?_
  refine pm_blk (pc' := 19) (L' := [(3, .int q1.toInt32), (0, .ref 43), (1, .int a1), (2, .int a2)]) (S' := [.int a2, .ref 18, .ref 18]) (M' := sm g u) [pm_o .l2i, pm_o (.istore_n 3), pm_o (.aload_n 0), pm_of (.getfield 15) 2 1 2, pm_o (.aload_n 0), pm_of (.getfield 15) 2 1 2, pm_o (.iload_n 2)] (by decide +kernel) rfl ?_
  obtain ⟨q2, hq2, h⟩ := pm_bd h
  refine pm_cV (idx := 106) m_Tree_first (c_Tree_first l h0 D hT hq2) (As := [.int a2]) (S0 := [.ref 18]) rfl (by decide +kernel) k_Tree_first l_Checker_106 (Nat.le_of_ble_eq_true rfl) (Nat.le_of_ble_eq_true rfl) (Nat.le_refl _) (Nat.le_refl _) ?_
  refine pm_blk (pc' := 22) (L' := [(3, .int q1.toInt32), (0, .ref 43), (1, .int a1), (2, .int a2)]) (S' := [.int q2, .ref 18]) (M' := sm g u) [] (by decide +kernel) rfl ?_
  obtain ⟨q3, hq3, h⟩ := pm_bd h
  refine pm_cV (idx := 139) m_Tree_next (c_Tree_next l h0 D hT hq3) (As := [.int q2]) (S0 := []) rfl (by decide +kernel) k_Tree_next l_Checker_139 (Nat.le_of_ble_eq_true rfl) (Nat.le_of_ble_eq_true rfl) (Nat.le_refl _) (Nat.le_refl _) ?_
  refine pm_blk (pc' := 34) (L' := [(4, .int q3), (3, .int q1.toInt32), (0, .ref 43), (1, .int a1), (2, .int a2)]) (S' := [.int 1, .int 2, .int a1, .ref 29]) (M' := sm g u) [pm_o (.istore 4), pm_o (.aload_n 0), pm_of (.getfield 19) 2 2 2, pm_o (.iload_n 1), pm_oi (.iconst 2) 2, pm_oi (.iconst 1) 1] (by decide +kernel) rfl ?_
  obtain ⟨q4, hq4, h⟩ := pm_bd h
  refine pm_cV (idx := 172) m_Table_count (c_Table_count l h0 D hT hq4) (As := [.int a1, .int 2, .int 1]) (S0 := []) rfl (by decide +kernel) k_Table_count l_Checker_172 (Nat.le_of_ble_eq_true rfl) (Nat.le_of_ble_eq_true rfl) (Nat.le_refl _) (Nat.le_refl _) ?_
  refine pm_blk (pc' := 40) (L' := [(5, .int 0), (4, .int q3), (3, .int q1.toInt32), (0, .ref 43), (1, .int a1), (2, .int a2)]) (S' := []) (M' := sm g q4) [pm_oi (.iconst 0) 0, pm_o (.istore 5)] (by decide +kernel) rfl ?_
  refine pm_loc [3, 4, 5, 2, 1, 0] rfl ?_
  exact w_Checker_countCall_40 l h0 D hT N a1 a2 q1.toInt32 q3 0 q4 h
def K_Checker_countAll_15 (N : Nat) (g : pm_s) (k4 : Int32 → Int32 → pm_J → Option (pm_J)) : Nat → Int32 → Int32 → pm_J → Option (pm_J)
  | 0, _, _, _ => none
  | n + 1, x1, x2, u => (F_Table_end x2 g u).bind fun q3 => if q3 ≤ x1 then k4 x1 (x2 + 1) u else (F_Tree_kind x1 g u).bind fun q5 => if q5 = 6 then (F_Table_count x2 2 1 g u).bind fun q10 => K_Checker_countAll_15 N g k4 n (x1 + 1) x2 q10 else (F_Tree_kind x1 g u).bind fun q7 => if q7 = 17 then (F_Checker_countCall N x2 x1 g u).bind fun q9 => K_Checker_countAll_15 N g k4 n (x1 + 1) x2 q9 else K_Checker_countAll_15 N g k4 n (x1 + 1) x2 u
set_option maxHeartbeats 4000000 in
set_option maxRecDepth 100000 in
theorem w_Checker_countAll_15 (l : Launch) (h0 : Nat) (D : pm_D) {g : pm_s} (hT : sh_T g) {N : Nat} {u0 : pm_J} {out : pm_J} {p : Program} {e : Env} {R : Room} {s : State} {m : MethodId} {args : Array Value} {below : List Frame} {meth : Method} {c : Code} {k4 : Int32 → Int32 → pm_J → Option (pm_J)} (hk4 : ∀ (x1 : Int32) (x2 : Int32) (u : pm_J), k4 x1 x2 u = some out → pm_V (p, l, e, R, s, m, args, below, meth, c) m_Checker_countAll h0 D (g.1, g.2.1, g.1, g.2.1, 3) (pm_E (p, l, e, R, s, m, args, below, meth, c) h0 D (sm g u0) none (sm g out)) 4 [(0, .ref 43), (1, .int x1), (2, .int x2)] [] (sm g u)) : ∀ (n : Nat) (x1 : Int32) (x2 : Int32) (u : pm_J), K_Checker_countAll_15 N g k4 n x1 x2 u = some out → pm_V (p, l, e, R, s, m, args, below, meth, c) m_Checker_countAll h0 D (g.1, g.2.1, g.1, g.2.1, 3) (pm_E (p, l, e, R, s, m, args, below, meth, c) h0 D (sm g u0) none (sm g out)) 15 [(0, .ref 43), (1, .int x1), (2, .int x2)] [] (sm g u) := by
  intro n
  induction n with
  | zero => intro x1 x2 u h; cases h
  | succ n ih =>
    intro x1 x2 u h
    rw [K_Checker_countAll_15] at h
    refine pm_blk (pc' := 21) (L' := [(0, .ref 43), (1, .int x1), (2, .int x2)]) (S' := [.int x2, .ref 29, .int x1]) (M' := sm g u) [pm_o (.iload_n 1), pm_o (.aload_n 0), pm_of (.getfield 19) 2 2 2, pm_o (.iload_n 2)] (by decide +kernel) rfl ?_
    obtain ⟨q3, hq3, h⟩ := pm_bd h
    refine pm_cV (idx := 43) m_Table_end (c_Table_end l h0 D hT hq3) (As := [.int x2]) (S0 := [.int x1]) rfl (by decide +kernel) k_Table_end l_Checker_43 (Nat.le_of_ble_eq_true rfl) (Nat.le_of_ble_eq_true rfl) (Nat.le_refl _) (Nat.le_refl _) ?_
    refine pm_blk (pc' := 24) (L' := [(0, .ref 43), (1, .int x1), (2, .int x2)]) (S' := [.int q3, .int x1]) (M' := sm g u) [] (by decide +kernel) rfl ?_
    refine pm_ic_ge (off := 54) 78 (by decide +kernel) (by decide) (fun hc4 => ?_) (fun hc4 => ?_)
    · rw [if_pos hc4] at h
      refine pm_blk (pc' := 81) (L' := [(2, .int (x2 + 1)), (0, .ref 43), (1, .int x1)]) (S' := []) (M' := sm g u) [pm_oi (.iinc 2 1) 1] (by decide +kernel) rfl ?_
      refine pm_goto (off := -77) 4 (by decide +kernel) (by decide) ?_
      refine pm_loc [1, 2, 0] rfl ?_
      exact hk4 x1 (x2 + 1) u h
    · rw [if_neg hc4] at h
      refine pm_blk (pc' := 32) (L' := [(0, .ref 43), (1, .int x1), (2, .int x2)]) (S' := [.int x1, .ref 18]) (M' := sm g u) [pm_o (.aload_n 0), pm_of (.getfield 15) 2 1 2, pm_o (.iload_n 1)] (by decide +kernel) rfl ?_
      obtain ⟨q5, hq5, h⟩ := pm_bd h
      refine pm_cV (idx := 70) m_Tree_kind (c_Tree_kind l h0 D hT hq5) (As := [.int x1]) (S0 := []) rfl (by decide +kernel) k_Tree_kind l_Checker_70 (Nat.le_of_ble_eq_true rfl) (Nat.le_of_ble_eq_true rfl) (Nat.le_refl _) (Nat.le_refl _) ?_
      refine pm_blk (pc' := 37) (L' := [(0, .ref 43), (1, .int x1), (2, .int x2)]) (S' := [.int 6, .int q5]) (M' := sm g u) [pm_oi (.bipush 6) 6] (by decide +kernel) rfl ?_
      refine pm_ic_ne (off := 16) 53 (by decide +kernel) (by decide) (fun hc6 => ?_) (fun hc6 => ?_)
      · rw [if_neg hc6] at h
        refine pm_blk (pc' := 58) (L' := [(0, .ref 43), (1, .int x1), (2, .int x2)]) (S' := [.int x1, .ref 18]) (M' := sm g u) [pm_o (.aload_n 0), pm_of (.getfield 15) 2 1 2, pm_o (.iload_n 1)] (by decide +kernel) rfl ?_
        obtain ⟨q7, hq7, h⟩ := pm_bd h
        refine pm_cV (idx := 70) m_Tree_kind (c_Tree_kind l h0 D hT hq7) (As := [.int x1]) (S0 := []) rfl (by decide +kernel) k_Tree_kind l_Checker_70 (Nat.le_of_ble_eq_true rfl) (Nat.le_of_ble_eq_true rfl) (Nat.le_refl _) (Nat.le_refl _) ?_
        refine pm_blk (pc' := 63) (L' := [(0, .ref 43), (1, .int x1), (2, .int x2)]) (S' := [.int 17, .int q7]) (M' := sm g u) [pm_oi (.bipush 17) 17] (by decide +kernel) rfl ?_
        refine pm_ic_ne (off := 9) 72 (by decide +kernel) (by decide) (fun hc8 => ?_) (fun hc8 => ?_)
        · rw [if_neg hc8] at h
          refine pm_blk (pc' := 75) (L' := [(1, .int (x1 + 1)), (0, .ref 43), (2, .int x2)]) (S' := []) (M' := sm g u) [pm_oi (.iinc 1 1) 1] (by decide +kernel) rfl ?_
          refine pm_goto (off := -60) 15 (by decide +kernel) (by decide) ?_
          refine pm_loc [1, 0, 2] rfl ?_
          exact ih (x1 + 1) x2 u h
        · rw [if_pos hc8] at h
          refine pm_blk (pc' := 69) (L' := [(0, .ref 43), (1, .int x1), (2, .int x2)]) (S' := [.int x1, .int x2, .ref 43]) (M' := sm g u) [pm_o (.aload_n 0), pm_o (.iload_n 2), pm_o (.iload_n 1)] (by decide +kernel) rfl ?_
          obtain ⟨q9, hq9, h⟩ := pm_bd h
          refine pm_cV (idx := 175) m_Checker_countCall (c_Checker_countCall l h0 D hT hq9) (As := [.int x2, .int x1]) (S0 := []) rfl (by decide +kernel) k_Checker_countCall l_Checker_175 (Nat.le_of_ble_eq_true rfl) (Nat.le_of_ble_eq_true rfl) (Nat.le_refl _) (Nat.le_refl _) ?_
          refine pm_blk (pc' := 75) (L' := [(1, .int (x1 + 1)), (0, .ref 43), (2, .int x2)]) (S' := []) (M' := sm g q9) [pm_oi (.iinc 1 1) 1] (by decide +kernel) rfl ?_
          refine pm_goto (off := -60) 15 (by decide +kernel) (by decide) ?_
          refine pm_loc [1, 0, 2] rfl ?_
          exact ih (x1 + 1) x2 q9 h
      · rw [if_pos hc6] at h
        refine pm_blk (pc' := 47) (L' := [(0, .ref 43), (1, .int x1), (2, .int x2)]) (S' := [.int 1, .int 2, .int x2, .ref 29]) (M' := sm g u) [pm_o (.aload_n 0), pm_of (.getfield 19) 2 2 2, pm_o (.iload_n 2), pm_oi (.iconst 2) 2, pm_oi (.iconst 1) 1] (by decide +kernel) rfl ?_
        obtain ⟨q10, hq10, h⟩ := pm_bd h
        refine pm_cV (idx := 172) m_Table_count (c_Table_count l h0 D hT hq10) (As := [.int x2, .int 2, .int 1]) (S0 := []) rfl (by decide +kernel) k_Table_count l_Checker_172 (Nat.le_of_ble_eq_true rfl) (Nat.le_of_ble_eq_true rfl) (Nat.le_refl _) (Nat.le_refl _) ?_
        refine pm_blk (pc' := 50) (L' := [(0, .ref 43), (1, .int x1), (2, .int x2)]) (S' := []) (M' := sm g q10) [] (by decide +kernel) rfl ?_
        refine pm_goto (off := 22) 72 (by decide +kernel) (by decide) ?_
        refine pm_blk (pc' := 75) (L' := [(1, .int (x1 + 1)), (0, .ref 43), (2, .int x2)]) (S' := []) (M' := sm g q10) [pm_oi (.iinc 1 1) 1] (by decide +kernel) rfl ?_
        refine pm_goto (off := -60) 15 (by decide +kernel) (by decide) ?_
        refine pm_loc [1, 0, 2] rfl ?_
        exact ih (x1 + 1) x2 q10 h
def K_Checker_countAll_4 (N : Nat) (g : pm_s) : Nat → Int32 → Int32 → pm_J → Option (pm_J)
  | 0, _, _, _ => none
  | n + 1, x1, x2, u => (F_Table_size g u).bind fun q1 => if q1 ≤ x2 then some u else K_Checker_countAll_15 N g (K_Checker_countAll_4 N g  n) N x1 x2 u
set_option maxHeartbeats 4000000 in
set_option maxRecDepth 100000 in
theorem w_Checker_countAll_4 (l : Launch) (h0 : Nat) (D : pm_D) {g : pm_s} (hT : sh_T g) {N : Nat} {u0 : pm_J} {out : pm_J} {p : Program} {e : Env} {R : Room} {s : State} {m : MethodId} {args : Array Value} {below : List Frame} {meth : Method} {c : Code} : ∀ (n : Nat) (x1 : Int32) (x2 : Int32) (u : pm_J), K_Checker_countAll_4 N g n x1 x2 u = some out → pm_V (p, l, e, R, s, m, args, below, meth, c) m_Checker_countAll h0 D (g.1, g.2.1, g.1, g.2.1, 3) (pm_E (p, l, e, R, s, m, args, below, meth, c) h0 D (sm g u0) none (sm g out)) 4 [(0, .ref 43), (1, .int x1), (2, .int x2)] [] (sm g u) := by
  intro n
  induction n with
  | zero => intro x1 x2 u h; cases h
  | succ n ih =>
    intro x1 x2 u h
    rw [K_Checker_countAll_4] at h
    refine pm_blk (pc' := 9) (L' := [(0, .ref 43), (1, .int x1), (2, .int x2)]) (S' := [.ref 29, .int x2]) (M' := sm g u) [pm_o (.iload_n 2), pm_o (.aload_n 0), pm_of (.getfield 19) 2 2 2] (by decide +kernel) rfl ?_
    obtain ⟨q1, hq1, h⟩ := pm_bd h
    refine pm_cV (idx := 27) m_Table_size (c_Table_size l h0 D hT hq1) (As := []) (S0 := [.int x2]) rfl (by decide +kernel) k_Table_size l_Checker_27 (Nat.le_of_ble_eq_true rfl) (Nat.le_of_ble_eq_true rfl) (Nat.le_refl _) (Nat.le_refl _) ?_
    refine pm_blk (pc' := 12) (L' := [(0, .ref 43), (1, .int x1), (2, .int x2)]) (S' := [.int q1, .int x2]) (M' := sm g u) [] (by decide +kernel) rfl ?_
    refine pm_ic_ge (off := 72) 84 (by decide +kernel) (by decide) (fun hc2 => ?_) (fun hc2 => ?_)
    · rw [if_pos hc2] at h
      have h9 := Option.some.inj h
      subst h9
      exact pm_retv rfl (by decide +kernel) rfl rfl
    · rw [if_neg hc2] at h
      refine pm_loc [0, 1, 2] rfl ?_
      exact w_Checker_countAll_15 l h0 D hT ih N x1 x2 u h
def F_Checker_countAll (N : Nat) (g : pm_s) (u : pm_J) : Option (pm_J) := K_Checker_countAll_4 N g N 0 0 u
set_option maxHeartbeats 4000000 in
set_option maxRecDepth 100000 in
theorem c_Checker_countAll (l : Launch) (h0 : Nat) (D : pm_D) {g : pm_s} {u : pm_J} (hT : sh_T g) {N : Nat} {out : pm_J} (h : F_Checker_countAll N g u = some out) : pm_C l h0 D m_Checker_countAll (3) [.ref 43] (sm g u) none (sm g out) := by
  unfold F_Checker_countAll at h
  refine pm_met (by decide +kernel) (Nat.le_of_ble_eq_true rfl) (Nat.le_refl _) (Nat.le_refl _) ?_
  intro p e R s m args below meth c
  refine pm_blk (pc' := 4) (L' := [(2, .int 0), (1, .int 0), (0, .ref 43)]) (S' := []) (M' := sm g u) [pm_oi (.iconst 0) 0, pm_o (.istore_n 1), pm_oi (.iconst 0) 0, pm_o (.istore_n 2)] (by decide +kernel) rfl ?_
  refine pm_loc [2, 1, 0] rfl ?_
  exact w_Checker_countAll_4 l h0 D hT N 0 0 u h
def F_Checker_resolve (N : Nat) (a1 : Int32) (g : pm_s) (u : pm_J) : Option (pm_J) := (F_Tree_value a1 g u).bind fun q1 => (F_Table_find N q1 g u).bind fun q2 => if q2 = (-1) then (F_Tree_placeOf a1 g u).bind fun q15 => (F_Fault_tell_3 6 q15 g u).bind fun q16 => (F_Tree_setValue a1 q2.toInt64 g q16).bind fun q17 => some q17 else (F_Table_parameters q2 g u).bind fun q4 => if q4 = 0 then (F_Tree_turnInto a1 6 g u).bind fun q13 => (F_Tree_setValue a1 q2.toInt64 g q13).bind fun q14 => some q14 else (F_Tree_kind a1 g u).bind fun q6 => if q6 = 4 then (F_Tree_turnInto a1 5 g u).bind fun q11 => (F_Tree_setValue a1 q2.toInt64 g q11).bind fun q12 => some q12 else (F_Tree_placeOf a1 g u).bind fun q8 => (F_Fault_tell_3 7 q8 g u).bind fun q9 => (F_Tree_setValue a1 q2.toInt64 g q9).bind fun q10 => some q10
set_option maxHeartbeats 4000000 in
set_option maxRecDepth 100000 in
theorem c_Checker_resolve (l : Launch) (h0 : Nat) (D : pm_D) {g : pm_s} {u : pm_J} (hT : sh_T g) {N : Nat} {a1 : Int32} {out : pm_J} (h : F_Checker_resolve N a1 g u = some out) : pm_C l h0 D m_Checker_resolve (1) [.ref 43, .int a1] (sm g u) none (sm g out) := by
  unfold F_Checker_resolve at h
  refine pm_met (by decide +kernel) (Nat.le_of_ble_eq_true rfl) (Nat.le_refl _) (Nat.le_refl _) ?_
  intro p e R s m args below meth c
  refine pm_blk (pc' := 9) (L' := [(0, .ref 43), (1, .int a1)]) (S' := [.int a1, .ref 18, .ref 29]) (M' := sm g u) [pm_o (.aload_n 0), pm_of (.getfield 19) 2 2 2, pm_o (.aload_n 0), pm_of (.getfield 15) 2 1 2, pm_o (.iload_n 1)] (by decide +kernel) rfl ?_
  obtain ⟨q1, hq1, h⟩ := pm_bd h
  refine pm_cV (idx := 88) m_Tree_value (c_Tree_value l h0 D hT hq1) (As := [.int a1]) (S0 := [.ref 29]) rfl (by decide +kernel) k_Tree_value l_Checker_88 (Nat.le_of_ble_eq_true rfl) (Nat.le_of_ble_eq_true rfl) (Nat.le_refl _) (Nat.le_refl _) ?_
  refine pm_blk (pc' := 12) (L' := [(0, .ref 43), (1, .int a1)]) (S' := [.long q1, .ref 29]) (M' := sm g u) [] (by decide +kernel) rfl ?_
  obtain ⟨q2, hq2, h⟩ := pm_bd h
  refine pm_cV (idx := 92) m_Table_find (c_Table_find l h0 D hT hq2) (As := [.long q1]) (S0 := []) rfl (by decide +kernel) k_Table_find l_Checker_92 (Nat.le_of_ble_eq_true rfl) (Nat.le_of_ble_eq_true rfl) (Nat.le_refl _) (Nat.le_refl _) ?_
  refine pm_blk (pc' := 18) (L' := [(2, .int q2), (0, .ref 43), (1, .int a1)]) (S' := [.int (-1), .int q2]) (M' := sm g u) [pm_o (.istore_n 2), pm_o (.iload_n 2), pm_oi (.iconst (-1)) (-1)] (by decide +kernel) rfl ?_
  refine pm_ic_ne (off := 23) 41 (by decide +kernel) (by decide) (fun hc3 => ?_) (fun hc3 => ?_)
  · rw [if_neg hc3] at h
    refine pm_blk (pc' := 46) (L' := [(2, .int q2), (0, .ref 43), (1, .int a1)]) (S' := [.int q2, .ref 29]) (M' := sm g u) [pm_o (.aload_n 0), pm_of (.getfield 19) 2 2 2, pm_o (.iload_n 2)] (by decide +kernel) rfl ?_
    obtain ⟨q4, hq4, h⟩ := pm_bd h
    refine pm_cV (idx := 96) m_Table_parameters (c_Table_parameters l h0 D hT hq4) (As := [.int q2]) (S0 := []) rfl (by decide +kernel) k_Table_parameters l_Checker_96 (Nat.le_of_ble_eq_true rfl) (Nat.le_of_ble_eq_true rfl) (Nat.le_refl _) (Nat.le_refl _) ?_
    refine pm_blk (pc' := 49) (L' := [(2, .int q2), (0, .ref 43), (1, .int a1)]) (S' := [.int q4]) (M' := sm g u) [] (by decide +kernel) rfl ?_
    refine pm_if_ne (off := 16) 65 (by decide +kernel) (by decide) (fun hc5 => ?_) (fun hc5 => ?_)
    · rw [if_neg hc5] at h
      refine pm_blk (pc' := 70) (L' := [(2, .int q2), (0, .ref 43), (1, .int a1)]) (S' := [.int a1, .ref 18]) (M' := sm g u) [pm_o (.aload_n 0), pm_of (.getfield 15) 2 1 2, pm_o (.iload_n 1)] (by decide +kernel) rfl ?_
      obtain ⟨q6, hq6, h⟩ := pm_bd h
      refine pm_cV (idx := 70) m_Tree_kind (c_Tree_kind l h0 D hT hq6) (As := [.int a1]) (S0 := []) rfl (by decide +kernel) k_Tree_kind l_Checker_70 (Nat.le_of_ble_eq_true rfl) (Nat.le_of_ble_eq_true rfl) (Nat.le_refl _) (Nat.le_refl _) ?_
      refine pm_blk (pc' := 74) (L' := [(2, .int q2), (0, .ref 43), (1, .int a1)]) (S' := [.int 4, .int q6]) (M' := sm g u) [pm_oi (.iconst 4) 4] (by decide +kernel) rfl ?_
      refine pm_ic_ne (off := 15) 89 (by decide +kernel) (by decide) (fun hc7 => ?_) (fun hc7 => ?_)
      · rw [if_neg hc7] at h
        refine pm_blk (pc' := 100) (L' := [(2, .int q2), (0, .ref 43), (1, .int a1)]) (S' := [.int a1, .ref 18, .int 7, .ref 3]) (M' := sm g u) [pm_o (.aload_n 0), pm_of (.getfield 23) 2 3 2, pm_oi (.bipush 7) 7, pm_o (.aload_n 0), pm_of (.getfield 15) 2 1 2, pm_o (.iload_n 1)] (by decide +kernel) rfl ?_
        obtain ⟨q8, hq8, h⟩ := pm_bd h
        refine pm_cV (idx := 84) m_Tree_placeOf (c_Tree_placeOf l h0 D hT hq8) (As := [.int a1]) (S0 := [.int 7, .ref 3]) rfl (by decide +kernel) k_Tree_placeOf l_Checker_84 (Nat.le_of_ble_eq_true rfl) (Nat.le_of_ble_eq_true rfl) (Nat.le_refl _) (Nat.le_refl _) ?_
        refine pm_blk (pc' := 103) (L' := [(2, .int q2), (0, .ref 43), (1, .int a1)]) (S' := [.int q8, .int 7, .ref 3]) (M' := sm g u) [] (by decide +kernel) rfl ?_
        obtain ⟨q9, hq9, h⟩ := pm_bd h
        refine pm_cV (idx := 63) m_Fault_tell (c_Fault_tell_3 l h0 D hT hq9) (As := [.int 7, .int q8]) (S0 := []) rfl (by decide +kernel) k_Fault_tell l_Checker_63 (Nat.le_of_ble_eq_true rfl) (Nat.le_of_ble_eq_true rfl) (Nat.le_refl _) (Nat.le_refl _) ?_
        refine pm_blk (pc' := 113) (L' := [(2, .int q2), (0, .ref 43), (1, .int a1)]) (S' := [.long q2.toInt64, .int a1, .ref 18]) (M' := sm g q9) [pm_o (.aload_n 0), pm_of (.getfield 15) 2 1 2, pm_o (.iload_n 1), pm_o (.iload_n 2), pm_o .i2l] (by decide +kernel) rfl ?_
        obtain ⟨q10, hq10, h⟩ := pm_bd h
        refine pm_cV (idx := 102) m_Tree_setValue (c_Tree_setValue l h0 D hT hq10) (As := [.int a1, .long q2.toInt64]) (S0 := []) rfl (by decide +kernel) k_Tree_setValue l_Checker_102 (Nat.le_of_ble_eq_true rfl) (Nat.le_of_ble_eq_true rfl) (Nat.le_refl _) (Nat.le_refl _) ?_
        refine pm_blk (pc' := 116) (L' := [(2, .int q2), (0, .ref 43), (1, .int a1)]) (S' := []) (M' := sm g q10) [] (by decide +kernel) rfl ?_
        have h9 := Option.some.inj h
        subst h9
        exact pm_retv rfl (by decide +kernel) rfl rfl
      · rw [if_pos hc7] at h
        refine pm_blk (pc' := 83) (L' := [(2, .int q2), (0, .ref 43), (1, .int a1)]) (S' := [.int 5, .int a1, .ref 18]) (M' := sm g u) [pm_o (.aload_n 0), pm_of (.getfield 15) 2 1 2, pm_o (.iload_n 1), pm_oi (.iconst 5) 5] (by decide +kernel) rfl ?_
        obtain ⟨q11, hq11, h⟩ := pm_bd h
        refine pm_cV (idx := 99) m_Tree_turnInto (c_Tree_turnInto l h0 D hT hq11) (As := [.int a1, .int 5]) (S0 := []) rfl (by decide +kernel) k_Tree_turnInto l_Checker_99 (Nat.le_of_ble_eq_true rfl) (Nat.le_of_ble_eq_true rfl) (Nat.le_refl _) (Nat.le_refl _) ?_
        refine pm_blk (pc' := 86) (L' := [(2, .int q2), (0, .ref 43), (1, .int a1)]) (S' := []) (M' := sm g q11) [] (by decide +kernel) rfl ?_
        refine pm_goto (off := 20) 106 (by decide +kernel) (by decide) ?_
        refine pm_blk (pc' := 113) (L' := [(2, .int q2), (0, .ref 43), (1, .int a1)]) (S' := [.long q2.toInt64, .int a1, .ref 18]) (M' := sm g q11) [pm_o (.aload_n 0), pm_of (.getfield 15) 2 1 2, pm_o (.iload_n 1), pm_o (.iload_n 2), pm_o .i2l] (by decide +kernel) rfl ?_
        obtain ⟨q12, hq12, h⟩ := pm_bd h
        refine pm_cV (idx := 102) m_Tree_setValue (c_Tree_setValue l h0 D hT hq12) (As := [.int a1, .long q2.toInt64]) (S0 := []) rfl (by decide +kernel) k_Tree_setValue l_Checker_102 (Nat.le_of_ble_eq_true rfl) (Nat.le_of_ble_eq_true rfl) (Nat.le_refl _) (Nat.le_refl _) ?_
        refine pm_blk (pc' := 116) (L' := [(2, .int q2), (0, .ref 43), (1, .int a1)]) (S' := []) (M' := sm g q12) [] (by decide +kernel) rfl ?_
        have h9 := Option.some.inj h
        subst h9
        exact pm_retv rfl (by decide +kernel) rfl rfl
    · rw [if_pos hc5] at h
      refine pm_blk (pc' := 59) (L' := [(2, .int q2), (0, .ref 43), (1, .int a1)]) (S' := [.int 6, .int a1, .ref 18]) (M' := sm g u) [pm_o (.aload_n 0), pm_of (.getfield 15) 2 1 2, pm_o (.iload_n 1), pm_oi (.bipush 6) 6] (by decide +kernel) rfl ?_
      obtain ⟨q13, hq13, h⟩ := pm_bd h
      refine pm_cV (idx := 99) m_Tree_turnInto (c_Tree_turnInto l h0 D hT hq13) (As := [.int a1, .int 6]) (S0 := []) rfl (by decide +kernel) k_Tree_turnInto l_Checker_99 (Nat.le_of_ble_eq_true rfl) (Nat.le_of_ble_eq_true rfl) (Nat.le_refl _) (Nat.le_refl _) ?_
      refine pm_blk (pc' := 62) (L' := [(2, .int q2), (0, .ref 43), (1, .int a1)]) (S' := []) (M' := sm g q13) [] (by decide +kernel) rfl ?_
      refine pm_goto (off := 44) 106 (by decide +kernel) (by decide) ?_
      refine pm_blk (pc' := 113) (L' := [(2, .int q2), (0, .ref 43), (1, .int a1)]) (S' := [.long q2.toInt64, .int a1, .ref 18]) (M' := sm g q13) [pm_o (.aload_n 0), pm_of (.getfield 15) 2 1 2, pm_o (.iload_n 1), pm_o (.iload_n 2), pm_o .i2l] (by decide +kernel) rfl ?_
      obtain ⟨q14, hq14, h⟩ := pm_bd h
      refine pm_cV (idx := 102) m_Tree_setValue (c_Tree_setValue l h0 D hT hq14) (As := [.int a1, .long q2.toInt64]) (S0 := []) rfl (by decide +kernel) k_Tree_setValue l_Checker_102 (Nat.le_of_ble_eq_true rfl) (Nat.le_of_ble_eq_true rfl) (Nat.le_refl _) (Nat.le_refl _) ?_
      refine pm_blk (pc' := 116) (L' := [(2, .int q2), (0, .ref 43), (1, .int a1)]) (S' := []) (M' := sm g q14) [] (by decide +kernel) rfl ?_
      have h9 := Option.some.inj h
      subst h9
      exact pm_retv rfl (by decide +kernel) rfl rfl
  · rw [if_pos hc3] at h
    refine pm_blk (pc' := 32) (L' := [(2, .int q2), (0, .ref 43), (1, .int a1)]) (S' := [.int a1, .ref 18, .int 6, .ref 3]) (M' := sm g u) [pm_o (.aload_n 0), pm_of (.getfield 23) 2 3 2, pm_oi (.bipush 6) 6, pm_o (.aload_n 0), pm_of (.getfield 15) 2 1 2, pm_o (.iload_n 1)] (by decide +kernel) rfl ?_
    obtain ⟨q15, hq15, h⟩ := pm_bd h
    refine pm_cV (idx := 84) m_Tree_placeOf (c_Tree_placeOf l h0 D hT hq15) (As := [.int a1]) (S0 := [.int 6, .ref 3]) rfl (by decide +kernel) k_Tree_placeOf l_Checker_84 (Nat.le_of_ble_eq_true rfl) (Nat.le_of_ble_eq_true rfl) (Nat.le_refl _) (Nat.le_refl _) ?_
    refine pm_blk (pc' := 35) (L' := [(2, .int q2), (0, .ref 43), (1, .int a1)]) (S' := [.int q15, .int 6, .ref 3]) (M' := sm g u) [] (by decide +kernel) rfl ?_
    obtain ⟨q16, hq16, h⟩ := pm_bd h
    refine pm_cV (idx := 63) m_Fault_tell (c_Fault_tell_3 l h0 D hT hq16) (As := [.int 6, .int q15]) (S0 := []) rfl (by decide +kernel) k_Fault_tell l_Checker_63 (Nat.le_of_ble_eq_true rfl) (Nat.le_of_ble_eq_true rfl) (Nat.le_refl _) (Nat.le_refl _) ?_
    refine pm_blk (pc' := 38) (L' := [(2, .int q2), (0, .ref 43), (1, .int a1)]) (S' := []) (M' := sm g q16) [] (by decide +kernel) rfl ?_
    refine pm_goto (off := 68) 106 (by decide +kernel) (by decide) ?_
    refine pm_blk (pc' := 113) (L' := [(2, .int q2), (0, .ref 43), (1, .int a1)]) (S' := [.long q2.toInt64, .int a1, .ref 18]) (M' := sm g q16) [pm_o (.aload_n 0), pm_of (.getfield 15) 2 1 2, pm_o (.iload_n 1), pm_o (.iload_n 2), pm_o .i2l] (by decide +kernel) rfl ?_
    obtain ⟨q17, hq17, h⟩ := pm_bd h
    refine pm_cV (idx := 102) m_Tree_setValue (c_Tree_setValue l h0 D hT hq17) (As := [.int a1, .long q2.toInt64]) (S0 := []) rfl (by decide +kernel) k_Tree_setValue l_Checker_102 (Nat.le_of_ble_eq_true rfl) (Nat.le_of_ble_eq_true rfl) (Nat.le_refl _) (Nat.le_refl _) ?_
    refine pm_blk (pc' := 116) (L' := [(2, .int q2), (0, .ref 43), (1, .int a1)]) (S' := []) (M' := sm g q17) [] (by decide +kernel) rfl ?_
    have h9 := Option.some.inj h
    subst h9
    exact pm_retv rfl (by decide +kernel) rfl rfl
def F_Checker_typeOfLocal (a1 : Int32) (g : pm_s) (u : pm_J) : Option (Int32) := (F_Table_localBound (u.1 43 4) a1 g u).bind fun q1 => if q1 = (-1) then (F_Table_localType (u.1 43 4) a1 g u).bind fun q4 => some q4 else (F_Tree_type q1 g u).bind fun q3 => some q3
set_option maxHeartbeats 4000000 in
set_option maxRecDepth 100000 in
theorem c_Checker_typeOfLocal (l : Launch) (h0 : Nat) (D : pm_D) {g : pm_s} {u : pm_J} (hT : sh_T g) {a1 : Int32} {out : Int32} (h : F_Checker_typeOfLocal a1 g u = some out) : pm_C l h0 D m_Checker_typeOfLocal (2) [.ref 43, .int a1] (sm g u) (some (.int out)) (sm g u) := by
  unfold F_Checker_typeOfLocal at h
  refine pm_met (by decide +kernel) (Nat.le_of_ble_eq_true rfl) (Nat.le_refl _) (Nat.le_refl _) ?_
  intro p e R s m args below meth c
  refine pm_blk (pc' := 9) (L' := [(0, .ref 43), (1, .int a1)]) (S' := [.int a1, .int (u.1 43 4), .ref 29]) (M' := sm g u) [pm_o (.aload_n 0), pm_of (.getfield 19) 2 2 2, pm_o (.aload_n 0), pm_of (.getfield 39) 2 4 0, pm_o (.iload_n 1)] (by decide +kernel) rfl ?_
  obtain ⟨q1, hq1, h⟩ := pm_bd h
  refine pm_cV (idx := 132) m_Table_localBound (c_Table_localBound l h0 D hT hq1) (As := [.int (u.1 43 4), .int a1]) (S0 := []) rfl (by decide +kernel) k_Table_localBound l_Checker_132 (Nat.le_of_ble_eq_true rfl) (Nat.le_of_ble_eq_true rfl) (Nat.le_refl _) (Nat.le_refl _) ?_
  refine pm_blk (pc' := 15) (L' := [(2, .int q1), (0, .ref 43), (1, .int a1)]) (S' := [.int (-1), .int q1]) (M' := sm g u) [pm_o (.istore_n 2), pm_o (.iload_n 2), pm_oi (.iconst (-1)) (-1)] (by decide +kernel) rfl ?_
  refine pm_ic_ne (off := 18) 33 (by decide +kernel) (by decide) (fun hc2 => ?_) (fun hc2 => ?_)
  · rw [if_neg hc2] at h
    refine pm_blk (pc' := 38) (L' := [(2, .int q1), (0, .ref 43), (1, .int a1)]) (S' := [.int q1, .ref 18]) (M' := sm g u) [pm_o (.aload_n 0), pm_of (.getfield 15) 2 1 2, pm_o (.iload_n 2)] (by decide +kernel) rfl ?_
    obtain ⟨q3, hq3, h⟩ := pm_bd h
    refine pm_cV (idx := 54) m_Tree_type (c_Tree_type l h0 D hT hq3) (As := [.int q1]) (S0 := []) rfl (by decide +kernel) k_Tree_type l_Checker_54 (Nat.le_of_ble_eq_true rfl) (Nat.le_of_ble_eq_true rfl) (Nat.le_refl _) (Nat.le_refl _) ?_
    refine pm_blk (pc' := 41) (L' := [(2, .int q1), (0, .ref 43), (1, .int a1)]) (S' := [.int q3]) (M' := sm g u) [] (by decide +kernel) rfl ?_
    have h9 := Option.some.inj h
    subst h9
    exact pm_reti rfl (by decide +kernel) rfl rfl rfl
  · rw [if_pos hc2] at h
    refine pm_blk (pc' := 27) (L' := [(2, .int q1), (0, .ref 43), (1, .int a1)]) (S' := [.int a1, .int (u.1 43 4), .ref 29]) (M' := sm g u) [pm_o (.aload_n 0), pm_of (.getfield 19) 2 2 2, pm_o (.aload_n 0), pm_of (.getfield 39) 2 4 0, pm_o (.iload_n 1)] (by decide +kernel) rfl ?_
    obtain ⟨q4, hq4, h⟩ := pm_bd h
    refine pm_cV (idx := 136) m_Table_localType (c_Table_localType l h0 D hT hq4) (As := [.int (u.1 43 4), .int a1]) (S0 := []) rfl (by decide +kernel) k_Table_localType l_Checker_136 (Nat.le_of_ble_eq_true rfl) (Nat.le_of_ble_eq_true rfl) (Nat.le_refl _) (Nat.le_refl _) ?_
    refine pm_blk (pc' := 30) (L' := [(2, .int q1), (0, .ref 43), (1, .int a1)]) (S' := [.int q4]) (M' := sm g u) [] (by decide +kernel) rfl ?_
    refine pm_goto (off := 11) 41 (by decide +kernel) (by decide) ?_
    have h9 := Option.some.inj h
    subst h9
    exact pm_reti rfl (by decide +kernel) rfl rfl rfl
def K_Checker_fit_83 (N : Nat) (r_Checker_fit : Int32 → Int32 → Int32 → Int32 → pm_s → pm_J → Option (Int32 × pm_J)) (g : pm_s) (x2 : Int32) (x3 : Int32) (x5 : Int32) (u : pm_J) : Option (Int32 × pm_J) := (F_Tree_fit x3 x5 g u).bind fun q21 => if q21 = x2 then some (1, u) else some (0, u)
set_option maxHeartbeats 4000000 in
set_option maxRecDepth 100000 in
theorem w_Checker_fit_83 (l : Launch) (h0 : Nat) (D : pm_D) {g : pm_s} (hT : sh_T g) {N : Nat} {r_Checker_fit : Int32 → Int32 → Int32 → Int32 → pm_s → pm_J → Option (Int32 × pm_J)} {dR_Checker_fit : Nat} (hdR_Checker_fit : 1 ≤ dR_Checker_fit) (hr_Checker_fit : ∀ {a1 : Int32} {a2 : Int32} {a3 : Int32} {a4 : Int32} {g : pm_s} {u : pm_J} {out : Int32 × pm_J}, sh_T g → r_Checker_fit a1 a2 a3 a4 g u = some out → pm_C l h0 D m_Checker_fit dR_Checker_fit [.ref 43, .int a1, .int a2, .int a3, .int a4] (sm g u) (some (.int out.1)) (sm g out.2)) {u0 : pm_J} {out : Int32 × pm_J} {p : Program} {e : Env} {R : Room} {s : State} {m : MethodId} {args : Array Value} {below : List Frame} {meth : Method} {c : Code} : ∀ (x2 : Int32) (x3 : Int32) (x5 : Int32) (u : pm_J), K_Checker_fit_83 N r_Checker_fit g x2 x3 x5 u = some out → pm_V (p, l, e, R, s, m, args, below, meth, c) m_Checker_fit h0 D (g.1, g.2.1, g.1, g.2.1, dR_Checker_fit + 1) (pm_E (p, l, e, R, s, m, args, below, meth, c) h0 D (sm g u0) (some (.int out.1)) (sm g out.2)) 83 [(0, .ref 43), (2, .int x2), (3, .int x3), (5, .int x5)] [] (sm g u) := by
    intro x2 x3 x5 u h
    unfold K_Checker_fit_83 at h
    refine pm_blk (pc' := 90) (L' := [(0, .ref 43), (2, .int x2), (3, .int x3), (5, .int x5)]) (S' := [.int x5, .int x3, .ref 18]) (M' := sm g u) [pm_o (.aload_n 0), pm_of (.getfield 15) 2 1 2, pm_o (.iload_n 3), pm_o (.iload 5)] (by decide +kernel) rfl ?_
    obtain ⟨q21, hq21, h⟩ := pm_bd h
    refine pm_cV (idx := 166) m_Tree_fit (c_Tree_fit l h0 D hT hq21) (As := [.int x3, .int x5]) (S0 := []) rfl (by decide +kernel) k_Tree_fit l_Checker_166 (show 0 + 1 ≤ dR_Checker_fit + 1 by omega) (Nat.le_of_ble_eq_true rfl) (Nat.le_refl _) (Nat.le_refl _) ?_
    refine pm_blk (pc' := 94) (L' := [(0, .ref 43), (2, .int x2), (3, .int x3), (5, .int x5)]) (S' := [.int x2, .int q21]) (M' := sm g u) [pm_o (.iload_n 2)] (by decide +kernel) rfl ?_
    refine pm_ic_ne (off := 7) 101 (by decide +kernel) (by decide) (fun hc22 => ?_) (fun hc22 => ?_)
    · rw [if_neg hc22] at h
      refine pm_blk (pc' := 102) (L' := [(0, .ref 43), (2, .int x2), (3, .int x3), (5, .int x5)]) (S' := [.int 0]) (M' := sm g u) [pm_oi (.iconst 0) 0] (by decide +kernel) rfl ?_
      have h9 := Option.some.inj h
      subst h9
      exact pm_retz rfl (by decide +kernel) rfl rfl rfl rfl
    · rw [if_pos hc22] at h
      refine pm_blk (pc' := 98) (L' := [(0, .ref 43), (2, .int x2), (3, .int x3), (5, .int x5)]) (S' := [.int 1]) (M' := sm g u) [pm_oi (.iconst 1) 1] (by decide +kernel) rfl ?_
      refine pm_goto (off := 4) 102 (by decide +kernel) (by decide) ?_
      have h9 := Option.some.inj h
      subst h9
      exact pm_retz rfl (by decide +kernel) rfl rfl rfl rfl
def FO_Checker_fit (N : Nat) (r_Checker_fit : Int32 → Int32 → Int32 → Int32 → pm_s → pm_J → Option (Int32 × pm_J)) (a1 : Int32) (a2 : Int32) (a3 : Int32) (a4 : Int32) (g : pm_s) (u : pm_J) : Option (Int32 × pm_J) := if 101 < a4 then some (0, u) else if a2 = (-1) then some (0, u) else (F_Types_letters a1 g u).bind fun q3 => if q3 = 0 then if a1 = a2 then some (1, u) else some (0, u) else (F_Types_kind a1 g u).bind fun q5 => if q5 = 2 then (F_Types_letterNumber a1 g u).bind fun q18 => (F_Tree_fit a3 q18 g u).bind fun q19 => if q19 = (-1) then (F_Tree_setFit a3 q18 a2 g u).bind fun q23 => K_Checker_fit_83 N r_Checker_fit g a2 a3 q18 q23 else K_Checker_fit_83 N r_Checker_fit g a2 a3 q18 u else (F_Types_kind a1 g u).bind fun q7 => (F_Types_kind a2 g u).bind fun q8 => if q7 = q8 then (F_Types_left a1 g u).bind fun q10 => (F_Types_left a2 g u).bind fun q11 => (r_Checker_fit q10 q11 a3 (a4 + 1) g u).bind fun q12 => if q12.1 = 0 then some (0, q12.2) else (F_Types_right a1 g q12.2).bind fun q14 => (F_Types_right a2 g q12.2).bind fun q15 => (r_Checker_fit q14 q15 a3 (a4 + 1) g q12.2).bind fun q16 => if q16.1 = 0 then some (0, q16.2) else some (1, q16.2) else some (0, u)
set_option maxHeartbeats 4000000 in
set_option maxRecDepth 100000 in
theorem co_Checker_fit (l : Launch) (h0 : Nat) (D : pm_D) {g : pm_s} {u : pm_J} (hT : sh_T g) {N : Nat} {r_Checker_fit : Int32 → Int32 → Int32 → Int32 → pm_s → pm_J → Option (Int32 × pm_J)} {dR_Checker_fit : Nat} (hdR_Checker_fit : 1 ≤ dR_Checker_fit) (hr_Checker_fit : ∀ {a1 : Int32} {a2 : Int32} {a3 : Int32} {a4 : Int32} {g : pm_s} {u : pm_J} {out : Int32 × pm_J}, sh_T g → r_Checker_fit a1 a2 a3 a4 g u = some out → pm_C l h0 D m_Checker_fit dR_Checker_fit [.ref 43, .int a1, .int a2, .int a3, .int a4] (sm g u) (some (.int out.1)) (sm g out.2)) {a1 : Int32} {a2 : Int32} {a3 : Int32} {a4 : Int32} {out : Int32 × pm_J} (h : FO_Checker_fit N r_Checker_fit a1 a2 a3 a4 g u = some out) : pm_C l h0 D m_Checker_fit (dR_Checker_fit + 1) [.ref 43, .int a1, .int a2, .int a3, .int a4] (sm g u) (some (.int out.1)) (sm g out.2) := by
  unfold FO_Checker_fit at h
  refine pm_met (by decide +kernel) (Nat.le_of_ble_eq_true rfl) (Nat.le_refl _) (Nat.le_refl _) ?_
  intro p e R s m args below meth c
  refine pm_blk (pc' := 4) (L' := [(0, .ref 43), (1, .int a1), (2, .int a2), (3, .int a3), (4, .int a4)]) (S' := [.int 101, .int a4]) (M' := sm g u) [pm_o (.iload 4), pm_oi (.bipush 101) 101] (by decide +kernel) rfl ?_
  refine pm_ic_gt (off := 8) 12 (by decide +kernel) (by decide) (fun hc1 => ?_) (fun hc1 => ?_)
  · rw [if_pos hc1] at h
    refine pm_blk (pc' := 13) (L' := [(0, .ref 43), (1, .int a1), (2, .int a2), (3, .int a3), (4, .int a4)]) (S' := [.int 0]) (M' := sm g u) [pm_oi (.iconst 0) 0] (by decide +kernel) rfl ?_
    have h9 := Option.some.inj h
    subst h9
    exact pm_retz rfl (by decide +kernel) rfl rfl rfl rfl
  · rw [if_neg hc1] at h
    refine pm_blk (pc' := 9) (L' := [(0, .ref 43), (1, .int a1), (2, .int a2), (3, .int a3), (4, .int a4)]) (S' := [.int (-1), .int a2]) (M' := sm g u) [pm_o (.iload_n 2), pm_oi (.iconst (-1)) (-1)] (by decide +kernel) rfl ?_
    refine pm_ic_ne (off := 5) 14 (by decide +kernel) (by decide) (fun hc2 => ?_) (fun hc2 => ?_)
    · rw [if_neg hc2] at h
      refine pm_blk (pc' := 19) (L' := [(0, .ref 43), (1, .int a1), (2, .int a2), (3, .int a3), (4, .int a4)]) (S' := [.int a1, .ref 10]) (M' := sm g u) [pm_o (.aload_n 0), pm_of (.getfield 9) 2 0 2, pm_o (.iload_n 1)] (by decide +kernel) rfl ?_
      obtain ⟨q3, hq3, h⟩ := pm_bd h
      refine pm_cV (idx := 160) m_Types_letters (c_Types_letters l h0 D hT hq3) (As := [.int a1]) (S0 := []) rfl (by decide +kernel) k_Types_letters l_Checker_160 (show 0 + 1 ≤ dR_Checker_fit + 1 by omega) (Nat.le_of_ble_eq_true rfl) (Nat.le_refl _) (Nat.le_refl _) ?_
      refine pm_blk (pc' := 22) (L' := [(0, .ref 43), (1, .int a1), (2, .int a2), (3, .int a3), (4, .int a4)]) (S' := [.int q3]) (M' := sm g u) [] (by decide +kernel) rfl ?_
      refine pm_if_ne (off := 14) 36 (by decide +kernel) (by decide) (fun hc4 => ?_) (fun hc4 => ?_)
      · rw [if_neg hc4] at h
        refine pm_blk (pc' := 41) (L' := [(0, .ref 43), (1, .int a1), (2, .int a2), (3, .int a3), (4, .int a4)]) (S' := [.int a1, .ref 10]) (M' := sm g u) [pm_o (.aload_n 0), pm_of (.getfield 9) 2 0 2, pm_o (.iload_n 1)] (by decide +kernel) rfl ?_
        obtain ⟨q5, hq5, h⟩ := pm_bd h
        refine pm_cV (idx := 122) m_Types_kind (c_Types_kind l h0 D hT hq5) (As := [.int a1]) (S0 := []) rfl (by decide +kernel) k_Types_kind l_Checker_122 (show 0 + 1 ≤ dR_Checker_fit + 1 by omega) (Nat.le_of_ble_eq_true rfl) (Nat.le_refl _) (Nat.le_refl _) ?_
        refine pm_blk (pc' := 45) (L' := [(0, .ref 43), (1, .int a1), (2, .int a2), (3, .int a3), (4, .int a4)]) (S' := [.int 2, .int q5]) (M' := sm g u) [pm_oi (.iconst 2) 2] (by decide +kernel) rfl ?_
        refine pm_ic_ne (off := 58) 103 (by decide +kernel) (by decide) (fun hc6 => ?_) (fun hc6 => ?_)
        · rw [if_neg hc6] at h
          refine pm_blk (pc' := 108) (L' := [(0, .ref 43), (1, .int a1), (2, .int a2), (3, .int a3), (4, .int a4)]) (S' := [.int a1, .ref 10]) (M' := sm g u) [pm_o (.aload_n 0), pm_of (.getfield 9) 2 0 2, pm_o (.iload_n 1)] (by decide +kernel) rfl ?_
          obtain ⟨q7, hq7, h⟩ := pm_bd h
          refine pm_cV (idx := 122) m_Types_kind (c_Types_kind l h0 D hT hq7) (As := [.int a1]) (S0 := []) rfl (by decide +kernel) k_Types_kind l_Checker_122 (show 0 + 1 ≤ dR_Checker_fit + 1 by omega) (Nat.le_of_ble_eq_true rfl) (Nat.le_refl _) (Nat.le_refl _) ?_
          refine pm_blk (pc' := 116) (L' := [(0, .ref 43), (1, .int a1), (2, .int a2), (3, .int a3), (4, .int a4)]) (S' := [.int a2, .ref 10, .int q7]) (M' := sm g u) [pm_o (.aload_n 0), pm_of (.getfield 9) 2 0 2, pm_o (.iload_n 2)] (by decide +kernel) rfl ?_
          obtain ⟨q8, hq8, h⟩ := pm_bd h
          refine pm_cV (idx := 122) m_Types_kind (c_Types_kind l h0 D hT hq8) (As := [.int a2]) (S0 := [.int q7]) rfl (by decide +kernel) k_Types_kind l_Checker_122 (show 0 + 1 ≤ dR_Checker_fit + 1 by omega) (Nat.le_of_ble_eq_true rfl) (Nat.le_refl _) (Nat.le_refl _) ?_
          refine pm_blk (pc' := 119) (L' := [(0, .ref 43), (1, .int a1), (2, .int a2), (3, .int a3), (4, .int a4)]) (S' := [.int q8, .int q7]) (M' := sm g u) [] (by decide +kernel) rfl ?_
          refine pm_ic_ne (off := 63) 182 (by decide +kernel) (by decide) (fun hc9 => ?_) (fun hc9 => ?_)
          · rw [if_neg hc9] at h
            refine pm_blk (pc' := 183) (L' := [(0, .ref 43), (1, .int a1), (2, .int a2), (3, .int a3), (4, .int a4)]) (S' := [.int 0]) (M' := sm g u) [pm_oi (.iconst 0) 0] (by decide +kernel) rfl ?_
            have h9 := Option.some.inj h
            subst h9
            exact pm_retz rfl (by decide +kernel) rfl rfl rfl rfl
          · rw [if_pos hc9] at h
            refine pm_blk (pc' := 128) (L' := [(0, .ref 43), (1, .int a1), (2, .int a2), (3, .int a3), (4, .int a4)]) (S' := [.int a1, .ref 10, .ref 43]) (M' := sm g u) [pm_o (.aload_n 0), pm_o (.aload_n 0), pm_of (.getfield 9) 2 0 2, pm_o (.iload_n 1)] (by decide +kernel) rfl ?_
            obtain ⟨q10, hq10, h⟩ := pm_bd h
            refine pm_cV (idx := 123) m_Types_left (c_Types_left l h0 D hT hq10) (As := [.int a1]) (S0 := [.ref 43]) rfl (by decide +kernel) k_Types_left l_Checker_123 (show 0 + 1 ≤ dR_Checker_fit + 1 by omega) (Nat.le_of_ble_eq_true rfl) (Nat.le_refl _) (Nat.le_refl _) ?_
            refine pm_blk (pc' := 136) (L' := [(0, .ref 43), (1, .int a1), (2, .int a2), (3, .int a3), (4, .int a4)]) (S' := [.int a2, .ref 10, .int q10, .ref 43]) (M' := sm g u) [pm_o (.aload_n 0), pm_of (.getfield 9) 2 0 2, pm_o (.iload_n 2)] (by decide +kernel) rfl ?_
            obtain ⟨q11, hq11, h⟩ := pm_bd h
            refine pm_cV (idx := 123) m_Types_left (c_Types_left l h0 D hT hq11) (As := [.int a2]) (S0 := [.int q10, .ref 43]) rfl (by decide +kernel) k_Types_left l_Checker_123 (show 0 + 1 ≤ dR_Checker_fit + 1 by omega) (Nat.le_of_ble_eq_true rfl) (Nat.le_refl _) (Nat.le_refl _) ?_
            refine pm_blk (pc' := 144) (L' := [(0, .ref 43), (1, .int a1), (2, .int a2), (3, .int a3), (4, .int a4)]) (S' := [.int (a4 + 1), .int a3, .int q11, .int q10, .ref 43]) (M' := sm g u) [pm_o (.iload_n 3), pm_o (.iload 4), pm_oi (.iconst 1) 1, pm_o .iadd] (by decide +kernel) rfl ?_
            obtain ⟨q12, hq12, h⟩ := pm_bd h
            refine pm_cV (idx := 149) m_Checker_fit (hr_Checker_fit hT hq12) (As := [.int q10, .int q11, .int a3, .int (a4 + 1)]) (S0 := []) rfl (by decide +kernel) k_Checker_fit l_Checker_149 (show dR_Checker_fit + 1 ≤ dR_Checker_fit + 1 by omega) (Nat.le_of_ble_eq_true rfl) (Nat.le_refl _) (Nat.le_refl _) ?_
            refine pm_blk (pc' := 147) (L' := [(0, .ref 43), (1, .int a1), (2, .int a2), (3, .int a3), (4, .int a4)]) (S' := [.int q12.1]) (M' := sm g q12.2) [] (by decide +kernel) rfl ?_
            refine pm_if_eq (off := 35) 182 (by decide +kernel) (by decide) (fun hc13 => ?_) (fun hc13 => ?_)
            · rw [if_pos hc13] at h
              refine pm_blk (pc' := 183) (L' := [(0, .ref 43), (1, .int a1), (2, .int a2), (3, .int a3), (4, .int a4)]) (S' := [.int 0]) (M' := sm g q12.2) [pm_oi (.iconst 0) 0] (by decide +kernel) rfl ?_
              have h9 := Option.some.inj h
              subst h9
              exact pm_retz rfl (by decide +kernel) rfl rfl rfl rfl
            · rw [if_neg hc13] at h
              refine pm_blk (pc' := 156) (L' := [(0, .ref 43), (1, .int a1), (2, .int a2), (3, .int a3), (4, .int a4)]) (S' := [.int a1, .ref 10, .ref 43]) (M' := sm g q12.2) [pm_o (.aload_n 0), pm_o (.aload_n 0), pm_of (.getfield 9) 2 0 2, pm_o (.iload_n 1)] (by decide +kernel) rfl ?_
              obtain ⟨q14, hq14, h⟩ := pm_bd h
              refine pm_cV (idx := 126) m_Types_right (c_Types_right l h0 D hT hq14) (As := [.int a1]) (S0 := [.ref 43]) rfl (by decide +kernel) k_Types_right l_Checker_126 (show 0 + 1 ≤ dR_Checker_fit + 1 by omega) (Nat.le_of_ble_eq_true rfl) (Nat.le_refl _) (Nat.le_refl _) ?_
              refine pm_blk (pc' := 164) (L' := [(0, .ref 43), (1, .int a1), (2, .int a2), (3, .int a3), (4, .int a4)]) (S' := [.int a2, .ref 10, .int q14, .ref 43]) (M' := sm g q12.2) [pm_o (.aload_n 0), pm_of (.getfield 9) 2 0 2, pm_o (.iload_n 2)] (by decide +kernel) rfl ?_
              obtain ⟨q15, hq15, h⟩ := pm_bd h
              refine pm_cV (idx := 126) m_Types_right (c_Types_right l h0 D hT hq15) (As := [.int a2]) (S0 := [.int q14, .ref 43]) rfl (by decide +kernel) k_Types_right l_Checker_126 (show 0 + 1 ≤ dR_Checker_fit + 1 by omega) (Nat.le_of_ble_eq_true rfl) (Nat.le_refl _) (Nat.le_refl _) ?_
              refine pm_blk (pc' := 172) (L' := [(0, .ref 43), (1, .int a1), (2, .int a2), (3, .int a3), (4, .int a4)]) (S' := [.int (a4 + 1), .int a3, .int q15, .int q14, .ref 43]) (M' := sm g q12.2) [pm_o (.iload_n 3), pm_o (.iload 4), pm_oi (.iconst 1) 1, pm_o .iadd] (by decide +kernel) rfl ?_
              obtain ⟨q16, hq16, h⟩ := pm_bd h
              refine pm_cV (idx := 149) m_Checker_fit (hr_Checker_fit hT hq16) (As := [.int q14, .int q15, .int a3, .int (a4 + 1)]) (S0 := []) rfl (by decide +kernel) k_Checker_fit l_Checker_149 (show dR_Checker_fit + 1 ≤ dR_Checker_fit + 1 by omega) (Nat.le_of_ble_eq_true rfl) (Nat.le_refl _) (Nat.le_refl _) ?_
              refine pm_blk (pc' := 175) (L' := [(0, .ref 43), (1, .int a1), (2, .int a2), (3, .int a3), (4, .int a4)]) (S' := [.int q16.1]) (M' := sm g q16.2) [] (by decide +kernel) rfl ?_
              refine pm_if_eq (off := 7) 182 (by decide +kernel) (by decide) (fun hc17 => ?_) (fun hc17 => ?_)
              · rw [if_pos hc17] at h
                refine pm_blk (pc' := 183) (L' := [(0, .ref 43), (1, .int a1), (2, .int a2), (3, .int a3), (4, .int a4)]) (S' := [.int 0]) (M' := sm g q16.2) [pm_oi (.iconst 0) 0] (by decide +kernel) rfl ?_
                have h9 := Option.some.inj h
                subst h9
                exact pm_retz rfl (by decide +kernel) rfl rfl rfl rfl
              · rw [if_neg hc17] at h
                refine pm_blk (pc' := 179) (L' := [(0, .ref 43), (1, .int a1), (2, .int a2), (3, .int a3), (4, .int a4)]) (S' := [.int 1]) (M' := sm g q16.2) [pm_oi (.iconst 1) 1] (by decide +kernel) rfl ?_
                refine pm_goto (off := 4) 183 (by decide +kernel) (by decide) ?_
                have h9 := Option.some.inj h
                subst h9
                exact pm_retz rfl (by decide +kernel) rfl rfl rfl rfl
        · rw [if_pos hc6] at h
          refine pm_blk (pc' := 53) (L' := [(0, .ref 43), (1, .int a1), (2, .int a2), (3, .int a3), (4, .int a4)]) (S' := [.int a1, .ref 10]) (M' := sm g u) [pm_o (.aload_n 0), pm_of (.getfield 9) 2 0 2, pm_o (.iload_n 1)] (by decide +kernel) rfl ?_
          obtain ⟨q18, hq18, h⟩ := pm_bd h
          refine pm_cV (idx := 163) m_Types_letterNumber (c_Types_letterNumber l h0 D hT hq18) (As := [.int a1]) (S0 := []) rfl (by decide +kernel) k_Types_letterNumber l_Checker_163 (show 0 + 1 ≤ dR_Checker_fit + 1 by omega) (Nat.le_of_ble_eq_true rfl) (Nat.le_refl _) (Nat.le_refl _) ?_
          refine pm_blk (pc' := 65) (L' := [(5, .int q18), (0, .ref 43), (1, .int a1), (2, .int a2), (3, .int a3), (4, .int a4)]) (S' := [.int q18, .int a3, .ref 18]) (M' := sm g u) [pm_o (.istore 5), pm_o (.aload_n 0), pm_of (.getfield 15) 2 1 2, pm_o (.iload_n 3), pm_o (.iload 5)] (by decide +kernel) rfl ?_
          obtain ⟨q19, hq19, h⟩ := pm_bd h
          refine pm_cV (idx := 166) m_Tree_fit (c_Tree_fit l h0 D hT hq19) (As := [.int a3, .int q18]) (S0 := []) rfl (by decide +kernel) k_Tree_fit l_Checker_166 (show 0 + 1 ≤ dR_Checker_fit + 1 by omega) (Nat.le_of_ble_eq_true rfl) (Nat.le_refl _) (Nat.le_refl _) ?_
          refine pm_blk (pc' := 69) (L' := [(5, .int q18), (0, .ref 43), (1, .int a1), (2, .int a2), (3, .int a3), (4, .int a4)]) (S' := [.int (-1), .int q19]) (M' := sm g u) [pm_oi (.iconst (-1)) (-1)] (by decide +kernel) rfl ?_
          refine pm_ic_ne (off := 14) 83 (by decide +kernel) (by decide) (fun hc20 => ?_) (fun hc20 => ?_)
          · rw [if_neg hc20] at h
            refine pm_loc [1, 3, 4, 0] rfl ?_
            exact w_Checker_fit_83 l h0 D hT hdR_Checker_fit hr_Checker_fit a2 a3 q18 u h
          · rw [if_pos hc20] at h
            refine pm_blk (pc' := 80) (L' := [(5, .int q18), (0, .ref 43), (1, .int a1), (2, .int a2), (3, .int a3), (4, .int a4)]) (S' := [.int a2, .int q18, .int a3, .ref 18]) (M' := sm g u) [pm_o (.aload_n 0), pm_of (.getfield 15) 2 1 2, pm_o (.iload_n 3), pm_o (.iload 5), pm_o (.iload_n 2)] (by decide +kernel) rfl ?_
            obtain ⟨q23, hq23, h⟩ := pm_bd h
            refine pm_cV (idx := 168) m_Tree_setFit (c_Tree_setFit l h0 D hT hq23) (As := [.int a3, .int q18, .int a2]) (S0 := []) rfl (by decide +kernel) k_Tree_setFit l_Checker_168 (show 0 + 1 ≤ dR_Checker_fit + 1 by omega) (Nat.le_of_ble_eq_true rfl) (Nat.le_refl _) (Nat.le_refl _) ?_
            refine pm_blk (pc' := 83) (L' := [(5, .int q18), (0, .ref 43), (1, .int a1), (2, .int a2), (3, .int a3), (4, .int a4)]) (S' := []) (M' := sm g q23) [] (by decide +kernel) rfl ?_
            refine pm_loc [1, 3, 4, 0] rfl ?_
            exact w_Checker_fit_83 l h0 D hT hdR_Checker_fit hr_Checker_fit a2 a3 q18 q23 h
      · rw [if_pos hc4] at h
        refine pm_blk (pc' := 27) (L' := [(0, .ref 43), (1, .int a1), (2, .int a2), (3, .int a3), (4, .int a4)]) (S' := [.int a2, .int a1]) (M' := sm g u) [pm_o (.iload_n 1), pm_o (.iload_n 2)] (by decide +kernel) rfl ?_
        refine pm_ic_ne (off := 7) 34 (by decide +kernel) (by decide) (fun hc24 => ?_) (fun hc24 => ?_)
        · rw [if_neg hc24] at h
          refine pm_blk (pc' := 35) (L' := [(0, .ref 43), (1, .int a1), (2, .int a2), (3, .int a3), (4, .int a4)]) (S' := [.int 0]) (M' := sm g u) [pm_oi (.iconst 0) 0] (by decide +kernel) rfl ?_
          have h9 := Option.some.inj h
          subst h9
          exact pm_retz rfl (by decide +kernel) rfl rfl rfl rfl
        · rw [if_pos hc24] at h
          refine pm_blk (pc' := 31) (L' := [(0, .ref 43), (1, .int a1), (2, .int a2), (3, .int a3), (4, .int a4)]) (S' := [.int 1]) (M' := sm g u) [pm_oi (.iconst 1) 1] (by decide +kernel) rfl ?_
          refine pm_goto (off := 4) 35 (by decide +kernel) (by decide) ?_
          have h9 := Option.some.inj h
          subst h9
          exact pm_retz rfl (by decide +kernel) rfl rfl rfl rfl
    · rw [if_pos hc2] at h
      refine pm_blk (pc' := 13) (L' := [(0, .ref 43), (1, .int a1), (2, .int a2), (3, .int a3), (4, .int a4)]) (S' := [.int 0]) (M' := sm g u) [pm_oi (.iconst 0) 0] (by decide +kernel) rfl ?_
      have h9 := Option.some.inj h
      subst h9
      exact pm_retz rfl (by decide +kernel) rfl rfl rfl rfl
def F_Checker_fit (N : Nat) : Nat → Int32 → Int32 → Int32 → Int32 → pm_s → pm_J → Option (Int32 × pm_J)
  | 0, _, _, _, _, _, _ => none
  | k + 1, a1, a2, a3, a4, g, u => FO_Checker_fit N (F_Checker_fit N k) a1 a2 a3 a4 g u
theorem c_Checker_fit_k (l : Launch) (h0 : Nat) (D : pm_D) {N : Nat} (k : Nat) : ∀ {a1 : Int32} {a2 : Int32} {a3 : Int32} {a4 : Int32} {g : pm_s} {u : pm_J} {out : Int32 × pm_J}, sh_T g → F_Checker_fit N k a1 a2 a3 a4 g u = some out → pm_C l h0 D m_Checker_fit (1 + 1 * k) [.ref 43, .int a1, .int a2, .int a3, .int a4] (sm g u) (some (.int out.1)) (sm g out.2) := by
  induction k with
  | zero => intro a1 a2 a3 a4 g u out hT h; cases h
  | succ k ih =>
    intro a1 a2 a3 a4 g u out hT h
    have h9 := co_Checker_fit l h0 D hT (dR_Checker_fit := 1 + 1 * k) (show 1 ≤ 1 + 1 * k by omega) ih h
    rw [show 1 + 1 * k + 1 = 1 + 1 * (k + 1) by omega] at h9
    exact h9
theorem c_Checker_fit (l : Launch) (h0 : Nat) (D : pm_D) {g : pm_s} {u : pm_J} (hT : sh_T g) {N : Nat} {a1 : Int32} {a2 : Int32} {a3 : Int32} {a4 : Int32} {out : Int32 × pm_J} (h : F_Checker_fit N 104 a1 a2 a3 a4 g u = some out) : pm_C l h0 D m_Checker_fit (1 + 1 * 104) [.ref 43, .int a1, .int a2, .int a3, .int a4] (sm g u) (some (.int out.1)) (sm g out.2) := c_Checker_fit_k l h0 D 104 hT h
def F_Checker_answersLetter (a1 : Int32) (g : pm_s) (u : pm_J) : Option (Int32) := (F_Tree_value a1 g u).bind fun q1 => (F_Tree_kind a1 g u).bind fun q2 => if q2 = 17 then (F_Tree_third a1 g u).bind fun q4 => (F_Table_parameters q1.toInt32 g u).bind fun q5 => if q4 = q5 then (F_Table_type q1.toInt32 g u).bind fun q7 => (F_Types_kind q7 g u).bind fun q8 => if q8 = 2 then some 1 else some 0 else some 0 else some 0
set_option maxHeartbeats 4000000 in
set_option maxRecDepth 100000 in
theorem c_Checker_answersLetter (l : Launch) (h0 : Nat) (D : pm_D) {g : pm_s} {u : pm_J} (hT : sh_T g) {a1 : Int32} {out : Int32} (h : F_Checker_answersLetter a1 g u = some out) : pm_C l h0 D m_Checker_answersLetter (1) [.ref 43, .int a1] (sm g u) (some (.int out)) (sm g u) := by
  unfold F_Checker_answersLetter at h
  refine pm_met (by decide +kernel) (Nat.le_of_ble_eq_true rfl) (Nat.le_refl _) (Nat.le_refl _) ?_
  intro p e R s m args below meth c
  refine pm_blk (pc' := 5) (L' := [(0, .ref 43), (1, .int a1)]) (S' := [.int a1, .ref 18]) (M' := sm g u) [pm_o (.aload_n 0), pm_of (.getfield 15) 2 1 2, pm_o (.iload_n 1)] (by decide +kernel) rfl ?_
  obtain ⟨q1, hq1, h⟩ := pm_bd h
  refine pm_cV (idx := 88) m_Tree_value (c_Tree_value l h0 D hT hq1) (As := [.int a1]) (S0 := []) rfl (by decide +kernel) k_Tree_value l_Checker_88 (Nat.le_of_ble_eq_true rfl) (Nat.le_of_ble_eq_true rfl) (Nat.le_refl _) (Nat.le_refl _) ?_
  refine pm_blk (pc' := 15) (L' := [(2, .int q1.toInt32), (0, .ref 43), (1, .int a1)]) (S' := [.int a1, .ref 18]) (M' := sm g u) [pm_o .l2i, pm_o (.istore_n 2), pm_o (.aload_n 0), pm_of (.getfield 15) 2 1 2, pm_o (.iload_n 1)] (by decide +kernel) rfl ?_
  obtain ⟨q2, hq2, h⟩ := pm_bd h
  refine pm_cV (idx := 70) m_Tree_kind (c_Tree_kind l h0 D hT hq2) (As := [.int a1]) (S0 := []) rfl (by decide +kernel) k_Tree_kind l_Checker_70 (Nat.le_of_ble_eq_true rfl) (Nat.le_of_ble_eq_true rfl) (Nat.le_refl _) (Nat.le_refl _) ?_
  refine pm_blk (pc' := 20) (L' := [(2, .int q1.toInt32), (0, .ref 43), (1, .int a1)]) (S' := [.int 17, .int q2]) (M' := sm g u) [pm_oi (.bipush 17) 17] (by decide +kernel) rfl ?_
  refine pm_ic_ne (off := 45) 65 (by decide +kernel) (by decide) (fun hc3 => ?_) (fun hc3 => ?_)
  · rw [if_neg hc3] at h
    refine pm_blk (pc' := 66) (L' := [(2, .int q1.toInt32), (0, .ref 43), (1, .int a1)]) (S' := [.int 0]) (M' := sm g u) [pm_oi (.iconst 0) 0] (by decide +kernel) rfl ?_
    have h9 := Option.some.inj h
    subst h9
    exact pm_retz rfl (by decide +kernel) rfl rfl rfl rfl
  · rw [if_pos hc3] at h
    refine pm_blk (pc' := 28) (L' := [(2, .int q1.toInt32), (0, .ref 43), (1, .int a1)]) (S' := [.int a1, .ref 18]) (M' := sm g u) [pm_o (.aload_n 0), pm_of (.getfield 15) 2 1 2, pm_o (.iload_n 1)] (by decide +kernel) rfl ?_
    obtain ⟨q4, hq4, h⟩ := pm_bd h
    refine pm_cV (idx := 115) m_Tree_third (c_Tree_third l h0 D hT hq4) (As := [.int a1]) (S0 := []) rfl (by decide +kernel) k_Tree_third l_Checker_115 (Nat.le_of_ble_eq_true rfl) (Nat.le_of_ble_eq_true rfl) (Nat.le_refl _) (Nat.le_refl _) ?_
    refine pm_blk (pc' := 36) (L' := [(2, .int q1.toInt32), (0, .ref 43), (1, .int a1)]) (S' := [.int q1.toInt32, .ref 29, .int q4]) (M' := sm g u) [pm_o (.aload_n 0), pm_of (.getfield 19) 2 2 2, pm_o (.iload_n 2)] (by decide +kernel) rfl ?_
    obtain ⟨q5, hq5, h⟩ := pm_bd h
    refine pm_cV (idx := 96) m_Table_parameters (c_Table_parameters l h0 D hT hq5) (As := [.int q1.toInt32]) (S0 := [.int q4]) rfl (by decide +kernel) k_Table_parameters l_Checker_96 (Nat.le_of_ble_eq_true rfl) (Nat.le_of_ble_eq_true rfl) (Nat.le_refl _) (Nat.le_refl _) ?_
    refine pm_blk (pc' := 39) (L' := [(2, .int q1.toInt32), (0, .ref 43), (1, .int a1)]) (S' := [.int q5, .int q4]) (M' := sm g u) [] (by decide +kernel) rfl ?_
    refine pm_ic_ne (off := 26) 65 (by decide +kernel) (by decide) (fun hc6 => ?_) (fun hc6 => ?_)
    · rw [if_neg hc6] at h
      refine pm_blk (pc' := 66) (L' := [(2, .int q1.toInt32), (0, .ref 43), (1, .int a1)]) (S' := [.int 0]) (M' := sm g u) [pm_oi (.iconst 0) 0] (by decide +kernel) rfl ?_
      have h9 := Option.some.inj h
      subst h9
      exact pm_retz rfl (by decide +kernel) rfl rfl rfl rfl
    · rw [if_pos hc6] at h
      refine pm_blk (pc' := 51) (L' := [(2, .int q1.toInt32), (0, .ref 43), (1, .int a1)]) (S' := [.int q1.toInt32, .ref 29, .ref 10]) (M' := sm g u) [pm_o (.aload_n 0), pm_of (.getfield 9) 2 0 2, pm_o (.aload_n 0), pm_of (.getfield 19) 2 2 2, pm_o (.iload_n 2)] (by decide +kernel) rfl ?_
      obtain ⟨q7, hq7, h⟩ := pm_bd h
      refine pm_cV (idx := 59) m_Table_type (c_Table_type l h0 D hT hq7) (As := [.int q1.toInt32]) (S0 := [.ref 10]) rfl (by decide +kernel) k_Table_type l_Checker_59 (Nat.le_of_ble_eq_true rfl) (Nat.le_of_ble_eq_true rfl) (Nat.le_refl _) (Nat.le_refl _) ?_
      refine pm_blk (pc' := 54) (L' := [(2, .int q1.toInt32), (0, .ref 43), (1, .int a1)]) (S' := [.int q7, .ref 10]) (M' := sm g u) [] (by decide +kernel) rfl ?_
      obtain ⟨q8, hq8, h⟩ := pm_bd h
      refine pm_cV (idx := 122) m_Types_kind (c_Types_kind l h0 D hT hq8) (As := [.int q7]) (S0 := []) rfl (by decide +kernel) k_Types_kind l_Checker_122 (Nat.le_of_ble_eq_true rfl) (Nat.le_of_ble_eq_true rfl) (Nat.le_refl _) (Nat.le_refl _) ?_
      refine pm_blk (pc' := 58) (L' := [(2, .int q1.toInt32), (0, .ref 43), (1, .int a1)]) (S' := [.int 2, .int q8]) (M' := sm g u) [pm_oi (.iconst 2) 2] (by decide +kernel) rfl ?_
      refine pm_ic_ne (off := 7) 65 (by decide +kernel) (by decide) (fun hc9 => ?_) (fun hc9 => ?_)
      · rw [if_neg hc9] at h
        refine pm_blk (pc' := 66) (L' := [(2, .int q1.toInt32), (0, .ref 43), (1, .int a1)]) (S' := [.int 0]) (M' := sm g u) [pm_oi (.iconst 0) 0] (by decide +kernel) rfl ?_
        have h9 := Option.some.inj h
        subst h9
        exact pm_retz rfl (by decide +kernel) rfl rfl rfl rfl
      · rw [if_pos hc9] at h
        refine pm_blk (pc' := 62) (L' := [(2, .int q1.toInt32), (0, .ref 43), (1, .int a1)]) (S' := [.int 1]) (M' := sm g u) [pm_oi (.iconst 1) 1] (by decide +kernel) rfl ?_
        refine pm_goto (off := 4) 66 (by decide +kernel) (by decide) ?_
        have h9 := Option.some.inj h
        subst h9
        exact pm_retz rfl (by decide +kernel) rfl rfl rfl rfl
def K_Checker_fitAtoms_19 (N : Nat) (g : pm_s) : Nat → Int32 → Int32 → Int32 → Int32 → pm_J → Option (Int32 × pm_J)
  | 0, _, _, _, _, _ => none
  | n + 1, x1, x2, x3, x4, u => (F_Table_parameters x2 g u).bind fun q3 => if q3 ≤ x4 then some (1, u) else (F_Table_localType x2 x4 g u).bind fun q5 => (F_Tree_type x3 g u).bind fun q6 => (F_Checker_fit N 104 q5 q6 x1 0 g u).bind fun q7 => if q7.1 = 0 then some (0, q7.2) else (F_Types_kind q5 g q7.2).bind fun q9 => if q9 = 2 then (F_Checker_answersLetter x3 g q7.2).bind fun q12 => if q12 = 0 then (F_Tree_next x3 g q7.2).bind fun q14 => K_Checker_fitAtoms_19 N g  n x1 x2 q14 (x4 + 1) q7.2 else (F_Tree_markShort x3 g q7.2).bind fun q15 => (F_Tree_next x3 g q15).bind fun q16 => K_Checker_fitAtoms_19 N g  n x1 x2 q16 (x4 + 1) q15 else (F_Tree_next x3 g q7.2).bind fun q11 => K_Checker_fitAtoms_19 N g  n x1 x2 q11 (x4 + 1) q7.2
set_option maxHeartbeats 4000000 in
set_option maxRecDepth 100000 in
theorem w_Checker_fitAtoms_19 (l : Launch) (h0 : Nat) (D : pm_D) {g : pm_s} (hT : sh_T g) {N : Nat} {u0 : pm_J} {out : Int32 × pm_J} {p : Program} {e : Env} {R : Room} {s : State} {m : MethodId} {args : Array Value} {below : List Frame} {meth : Method} {c : Code} : ∀ (n : Nat) (x1 : Int32) (x2 : Int32) (x3 : Int32) (x4 : Int32) (u : pm_J), K_Checker_fitAtoms_19 N g n x1 x2 x3 x4 u = some out → pm_V (p, l, e, R, s, m, args, below, meth, c) m_Checker_fitAtoms h0 D (g.1, g.2.1, g.1, g.2.1, 106) (pm_E (p, l, e, R, s, m, args, below, meth, c) h0 D (sm g u0) (some (.int out.1)) (sm g out.2)) 19 [(0, .ref 43), (1, .int x1), (2, .int x2), (3, .int x3), (4, .int x4)] [] (sm g u) := by
  intro n
  induction n with
  | zero => intro x1 x2 x3 x4 u h; cases h
  | succ n ih =>
    intro x1 x2 x3 x4 u h
    rw [K_Checker_fitAtoms_19] at h
    refine pm_blk (pc' := 26) (L' := [(0, .ref 43), (1, .int x1), (2, .int x2), (3, .int x3), (4, .int x4)]) (S' := [.int x2, .ref 29, .int x4]) (M' := sm g u) [pm_o (.iload 4), pm_o (.aload_n 0), pm_of (.getfield 19) 2 2 2, pm_o (.iload_n 2)] (by decide +kernel) rfl ?_
    obtain ⟨q3, hq3, h⟩ := pm_bd h
    refine pm_cV (idx := 96) m_Table_parameters (c_Table_parameters l h0 D hT hq3) (As := [.int x2]) (S0 := [.int x4]) rfl (by decide +kernel) k_Table_parameters l_Checker_96 (Nat.le_of_ble_eq_true rfl) (Nat.le_of_ble_eq_true rfl) (Nat.le_refl _) (Nat.le_refl _) ?_
    refine pm_blk (pc' := 29) (L' := [(0, .ref 43), (1, .int x1), (2, .int x2), (3, .int x3), (4, .int x4)]) (S' := [.int q3, .int x4]) (M' := sm g u) [] (by decide +kernel) rfl ?_
    refine pm_ic_ge (off := 80) 109 (by decide +kernel) (by decide) (fun hc4 => ?_) (fun hc4 => ?_)
    · rw [if_pos hc4] at h
      refine pm_blk (pc' := 110) (L' := [(0, .ref 43), (1, .int x1), (2, .int x2), (3, .int x3), (4, .int x4)]) (S' := [.int 1]) (M' := sm g u) [pm_oi (.iconst 1) 1] (by decide +kernel) rfl ?_
      have h9 := Option.some.inj h
      subst h9
      exact pm_retz rfl (by decide +kernel) rfl rfl rfl rfl
    · rw [if_neg hc4] at h
      refine pm_blk (pc' := 39) (L' := [(0, .ref 43), (1, .int x1), (2, .int x2), (3, .int x3), (4, .int x4)]) (S' := [.int x4, .int x2, .ref 29]) (M' := sm g u) [pm_o (.aload_n 0), pm_of (.getfield 19) 2 2 2, pm_o (.iload_n 2), pm_o (.iload 4)] (by decide +kernel) rfl ?_
      obtain ⟨q5, hq5, h⟩ := pm_bd h
      refine pm_cV (idx := 136) m_Table_localType (c_Table_localType l h0 D hT hq5) (As := [.int x2, .int x4]) (S0 := []) rfl (by decide +kernel) k_Table_localType l_Checker_136 (Nat.le_of_ble_eq_true rfl) (Nat.le_of_ble_eq_true rfl) (Nat.le_refl _) (Nat.le_refl _) ?_
      refine pm_blk (pc' := 52) (L' := [(5, .int q5), (0, .ref 43), (1, .int x1), (2, .int x2), (3, .int x3), (4, .int x4)]) (S' := [.int x3, .ref 18, .int q5, .ref 43]) (M' := sm g u) [pm_o (.istore 5), pm_o (.aload_n 0), pm_o (.iload 5), pm_o (.aload_n 0), pm_of (.getfield 15) 2 1 2, pm_o (.iload_n 3)] (by decide +kernel) rfl ?_
      obtain ⟨q6, hq6, h⟩ := pm_bd h
      refine pm_cV (idx := 54) m_Tree_type (c_Tree_type l h0 D hT hq6) (As := [.int x3]) (S0 := [.int q5, .ref 43]) rfl (by decide +kernel) k_Tree_type l_Checker_54 (Nat.le_of_ble_eq_true rfl) (Nat.le_of_ble_eq_true rfl) (Nat.le_refl _) (Nat.le_refl _) ?_
      refine pm_blk (pc' := 57) (L' := [(5, .int q5), (0, .ref 43), (1, .int x1), (2, .int x2), (3, .int x3), (4, .int x4)]) (S' := [.int 0, .int x1, .int q6, .int q5, .ref 43]) (M' := sm g u) [pm_o (.iload_n 1), pm_oi (.iconst 0) 0] (by decide +kernel) rfl ?_
      obtain ⟨q7, hq7, h⟩ := pm_bd h
      refine pm_cV (idx := 149) m_Checker_fit (c_Checker_fit l h0 D hT hq7) (As := [.int q5, .int q6, .int x1, .int 0]) (S0 := []) rfl (by decide +kernel) k_Checker_fit l_Checker_149 (Nat.le_of_ble_eq_true rfl) (Nat.le_of_ble_eq_true rfl) (Nat.le_refl _) (Nat.le_refl _) ?_
      refine pm_blk (pc' := 60) (L' := [(5, .int q5), (0, .ref 43), (1, .int x1), (2, .int x2), (3, .int x3), (4, .int x4)]) (S' := [.int q7.1]) (M' := sm g q7.2) [] (by decide +kernel) rfl ?_
      refine pm_if_ne (off := 5) 65 (by decide +kernel) (by decide) (fun hc8 => ?_) (fun hc8 => ?_)
      · rw [if_neg hc8] at h
        refine pm_blk (pc' := 71) (L' := [(5, .int q5), (0, .ref 43), (1, .int x1), (2, .int x2), (3, .int x3), (4, .int x4)]) (S' := [.int q5, .ref 10]) (M' := sm g q7.2) [pm_o (.aload_n 0), pm_of (.getfield 9) 2 0 2, pm_o (.iload 5)] (by decide +kernel) rfl ?_
        obtain ⟨q9, hq9, h⟩ := pm_bd h
        refine pm_cV (idx := 122) m_Types_kind (c_Types_kind l h0 D hT hq9) (As := [.int q5]) (S0 := []) rfl (by decide +kernel) k_Types_kind l_Checker_122 (Nat.le_of_ble_eq_true rfl) (Nat.le_of_ble_eq_true rfl) (Nat.le_refl _) (Nat.le_refl _) ?_
        refine pm_blk (pc' := 75) (L' := [(5, .int q5), (0, .ref 43), (1, .int x1), (2, .int x2), (3, .int x3), (4, .int x4)]) (S' := [.int 2, .int q9]) (M' := sm g q7.2) [pm_oi (.iconst 2) 2] (by decide +kernel) rfl ?_
        refine pm_ic_ne (off := 19) 94 (by decide +kernel) (by decide) (fun hc10 => ?_) (fun hc10 => ?_)
        · rw [if_neg hc10] at h
          refine pm_blk (pc' := 99) (L' := [(5, .int q5), (0, .ref 43), (1, .int x1), (2, .int x2), (3, .int x3), (4, .int x4)]) (S' := [.int x3, .ref 18]) (M' := sm g q7.2) [pm_o (.aload_n 0), pm_of (.getfield 15) 2 1 2, pm_o (.iload_n 3)] (by decide +kernel) rfl ?_
          obtain ⟨q11, hq11, h⟩ := pm_bd h
          refine pm_cV (idx := 139) m_Tree_next (c_Tree_next l h0 D hT hq11) (As := [.int x3]) (S0 := []) rfl (by decide +kernel) k_Tree_next l_Checker_139 (Nat.le_of_ble_eq_true rfl) (Nat.le_of_ble_eq_true rfl) (Nat.le_refl _) (Nat.le_refl _) ?_
          refine pm_blk (pc' := 106) (L' := [(4, .int (x4 + 1)), (3, .int q11), (5, .int q5), (0, .ref 43), (1, .int x1), (2, .int x2)]) (S' := []) (M' := sm g q7.2) [pm_o (.istore_n 3), pm_oi (.iinc 4 1) 1] (by decide +kernel) rfl ?_
          refine pm_goto (off := -87) 19 (by decide +kernel) (by decide) ?_
          refine pm_loc [3, 4, 5, 1, 0] rfl ?_
          exact ih x1 x2 q11 (x4 + 1) q7.2 h
        · rw [if_pos hc10] at h
          refine pm_blk (pc' := 80) (L' := [(5, .int q5), (0, .ref 43), (1, .int x1), (2, .int x2), (3, .int x3), (4, .int x4)]) (S' := [.int x3, .ref 43]) (M' := sm g q7.2) [pm_o (.aload_n 0), pm_o (.iload_n 3)] (by decide +kernel) rfl ?_
          obtain ⟨q12, hq12, h⟩ := pm_bd h
          refine pm_cV (idx := 153) m_Checker_answersLetter (c_Checker_answersLetter l h0 D hT hq12) (As := [.int x3]) (S0 := []) rfl (by decide +kernel) k_Checker_answersLetter l_Checker_153 (Nat.le_of_ble_eq_true rfl) (Nat.le_of_ble_eq_true rfl) (Nat.le_refl _) (Nat.le_refl _) ?_
          refine pm_blk (pc' := 83) (L' := [(5, .int q5), (0, .ref 43), (1, .int x1), (2, .int x2), (3, .int x3), (4, .int x4)]) (S' := [.int q12]) (M' := sm g q7.2) [] (by decide +kernel) rfl ?_
          refine pm_if_eq (off := 11) 94 (by decide +kernel) (by decide) (fun hc13 => ?_) (fun hc13 => ?_)
          · rw [if_pos hc13] at h
            refine pm_blk (pc' := 99) (L' := [(5, .int q5), (0, .ref 43), (1, .int x1), (2, .int x2), (3, .int x3), (4, .int x4)]) (S' := [.int x3, .ref 18]) (M' := sm g q7.2) [pm_o (.aload_n 0), pm_of (.getfield 15) 2 1 2, pm_o (.iload_n 3)] (by decide +kernel) rfl ?_
            obtain ⟨q14, hq14, h⟩ := pm_bd h
            refine pm_cV (idx := 139) m_Tree_next (c_Tree_next l h0 D hT hq14) (As := [.int x3]) (S0 := []) rfl (by decide +kernel) k_Tree_next l_Checker_139 (Nat.le_of_ble_eq_true rfl) (Nat.le_of_ble_eq_true rfl) (Nat.le_refl _) (Nat.le_refl _) ?_
            refine pm_blk (pc' := 106) (L' := [(4, .int (x4 + 1)), (3, .int q14), (5, .int q5), (0, .ref 43), (1, .int x1), (2, .int x2)]) (S' := []) (M' := sm g q7.2) [pm_o (.istore_n 3), pm_oi (.iinc 4 1) 1] (by decide +kernel) rfl ?_
            refine pm_goto (off := -87) 19 (by decide +kernel) (by decide) ?_
            refine pm_loc [3, 4, 5, 1, 0] rfl ?_
            exact ih x1 x2 q14 (x4 + 1) q7.2 h
          · rw [if_neg hc13] at h
            refine pm_blk (pc' := 91) (L' := [(5, .int q5), (0, .ref 43), (1, .int x1), (2, .int x2), (3, .int x3), (4, .int x4)]) (S' := [.int x3, .ref 18]) (M' := sm g q7.2) [pm_o (.aload_n 0), pm_of (.getfield 15) 2 1 2, pm_o (.iload_n 3)] (by decide +kernel) rfl ?_
            obtain ⟨q15, hq15, h⟩ := pm_bd h
            refine pm_cV (idx := 157) m_Tree_markShort (c_Tree_markShort l h0 D hT hq15) (As := [.int x3]) (S0 := []) rfl (by decide +kernel) k_Tree_markShort l_Checker_157 (Nat.le_of_ble_eq_true rfl) (Nat.le_of_ble_eq_true rfl) (Nat.le_refl _) (Nat.le_refl _) ?_
            refine pm_blk (pc' := 99) (L' := [(5, .int q5), (0, .ref 43), (1, .int x1), (2, .int x2), (3, .int x3), (4, .int x4)]) (S' := [.int x3, .ref 18]) (M' := sm g q15) [pm_o (.aload_n 0), pm_of (.getfield 15) 2 1 2, pm_o (.iload_n 3)] (by decide +kernel) rfl ?_
            obtain ⟨q16, hq16, h⟩ := pm_bd h
            refine pm_cV (idx := 139) m_Tree_next (c_Tree_next l h0 D hT hq16) (As := [.int x3]) (S0 := []) rfl (by decide +kernel) k_Tree_next l_Checker_139 (Nat.le_of_ble_eq_true rfl) (Nat.le_of_ble_eq_true rfl) (Nat.le_refl _) (Nat.le_refl _) ?_
            refine pm_blk (pc' := 106) (L' := [(4, .int (x4 + 1)), (3, .int q16), (5, .int q5), (0, .ref 43), (1, .int x1), (2, .int x2)]) (S' := []) (M' := sm g q15) [pm_o (.istore_n 3), pm_oi (.iinc 4 1) 1] (by decide +kernel) rfl ?_
            refine pm_goto (off := -87) 19 (by decide +kernel) (by decide) ?_
            refine pm_loc [3, 4, 5, 1, 0] rfl ?_
            exact ih x1 x2 q16 (x4 + 1) q15 h
      · rw [if_pos hc8] at h
        refine pm_blk (pc' := 64) (L' := [(5, .int q5), (0, .ref 43), (1, .int x1), (2, .int x2), (3, .int x3), (4, .int x4)]) (S' := [.int 0]) (M' := sm g q7.2) [pm_oi (.iconst 0) 0] (by decide +kernel) rfl ?_
        have h9 := Option.some.inj h
        subst h9
        exact pm_retz rfl (by decide +kernel) rfl rfl rfl rfl
def F_Checker_fitAtoms (N : Nat) (a1 : Int32) (a2 : Int32) (g : pm_s) (u : pm_J) : Option (Int32 × pm_J) := (F_Tree_first a1 g u).bind fun q1 => (F_Tree_next q1 g u).bind fun q2 => K_Checker_fitAtoms_19 N g N a1 a2 q2 0 u
set_option maxHeartbeats 4000000 in
set_option maxRecDepth 100000 in
theorem c_Checker_fitAtoms (l : Launch) (h0 : Nat) (D : pm_D) {g : pm_s} {u : pm_J} (hT : sh_T g) {N : Nat} {a1 : Int32} {a2 : Int32} {out : Int32 × pm_J} (h : F_Checker_fitAtoms N a1 a2 g u = some out) : pm_C l h0 D m_Checker_fitAtoms (106) [.ref 43, .int a1, .int a2] (sm g u) (some (.int out.1)) (sm g out.2) := by
  unfold F_Checker_fitAtoms at h
  refine pm_met (by decide +kernel) (Nat.le_of_ble_eq_true rfl) (Nat.le_refl _) (Nat.le_refl _) ?_
  intro p e R s m args below meth c
  refine pm_blk (pc' := 9) (L' := [(0, .ref 43), (1, .int a1), (2, .int a2)]) (S' := [.int a1, .ref 18, .ref 18]) (M' := sm g u) [pm_o (.aload_n 0), pm_of (.getfield 15) 2 1 2, pm_o (.aload_n 0), pm_of (.getfield 15) 2 1 2, pm_o (.iload_n 1)] (by decide +kernel) rfl ?_
  obtain ⟨q1, hq1, h⟩ := pm_bd h
  refine pm_cV (idx := 106) m_Tree_first (c_Tree_first l h0 D hT hq1) (As := [.int a1]) (S0 := [.ref 18]) rfl (by decide +kernel) k_Tree_first l_Checker_106 (Nat.le_of_ble_eq_true rfl) (Nat.le_of_ble_eq_true rfl) (Nat.le_refl _) (Nat.le_refl _) ?_
  refine pm_blk (pc' := 12) (L' := [(0, .ref 43), (1, .int a1), (2, .int a2)]) (S' := [.int q1, .ref 18]) (M' := sm g u) [] (by decide +kernel) rfl ?_
  obtain ⟨q2, hq2, h⟩ := pm_bd h
  refine pm_cV (idx := 139) m_Tree_next (c_Tree_next l h0 D hT hq2) (As := [.int q1]) (S0 := []) rfl (by decide +kernel) k_Tree_next l_Checker_139 (Nat.le_of_ble_eq_true rfl) (Nat.le_of_ble_eq_true rfl) (Nat.le_refl _) (Nat.le_refl _) ?_
  refine pm_blk (pc' := 19) (L' := [(4, .int 0), (3, .int q2), (0, .ref 43), (1, .int a1), (2, .int a2)]) (S' := []) (M' := sm g u) [pm_o (.istore_n 3), pm_oi (.iconst 0) 0, pm_o (.istore 4)] (by decide +kernel) rfl ?_
  refine pm_loc [2, 3, 4, 1, 0] rfl ?_
  exact w_Checker_fitAtoms_19 l h0 D hT N a1 a2 q2 0 u h
def FO_Checker_substitute (N : Nat) (r_Checker_substitute : Int32 → Int32 → Int32 → pm_s → pm_J → Option (Int32 × pm_s × pm_J)) (a1 : Int32) (a2 : Int32) (a3 : Int32) (g : pm_s) (u : pm_J) : Option (Int32 × pm_s × pm_J) := pm_S g (if a3 ≤ 101 then (F_Types_letters a1 g u).bind fun q2 => if q2 = 0 then some (a1, g, u) else (F_Types_kind a1 g u).bind fun q4 => if q4 = 2 then (F_Types_letterNumber a1 g u).bind fun q18 => (F_Tree_fit a2 q18 g u).bind fun q19 => some (q19, g, u) else (F_Types_left a1 g u).bind fun q6 => (r_Checker_substitute q6 a2 (a3 + 1) g u).bind fun q7 => if sh_Tb q7.2.1 = true then pm_S q7.2.1 ((F_Types_right a1 q7.2.1 q7.2.2).bind fun q10 => (r_Checker_substitute q10 a2 (a3 + 1) q7.2.1 q7.2.2).bind fun q11 => if sh_Tb q11.2.1 = true then pm_S q11.2.1 ((F_Types_kind a1 q11.2.1 q11.2.2).bind fun q14 => (F_Types_make N q14 q7.1 q11.1 q11.2.1 q11.2.2).bind fun q15 => if sh_Tb q15.2.1 = true then pm_S q15.2.1 (some (q15.1, q15.2.1, q15.2.2)) else none) else none) else none else some ((-1), g, u))
set_option maxHeartbeats 4000000 in
set_option maxRecDepth 100000 in
theorem co_Checker_substitute (l : Launch) (h0 : Nat) (D : pm_D) {g : pm_s} {u : pm_J} (hT : sh_T g) {N : Nat} {r_Checker_substitute : Int32 → Int32 → Int32 → pm_s → pm_J → Option (Int32 × pm_s × pm_J)} {dR_Checker_substitute : Nat} (hdR_Checker_substitute : 3 ≤ dR_Checker_substitute) (hr_Checker_substitute : ∀ {a1 : Int32} {a2 : Int32} {a3 : Int32} {g : pm_s} {u : pm_J} {out : Int32 × pm_s × pm_J}, sh_T g → r_Checker_substitute a1 a2 a3 g u = some out → pm_C l h0 D m_Checker_substitute dR_Checker_substitute [.ref 43, .int a1, .int a2, .int a3] (sm g u) (some (.int out.1)) (sm out.2.1 out.2.2)) {a1 : Int32} {a2 : Int32} {a3 : Int32} {out : Int32 × pm_s × pm_J} (h : FO_Checker_substitute N r_Checker_substitute a1 a2 a3 g u = some out) : pm_C l h0 D m_Checker_substitute (dR_Checker_substitute + 1) [.ref 43, .int a1, .int a2, .int a3] (sm g u) (some (.int out.1)) (sm out.2.1 out.2.2) := by
  unfold FO_Checker_substitute at h
  obtain ⟨h, hle⟩ := pm_Ss h
  refine pm_met (by decide +kernel) (Nat.le_of_ble_eq_true rfl) hle.1 hle.2 ?_
  intro p e R s m args below meth c
  refine pm_blk (pc' := 3) (L' := [(0, .ref 43), (1, .int a1), (2, .int a2), (3, .int a3)]) (S' := [.int 101, .int a3]) (M' := sm g u) [pm_o (.iload_n 3), pm_oi (.bipush 101) 101] (by decide +kernel) rfl ?_
  refine pm_ic_le (off := 5) 8 (by decide +kernel) (by decide) (fun hc1 => ?_) (fun hc1 => ?_)
  · rw [if_pos hc1] at h
    refine pm_blk (pc' := 13) (L' := [(0, .ref 43), (1, .int a1), (2, .int a2), (3, .int a3)]) (S' := [.int a1, .ref 10]) (M' := sm g u) [pm_o (.aload_n 0), pm_of (.getfield 9) 2 0 2, pm_o (.iload_n 1)] (by decide +kernel) rfl ?_
    obtain ⟨q2, hq2, h⟩ := pm_bd h
    refine pm_cV (idx := 160) m_Types_letters (c_Types_letters l h0 D hT hq2) (As := [.int a1]) (S0 := []) rfl (by decide +kernel) k_Types_letters l_Checker_160 (show 0 + 1 ≤ dR_Checker_substitute + 1 by omega) (Nat.le_of_ble_eq_true rfl) hle.1 hle.2 ?_
    refine pm_blk (pc' := 16) (L' := [(0, .ref 43), (1, .int a1), (2, .int a2), (3, .int a3)]) (S' := [.int q2]) (M' := sm g u) [] (by decide +kernel) rfl ?_
    refine pm_if_ne (off := 5) 21 (by decide +kernel) (by decide) (fun hc3 => ?_) (fun hc3 => ?_)
    · rw [if_neg hc3] at h
      refine pm_blk (pc' := 26) (L' := [(0, .ref 43), (1, .int a1), (2, .int a2), (3, .int a3)]) (S' := [.int a1, .ref 10]) (M' := sm g u) [pm_o (.aload_n 0), pm_of (.getfield 9) 2 0 2, pm_o (.iload_n 1)] (by decide +kernel) rfl ?_
      obtain ⟨q4, hq4, h⟩ := pm_bd h
      refine pm_cV (idx := 122) m_Types_kind (c_Types_kind l h0 D hT hq4) (As := [.int a1]) (S0 := []) rfl (by decide +kernel) k_Types_kind l_Checker_122 (show 0 + 1 ≤ dR_Checker_substitute + 1 by omega) (Nat.le_of_ble_eq_true rfl) hle.1 hle.2 ?_
      refine pm_blk (pc' := 30) (L' := [(0, .ref 43), (1, .int a1), (2, .int a2), (3, .int a3)]) (S' := [.int 2, .int q4]) (M' := sm g u) [pm_oi (.iconst 2) 2] (by decide +kernel) rfl ?_
      refine pm_ic_ne (off := 20) 50 (by decide +kernel) (by decide) (fun hc5 => ?_) (fun hc5 => ?_)
      · rw [if_neg hc5] at h
        refine pm_blk (pc' := 56) (L' := [(0, .ref 43), (1, .int a1), (2, .int a2), (3, .int a3)]) (S' := [.int a1, .ref 10, .ref 43]) (M' := sm g u) [pm_o (.aload_n 0), pm_o (.aload_n 0), pm_of (.getfield 9) 2 0 2, pm_o (.iload_n 1)] (by decide +kernel) rfl ?_
        obtain ⟨q6, hq6, h⟩ := pm_bd h
        refine pm_cV (idx := 123) m_Types_left (c_Types_left l h0 D hT hq6) (As := [.int a1]) (S0 := [.ref 43]) rfl (by decide +kernel) k_Types_left l_Checker_123 (show 0 + 1 ≤ dR_Checker_substitute + 1 by omega) (Nat.le_of_ble_eq_true rfl) hle.1 hle.2 ?_
        refine pm_blk (pc' := 63) (L' := [(0, .ref 43), (1, .int a1), (2, .int a2), (3, .int a3)]) (S' := [.int (a3 + 1), .int a2, .int q6, .ref 43]) (M' := sm g u) [pm_o (.iload_n 2), pm_o (.iload_n 3), pm_oi (.iconst 1) 1, pm_o .iadd] (by decide +kernel) rfl ?_
        obtain ⟨q7, hq7, h⟩ := pm_bd h
        obtain ⟨hu8, h⟩ := pm_ifs h
        obtain ⟨h, hl9⟩ := pm_Ss h
        refine pm_cV (idx := 146) m_Checker_substitute (hr_Checker_substitute hT hq7) (As := [.int q6, .int a2, .int (a3 + 1)]) (S0 := []) rfl (by decide +kernel) k_Checker_substitute l_Checker_146 (show dR_Checker_substitute + 1 ≤ dR_Checker_substitute + 1 by omega) (Nat.le_of_ble_eq_true rfl) hl9.1 hl9.2 ?_
        refine pm_blk (pc' := 74) (L' := [(4, .int q7.1), (0, .ref 43), (1, .int a1), (2, .int a2), (3, .int a3)]) (S' := [.int a1, .ref 10, .ref 43]) (M' := sm q7.2.1 q7.2.2) [pm_o (.istore 4), pm_o (.aload_n 0), pm_o (.aload_n 0), pm_of (.getfield 9) 2 0 2, pm_o (.iload_n 1)] (by decide +kernel) rfl ?_
        obtain ⟨q10, hq10, h⟩ := pm_bd h
        refine pm_cV (idx := 126) m_Types_right (c_Types_right l h0 D (sh_Tb_s hu8) hq10) (As := [.int a1]) (S0 := [.ref 43]) rfl (by decide +kernel) k_Types_right l_Checker_126 (show 0 + 1 ≤ dR_Checker_substitute + 1 by omega) (Nat.le_of_ble_eq_true rfl) hl9.1 hl9.2 ?_
        refine pm_blk (pc' := 81) (L' := [(4, .int q7.1), (0, .ref 43), (1, .int a1), (2, .int a2), (3, .int a3)]) (S' := [.int (a3 + 1), .int a2, .int q10, .ref 43]) (M' := sm q7.2.1 q7.2.2) [pm_o (.iload_n 2), pm_o (.iload_n 3), pm_oi (.iconst 1) 1, pm_o .iadd] (by decide +kernel) rfl ?_
        obtain ⟨q11, hq11, h⟩ := pm_bd h
        obtain ⟨hu12, h⟩ := pm_ifs h
        obtain ⟨h, hl13⟩ := pm_Ss h
        refine pm_cV (idx := 146) m_Checker_substitute (hr_Checker_substitute (sh_Tb_s hu8) hq11) (As := [.int q10, .int a2, .int (a3 + 1)]) (S0 := []) rfl (by decide +kernel) k_Checker_substitute l_Checker_146 (show dR_Checker_substitute + 1 ≤ dR_Checker_substitute + 1 by omega) (Nat.le_of_ble_eq_true rfl) hl13.1 hl13.2 ?_
        refine pm_blk (pc' := 95) (L' := [(5, .int q11.1), (4, .int q7.1), (0, .ref 43), (1, .int a1), (2, .int a2), (3, .int a3)]) (S' := [.int a1, .ref 10, .ref 10]) (M' := sm q11.2.1 q11.2.2) [pm_o (.istore 5), pm_o (.aload_n 0), pm_of (.getfield 9) 2 0 2, pm_o (.aload_n 0), pm_of (.getfield 9) 2 0 2, pm_o (.iload_n 1)] (by decide +kernel) rfl ?_
        obtain ⟨q14, hq14, h⟩ := pm_bd h
        refine pm_cV (idx := 122) m_Types_kind (c_Types_kind l h0 D (sh_Tb_s hu12) hq14) (As := [.int a1]) (S0 := [.ref 10]) rfl (by decide +kernel) k_Types_kind l_Checker_122 (show 0 + 1 ≤ dR_Checker_substitute + 1 by omega) (Nat.le_of_ble_eq_true rfl) hl13.1 hl13.2 ?_
        refine pm_blk (pc' := 102) (L' := [(5, .int q11.1), (4, .int q7.1), (0, .ref 43), (1, .int a1), (2, .int a2), (3, .int a3)]) (S' := [.int q11.1, .int q7.1, .int q14, .ref 10]) (M' := sm q11.2.1 q11.2.2) [pm_o (.iload 4), pm_o (.iload 5)] (by decide +kernel) rfl ?_
        obtain ⟨q15, hq15, h⟩ := pm_bd h
        obtain ⟨hu16, h⟩ := pm_ifs h
        obtain ⟨h, hl17⟩ := pm_Ss h
        refine pm_cV (idx := 118) m_Types_make (c_Types_make l h0 D (sh_Tb_s hu12) hq15) (As := [.int q14, .int q7.1, .int q11.1]) (S0 := []) rfl (by decide +kernel) k_Types_make l_Checker_118 (show 2 + 1 ≤ dR_Checker_substitute + 1 by omega) (Nat.le_of_ble_eq_true rfl) hl17.1 hl17.2 ?_
        refine pm_blk (pc' := 105) (L' := [(5, .int q11.1), (4, .int q7.1), (0, .ref 43), (1, .int a1), (2, .int a2), (3, .int a3)]) (S' := [.int q15.1]) (M' := sm q15.2.1 q15.2.2) [] (by decide +kernel) rfl ?_
        have h9 := Option.some.inj h
        subst h9
        exact pm_reti rfl (by decide +kernel) rfl rfl rfl
      · rw [if_pos hc5] at h
        refine pm_blk (pc' := 43) (L' := [(0, .ref 43), (1, .int a1), (2, .int a2), (3, .int a3)]) (S' := [.int a1, .ref 10, .int a2, .ref 18]) (M' := sm g u) [pm_o (.aload_n 0), pm_of (.getfield 15) 2 1 2, pm_o (.iload_n 2), pm_o (.aload_n 0), pm_of (.getfield 9) 2 0 2, pm_o (.iload_n 1)] (by decide +kernel) rfl ?_
        obtain ⟨q18, hq18, h⟩ := pm_bd h
        refine pm_cV (idx := 163) m_Types_letterNumber (c_Types_letterNumber l h0 D hT hq18) (As := [.int a1]) (S0 := [.int a2, .ref 18]) rfl (by decide +kernel) k_Types_letterNumber l_Checker_163 (show 0 + 1 ≤ dR_Checker_substitute + 1 by omega) (Nat.le_of_ble_eq_true rfl) hle.1 hle.2 ?_
        refine pm_blk (pc' := 46) (L' := [(0, .ref 43), (1, .int a1), (2, .int a2), (3, .int a3)]) (S' := [.int q18, .int a2, .ref 18]) (M' := sm g u) [] (by decide +kernel) rfl ?_
        obtain ⟨q19, hq19, h⟩ := pm_bd h
        refine pm_cV (idx := 166) m_Tree_fit (c_Tree_fit l h0 D hT hq19) (As := [.int a2, .int q18]) (S0 := []) rfl (by decide +kernel) k_Tree_fit l_Checker_166 (show 0 + 1 ≤ dR_Checker_substitute + 1 by omega) (Nat.le_of_ble_eq_true rfl) hle.1 hle.2 ?_
        refine pm_blk (pc' := 49) (L' := [(0, .ref 43), (1, .int a1), (2, .int a2), (3, .int a3)]) (S' := [.int q19]) (M' := sm g u) [] (by decide +kernel) rfl ?_
        have h9 := Option.some.inj h
        subst h9
        exact pm_reti rfl (by decide +kernel) rfl rfl rfl
    · rw [if_pos hc3] at h
      refine pm_blk (pc' := 20) (L' := [(0, .ref 43), (1, .int a1), (2, .int a2), (3, .int a3)]) (S' := [.int a1]) (M' := sm g u) [pm_o (.iload_n 1)] (by decide +kernel) rfl ?_
      have h9 := Option.some.inj h
      subst h9
      exact pm_reti rfl (by decide +kernel) rfl rfl rfl
  · rw [if_neg hc1] at h
    refine pm_blk (pc' := 7) (L' := [(0, .ref 43), (1, .int a1), (2, .int a2), (3, .int a3)]) (S' := [.int (-1)]) (M' := sm g u) [pm_oi (.iconst (-1)) (-1)] (by decide +kernel) rfl ?_
    have h9 := Option.some.inj h
    subst h9
    exact pm_reti rfl (by decide +kernel) rfl rfl rfl
def F_Checker_substitute (N : Nat) : Nat → Int32 → Int32 → Int32 → pm_s → pm_J → Option (Int32 × pm_s × pm_J)
  | 0, _, _, _, _, _ => none
  | k + 1, a1, a2, a3, g, u => FO_Checker_substitute N (F_Checker_substitute N k) a1 a2 a3 g u
theorem c_Checker_substitute_k (l : Launch) (h0 : Nat) (D : pm_D) {N : Nat} (k : Nat) : ∀ {a1 : Int32} {a2 : Int32} {a3 : Int32} {g : pm_s} {u : pm_J} {out : Int32 × pm_s × pm_J}, sh_T g → F_Checker_substitute N k a1 a2 a3 g u = some out → pm_C l h0 D m_Checker_substitute (3 + 1 * k) [.ref 43, .int a1, .int a2, .int a3] (sm g u) (some (.int out.1)) (sm out.2.1 out.2.2) := by
  induction k with
  | zero => intro a1 a2 a3 g u out hT h; cases h
  | succ k ih =>
    intro a1 a2 a3 g u out hT h
    have h9 := co_Checker_substitute l h0 D hT (dR_Checker_substitute := 3 + 1 * k) (show 3 ≤ 3 + 1 * k by omega) ih h
    rw [show 3 + 1 * k + 1 = 3 + 1 * (k + 1) by omega] at h9
    exact h9
theorem c_Checker_substitute (l : Launch) (h0 : Nat) (D : pm_D) {g : pm_s} {u : pm_J} (hT : sh_T g) {N : Nat} {a1 : Int32} {a2 : Int32} {a3 : Int32} {out : Int32 × pm_s × pm_J} (h : F_Checker_substitute N 104 a1 a2 a3 g u = some out) : pm_C l h0 D m_Checker_substitute (3 + 1 * 104) [.ref 43, .int a1, .int a2, .int a3] (sm g u) (some (.int out.1)) (sm out.2.1 out.2.2) := c_Checker_substitute_k l h0 D 104 hT h
def K_Checker_typeOfCall_169 (N : Nat) : Nat → Int32 → Int32 → Int32 → Int32 → pm_s → pm_J → Option (Int32 × pm_s × pm_J)
  | 0, _, _, _, _, _, _ => none
  | n + 1, x3, x4, x5, x7, g, u => if x5 ≤ x7 then some (x3, g, u) else (F_Types_kind x3 g u).bind fun q9 => if q9 = 4 then (F_Types_left x3 g u).bind fun q11 => (F_Tree_type x4 g u).bind fun q12 => if q11 = q12 then (F_Types_right x3 g u).bind fun q14 => (F_Tree_next x4 g u).bind fun q15 => K_Checker_typeOfCall_169 N  n q14 q15 x5 (x7 + 1) g u else some ((-1), g, u) else some ((-1), g, u)
set_option maxHeartbeats 4000000 in
set_option maxRecDepth 100000 in
theorem w_Checker_typeOfCall_169 (l : Launch) (h0 : Nat) (D : pm_D) {N : Nat} {g0 : pm_s} {u0 : pm_J} {out : Int32 × pm_s × pm_J} {p : Program} {e : Env} {R : Room} {s : State} {m : MethodId} {args : Array Value} {below : List Frame} {meth : Method} {c : Code} : ∀ (n : Nat) (x3 : Int32) (x4 : Int32) (x5 : Int32) (x7 : Int32) (g : pm_s) (u : pm_J) (hT : sh_T g) (hle : g.1 ≤ out.2.1.1 ∧ g.2.1 ≤ out.2.1.2.1), K_Checker_typeOfCall_169 N n x3 x4 x5 x7 g u = some out → pm_V (p, l, e, R, s, m, args, below, meth, c) m_Checker_typeOfCall h0 D (g0.1, g0.2.1, out.2.1.1, out.2.1.2.1, 108) (pm_E (p, l, e, R, s, m, args, below, meth, c) h0 D (sm g0 u0) (some (.int out.1)) (sm out.2.1 out.2.2)) 169 [(0, .ref 43), (3, .int x3), (4, .int x4), (5, .int x5), (7, .int x7)] [] (sm g u) := by
  intro n
  induction n with
  | zero => intro x3 x4 x5 x7 g u hT hle h; cases h
  | succ n ih =>
    intro x3 x4 x5 x7 g u hT hle h
    rw [K_Checker_typeOfCall_169] at h
    refine pm_blk (pc' := 173) (L' := [(0, .ref 43), (3, .int x3), (4, .int x4), (5, .int x5), (7, .int x7)]) (S' := [.int x5, .int x7]) (M' := sm g u) [pm_o (.iload 7), pm_o (.iload 5)] (by decide +kernel) rfl ?_
    refine pm_ic_ge (off := 63) 236 (by decide +kernel) (by decide) (fun hc8 => ?_) (fun hc8 => ?_)
    · rw [if_pos hc8] at h
      refine pm_blk (pc' := 237) (L' := [(0, .ref 43), (3, .int x3), (4, .int x4), (5, .int x5), (7, .int x7)]) (S' := [.int x3]) (M' := sm g u) [pm_o (.iload_n 3)] (by decide +kernel) rfl ?_
      have h9 := Option.some.inj h
      subst h9
      exact pm_reti rfl (by decide +kernel) rfl rfl rfl
    · rw [if_neg hc8] at h
      refine pm_blk (pc' := 181) (L' := [(0, .ref 43), (3, .int x3), (4, .int x4), (5, .int x5), (7, .int x7)]) (S' := [.int x3, .ref 10]) (M' := sm g u) [pm_o (.aload_n 0), pm_of (.getfield 9) 2 0 2, pm_o (.iload_n 3)] (by decide +kernel) rfl ?_
      obtain ⟨q9, hq9, h⟩ := pm_bd h
      refine pm_cV (idx := 122) m_Types_kind (c_Types_kind l h0 D hT hq9) (As := [.int x3]) (S0 := []) rfl (by decide +kernel) k_Types_kind l_Checker_122 (Nat.le_of_ble_eq_true rfl) (Nat.le_of_ble_eq_true rfl) hle.1 hle.2 ?_
      refine pm_blk (pc' := 185) (L' := [(0, .ref 43), (3, .int x3), (4, .int x4), (5, .int x5), (7, .int x7)]) (S' := [.int 4, .int q9]) (M' := sm g u) [pm_oi (.iconst 4) 4] (by decide +kernel) rfl ?_
      refine pm_ic_ne (off := 23) 208 (by decide +kernel) (by decide) (fun hc10 => ?_) (fun hc10 => ?_)
      · rw [if_neg hc10] at h
        refine pm_blk (pc' := 209) (L' := [(0, .ref 43), (3, .int x3), (4, .int x4), (5, .int x5), (7, .int x7)]) (S' := [.int (-1)]) (M' := sm g u) [pm_oi (.iconst (-1)) (-1)] (by decide +kernel) rfl ?_
        have h9 := Option.some.inj h
        subst h9
        exact pm_reti rfl (by decide +kernel) rfl rfl rfl
      · rw [if_pos hc10] at h
        refine pm_blk (pc' := 193) (L' := [(0, .ref 43), (3, .int x3), (4, .int x4), (5, .int x5), (7, .int x7)]) (S' := [.int x3, .ref 10]) (M' := sm g u) [pm_o (.aload_n 0), pm_of (.getfield 9) 2 0 2, pm_o (.iload_n 3)] (by decide +kernel) rfl ?_
        obtain ⟨q11, hq11, h⟩ := pm_bd h
        refine pm_cV (idx := 123) m_Types_left (c_Types_left l h0 D hT hq11) (As := [.int x3]) (S0 := []) rfl (by decide +kernel) k_Types_left l_Checker_123 (Nat.le_of_ble_eq_true rfl) (Nat.le_of_ble_eq_true rfl) hle.1 hle.2 ?_
        refine pm_blk (pc' := 202) (L' := [(0, .ref 43), (3, .int x3), (4, .int x4), (5, .int x5), (7, .int x7)]) (S' := [.int x4, .ref 18, .int q11]) (M' := sm g u) [pm_o (.aload_n 0), pm_of (.getfield 15) 2 1 2, pm_o (.iload 4)] (by decide +kernel) rfl ?_
        obtain ⟨q12, hq12, h⟩ := pm_bd h
        refine pm_cV (idx := 54) m_Tree_type (c_Tree_type l h0 D hT hq12) (As := [.int x4]) (S0 := [.int q11]) rfl (by decide +kernel) k_Tree_type l_Checker_54 (Nat.le_of_ble_eq_true rfl) (Nat.le_of_ble_eq_true rfl) hle.1 hle.2 ?_
        refine pm_blk (pc' := 205) (L' := [(0, .ref 43), (3, .int x3), (4, .int x4), (5, .int x5), (7, .int x7)]) (S' := [.int q12, .int q11]) (M' := sm g u) [] (by decide +kernel) rfl ?_
        refine pm_ic_eq (off := 5) 210 (by decide +kernel) (by decide) (fun hc13 => ?_) (fun hc13 => ?_)
        · rw [if_pos hc13] at h
          refine pm_blk (pc' := 215) (L' := [(0, .ref 43), (3, .int x3), (4, .int x4), (5, .int x5), (7, .int x7)]) (S' := [.int x3, .ref 10]) (M' := sm g u) [pm_o (.aload_n 0), pm_of (.getfield 9) 2 0 2, pm_o (.iload_n 3)] (by decide +kernel) rfl ?_
          obtain ⟨q14, hq14, h⟩ := pm_bd h
          refine pm_cV (idx := 126) m_Types_right (c_Types_right l h0 D hT hq14) (As := [.int x3]) (S0 := []) rfl (by decide +kernel) k_Types_right l_Checker_126 (Nat.le_of_ble_eq_true rfl) (Nat.le_of_ble_eq_true rfl) hle.1 hle.2 ?_
          refine pm_blk (pc' := 225) (L' := [(3, .int q14), (0, .ref 43), (4, .int x4), (5, .int x5), (7, .int x7)]) (S' := [.int x4, .ref 18]) (M' := sm g u) [pm_o (.istore_n 3), pm_o (.aload_n 0), pm_of (.getfield 15) 2 1 2, pm_o (.iload 4)] (by decide +kernel) rfl ?_
          obtain ⟨q15, hq15, h⟩ := pm_bd h
          refine pm_cV (idx := 139) m_Tree_next (c_Tree_next l h0 D hT hq15) (As := [.int x4]) (S0 := []) rfl (by decide +kernel) k_Tree_next l_Checker_139 (Nat.le_of_ble_eq_true rfl) (Nat.le_of_ble_eq_true rfl) hle.1 hle.2 ?_
          refine pm_blk (pc' := 233) (L' := [(7, .int (x7 + 1)), (4, .int q15), (3, .int q14), (0, .ref 43), (5, .int x5)]) (S' := []) (M' := sm g u) [pm_o (.istore 4), pm_oi (.iinc 7 1) 1] (by decide +kernel) rfl ?_
          refine pm_goto (off := -64) 169 (by decide +kernel) (by decide) ?_
          refine pm_loc [3, 2, 1, 4, 0] rfl ?_
          exact ih q14 q15 x5 (x7 + 1) g u hT hle h
        · rw [if_neg hc13] at h
          refine pm_blk (pc' := 209) (L' := [(0, .ref 43), (3, .int x3), (4, .int x4), (5, .int x5), (7, .int x7)]) (S' := [.int (-1)]) (M' := sm g u) [pm_oi (.iconst (-1)) (-1)] (by decide +kernel) rfl ?_
          have h9 := Option.some.inj h
          subst h9
          exact pm_reti rfl (by decide +kernel) rfl rfl rfl
def K_Checker_typeOfCall_141 (N : Nat) : Nat → Int32 → Int32 → Int32 → Int32 → Int32 → pm_s → pm_J → Option (Int32 × pm_s × pm_J)
  | 0, _, _, _, _, _, _, _ => none
  | n + 1, x3, x4, x5, x6, x8, g, u => if x6 ≤ x8 then K_Checker_typeOfCall_169 N N x3 x4 x5 x6 g u else (F_Tree_next x4 g u).bind fun q28 => K_Checker_typeOfCall_141 N  n x3 q28 x5 x6 (x8 + 1) g u
set_option maxHeartbeats 4000000 in
set_option maxRecDepth 100000 in
theorem w_Checker_typeOfCall_141 (l : Launch) (h0 : Nat) (D : pm_D) {N : Nat} {g0 : pm_s} {u0 : pm_J} {out : Int32 × pm_s × pm_J} {p : Program} {e : Env} {R : Room} {s : State} {m : MethodId} {args : Array Value} {below : List Frame} {meth : Method} {c : Code} : ∀ (n : Nat) (x3 : Int32) (x4 : Int32) (x5 : Int32) (x6 : Int32) (x8 : Int32) (g : pm_s) (u : pm_J) (hT : sh_T g) (hle : g.1 ≤ out.2.1.1 ∧ g.2.1 ≤ out.2.1.2.1), K_Checker_typeOfCall_141 N n x3 x4 x5 x6 x8 g u = some out → pm_V (p, l, e, R, s, m, args, below, meth, c) m_Checker_typeOfCall h0 D (g0.1, g0.2.1, out.2.1.1, out.2.1.2.1, 108) (pm_E (p, l, e, R, s, m, args, below, meth, c) h0 D (sm g0 u0) (some (.int out.1)) (sm out.2.1 out.2.2)) 141 [(0, .ref 43), (3, .int x3), (4, .int x4), (5, .int x5), (6, .int x6), (8, .int x8)] [] (sm g u) := by
  intro n
  induction n with
  | zero => intro x3 x4 x5 x6 x8 g u hT hle h; cases h
  | succ n ih =>
    intro x3 x4 x5 x6 x8 g u hT hle h
    rw [K_Checker_typeOfCall_141] at h
    refine pm_blk (pc' := 145) (L' := [(0, .ref 43), (3, .int x3), (4, .int x4), (5, .int x5), (6, .int x6), (8, .int x8)]) (S' := [.int x6, .int x8]) (M' := sm g u) [pm_o (.iload 8), pm_o (.iload 6)] (by decide +kernel) rfl ?_
    refine pm_ic_ge (off := 20) 165 (by decide +kernel) (by decide) (fun hc27 => ?_) (fun hc27 => ?_)
    · rw [if_pos hc27] at h
      refine pm_blk (pc' := 169) (L' := [(7, .int x6), (0, .ref 43), (3, .int x3), (4, .int x4), (5, .int x5), (6, .int x6), (8, .int x8)]) (S' := []) (M' := sm g u) [pm_o (.iload 6), pm_o (.istore 7)] (by decide +kernel) rfl ?_
      refine pm_loc [1, 2, 3, 4, 0] rfl ?_
      exact w_Checker_typeOfCall_169 l h0 D N x3 x4 x5 x6 g u hT hle h
    · rw [if_neg hc27] at h
      refine pm_blk (pc' := 154) (L' := [(0, .ref 43), (3, .int x3), (4, .int x4), (5, .int x5), (6, .int x6), (8, .int x8)]) (S' := [.int x4, .ref 18]) (M' := sm g u) [pm_o (.aload_n 0), pm_of (.getfield 15) 2 1 2, pm_o (.iload 4)] (by decide +kernel) rfl ?_
      obtain ⟨q28, hq28, h⟩ := pm_bd h
      refine pm_cV (idx := 139) m_Tree_next (c_Tree_next l h0 D hT hq28) (As := [.int x4]) (S0 := []) rfl (by decide +kernel) k_Tree_next l_Checker_139 (Nat.le_of_ble_eq_true rfl) (Nat.le_of_ble_eq_true rfl) hle.1 hle.2 ?_
      refine pm_blk (pc' := 162) (L' := [(8, .int (x8 + 1)), (4, .int q28), (0, .ref 43), (3, .int x3), (5, .int x5), (6, .int x6)]) (S' := []) (M' := sm g u) [pm_o (.istore 4), pm_oi (.iinc 8 1) 1] (by decide +kernel) rfl ?_
      refine pm_goto (off := -21) 141 (by decide +kernel) (by decide) ?_
      refine pm_loc [2, 3, 1, 4, 5, 0] rfl ?_
      exact ih x3 q28 x5 x6 (x8 + 1) g u hT hle h
def F_Checker_typeOfCall (N : Nat) (a1 : Int32) (g : pm_s) (u : pm_J) : Option (Int32 × pm_s × pm_J) := pm_S g ((F_Tree_first a1 g u).bind fun q1 => (F_Tree_type q1 g u).bind fun q2 => (F_Tree_first a1 g u).bind fun q3 => (F_Tree_next q3 g u).bind fun q4 => (F_Tree_third a1 g u).bind fun q5 => (F_Tree_kind q1 g u).bind fun q6 => if q6 = 5 then (F_Tree_value q1 g u).bind fun q16 => (F_Table_parameters q16.toInt32 g u).bind fun q17 => if q5 < q17 then some ((-1), g, u) else (F_Checker_fitAtoms N a1 q16.toInt32 g u).bind fun q19 => if q19.1 = 0 then some ((-1), g, q19.2) else (F_Tree_turnInto a1 17 g q19.2).bind fun q21 => (F_Tree_setValue a1 q16.toInt32.toInt64 g q21).bind fun q22 => (F_Table_type q16.toInt32 g q22).bind fun q23 => (F_Checker_substitute N 104 q23 a1 0 g q22).bind fun q24 => if sh_Tb q24.2.1 = true then pm_S q24.2.1 (K_Checker_typeOfCall_141 N N q24.1 q4 q5 q17 0 q24.2.1 q24.2.2) else none else K_Checker_typeOfCall_169 N N q2 q4 q5 0 g u)
set_option maxHeartbeats 4000000 in
set_option maxRecDepth 100000 in
theorem c_Checker_typeOfCall (l : Launch) (h0 : Nat) (D : pm_D) {g : pm_s} {u : pm_J} (hT : sh_T g) {N : Nat} {a1 : Int32} {out : Int32 × pm_s × pm_J} (h : F_Checker_typeOfCall N a1 g u = some out) : pm_C l h0 D m_Checker_typeOfCall (108) [.ref 43, .int a1] (sm g u) (some (.int out.1)) (sm out.2.1 out.2.2) := by
  unfold F_Checker_typeOfCall at h
  obtain ⟨h, hle⟩ := pm_Ss h
  refine pm_met (by decide +kernel) (Nat.le_of_ble_eq_true rfl) hle.1 hle.2 ?_
  intro p e R s m args below meth c
  refine pm_blk (pc' := 5) (L' := [(0, .ref 43), (1, .int a1)]) (S' := [.int a1, .ref 18]) (M' := sm g u) [pm_o (.aload_n 0), pm_of (.getfield 15) 2 1 2, pm_o (.iload_n 1)] (by decide +kernel) rfl ?_
  obtain ⟨q1, hq1, h⟩ := pm_bd h
  refine pm_cV (idx := 106) m_Tree_first (c_Tree_first l h0 D hT hq1) (As := [.int a1]) (S0 := []) rfl (by decide +kernel) k_Tree_first l_Checker_106 (Nat.le_of_ble_eq_true rfl) (Nat.le_of_ble_eq_true rfl) hle.1 hle.2 ?_
  refine pm_blk (pc' := 14) (L' := [(2, .int q1), (0, .ref 43), (1, .int a1)]) (S' := [.int q1, .ref 18]) (M' := sm g u) [pm_o (.istore_n 2), pm_o (.aload_n 0), pm_of (.getfield 15) 2 1 2, pm_o (.iload_n 2)] (by decide +kernel) rfl ?_
  obtain ⟨q2, hq2, h⟩ := pm_bd h
  refine pm_cV (idx := 54) m_Tree_type (c_Tree_type l h0 D hT hq2) (As := [.int q1]) (S0 := []) rfl (by decide +kernel) k_Tree_type l_Checker_54 (Nat.le_of_ble_eq_true rfl) (Nat.le_of_ble_eq_true rfl) hle.1 hle.2 ?_
  refine pm_blk (pc' := 27) (L' := [(3, .int q2), (2, .int q1), (0, .ref 43), (1, .int a1)]) (S' := [.int a1, .ref 18, .ref 18]) (M' := sm g u) [pm_o (.istore_n 3), pm_o (.aload_n 0), pm_of (.getfield 15) 2 1 2, pm_o (.aload_n 0), pm_of (.getfield 15) 2 1 2, pm_o (.iload_n 1)] (by decide +kernel) rfl ?_
  obtain ⟨q3, hq3, h⟩ := pm_bd h
  refine pm_cV (idx := 106) m_Tree_first (c_Tree_first l h0 D hT hq3) (As := [.int a1]) (S0 := [.ref 18]) rfl (by decide +kernel) k_Tree_first l_Checker_106 (Nat.le_of_ble_eq_true rfl) (Nat.le_of_ble_eq_true rfl) hle.1 hle.2 ?_
  refine pm_blk (pc' := 30) (L' := [(3, .int q2), (2, .int q1), (0, .ref 43), (1, .int a1)]) (S' := [.int q3, .ref 18]) (M' := sm g u) [] (by decide +kernel) rfl ?_
  obtain ⟨q4, hq4, h⟩ := pm_bd h
  refine pm_cV (idx := 139) m_Tree_next (c_Tree_next l h0 D hT hq4) (As := [.int q3]) (S0 := []) rfl (by decide +kernel) k_Tree_next l_Checker_139 (Nat.le_of_ble_eq_true rfl) (Nat.le_of_ble_eq_true rfl) hle.1 hle.2 ?_
  refine pm_blk (pc' := 40) (L' := [(4, .int q4), (3, .int q2), (2, .int q1), (0, .ref 43), (1, .int a1)]) (S' := [.int a1, .ref 18]) (M' := sm g u) [pm_o (.istore 4), pm_o (.aload_n 0), pm_of (.getfield 15) 2 1 2, pm_o (.iload_n 1)] (by decide +kernel) rfl ?_
  obtain ⟨q5, hq5, h⟩ := pm_bd h
  refine pm_cV (idx := 115) m_Tree_third (c_Tree_third l h0 D hT hq5) (As := [.int a1]) (S0 := []) rfl (by decide +kernel) k_Tree_third l_Checker_115 (Nat.le_of_ble_eq_true rfl) (Nat.le_of_ble_eq_true rfl) hle.1 hle.2 ?_
  refine pm_blk (pc' := 53) (L' := [(6, .int 0), (5, .int q5), (4, .int q4), (3, .int q2), (2, .int q1), (0, .ref 43), (1, .int a1)]) (S' := [.int q1, .ref 18]) (M' := sm g u) [pm_o (.istore 5), pm_oi (.iconst 0) 0, pm_o (.istore 6), pm_o (.aload_n 0), pm_of (.getfield 15) 2 1 2, pm_o (.iload_n 2)] (by decide +kernel) rfl ?_
  obtain ⟨q6, hq6, h⟩ := pm_bd h
  refine pm_cV (idx := 70) m_Tree_kind (c_Tree_kind l h0 D hT hq6) (As := [.int q1]) (S0 := []) rfl (by decide +kernel) k_Tree_kind l_Checker_70 (Nat.le_of_ble_eq_true rfl) (Nat.le_of_ble_eq_true rfl) hle.1 hle.2 ?_
  refine pm_blk (pc' := 57) (L' := [(6, .int 0), (5, .int q5), (4, .int q4), (3, .int q2), (2, .int q1), (0, .ref 43), (1, .int a1)]) (S' := [.int 5, .int q6]) (M' := sm g u) [pm_oi (.iconst 5) 5] (by decide +kernel) rfl ?_
  refine pm_ic_ne (off := 108) 165 (by decide +kernel) (by decide) (fun hc7 => ?_) (fun hc7 => ?_)
  · rw [if_neg hc7] at h
    refine pm_blk (pc' := 169) (L' := [(7, .int 0), (6, .int 0), (5, .int q5), (4, .int q4), (3, .int q2), (2, .int q1), (0, .ref 43), (1, .int a1)]) (S' := []) (M' := sm g u) [pm_o (.iload 6), pm_o (.istore 7)] (by decide +kernel) rfl ?_
    refine pm_loc [6, 4, 3, 2, 0] rfl ?_
    exact w_Checker_typeOfCall_169 l h0 D N q2 q4 q5 0 g u hT hle h
  · rw [if_pos hc7] at h
    refine pm_blk (pc' := 65) (L' := [(6, .int 0), (5, .int q5), (4, .int q4), (3, .int q2), (2, .int q1), (0, .ref 43), (1, .int a1)]) (S' := [.int q1, .ref 18]) (M' := sm g u) [pm_o (.aload_n 0), pm_of (.getfield 15) 2 1 2, pm_o (.iload_n 2)] (by decide +kernel) rfl ?_
    obtain ⟨q16, hq16, h⟩ := pm_bd h
    refine pm_cV (idx := 88) m_Tree_value (c_Tree_value l h0 D hT hq16) (As := [.int q1]) (S0 := []) rfl (by decide +kernel) k_Tree_value l_Checker_88 (Nat.le_of_ble_eq_true rfl) (Nat.le_of_ble_eq_true rfl) hle.1 hle.2 ?_
    refine pm_blk (pc' := 77) (L' := [(7, .int q16.toInt32), (6, .int 0), (5, .int q5), (4, .int q4), (3, .int q2), (2, .int q1), (0, .ref 43), (1, .int a1)]) (S' := [.int q16.toInt32, .ref 29]) (M' := sm g u) [pm_o .l2i, pm_o (.istore 7), pm_o (.aload_n 0), pm_of (.getfield 19) 2 2 2, pm_o (.iload 7)] (by decide +kernel) rfl ?_
    obtain ⟨q17, hq17, h⟩ := pm_bd h
    refine pm_cV (idx := 96) m_Table_parameters (c_Table_parameters l h0 D hT hq17) (As := [.int q16.toInt32]) (S0 := []) rfl (by decide +kernel) k_Table_parameters l_Checker_96 (Nat.le_of_ble_eq_true rfl) (Nat.le_of_ble_eq_true rfl) hle.1 hle.2 ?_
    refine pm_blk (pc' := 86) (L' := [(6, .int q17), (7, .int q16.toInt32), (5, .int q5), (4, .int q4), (3, .int q2), (2, .int q1), (0, .ref 43), (1, .int a1)]) (S' := [.int q17, .int q5]) (M' := sm g u) [pm_o (.istore 6), pm_o (.iload 5), pm_o (.iload 6)] (by decide +kernel) rfl ?_
    refine pm_ic_lt (off := 13) 99 (by decide +kernel) (by decide) (fun hc18 => ?_) (fun hc18 => ?_)
    · rw [if_pos hc18] at h
      refine pm_blk (pc' := 100) (L' := [(6, .int q17), (7, .int q16.toInt32), (5, .int q5), (4, .int q4), (3, .int q2), (2, .int q1), (0, .ref 43), (1, .int a1)]) (S' := [.int (-1)]) (M' := sm g u) [pm_oi (.iconst (-1)) (-1)] (by decide +kernel) rfl ?_
      have h9 := Option.some.inj h
      subst h9
      exact pm_reti rfl (by decide +kernel) rfl rfl rfl
    · rw [if_neg hc18] at h
      refine pm_blk (pc' := 93) (L' := [(6, .int q17), (7, .int q16.toInt32), (5, .int q5), (4, .int q4), (3, .int q2), (2, .int q1), (0, .ref 43), (1, .int a1)]) (S' := [.int q16.toInt32, .int a1, .ref 43]) (M' := sm g u) [pm_o (.aload_n 0), pm_o (.iload_n 1), pm_o (.iload 7)] (by decide +kernel) rfl ?_
      obtain ⟨q19, hq19, h⟩ := pm_bd h
      refine pm_cV (idx := 142) m_Checker_fitAtoms (c_Checker_fitAtoms l h0 D hT hq19) (As := [.int a1, .int q16.toInt32]) (S0 := []) rfl (by decide +kernel) k_Checker_fitAtoms l_Checker_142 (Nat.le_of_ble_eq_true rfl) (Nat.le_of_ble_eq_true rfl) hle.1 hle.2 ?_
      refine pm_blk (pc' := 96) (L' := [(6, .int q17), (7, .int q16.toInt32), (5, .int q5), (4, .int q4), (3, .int q2), (2, .int q1), (0, .ref 43), (1, .int a1)]) (S' := [.int q19.1]) (M' := sm g q19.2) [] (by decide +kernel) rfl ?_
      refine pm_if_ne (off := 5) 101 (by decide +kernel) (by decide) (fun hc20 => ?_) (fun hc20 => ?_)
      · rw [if_neg hc20] at h
        refine pm_blk (pc' := 108) (L' := [(6, .int q17), (7, .int q16.toInt32), (5, .int q5), (4, .int q4), (3, .int q2), (2, .int q1), (0, .ref 43), (1, .int a1)]) (S' := [.int 17, .int a1, .ref 18]) (M' := sm g q19.2) [pm_o (.aload_n 0), pm_of (.getfield 15) 2 1 2, pm_o (.iload_n 1), pm_oi (.bipush 17) 17] (by decide +kernel) rfl ?_
        obtain ⟨q21, hq21, h⟩ := pm_bd h
        refine pm_cV (idx := 99) m_Tree_turnInto (c_Tree_turnInto l h0 D hT hq21) (As := [.int a1, .int 17]) (S0 := []) rfl (by decide +kernel) k_Tree_turnInto l_Checker_99 (Nat.le_of_ble_eq_true rfl) (Nat.le_of_ble_eq_true rfl) hle.1 hle.2 ?_
        refine pm_blk (pc' := 119) (L' := [(6, .int q17), (7, .int q16.toInt32), (5, .int q5), (4, .int q4), (3, .int q2), (2, .int q1), (0, .ref 43), (1, .int a1)]) (S' := [.long q16.toInt32.toInt64, .int a1, .ref 18]) (M' := sm g q21) [pm_o (.aload_n 0), pm_of (.getfield 15) 2 1 2, pm_o (.iload_n 1), pm_o (.iload 7), pm_o .i2l] (by decide +kernel) rfl ?_
        obtain ⟨q22, hq22, h⟩ := pm_bd h
        refine pm_cV (idx := 102) m_Tree_setValue (c_Tree_setValue l h0 D hT hq22) (As := [.int a1, .long q16.toInt32.toInt64]) (S0 := []) rfl (by decide +kernel) k_Tree_setValue l_Checker_102 (Nat.le_of_ble_eq_true rfl) (Nat.le_of_ble_eq_true rfl) hle.1 hle.2 ?_
        refine pm_blk (pc' := 129) (L' := [(6, .int q17), (7, .int q16.toInt32), (5, .int q5), (4, .int q4), (3, .int q2), (2, .int q1), (0, .ref 43), (1, .int a1)]) (S' := [.int q16.toInt32, .ref 29, .ref 43]) (M' := sm g q22) [pm_o (.aload_n 0), pm_o (.aload_n 0), pm_of (.getfield 19) 2 2 2, pm_o (.iload 7)] (by decide +kernel) rfl ?_
        obtain ⟨q23, hq23, h⟩ := pm_bd h
        refine pm_cV (idx := 59) m_Table_type (c_Table_type l h0 D hT hq23) (As := [.int q16.toInt32]) (S0 := [.ref 43]) rfl (by decide +kernel) k_Table_type l_Checker_59 (Nat.le_of_ble_eq_true rfl) (Nat.le_of_ble_eq_true rfl) hle.1 hle.2 ?_
        refine pm_blk (pc' := 134) (L' := [(6, .int q17), (7, .int q16.toInt32), (5, .int q5), (4, .int q4), (3, .int q2), (2, .int q1), (0, .ref 43), (1, .int a1)]) (S' := [.int 0, .int a1, .int q23, .ref 43]) (M' := sm g q22) [pm_o (.iload_n 1), pm_oi (.iconst 0) 0] (by decide +kernel) rfl ?_
        obtain ⟨q24, hq24, h⟩ := pm_bd h
        obtain ⟨hu25, h⟩ := pm_ifs h
        obtain ⟨h, hl26⟩ := pm_Ss h
        refine pm_cV (idx := 146) m_Checker_substitute (c_Checker_substitute l h0 D hT hq24) (As := [.int q23, .int a1, .int 0]) (S0 := []) rfl (by decide +kernel) k_Checker_substitute l_Checker_146 (Nat.le_of_ble_eq_true rfl) (Nat.le_of_ble_eq_true rfl) hl26.1 hl26.2 ?_
        refine pm_blk (pc' := 141) (L' := [(8, .int 0), (3, .int q24.1), (6, .int q17), (7, .int q16.toInt32), (5, .int q5), (4, .int q4), (2, .int q1), (0, .ref 43), (1, .int a1)]) (S' := []) (M' := sm q24.2.1 q24.2.2) [pm_o (.istore_n 3), pm_oi (.iconst 0) 0, pm_o (.istore 8)] (by decide +kernel) rfl ?_
        refine pm_loc [7, 1, 5, 4, 2, 0] rfl ?_
        exact w_Checker_typeOfCall_141 l h0 D N q24.1 q4 q5 q17 0 q24.2.1 q24.2.2 (sh_Tb_s hu25) hl26 h
      · rw [if_pos hc20] at h
        refine pm_blk (pc' := 100) (L' := [(6, .int q17), (7, .int q16.toInt32), (5, .int q5), (4, .int q4), (3, .int q2), (2, .int q1), (0, .ref 43), (1, .int a1)]) (S' := [.int (-1)]) (M' := sm g q19.2) [pm_oi (.iconst (-1)) (-1)] (by decide +kernel) rfl ?_
        have h9 := Option.some.inj h
        subst h9
        exact pm_reti rfl (by decide +kernel) rfl rfl rfl
def K_Checker_typeOf_211 (N : Nat) (x2 : Int32) (x3 : Int32) (g : pm_s) (u : pm_J) : Option (Int32 × pm_s × pm_J) := if x2 = 0 then if x3 = x2 then some (x2, g, u) else some ((-1), g, u) else some ((-1), g, u)
set_option maxHeartbeats 4000000 in
set_option maxRecDepth 100000 in
theorem w_Checker_typeOf_211 (l : Launch) (h0 : Nat) (D : pm_D) {N : Nat} {g0 : pm_s} {u0 : pm_J} {out : Int32 × pm_s × pm_J} {p : Program} {e : Env} {R : Room} {s : State} {m : MethodId} {args : Array Value} {below : List Frame} {meth : Method} {c : Code} : ∀ (x2 : Int32) (x3 : Int32) (g : pm_s) (u : pm_J) (hT : sh_T g) (hle : g.1 ≤ out.2.1.1 ∧ g.2.1 ≤ out.2.1.2.1), K_Checker_typeOf_211 N x2 x3 g u = some out → pm_V (p, l, e, R, s, m, args, below, meth, c) m_Checker_typeOf h0 D (g0.1, g0.2.1, out.2.1.1, out.2.1.2.1, 109) (pm_E (p, l, e, R, s, m, args, below, meth, c) h0 D (sm g0 u0) (some (.int out.1)) (sm out.2.1 out.2.2)) 211 [(2, .int x2), (3, .int x3)] [] (sm g u) := by
    intro x2 x3 g u hT hle h
    unfold K_Checker_typeOf_211 at h
    refine pm_blk (pc' := 212) (L' := [(2, .int x2), (3, .int x3)]) (S' := [.int x2]) (M' := sm g u) [pm_o (.iload_n 2)] (by decide +kernel) rfl ?_
    refine pm_if_ne (off := 12) 224 (by decide +kernel) (by decide) (fun hc27 => ?_) (fun hc27 => ?_)
    · rw [if_neg hc27] at h
      refine pm_blk (pc' := 225) (L' := [(2, .int x2), (3, .int x3)]) (S' := [.int (-1)]) (M' := sm g u) [pm_oi (.iconst (-1)) (-1)] (by decide +kernel) rfl ?_
      have h9 := Option.some.inj h
      subst h9
      exact pm_reti rfl (by decide +kernel) rfl rfl rfl
    · rw [if_pos hc27] at h
      refine pm_blk (pc' := 217) (L' := [(2, .int x2), (3, .int x3)]) (S' := [.int x2, .int x3]) (M' := sm g u) [pm_o (.iload_n 3), pm_o (.iload_n 2)] (by decide +kernel) rfl ?_
      refine pm_ic_ne (off := 7) 224 (by decide +kernel) (by decide) (fun hc28 => ?_) (fun hc28 => ?_)
      · rw [if_neg hc28] at h
        refine pm_blk (pc' := 225) (L' := [(2, .int x2), (3, .int x3)]) (S' := [.int (-1)]) (M' := sm g u) [pm_oi (.iconst (-1)) (-1)] (by decide +kernel) rfl ?_
        have h9 := Option.some.inj h
        subst h9
        exact pm_reti rfl (by decide +kernel) rfl rfl rfl
      · rw [if_pos hc28] at h
        refine pm_blk (pc' := 221) (L' := [(2, .int x2), (3, .int x3)]) (S' := [.int x2]) (M' := sm g u) [pm_o (.iload_n 2)] (by decide +kernel) rfl ?_
        refine pm_goto (off := 4) 225 (by decide +kernel) (by decide) ?_
        have h9 := Option.some.inj h
        subst h9
        exact pm_reti rfl (by decide +kernel) rfl rfl rfl
def F_Checker_typeOf (N : Nat) (a1 : Int32) (g : pm_s) (u : pm_J) : Option (Int32 × pm_s × pm_J) := pm_S g ((F_Tree_first a1 g u).bind fun q1 => (F_Tree_type q1 g u).bind fun q2 => (F_Tree_second a1 g u).bind fun q3 => (F_Tree_type q3 g u).bind fun q4 => (F_Tree_kind a1 g u).bind fun q5 => if q5 = 0 then some (0, g, u) else if q5 = 1 then some (1, g, u) else if q5 = 2 then (F_Tree_first a1 g u).bind fun q9 => (F_Checker_typeOfLocal q9 g u).bind fun q10 => some (q10, g, u) else if q5 = 6 then (F_Tree_value a1 g u).bind fun q12 => (F_Table_type q12.toInt32 g u).bind fun q13 => some (q13, g, u) else if q5 = 7 then some (q4, g, u) else if q5 = 8 then if q2 = 0 then (F_Tree_third a1 g u).bind fun q17 => (F_Tree_type q17 g u).bind fun q18 => if q4 = q18 then some (q4, g, u) else some ((-1), g, u) else some ((-1), g, u) else if q5 = 9 then (F_Tree_third a1 g u).bind fun q21 => (F_Checker_typeOfLocal q21 g u).bind fun q22 => (F_Types_make N 4 q22 q2 g u).bind fun q23 => if sh_Tb q23.2.1 = true then pm_S q23.2.1 (some (q23.1, q23.2.1, q23.2.2)) else none else if q5 = 10 then K_Checker_typeOf_211 N q2 q4 g u else if q5 = 11 then K_Checker_typeOf_211 N q2 q4 g u else if q5 = 12 then K_Checker_typeOf_211 N q2 q4 g u else if q5 = 13 then (F_Types_make N 3 q2 q4 g u).bind fun q32 => if sh_Tb q32.2.1 = true then pm_S q32.2.1 (some (q32.1, q32.2.1, q32.2.2)) else none else if q5 = 14 then (F_Types_kind q2 g u).bind fun q36 => if q36 = 3 then (F_Types_left q2 g u).bind fun q38 => some (q38, g, u) else some ((-1), g, u) else if q5 = 15 then (F_Types_kind q2 g u).bind fun q40 => if q40 = 3 then (F_Types_right q2 g u).bind fun q42 => some (q42, g, u) else some ((-1), g, u) else if q5 = 16 then (F_Checker_typeOfCall N a1 g u).bind fun q44 => if sh_Tb q44.2.1 = true then pm_S q44.2.1 (some (q44.1, q44.2.1, q44.2.2)) else none else some ((-1), g, u))
set_option maxHeartbeats 4000000 in
set_option maxRecDepth 100000 in
theorem c_Checker_typeOf (l : Launch) (h0 : Nat) (D : pm_D) {g : pm_s} {u : pm_J} (hT : sh_T g) {N : Nat} {a1 : Int32} {out : Int32 × pm_s × pm_J} (h : F_Checker_typeOf N a1 g u = some out) : pm_C l h0 D m_Checker_typeOf (109) [.ref 43, .int a1] (sm g u) (some (.int out.1)) (sm out.2.1 out.2.2) := by
  unfold F_Checker_typeOf at h
  obtain ⟨h, hle⟩ := pm_Ss h
  refine pm_met (by decide +kernel) (Nat.le_of_ble_eq_true rfl) hle.1 hle.2 ?_
  intro p e R s m args below meth c
  refine pm_blk (pc' := 9) (L' := [(0, .ref 43), (1, .int a1)]) (S' := [.int a1, .ref 18, .ref 18]) (M' := sm g u) [pm_o (.aload_n 0), pm_of (.getfield 15) 2 1 2, pm_o (.aload_n 0), pm_of (.getfield 15) 2 1 2, pm_o (.iload_n 1)] (by decide +kernel) rfl ?_
  obtain ⟨q1, hq1, h⟩ := pm_bd h
  refine pm_cV (idx := 106) m_Tree_first (c_Tree_first l h0 D hT hq1) (As := [.int a1]) (S0 := [.ref 18]) rfl (by decide +kernel) k_Tree_first l_Checker_106 (Nat.le_of_ble_eq_true rfl) (Nat.le_of_ble_eq_true rfl) hle.1 hle.2 ?_
  refine pm_blk (pc' := 12) (L' := [(0, .ref 43), (1, .int a1)]) (S' := [.int q1, .ref 18]) (M' := sm g u) [] (by decide +kernel) rfl ?_
  obtain ⟨q2, hq2, h⟩ := pm_bd h
  refine pm_cV (idx := 54) m_Tree_type (c_Tree_type l h0 D hT hq2) (As := [.int q1]) (S0 := []) rfl (by decide +kernel) k_Tree_type l_Checker_54 (Nat.le_of_ble_eq_true rfl) (Nat.le_of_ble_eq_true rfl) hle.1 hle.2 ?_
  refine pm_blk (pc' := 25) (L' := [(2, .int q2), (0, .ref 43), (1, .int a1)]) (S' := [.int a1, .ref 18, .ref 18]) (M' := sm g u) [pm_o (.istore_n 2), pm_o (.aload_n 0), pm_of (.getfield 15) 2 1 2, pm_o (.aload_n 0), pm_of (.getfield 15) 2 1 2, pm_o (.iload_n 1)] (by decide +kernel) rfl ?_
  obtain ⟨q3, hq3, h⟩ := pm_bd h
  refine pm_cV (idx := 109) m_Tree_second (c_Tree_second l h0 D hT hq3) (As := [.int a1]) (S0 := [.ref 18]) rfl (by decide +kernel) k_Tree_second l_Checker_109 (Nat.le_of_ble_eq_true rfl) (Nat.le_of_ble_eq_true rfl) hle.1 hle.2 ?_
  refine pm_blk (pc' := 28) (L' := [(2, .int q2), (0, .ref 43), (1, .int a1)]) (S' := [.int q3, .ref 18]) (M' := sm g u) [] (by decide +kernel) rfl ?_
  obtain ⟨q4, hq4, h⟩ := pm_bd h
  refine pm_cV (idx := 54) m_Tree_type (c_Tree_type l h0 D hT hq4) (As := [.int q3]) (S0 := []) rfl (by decide +kernel) k_Tree_type l_Checker_54 (Nat.le_of_ble_eq_true rfl) (Nat.le_of_ble_eq_true rfl) hle.1 hle.2 ?_
  refine pm_blk (pc' := 37) (L' := [(3, .int q4), (2, .int q2), (0, .ref 43), (1, .int a1)]) (S' := [.int a1, .ref 18]) (M' := sm g u) [pm_o (.istore_n 3), pm_o (.aload_n 0), pm_of (.getfield 15) 2 1 2, pm_o (.iload_n 1)] (by decide +kernel) rfl ?_
  obtain ⟨q5, hq5, h⟩ := pm_bd h
  refine pm_cV (idx := 70) m_Tree_kind (c_Tree_kind l h0 D hT hq5) (As := [.int a1]) (S0 := []) rfl (by decide +kernel) k_Tree_kind l_Checker_70 (Nat.le_of_ble_eq_true rfl) (Nat.le_of_ble_eq_true rfl) hle.1 hle.2 ?_
  refine pm_blk (pc' := 40) (L' := [(3, .int q4), (2, .int q2), (0, .ref 43), (1, .int a1)]) (S' := [.int q5]) (M' := sm g u) [] (by decide +kernel) rfl ?_
  refine pm_tsw (dflt := 253) (lo := 0) (hi := 16) (offs := #[84, 86, 88, 253, 253, 253, 101, 118, 120, 149, 171, 171, 171, 186, 197, 222, 247]) (len := 84) [(0, 124), (1, 126), (2, 128), (6, 141), (7, 158), (8, 160), (9, 189), (10, 211), (11, 211), (12, 211), (13, 226), (14, 237), (15, 262), (16, 287)] 293 (by decide +kernel) (by decide +kernel) ?_
  by_cases hs6 : q5 = 0
  · rw [if_pos hs6] at h
    rw [pm_sw_pos hs6]
    refine pm_blk (pc' := 125) (L' := [(3, .int q4), (2, .int q2), (0, .ref 43), (1, .int a1)]) (S' := [.int 0]) (M' := sm g u) [pm_oi (.iconst 0) 0] (by decide +kernel) rfl ?_
    have h9 := Option.some.inj h
    subst h9
    exact pm_reti rfl (by decide +kernel) rfl rfl rfl
  rw [if_neg hs6] at h
  rw [pm_sw_neg hs6]
  by_cases hs7 : q5 = 1
  · rw [if_pos hs7] at h
    rw [pm_sw_pos hs7]
    refine pm_blk (pc' := 127) (L' := [(3, .int q4), (2, .int q2), (0, .ref 43), (1, .int a1)]) (S' := [.int 1]) (M' := sm g u) [pm_oi (.iconst 1) 1] (by decide +kernel) rfl ?_
    have h9 := Option.some.inj h
    subst h9
    exact pm_reti rfl (by decide +kernel) rfl rfl rfl
  rw [if_neg hs7] at h
  rw [pm_sw_neg hs7]
  by_cases hs8 : q5 = 2
  · rw [if_pos hs8] at h
    rw [pm_sw_pos hs8]
    refine pm_blk (pc' := 134) (L' := [(3, .int q4), (2, .int q2), (0, .ref 43), (1, .int a1)]) (S' := [.int a1, .ref 18, .ref 43]) (M' := sm g u) [pm_o (.aload_n 0), pm_o (.aload_n 0), pm_of (.getfield 15) 2 1 2, pm_o (.iload_n 1)] (by decide +kernel) rfl ?_
    obtain ⟨q9, hq9, h⟩ := pm_bd h
    refine pm_cV (idx := 106) m_Tree_first (c_Tree_first l h0 D hT hq9) (As := [.int a1]) (S0 := [.ref 43]) rfl (by decide +kernel) k_Tree_first l_Checker_106 (Nat.le_of_ble_eq_true rfl) (Nat.le_of_ble_eq_true rfl) hle.1 hle.2 ?_
    refine pm_blk (pc' := 137) (L' := [(3, .int q4), (2, .int q2), (0, .ref 43), (1, .int a1)]) (S' := [.int q9, .ref 43]) (M' := sm g u) [] (by decide +kernel) rfl ?_
    obtain ⟨q10, hq10, h⟩ := pm_bd h
    refine pm_cV (idx := 112) m_Checker_typeOfLocal (c_Checker_typeOfLocal l h0 D hT hq10) (As := [.int q9]) (S0 := []) rfl (by decide +kernel) k_Checker_typeOfLocal l_Checker_112 (Nat.le_of_ble_eq_true rfl) (Nat.le_of_ble_eq_true rfl) hle.1 hle.2 ?_
    refine pm_blk (pc' := 140) (L' := [(3, .int q4), (2, .int q2), (0, .ref 43), (1, .int a1)]) (S' := [.int q10]) (M' := sm g u) [] (by decide +kernel) rfl ?_
    have h9 := Option.some.inj h
    subst h9
    exact pm_reti rfl (by decide +kernel) rfl rfl rfl
  rw [if_neg hs8] at h
  rw [pm_sw_neg hs8]
  by_cases hs11 : q5 = 6
  · rw [if_pos hs11] at h
    rw [pm_sw_pos hs11]
    refine pm_blk (pc' := 150) (L' := [(3, .int q4), (2, .int q2), (0, .ref 43), (1, .int a1)]) (S' := [.int a1, .ref 18, .ref 29]) (M' := sm g u) [pm_o (.aload_n 0), pm_of (.getfield 19) 2 2 2, pm_o (.aload_n 0), pm_of (.getfield 15) 2 1 2, pm_o (.iload_n 1)] (by decide +kernel) rfl ?_
    obtain ⟨q12, hq12, h⟩ := pm_bd h
    refine pm_cV (idx := 88) m_Tree_value (c_Tree_value l h0 D hT hq12) (As := [.int a1]) (S0 := [.ref 29]) rfl (by decide +kernel) k_Tree_value l_Checker_88 (Nat.le_of_ble_eq_true rfl) (Nat.le_of_ble_eq_true rfl) hle.1 hle.2 ?_
    refine pm_blk (pc' := 154) (L' := [(3, .int q4), (2, .int q2), (0, .ref 43), (1, .int a1)]) (S' := [.int q12.toInt32, .ref 29]) (M' := sm g u) [pm_o .l2i] (by decide +kernel) rfl ?_
    obtain ⟨q13, hq13, h⟩ := pm_bd h
    refine pm_cV (idx := 59) m_Table_type (c_Table_type l h0 D hT hq13) (As := [.int q12.toInt32]) (S0 := []) rfl (by decide +kernel) k_Table_type l_Checker_59 (Nat.le_of_ble_eq_true rfl) (Nat.le_of_ble_eq_true rfl) hle.1 hle.2 ?_
    refine pm_blk (pc' := 157) (L' := [(3, .int q4), (2, .int q2), (0, .ref 43), (1, .int a1)]) (S' := [.int q13]) (M' := sm g u) [] (by decide +kernel) rfl ?_
    have h9 := Option.some.inj h
    subst h9
    exact pm_reti rfl (by decide +kernel) rfl rfl rfl
  rw [if_neg hs11] at h
  rw [pm_sw_neg hs11]
  by_cases hs14 : q5 = 7
  · rw [if_pos hs14] at h
    rw [pm_sw_pos hs14]
    refine pm_blk (pc' := 159) (L' := [(3, .int q4), (2, .int q2), (0, .ref 43), (1, .int a1)]) (S' := [.int q4]) (M' := sm g u) [pm_o (.iload_n 3)] (by decide +kernel) rfl ?_
    have h9 := Option.some.inj h
    subst h9
    exact pm_reti rfl (by decide +kernel) rfl rfl rfl
  rw [if_neg hs14] at h
  rw [pm_sw_neg hs14]
  by_cases hs15 : q5 = 8
  · rw [if_pos hs15] at h
    rw [pm_sw_pos hs15]
    refine pm_blk (pc' := 161) (L' := [(3, .int q4), (2, .int q2), (0, .ref 43), (1, .int a1)]) (S' := [.int q2]) (M' := sm g u) [pm_o (.iload_n 2)] (by decide +kernel) rfl ?_
    refine pm_if_ne (off := 26) 187 (by decide +kernel) (by decide) (fun hc16 => ?_) (fun hc16 => ?_)
    · rw [if_neg hc16] at h
      refine pm_blk (pc' := 188) (L' := [(3, .int q4), (2, .int q2), (0, .ref 43), (1, .int a1)]) (S' := [.int (-1)]) (M' := sm g u) [pm_oi (.iconst (-1)) (-1)] (by decide +kernel) rfl ?_
      have h9 := Option.some.inj h
      subst h9
      exact pm_reti rfl (by decide +kernel) rfl rfl rfl
    · rw [if_pos hc16] at h
      refine pm_blk (pc' := 174) (L' := [(3, .int q4), (2, .int q2), (0, .ref 43), (1, .int a1)]) (S' := [.int a1, .ref 18, .ref 18, .int q4]) (M' := sm g u) [pm_o (.iload_n 3), pm_o (.aload_n 0), pm_of (.getfield 15) 2 1 2, pm_o (.aload_n 0), pm_of (.getfield 15) 2 1 2, pm_o (.iload_n 1)] (by decide +kernel) rfl ?_
      obtain ⟨q17, hq17, h⟩ := pm_bd h
      refine pm_cV (idx := 115) m_Tree_third (c_Tree_third l h0 D hT hq17) (As := [.int a1]) (S0 := [.ref 18, .int q4]) rfl (by decide +kernel) k_Tree_third l_Checker_115 (Nat.le_of_ble_eq_true rfl) (Nat.le_of_ble_eq_true rfl) hle.1 hle.2 ?_
      refine pm_blk (pc' := 177) (L' := [(3, .int q4), (2, .int q2), (0, .ref 43), (1, .int a1)]) (S' := [.int q17, .ref 18, .int q4]) (M' := sm g u) [] (by decide +kernel) rfl ?_
      obtain ⟨q18, hq18, h⟩ := pm_bd h
      refine pm_cV (idx := 54) m_Tree_type (c_Tree_type l h0 D hT hq18) (As := [.int q17]) (S0 := [.int q4]) rfl (by decide +kernel) k_Tree_type l_Checker_54 (Nat.le_of_ble_eq_true rfl) (Nat.le_of_ble_eq_true rfl) hle.1 hle.2 ?_
      refine pm_blk (pc' := 180) (L' := [(3, .int q4), (2, .int q2), (0, .ref 43), (1, .int a1)]) (S' := [.int q18, .int q4]) (M' := sm g u) [] (by decide +kernel) rfl ?_
      refine pm_ic_ne (off := 7) 187 (by decide +kernel) (by decide) (fun hc19 => ?_) (fun hc19 => ?_)
      · rw [if_neg hc19] at h
        refine pm_blk (pc' := 188) (L' := [(3, .int q4), (2, .int q2), (0, .ref 43), (1, .int a1)]) (S' := [.int (-1)]) (M' := sm g u) [pm_oi (.iconst (-1)) (-1)] (by decide +kernel) rfl ?_
        have h9 := Option.some.inj h
        subst h9
        exact pm_reti rfl (by decide +kernel) rfl rfl rfl
      · rw [if_pos hc19] at h
        refine pm_blk (pc' := 184) (L' := [(3, .int q4), (2, .int q2), (0, .ref 43), (1, .int a1)]) (S' := [.int q4]) (M' := sm g u) [pm_o (.iload_n 3)] (by decide +kernel) rfl ?_
        refine pm_goto (off := 4) 188 (by decide +kernel) (by decide) ?_
        have h9 := Option.some.inj h
        subst h9
        exact pm_reti rfl (by decide +kernel) rfl rfl rfl
  rw [if_neg hs15] at h
  rw [pm_sw_neg hs15]
  by_cases hs20 : q5 = 9
  · rw [if_pos hs20] at h
    rw [pm_sw_pos hs20]
    refine pm_blk (pc' := 200) (L' := [(3, .int q4), (2, .int q2), (0, .ref 43), (1, .int a1)]) (S' := [.int a1, .ref 18, .ref 43, .int 4, .ref 10]) (M' := sm g u) [pm_o (.aload_n 0), pm_of (.getfield 9) 2 0 2, pm_oi (.iconst 4) 4, pm_o (.aload_n 0), pm_o (.aload_n 0), pm_of (.getfield 15) 2 1 2, pm_o (.iload_n 1)] (by decide +kernel) rfl ?_
    obtain ⟨q21, hq21, h⟩ := pm_bd h
    refine pm_cV (idx := 115) m_Tree_third (c_Tree_third l h0 D hT hq21) (As := [.int a1]) (S0 := [.ref 43, .int 4, .ref 10]) rfl (by decide +kernel) k_Tree_third l_Checker_115 (Nat.le_of_ble_eq_true rfl) (Nat.le_of_ble_eq_true rfl) hle.1 hle.2 ?_
    refine pm_blk (pc' := 203) (L' := [(3, .int q4), (2, .int q2), (0, .ref 43), (1, .int a1)]) (S' := [.int q21, .ref 43, .int 4, .ref 10]) (M' := sm g u) [] (by decide +kernel) rfl ?_
    obtain ⟨q22, hq22, h⟩ := pm_bd h
    refine pm_cV (idx := 112) m_Checker_typeOfLocal (c_Checker_typeOfLocal l h0 D hT hq22) (As := [.int q21]) (S0 := [.int 4, .ref 10]) rfl (by decide +kernel) k_Checker_typeOfLocal l_Checker_112 (Nat.le_of_ble_eq_true rfl) (Nat.le_of_ble_eq_true rfl) hle.1 hle.2 ?_
    refine pm_blk (pc' := 207) (L' := [(3, .int q4), (2, .int q2), (0, .ref 43), (1, .int a1)]) (S' := [.int q2, .int q22, .int 4, .ref 10]) (M' := sm g u) [pm_o (.iload_n 2)] (by decide +kernel) rfl ?_
    obtain ⟨q23, hq23, h⟩ := pm_bd h
    obtain ⟨hu24, h⟩ := pm_ifs h
    obtain ⟨h, hl25⟩ := pm_Ss h
    refine pm_cV (idx := 118) m_Types_make (c_Types_make l h0 D hT hq23) (As := [.int 4, .int q22, .int q2]) (S0 := []) rfl (by decide +kernel) k_Types_make l_Checker_118 (Nat.le_of_ble_eq_true rfl) (Nat.le_of_ble_eq_true rfl) hl25.1 hl25.2 ?_
    refine pm_blk (pc' := 210) (L' := [(3, .int q4), (2, .int q2), (0, .ref 43), (1, .int a1)]) (S' := [.int q23.1]) (M' := sm q23.2.1 q23.2.2) [] (by decide +kernel) rfl ?_
    have h9 := Option.some.inj h
    subst h9
    exact pm_reti rfl (by decide +kernel) rfl rfl rfl
  rw [if_neg hs20] at h
  rw [pm_sw_neg hs20]
  by_cases hs26 : q5 = 10
  · rw [if_pos hs26] at h
    rw [pm_sw_pos hs26]
    refine pm_loc [1, 0] rfl ?_
    exact w_Checker_typeOf_211 l h0 D q2 q4 g u hT hle h
  rw [if_neg hs26] at h
  rw [pm_sw_neg hs26]
  by_cases hs29 : q5 = 11
  · rw [if_pos hs29] at h
    rw [pm_sw_pos hs29]
    refine pm_loc [1, 0] rfl ?_
    exact w_Checker_typeOf_211 l h0 D q2 q4 g u hT hle h
  rw [if_neg hs29] at h
  rw [pm_sw_neg hs29]
  by_cases hs30 : q5 = 12
  · rw [if_pos hs30] at h
    rw [pm_sw_pos hs30]
    refine pm_loc [1, 0] rfl ?_
    exact w_Checker_typeOf_211 l h0 D q2 q4 g u hT hle h
  rw [if_neg hs30] at h
  rw [pm_sw_neg hs30]
  by_cases hs31 : q5 = 13
  · rw [if_pos hs31] at h
    rw [pm_sw_pos hs31]
    refine pm_blk (pc' := 233) (L' := [(3, .int q4), (2, .int q2), (0, .ref 43), (1, .int a1)]) (S' := [.int q4, .int q2, .int 3, .ref 10]) (M' := sm g u) [pm_o (.aload_n 0), pm_of (.getfield 9) 2 0 2, pm_oi (.iconst 3) 3, pm_o (.iload_n 2), pm_o (.iload_n 3)] (by decide +kernel) rfl ?_
    obtain ⟨q32, hq32, h⟩ := pm_bd h
    obtain ⟨hu33, h⟩ := pm_ifs h
    obtain ⟨h, hl34⟩ := pm_Ss h
    refine pm_cV (idx := 118) m_Types_make (c_Types_make l h0 D hT hq32) (As := [.int 3, .int q2, .int q4]) (S0 := []) rfl (by decide +kernel) k_Types_make l_Checker_118 (Nat.le_of_ble_eq_true rfl) (Nat.le_of_ble_eq_true rfl) hl34.1 hl34.2 ?_
    refine pm_blk (pc' := 236) (L' := [(3, .int q4), (2, .int q2), (0, .ref 43), (1, .int a1)]) (S' := [.int q32.1]) (M' := sm q32.2.1 q32.2.2) [] (by decide +kernel) rfl ?_
    have h9 := Option.some.inj h
    subst h9
    exact pm_reti rfl (by decide +kernel) rfl rfl rfl
  rw [if_neg hs31] at h
  rw [pm_sw_neg hs31]
  by_cases hs35 : q5 = 14
  · rw [if_pos hs35] at h
    rw [pm_sw_pos hs35]
    refine pm_blk (pc' := 242) (L' := [(3, .int q4), (2, .int q2), (0, .ref 43), (1, .int a1)]) (S' := [.int q2, .ref 10]) (M' := sm g u) [pm_o (.aload_n 0), pm_of (.getfield 9) 2 0 2, pm_o (.iload_n 2)] (by decide +kernel) rfl ?_
    obtain ⟨q36, hq36, h⟩ := pm_bd h
    refine pm_cV (idx := 122) m_Types_kind (c_Types_kind l h0 D hT hq36) (As := [.int q2]) (S0 := []) rfl (by decide +kernel) k_Types_kind l_Checker_122 (Nat.le_of_ble_eq_true rfl) (Nat.le_of_ble_eq_true rfl) hle.1 hle.2 ?_
    refine pm_blk (pc' := 246) (L' := [(3, .int q4), (2, .int q2), (0, .ref 43), (1, .int a1)]) (S' := [.int 3, .int q36]) (M' := sm g u) [pm_oi (.iconst 3) 3] (by decide +kernel) rfl ?_
    refine pm_ic_ne (off := 14) 260 (by decide +kernel) (by decide) (fun hc37 => ?_) (fun hc37 => ?_)
    · rw [if_neg hc37] at h
      refine pm_blk (pc' := 261) (L' := [(3, .int q4), (2, .int q2), (0, .ref 43), (1, .int a1)]) (S' := [.int (-1)]) (M' := sm g u) [pm_oi (.iconst (-1)) (-1)] (by decide +kernel) rfl ?_
      have h9 := Option.some.inj h
      subst h9
      exact pm_reti rfl (by decide +kernel) rfl rfl rfl
    · rw [if_pos hc37] at h
      refine pm_blk (pc' := 254) (L' := [(3, .int q4), (2, .int q2), (0, .ref 43), (1, .int a1)]) (S' := [.int q2, .ref 10]) (M' := sm g u) [pm_o (.aload_n 0), pm_of (.getfield 9) 2 0 2, pm_o (.iload_n 2)] (by decide +kernel) rfl ?_
      obtain ⟨q38, hq38, h⟩ := pm_bd h
      refine pm_cV (idx := 123) m_Types_left (c_Types_left l h0 D hT hq38) (As := [.int q2]) (S0 := []) rfl (by decide +kernel) k_Types_left l_Checker_123 (Nat.le_of_ble_eq_true rfl) (Nat.le_of_ble_eq_true rfl) hle.1 hle.2 ?_
      refine pm_blk (pc' := 257) (L' := [(3, .int q4), (2, .int q2), (0, .ref 43), (1, .int a1)]) (S' := [.int q38]) (M' := sm g u) [] (by decide +kernel) rfl ?_
      refine pm_goto (off := 4) 261 (by decide +kernel) (by decide) ?_
      have h9 := Option.some.inj h
      subst h9
      exact pm_reti rfl (by decide +kernel) rfl rfl rfl
  rw [if_neg hs35] at h
  rw [pm_sw_neg hs35]
  by_cases hs39 : q5 = 15
  · rw [if_pos hs39] at h
    rw [pm_sw_pos hs39]
    refine pm_blk (pc' := 267) (L' := [(3, .int q4), (2, .int q2), (0, .ref 43), (1, .int a1)]) (S' := [.int q2, .ref 10]) (M' := sm g u) [pm_o (.aload_n 0), pm_of (.getfield 9) 2 0 2, pm_o (.iload_n 2)] (by decide +kernel) rfl ?_
    obtain ⟨q40, hq40, h⟩ := pm_bd h
    refine pm_cV (idx := 122) m_Types_kind (c_Types_kind l h0 D hT hq40) (As := [.int q2]) (S0 := []) rfl (by decide +kernel) k_Types_kind l_Checker_122 (Nat.le_of_ble_eq_true rfl) (Nat.le_of_ble_eq_true rfl) hle.1 hle.2 ?_
    refine pm_blk (pc' := 271) (L' := [(3, .int q4), (2, .int q2), (0, .ref 43), (1, .int a1)]) (S' := [.int 3, .int q40]) (M' := sm g u) [pm_oi (.iconst 3) 3] (by decide +kernel) rfl ?_
    refine pm_ic_ne (off := 14) 285 (by decide +kernel) (by decide) (fun hc41 => ?_) (fun hc41 => ?_)
    · rw [if_neg hc41] at h
      refine pm_blk (pc' := 286) (L' := [(3, .int q4), (2, .int q2), (0, .ref 43), (1, .int a1)]) (S' := [.int (-1)]) (M' := sm g u) [pm_oi (.iconst (-1)) (-1)] (by decide +kernel) rfl ?_
      have h9 := Option.some.inj h
      subst h9
      exact pm_reti rfl (by decide +kernel) rfl rfl rfl
    · rw [if_pos hc41] at h
      refine pm_blk (pc' := 279) (L' := [(3, .int q4), (2, .int q2), (0, .ref 43), (1, .int a1)]) (S' := [.int q2, .ref 10]) (M' := sm g u) [pm_o (.aload_n 0), pm_of (.getfield 9) 2 0 2, pm_o (.iload_n 2)] (by decide +kernel) rfl ?_
      obtain ⟨q42, hq42, h⟩ := pm_bd h
      refine pm_cV (idx := 126) m_Types_right (c_Types_right l h0 D hT hq42) (As := [.int q2]) (S0 := []) rfl (by decide +kernel) k_Types_right l_Checker_126 (Nat.le_of_ble_eq_true rfl) (Nat.le_of_ble_eq_true rfl) hle.1 hle.2 ?_
      refine pm_blk (pc' := 282) (L' := [(3, .int q4), (2, .int q2), (0, .ref 43), (1, .int a1)]) (S' := [.int q42]) (M' := sm g u) [] (by decide +kernel) rfl ?_
      refine pm_goto (off := 4) 286 (by decide +kernel) (by decide) ?_
      have h9 := Option.some.inj h
      subst h9
      exact pm_reti rfl (by decide +kernel) rfl rfl rfl
  rw [if_neg hs39] at h
  rw [pm_sw_neg hs39]
  by_cases hs43 : q5 = 16
  · rw [if_pos hs43] at h
    rw [pm_sw_pos hs43]
    refine pm_blk (pc' := 289) (L' := [(3, .int q4), (2, .int q2), (0, .ref 43), (1, .int a1)]) (S' := [.int a1, .ref 43]) (M' := sm g u) [pm_o (.aload_n 0), pm_o (.iload_n 1)] (by decide +kernel) rfl ?_
    obtain ⟨q44, hq44, h⟩ := pm_bd h
    obtain ⟨hu45, h⟩ := pm_ifs h
    obtain ⟨h, hl46⟩ := pm_Ss h
    refine pm_cV (idx := 129) m_Checker_typeOfCall (c_Checker_typeOfCall l h0 D hT hq44) (As := [.int a1]) (S0 := []) rfl (by decide +kernel) k_Checker_typeOfCall l_Checker_129 (Nat.le_of_ble_eq_true rfl) (Nat.le_of_ble_eq_true rfl) hl46.1 hl46.2 ?_
    refine pm_blk (pc' := 292) (L' := [(3, .int q4), (2, .int q2), (0, .ref 43), (1, .int a1)]) (S' := [.int q44.1]) (M' := sm q44.2.1 q44.2.2) [] (by decide +kernel) rfl ?_
    have h9 := Option.some.inj h
    subst h9
    exact pm_reti rfl (by decide +kernel) rfl rfl rfl
  rw [if_neg hs43] at h
  rw [pm_sw_neg hs43]
  refine pm_pc (pc' := 293) rfl ?_
  refine pm_blk (pc' := 294) (L' := [(3, .int q4), (2, .int q2), (0, .ref 43), (1, .int a1)]) (S' := [.int (-1)]) (M' := sm g u) [pm_oi (.iconst (-1)) (-1)] (by decide +kernel) rfl ?_
  have h9 := Option.some.inj h
  subst h9
  exact pm_reti rfl (by decide +kernel) rfl rfl rfl
