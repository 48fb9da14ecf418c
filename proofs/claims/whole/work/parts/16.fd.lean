def K_Checker_checkNode_77 (N : Nat) (x1 : Int32) (x2 : Int32) (g : pm_s) (u : pm_J) : Option (Unit × pm_s × pm_J) := (F_Tree_placeOf x1 g u).bind fun q12 => (F_Fault_tell_3 7 q12 g u).bind fun q13 => (F_Tree_setType x1 x2 g q13).bind fun q14 => some ((), g, q14)
set_option maxHeartbeats 4000000 in
set_option maxRecDepth 100000 in
theorem w_Checker_checkNode_77 (l : Launch) (h0 : Nat) (D : pm_D) {N : Nat} {g0 : pm_s} {u0 : pm_J} {out : Unit × pm_s × pm_J} {p : Program} {e : Env} {R : Room} {s : State} {m : MethodId} {args : Array Value} {below : List Frame} {meth : Method} {c : Code} : ∀ (x1 : Int32) (x2 : Int32) (g : pm_s) (u : pm_J) (hT : sh_T g) (hle : g.1 ≤ out.2.1.1 ∧ g.2.1 ≤ out.2.1.2.1), K_Checker_checkNode_77 N x1 x2 g u = some out → pm_V (p, l, e, R, s, m, args, below, meth, c) m_Checker_checkNode h0 D (g0.1, g0.2.1, out.2.1.1, out.2.1.2.1, 110) (pm_E (p, l, e, R, s, m, args, below, meth, c) h0 D (sm g0 u0) none (sm out.2.1 out.2.2)) 77 [(0, .ref 43), (1, .int x1), (2, .int x2)] [] (sm g u) := by
    intro x1 x2 g u hT hle h
    unfold K_Checker_checkNode_77 at h
    refine pm_blk (pc' := 88) (L' := [(0, .ref 43), (1, .int x1), (2, .int x2)]) (S' := [.int x1, .ref 18, .int 7, .ref 3]) (M' := sm g u) [pm_o (.aload_n 0), pm_of (.getfield 23) 2 3 2, pm_oi (.bipush 7) 7, pm_o (.aload_n 0), pm_of (.getfield 15) 2 1 2, pm_o (.iload_n 1)] (by decide +kernel) rfl ?_
    obtain ⟨q12, hq12, h⟩ := pm_bd h
    refine pm_cV (idx := 84) m_Tree_placeOf (c_Tree_placeOf l h0 D hT hq12) (As := [.int x1]) (S0 := [.int 7, .ref 3]) rfl (by decide +kernel) k_Tree_placeOf l_Checker_84 (Nat.le_of_ble_eq_true rfl) (Nat.le_of_ble_eq_true rfl) hle.1 hle.2 ?_
    refine pm_blk (pc' := 91) (L' := [(0, .ref 43), (1, .int x1), (2, .int x2)]) (S' := [.int q12, .int 7, .ref 3]) (M' := sm g u) [] (by decide +kernel) rfl ?_
    obtain ⟨q13, hq13, h⟩ := pm_bd h
    refine pm_cV (idx := 63) m_Fault_tell (c_Fault_tell_3 l h0 D hT hq13) (As := [.int 7, .int q12]) (S0 := []) rfl (by decide +kernel) k_Fault_tell l_Checker_63 (Nat.le_of_ble_eq_true rfl) (Nat.le_of_ble_eq_true rfl) hle.1 hle.2 ?_
    refine pm_blk (pc' := 100) (L' := [(0, .ref 43), (1, .int x1), (2, .int x2)]) (S' := [.int x2, .int x1, .ref 18]) (M' := sm g q13) [pm_o (.aload_n 0), pm_of (.getfield 15) 2 1 2, pm_o (.iload_n 1), pm_o (.iload_n 2)] (by decide +kernel) rfl ?_
    obtain ⟨q14, hq14, h⟩ := pm_bd h
    refine pm_cV (idx := 85) m_Tree_setType (c_Tree_setType l h0 D hT hq14) (As := [.int x1, .int x2]) (S0 := []) rfl (by decide +kernel) k_Tree_setType l_Checker_85 (Nat.le_of_ble_eq_true rfl) (Nat.le_of_ble_eq_true rfl) hle.1 hle.2 ?_
    refine pm_blk (pc' := 103) (L' := [(0, .ref 43), (1, .int x1), (2, .int x2)]) (S' := []) (M' := sm g q14) [] (by decide +kernel) rfl ?_
    have h9 := Option.some.inj h
    subst h9
    exact pm_retv rfl (by decide +kernel) rfl rfl
def K_Checker_checkNode_29 (N : Nat) (x1 : Int32) (g : pm_s) (u : pm_J) : Option (Unit × pm_s × pm_J) := (F_Fault_isTold_3 g u).bind fun q4 => if q4 = 0 then (F_Tree_kind x1 g u).bind fun q6 => if q6 = 5 then some ((), g, u) else (F_Checker_typeOf N x1 g u).bind fun q8 => if sh_Tb q8.2.1 = true then pm_S q8.2.1 (if q8.1 = (-1) then K_Checker_checkNode_77 N x1 q8.1 q8.2.1 q8.2.2 else (F_Types_leaves q8.1 q8.2.1 q8.2.2).bind fun q15 => if q15 ≤ 200 then (F_Tree_setType x1 q8.1 q8.2.1 q8.2.2).bind fun q17 => some ((), q8.2.1, q17) else K_Checker_checkNode_77 N x1 q8.1 q8.2.1 q8.2.2) else none else some ((), g, u)
set_option maxHeartbeats 4000000 in
set_option maxRecDepth 100000 in
theorem w_Checker_checkNode_29 (l : Launch) (h0 : Nat) (D : pm_D) {N : Nat} {g0 : pm_s} {u0 : pm_J} {out : Unit × pm_s × pm_J} {p : Program} {e : Env} {R : Room} {s : State} {m : MethodId} {args : Array Value} {below : List Frame} {meth : Method} {c : Code} : ∀ (x1 : Int32) (g : pm_s) (u : pm_J) (hT : sh_T g) (hle : g.1 ≤ out.2.1.1 ∧ g.2.1 ≤ out.2.1.2.1), K_Checker_checkNode_29 N x1 g u = some out → pm_V (p, l, e, R, s, m, args, below, meth, c) m_Checker_checkNode h0 D (g0.1, g0.2.1, out.2.1.1, out.2.1.2.1, 110) (pm_E (p, l, e, R, s, m, args, below, meth, c) h0 D (sm g0 u0) none (sm out.2.1 out.2.2)) 29 [(0, .ref 43), (1, .int x1)] [] (sm g u) := by
    intro x1 g u hT hle h
    unfold K_Checker_checkNode_29 at h
    refine pm_blk (pc' := 33) (L' := [(0, .ref 43), (1, .int x1)]) (S' := [.ref 3]) (M' := sm g u) [pm_o (.aload_n 0), pm_of (.getfield 23) 2 3 2] (by decide +kernel) rfl ?_
    obtain ⟨q4, hq4, h⟩ := pm_bd h
    refine pm_cV (idx := 33) m_Fault_isTold (c_Fault_isTold_3 l h0 D hT hq4) (As := []) (S0 := []) rfl (by decide +kernel) k_Fault_isTold l_Checker_33 (Nat.le_of_ble_eq_true rfl) (Nat.le_of_ble_eq_true rfl) hle.1 hle.2 ?_
    refine pm_blk (pc' := 36) (L' := [(0, .ref 43), (1, .int x1)]) (S' := [.int q4]) (M' := sm g u) [] (by decide +kernel) rfl ?_
    refine pm_if_ne (off := 15) 51 (by decide +kernel) (by decide) (fun hc5 => ?_) (fun hc5 => ?_)
    · rw [if_neg hc5] at h
      have h9 := Option.some.inj h
      subst h9
      exact pm_retv rfl (by decide +kernel) rfl rfl
    · rw [if_pos hc5] at h
      refine pm_blk (pc' := 44) (L' := [(0, .ref 43), (1, .int x1)]) (S' := [.int x1, .ref 18]) (M' := sm g u) [pm_o (.aload_n 0), pm_of (.getfield 15) 2 1 2, pm_o (.iload_n 1)] (by decide +kernel) rfl ?_
      obtain ⟨q6, hq6, h⟩ := pm_bd h
      refine pm_cV (idx := 70) m_Tree_kind (c_Tree_kind l h0 D hT hq6) (As := [.int x1]) (S0 := []) rfl (by decide +kernel) k_Tree_kind l_Checker_70 (Nat.le_of_ble_eq_true rfl) (Nat.le_of_ble_eq_true rfl) hle.1 hle.2 ?_
      refine pm_blk (pc' := 48) (L' := [(0, .ref 43), (1, .int x1)]) (S' := [.int 5, .int q6]) (M' := sm g u) [pm_oi (.iconst 5) 5] (by decide +kernel) rfl ?_
      refine pm_ic_ne (off := 4) 52 (by decide +kernel) (by decide) (fun hc7 => ?_) (fun hc7 => ?_)
      · rw [if_neg hc7] at h
        refine pm_blk (pc' := 54) (L' := [(0, .ref 43), (1, .int x1)]) (S' := [.int x1, .ref 43]) (M' := sm g u) [pm_o (.aload_n 0), pm_o (.iload_n 1)] (by decide +kernel) rfl ?_
        obtain ⟨q8, hq8, h⟩ := pm_bd h
        obtain ⟨hu9, h⟩ := pm_ifs h
        obtain ⟨h, hl10⟩ := pm_Ss h
        refine pm_cV (idx := 76) m_Checker_typeOf (c_Checker_typeOf l h0 D hT hq8) (As := [.int x1]) (S0 := []) rfl (by decide +kernel) k_Checker_typeOf l_Checker_76 (Nat.le_of_ble_eq_true rfl) (Nat.le_of_ble_eq_true rfl) hl10.1 hl10.2 ?_
        refine pm_blk (pc' := 60) (L' := [(2, .int q8.1), (0, .ref 43), (1, .int x1)]) (S' := [.int (-1), .int q8.1]) (M' := sm q8.2.1 q8.2.2) [pm_o (.istore_n 2), pm_o (.iload_n 2), pm_oi (.iconst (-1)) (-1)] (by decide +kernel) rfl ?_
        refine pm_ic_eq (off := 17) 77 (by decide +kernel) (by decide) (fun hc11 => ?_) (fun hc11 => ?_)
        · rw [if_pos hc11] at h
          refine pm_loc [1, 2, 0] rfl ?_
          exact w_Checker_checkNode_77 l h0 D x1 q8.1 q8.2.1 q8.2.2 (sh_Tb_s hu9) hl10 h
        · rw [if_neg hc11] at h
          refine pm_blk (pc' := 68) (L' := [(2, .int q8.1), (0, .ref 43), (1, .int x1)]) (S' := [.int q8.1, .ref 10]) (M' := sm q8.2.1 q8.2.2) [pm_o (.aload_n 0), pm_of (.getfield 9) 2 0 2, pm_o (.iload_n 2)] (by decide +kernel) rfl ?_
          obtain ⟨q15, hq15, h⟩ := pm_bd h
          refine pm_cV (idx := 79) m_Types_leaves (c_Types_leaves l h0 D (sh_Tb_s hu9) hq15) (As := [.int q8.1]) (S0 := []) rfl (by decide +kernel) k_Types_leaves l_Checker_79 (Nat.le_of_ble_eq_true rfl) (Nat.le_of_ble_eq_true rfl) hl10.1 hl10.2 ?_
          refine pm_blk (pc' := 74) (L' := [(2, .int q8.1), (0, .ref 43), (1, .int x1)]) (S' := [.int 200, .int q15]) (M' := sm q8.2.1 q8.2.2) [pm_oi (.sipush 200) 200] (by decide +kernel) rfl ?_
          refine pm_ic_le (off := 20) 94 (by decide +kernel) (by decide) (fun hc16 => ?_) (fun hc16 => ?_)
          · rw [if_pos hc16] at h
            refine pm_blk (pc' := 100) (L' := [(2, .int q8.1), (0, .ref 43), (1, .int x1)]) (S' := [.int q8.1, .int x1, .ref 18]) (M' := sm q8.2.1 q8.2.2) [pm_o (.aload_n 0), pm_of (.getfield 15) 2 1 2, pm_o (.iload_n 1), pm_o (.iload_n 2)] (by decide +kernel) rfl ?_
            obtain ⟨q17, hq17, h⟩ := pm_bd h
            refine pm_cV (idx := 85) m_Tree_setType (c_Tree_setType l h0 D (sh_Tb_s hu9) hq17) (As := [.int x1, .int q8.1]) (S0 := []) rfl (by decide +kernel) k_Tree_setType l_Checker_85 (Nat.le_of_ble_eq_true rfl) (Nat.le_of_ble_eq_true rfl) hl10.1 hl10.2 ?_
            refine pm_blk (pc' := 103) (L' := [(2, .int q8.1), (0, .ref 43), (1, .int x1)]) (S' := []) (M' := sm q8.2.1 q17) [] (by decide +kernel) rfl ?_
            have h9 := Option.some.inj h
            subst h9
            exact pm_retv rfl (by decide +kernel) rfl rfl
          · rw [if_neg hc16] at h
            refine pm_loc [1, 2, 0] rfl ?_
            exact w_Checker_checkNode_77 l h0 D x1 q8.1 q8.2.1 q8.2.2 (sh_Tb_s hu9) hl10 h
      · rw [if_pos hc7] at h
        have h9 := Option.some.inj h
        subst h9
        exact pm_retv rfl (by decide +kernel) rfl rfl
def F_Checker_checkNode (N : Nat) (a1 : Int32) (g : pm_s) (u : pm_J) : Option (Unit × pm_s × pm_J) := pm_S g ((F_Tree_kind a1 g u).bind fun q1 => if q1 = 3 then (F_Checker_resolve N a1 g u).bind fun q3 => K_Checker_checkNode_29 N a1 g q3 else (F_Tree_kind a1 g u).bind fun q18 => if q18 = 4 then (F_Checker_resolve N a1 g u).bind fun q20 => K_Checker_checkNode_29 N a1 g q20 else K_Checker_checkNode_29 N a1 g u)
set_option maxHeartbeats 4000000 in
set_option maxRecDepth 100000 in
theorem c_Checker_checkNode (l : Launch) (h0 : Nat) (D : pm_D) {g : pm_s} {u : pm_J} (hT : sh_T g) {N : Nat} {a1 : Int32} {out : Unit × pm_s × pm_J} (h : F_Checker_checkNode N a1 g u = some out) : pm_C l h0 D m_Checker_checkNode (110) [.ref 43, .int a1] (sm g u) none (sm out.2.1 out.2.2) := by
  unfold F_Checker_checkNode at h
  obtain ⟨h, hle⟩ := pm_Ss h
  refine pm_met (by decide +kernel) (Nat.le_of_ble_eq_true rfl) hle.1 hle.2 ?_
  intro p e R s m args below meth c
  refine pm_blk (pc' := 5) (L' := [(0, .ref 43), (1, .int a1)]) (S' := [.int a1, .ref 18]) (M' := sm g u) [pm_o (.aload_n 0), pm_of (.getfield 15) 2 1 2, pm_o (.iload_n 1)] (by decide +kernel) rfl ?_
  obtain ⟨q1, hq1, h⟩ := pm_bd h
  refine pm_cV (idx := 70) m_Tree_kind (c_Tree_kind l h0 D hT hq1) (As := [.int a1]) (S0 := []) rfl (by decide +kernel) k_Tree_kind l_Checker_70 (Nat.le_of_ble_eq_true rfl) (Nat.le_of_ble_eq_true rfl) hle.1 hle.2 ?_
  refine pm_blk (pc' := 9) (L' := [(0, .ref 43), (1, .int a1)]) (S' := [.int 3, .int q1]) (M' := sm g u) [pm_oi (.iconst 3) 3] (by decide +kernel) rfl ?_
  refine pm_ic_eq (off := 15) 24 (by decide +kernel) (by decide) (fun hc2 => ?_) (fun hc2 => ?_)
  · rw [if_pos hc2] at h
    refine pm_blk (pc' := 26) (L' := [(0, .ref 43), (1, .int a1)]) (S' := [.int a1, .ref 43]) (M' := sm g u) [pm_o (.aload_n 0), pm_o (.iload_n 1)] (by decide +kernel) rfl ?_
    obtain ⟨q3, hq3, h⟩ := pm_bd h
    refine pm_cV (idx := 73) m_Checker_resolve (c_Checker_resolve l h0 D hT hq3) (As := [.int a1]) (S0 := []) rfl (by decide +kernel) k_Checker_resolve l_Checker_73 (Nat.le_of_ble_eq_true rfl) (Nat.le_of_ble_eq_true rfl) hle.1 hle.2 ?_
    refine pm_blk (pc' := 29) (L' := [(0, .ref 43), (1, .int a1)]) (S' := []) (M' := sm g q3) [] (by decide +kernel) rfl ?_
    refine pm_loc [0, 1] rfl ?_
    exact w_Checker_checkNode_29 l h0 D a1 g q3 hT hle h
  · rw [if_neg hc2] at h
    refine pm_blk (pc' := 17) (L' := [(0, .ref 43), (1, .int a1)]) (S' := [.int a1, .ref 18]) (M' := sm g u) [pm_o (.aload_n 0), pm_of (.getfield 15) 2 1 2, pm_o (.iload_n 1)] (by decide +kernel) rfl ?_
    obtain ⟨q18, hq18, h⟩ := pm_bd h
    refine pm_cV (idx := 70) m_Tree_kind (c_Tree_kind l h0 D hT hq18) (As := [.int a1]) (S0 := []) rfl (by decide +kernel) k_Tree_kind l_Checker_70 (Nat.le_of_ble_eq_true rfl) (Nat.le_of_ble_eq_true rfl) hle.1 hle.2 ?_
    refine pm_blk (pc' := 21) (L' := [(0, .ref 43), (1, .int a1)]) (S' := [.int 4, .int q18]) (M' := sm g u) [pm_oi (.iconst 4) 4] (by decide +kernel) rfl ?_
    refine pm_ic_ne (off := 8) 29 (by decide +kernel) (by decide) (fun hc19 => ?_) (fun hc19 => ?_)
    · rw [if_neg hc19] at h
      refine pm_loc [0, 1] rfl ?_
      exact w_Checker_checkNode_29 l h0 D a1 g u hT hle h
    · rw [if_pos hc19] at h
      refine pm_blk (pc' := 26) (L' := [(0, .ref 43), (1, .int a1)]) (S' := [.int a1, .ref 43]) (M' := sm g u) [pm_o (.aload_n 0), pm_o (.iload_n 1)] (by decide +kernel) rfl ?_
      obtain ⟨q20, hq20, h⟩ := pm_bd h
      refine pm_cV (idx := 73) m_Checker_resolve (c_Checker_resolve l h0 D hT hq20) (As := [.int a1]) (S0 := []) rfl (by decide +kernel) k_Checker_resolve l_Checker_73 (Nat.le_of_ble_eq_true rfl) (Nat.le_of_ble_eq_true rfl) hle.1 hle.2 ?_
      refine pm_blk (pc' := 29) (L' := [(0, .ref 43), (1, .int a1)]) (S' := []) (M' := sm g q20) [] (by decide +kernel) rfl ?_
      refine pm_loc [0, 1] rfl ?_
      exact w_Checker_checkNode_29 l h0 D a1 g q20 hT hle h
def K_Checker_checkAll_63 (N : Nat) (k4 : Int32 → Int32 → pm_s → pm_J → Option (Unit × pm_s × pm_J)) (x1 : Int32) (x2 : Int32) (g : pm_s) (u : pm_J) : Option (Unit × pm_s × pm_J) := (F_Table_root x2 g u).bind fun q13 => (F_Tree_type q13 g u).bind fun q14 => (F_Table_type x2 g u).bind fun q15 => if q14 = q15 then k4 x1 (x2 + 1) g u else (F_Table_placeOf x2 g u).bind fun q17 => (F_Fault_tell_3 7 q17 g u).bind fun q18 => k4 x1 (x2 + 1) g q18
set_option maxHeartbeats 4000000 in
set_option maxRecDepth 100000 in
theorem w_Checker_checkAll_63 (l : Launch) (h0 : Nat) (D : pm_D) {N : Nat} {g0 : pm_s} {u0 : pm_J} {out : Unit × pm_s × pm_J} {p : Program} {e : Env} {R : Room} {s : State} {m : MethodId} {args : Array Value} {below : List Frame} {meth : Method} {c : Code} {k4 : Int32 → Int32 → pm_s → pm_J → Option (Unit × pm_s × pm_J)} (hk4 : ∀ (x1 : Int32) (x2 : Int32) (g : pm_s) (u : pm_J) (hT : sh_T g) (hle : g.1 ≤ out.2.1.1 ∧ g.2.1 ≤ out.2.1.2.1), k4 x1 x2 g u = some out → pm_V (p, l, e, R, s, m, args, below, meth, c) m_Checker_checkAll h0 D (g0.1, g0.2.1, out.2.1.1, out.2.1.2.1, 111) (pm_E (p, l, e, R, s, m, args, below, meth, c) h0 D (sm g0 u0) none (sm out.2.1 out.2.2)) 4 [(0, .ref 43), (1, .int x1), (2, .int x2)] [] (sm g u)) : ∀ (x1 : Int32) (x2 : Int32) (g : pm_s) (u : pm_J) (hT : sh_T g) (hle : g.1 ≤ out.2.1.1 ∧ g.2.1 ≤ out.2.1.2.1), K_Checker_checkAll_63 N k4 x1 x2 g u = some out → pm_V (p, l, e, R, s, m, args, below, meth, c) m_Checker_checkAll h0 D (g0.1, g0.2.1, out.2.1.1, out.2.1.2.1, 111) (pm_E (p, l, e, R, s, m, args, below, meth, c) h0 D (sm g0 u0) none (sm out.2.1 out.2.2)) 63 [(0, .ref 43), (1, .int x1), (2, .int x2)] [] (sm g u) := by
    intro x1 x2 g u hT hle h
    unfold K_Checker_checkAll_63 at h
    refine pm_blk (pc' := 72) (L' := [(0, .ref 43), (1, .int x1), (2, .int x2)]) (S' := [.int x2, .ref 29, .ref 18]) (M' := sm g u) [pm_o (.aload_n 0), pm_of (.getfield 15) 2 1 2, pm_o (.aload_n 0), pm_of (.getfield 19) 2 2 2, pm_o (.iload_n 2)] (by decide +kernel) rfl ?_
    obtain ⟨q13, hq13, h⟩ := pm_bd h
    refine pm_cV (idx := 51) m_Table_root (c_Table_root l h0 D hT hq13) (As := [.int x2]) (S0 := [.ref 18]) rfl (by decide +kernel) k_Table_root l_Checker_51 (Nat.le_of_ble_eq_true rfl) (Nat.le_of_ble_eq_true rfl) hle.1 hle.2 ?_
    refine pm_blk (pc' := 75) (L' := [(0, .ref 43), (1, .int x1), (2, .int x2)]) (S' := [.int q13, .ref 18]) (M' := sm g u) [] (by decide +kernel) rfl ?_
    obtain ⟨q14, hq14, h⟩ := pm_bd h
    refine pm_cV (idx := 54) m_Tree_type (c_Tree_type l h0 D hT hq14) (As := [.int q13]) (S0 := []) rfl (by decide +kernel) k_Tree_type l_Checker_54 (Nat.le_of_ble_eq_true rfl) (Nat.le_of_ble_eq_true rfl) hle.1 hle.2 ?_
    refine pm_blk (pc' := 83) (L' := [(0, .ref 43), (1, .int x1), (2, .int x2)]) (S' := [.int x2, .ref 29, .int q14]) (M' := sm g u) [pm_o (.aload_n 0), pm_of (.getfield 19) 2 2 2, pm_o (.iload_n 2)] (by decide +kernel) rfl ?_
    obtain ⟨q15, hq15, h⟩ := pm_bd h
    refine pm_cV (idx := 59) m_Table_type (c_Table_type l h0 D hT hq15) (As := [.int x2]) (S0 := [.int q14]) rfl (by decide +kernel) k_Table_type l_Checker_59 (Nat.le_of_ble_eq_true rfl) (Nat.le_of_ble_eq_true rfl) hle.1 hle.2 ?_
    refine pm_blk (pc' := 86) (L' := [(0, .ref 43), (1, .int x1), (2, .int x2)]) (S' := [.int q15, .int q14]) (M' := sm g u) [] (by decide +kernel) rfl ?_
    refine pm_ic_eq (off := 20) 106 (by decide +kernel) (by decide) (fun hc16 => ?_) (fun hc16 => ?_)
    · rw [if_pos hc16] at h
      refine pm_blk (pc' := 109) (L' := [(2, .int (x2 + 1)), (0, .ref 43), (1, .int x1)]) (S' := []) (M' := sm g u) [pm_oi (.iinc 2 1) 1] (by decide +kernel) rfl ?_
      refine pm_goto (off := -105) 4 (by decide +kernel) (by decide) ?_
      refine pm_loc [1, 2, 0] rfl ?_
      exact hk4 x1 (x2 + 1) g u hT hle h
    · rw [if_neg hc16] at h
      refine pm_blk (pc' := 100) (L' := [(0, .ref 43), (1, .int x1), (2, .int x2)]) (S' := [.int x2, .ref 29, .int 7, .ref 3]) (M' := sm g u) [pm_o (.aload_n 0), pm_of (.getfield 23) 2 3 2, pm_oi (.bipush 7) 7, pm_o (.aload_n 0), pm_of (.getfield 19) 2 2 2, pm_o (.iload_n 2)] (by decide +kernel) rfl ?_
      obtain ⟨q17, hq17, h⟩ := pm_bd h
      refine pm_cV (idx := 60) m_Table_placeOf (c_Table_placeOf l h0 D hT hq17) (As := [.int x2]) (S0 := [.int 7, .ref 3]) rfl (by decide +kernel) k_Table_placeOf l_Checker_60 (Nat.le_of_ble_eq_true rfl) (Nat.le_of_ble_eq_true rfl) hle.1 hle.2 ?_
      refine pm_blk (pc' := 103) (L' := [(0, .ref 43), (1, .int x1), (2, .int x2)]) (S' := [.int q17, .int 7, .ref 3]) (M' := sm g u) [] (by decide +kernel) rfl ?_
      obtain ⟨q18, hq18, h⟩ := pm_bd h
      refine pm_cV (idx := 63) m_Fault_tell (c_Fault_tell_3 l h0 D hT hq18) (As := [.int 7, .int q17]) (S0 := []) rfl (by decide +kernel) k_Fault_tell l_Checker_63 (Nat.le_of_ble_eq_true rfl) (Nat.le_of_ble_eq_true rfl) hle.1 hle.2 ?_
      refine pm_blk (pc' := 109) (L' := [(2, .int (x2 + 1)), (0, .ref 43), (1, .int x1)]) (S' := []) (M' := sm g q18) [pm_oi (.iinc 2 1) 1] (by decide +kernel) rfl ?_
      refine pm_goto (off := -105) 4 (by decide +kernel) (by decide) ?_
      refine pm_loc [1, 2, 0] rfl ?_
      exact hk4 x1 (x2 + 1) g q18 hT hle h
def K_Checker_checkAll_30 (N : Nat) (k4 : Int32 → Int32 → pm_s → pm_J → Option (Unit × pm_s × pm_J)) : Nat → Int32 → Int32 → pm_s → pm_J → Option (Unit × pm_s × pm_J)
  | 0, _, _, _, _ => none
  | n + 1, x1, x2, g, u => (F_Table_end x2 g u).bind fun q11 => if q11 ≤ x1 then K_Checker_checkAll_63 N k4 x1 x2 g u else (F_Fault_isTold_3 g u).bind fun q19 => if q19 = 0 then (F_Checker_checkNode N x1 g u).bind fun q21 => if sh_Tb q21.2.1 = true then pm_S q21.2.1 (K_Checker_checkAll_30 N k4 n (x1 + 1) x2 q21.2.1 q21.2.2) else none else K_Checker_checkAll_63 N k4 x1 x2 g u
set_option maxHeartbeats 4000000 in
set_option maxRecDepth 100000 in
theorem w_Checker_checkAll_30 (l : Launch) (h0 : Nat) (D : pm_D) {N : Nat} {g0 : pm_s} {u0 : pm_J} {out : Unit × pm_s × pm_J} {p : Program} {e : Env} {R : Room} {s : State} {m : MethodId} {args : Array Value} {below : List Frame} {meth : Method} {c : Code} {k4 : Int32 → Int32 → pm_s → pm_J → Option (Unit × pm_s × pm_J)} (hk4 : ∀ (x1 : Int32) (x2 : Int32) (g : pm_s) (u : pm_J) (hT : sh_T g) (hle : g.1 ≤ out.2.1.1 ∧ g.2.1 ≤ out.2.1.2.1), k4 x1 x2 g u = some out → pm_V (p, l, e, R, s, m, args, below, meth, c) m_Checker_checkAll h0 D (g0.1, g0.2.1, out.2.1.1, out.2.1.2.1, 111) (pm_E (p, l, e, R, s, m, args, below, meth, c) h0 D (sm g0 u0) none (sm out.2.1 out.2.2)) 4 [(0, .ref 43), (1, .int x1), (2, .int x2)] [] (sm g u)) : ∀ (n : Nat) (x1 : Int32) (x2 : Int32) (g : pm_s) (u : pm_J) (hT : sh_T g) (hle : g.1 ≤ out.2.1.1 ∧ g.2.1 ≤ out.2.1.2.1), K_Checker_checkAll_30 N k4 n x1 x2 g u = some out → pm_V (p, l, e, R, s, m, args, below, meth, c) m_Checker_checkAll h0 D (g0.1, g0.2.1, out.2.1.1, out.2.1.2.1, 111) (pm_E (p, l, e, R, s, m, args, below, meth, c) h0 D (sm g0 u0) none (sm out.2.1 out.2.2)) 30 [(0, .ref 43), (1, .int x1), (2, .int x2)] [] (sm g u) := by
  intro n
  induction n with
  | zero => intro x1 x2 g u hT hle h; cases h
  | succ n ih =>
    intro x1 x2 g u hT hle h
    rw [K_Checker_checkAll_30] at h
    refine pm_blk (pc' := 36) (L' := [(0, .ref 43), (1, .int x1), (2, .int x2)]) (S' := [.int x2, .ref 29, .int x1]) (M' := sm g u) [pm_o (.iload_n 1), pm_o (.aload_n 0), pm_of (.getfield 19) 2 2 2, pm_o (.iload_n 2)] (by decide +kernel) rfl ?_
    obtain ⟨q11, hq11, h⟩ := pm_bd h
    refine pm_cV (idx := 43) m_Table_end (c_Table_end l h0 D hT hq11) (As := [.int x2]) (S0 := [.int x1]) rfl (by decide +kernel) k_Table_end l_Checker_43 (Nat.le_of_ble_eq_true rfl) (Nat.le_of_ble_eq_true rfl) hle.1 hle.2 ?_
    refine pm_blk (pc' := 39) (L' := [(0, .ref 43), (1, .int x1), (2, .int x2)]) (S' := [.int q11, .int x1]) (M' := sm g u) [] (by decide +kernel) rfl ?_
    refine pm_ic_ge (off := 24) 63 (by decide +kernel) (by decide) (fun hc12 => ?_) (fun hc12 => ?_)
    · rw [if_pos hc12] at h
      refine pm_loc [0, 1, 2] rfl ?_
      exact w_Checker_checkAll_63 l h0 D hk4 x1 x2 g u hT hle h
    · rw [if_neg hc12] at h
      refine pm_blk (pc' := 46) (L' := [(0, .ref 43), (1, .int x1), (2, .int x2)]) (S' := [.ref 3]) (M' := sm g u) [pm_o (.aload_n 0), pm_of (.getfield 23) 2 3 2] (by decide +kernel) rfl ?_
      obtain ⟨q19, hq19, h⟩ := pm_bd h
      refine pm_cV (idx := 33) m_Fault_isTold (c_Fault_isTold_3 l h0 D hT hq19) (As := []) (S0 := []) rfl (by decide +kernel) k_Fault_isTold l_Checker_33 (Nat.le_of_ble_eq_true rfl) (Nat.le_of_ble_eq_true rfl) hle.1 hle.2 ?_
      refine pm_blk (pc' := 49) (L' := [(0, .ref 43), (1, .int x1), (2, .int x2)]) (S' := [.int q19]) (M' := sm g u) [] (by decide +kernel) rfl ?_
      refine pm_if_ne (off := 14) 63 (by decide +kernel) (by decide) (fun hc20 => ?_) (fun hc20 => ?_)
      · rw [if_neg hc20] at h
        refine pm_loc [0, 1, 2] rfl ?_
        exact w_Checker_checkAll_63 l h0 D hk4 x1 x2 g u hT hle h
      · rw [if_pos hc20] at h
        refine pm_blk (pc' := 54) (L' := [(0, .ref 43), (1, .int x1), (2, .int x2)]) (S' := [.int x1, .ref 43]) (M' := sm g u) [pm_o (.aload_n 0), pm_o (.iload_n 1)] (by decide +kernel) rfl ?_
        obtain ⟨q21, hq21, h⟩ := pm_bd h
        obtain ⟨hu22, h⟩ := pm_ifs h
        obtain ⟨h, hl23⟩ := pm_Ss h
        refine pm_cV (idx := 47) m_Checker_checkNode (c_Checker_checkNode l h0 D hT hq21) (As := [.int x1]) (S0 := []) rfl (by decide +kernel) k_Checker_checkNode l_Checker_47 (Nat.le_of_ble_eq_true rfl) (Nat.le_of_ble_eq_true rfl) hl23.1 hl23.2 ?_
        refine pm_blk (pc' := 60) (L' := [(1, .int (x1 + 1)), (0, .ref 43), (2, .int x2)]) (S' := []) (M' := sm q21.2.1 q21.2.2) [pm_oi (.iinc 1 1) 1] (by decide +kernel) rfl ?_
        refine pm_goto (off := -30) 30 (by decide +kernel) (by decide) ?_
        refine pm_loc [1, 0, 2] rfl ?_
        exact ih (x1 + 1) x2 q21.2.1 q21.2.2 (sh_Tb_s hu22) hl23 h
def K_Checker_checkAll_4 (N : Nat) : Nat → Int32 → Int32 → pm_s → pm_J → Option (Unit × pm_s × pm_J)
  | 0, _, _, _, _ => none
  | n + 1, x1, x2, g, u => (F_Table_size g u).bind fun q1 => if q1 ≤ x2 then (F_Fault_isTold_3 g u).bind fun q3 => if q3 = 0 then (F_Checker_countAll N g u).bind fun q5 => some ((), g, q5) else some ((), g, u) else (F_Fault_isTold_3 g u).bind fun q6 => if q6 = 0 then K_Checker_checkAll_30 N (K_Checker_checkAll_4 N  n) N x1 x2 g (wi u 43 4 x2) else (F_Fault_isTold_3 g u).bind fun q8 => if q8 = 0 then (F_Checker_countAll N g u).bind fun q10 => some ((), g, q10) else some ((), g, u)
set_option maxHeartbeats 4000000 in
set_option maxRecDepth 100000 in
theorem w_Checker_checkAll_4 (l : Launch) (h0 : Nat) (D : pm_D) {N : Nat} {g0 : pm_s} {u0 : pm_J} {out : Unit × pm_s × pm_J} {p : Program} {e : Env} {R : Room} {s : State} {m : MethodId} {args : Array Value} {below : List Frame} {meth : Method} {c : Code} : ∀ (n : Nat) (x1 : Int32) (x2 : Int32) (g : pm_s) (u : pm_J) (hT : sh_T g) (hle : g.1 ≤ out.2.1.1 ∧ g.2.1 ≤ out.2.1.2.1), K_Checker_checkAll_4 N n x1 x2 g u = some out → pm_V (p, l, e, R, s, m, args, below, meth, c) m_Checker_checkAll h0 D (g0.1, g0.2.1, out.2.1.1, out.2.1.2.1, 111) (pm_E (p, l, e, R, s, m, args, below, meth, c) h0 D (sm g0 u0) none (sm out.2.1 out.2.2)) 4 [(0, .ref 43), (1, .int x1), (2, .int x2)] [] (sm g u) := by
  intro n
  induction n with
  | zero => intro x1 x2 g u hT hle h; cases h
  | succ n ih =>
    intro x1 x2 g u hT hle h
    rw [K_Checker_checkAll_4] at h
    refine pm_blk (pc' := 9) (L' := [(0, .ref 43), (1, .int x1), (2, .int x2)]) (S' := [.ref 29, .int x2]) (M' := sm g u) [pm_o (.iload_n 2), pm_o (.aload_n 0), pm_of (.getfield 19) 2 2 2] (by decide +kernel) rfl ?_
    obtain ⟨q1, hq1, h⟩ := pm_bd h
    refine pm_cV (idx := 27) m_Table_size (c_Table_size l h0 D hT hq1) (As := []) (S0 := [.int x2]) rfl (by decide +kernel) k_Table_size l_Checker_27 (Nat.le_of_ble_eq_true rfl) (Nat.le_of_ble_eq_true rfl) hle.1 hle.2 ?_
    refine pm_blk (pc' := 12) (L' := [(0, .ref 43), (1, .int x1), (2, .int x2)]) (S' := [.int q1, .int x2]) (M' := sm g u) [] (by decide +kernel) rfl ?_
    refine pm_ic_ge (off := 100) 112 (by decide +kernel) (by decide) (fun hc2 => ?_) (fun hc2 => ?_)
    · rw [if_pos hc2] at h
      refine pm_blk (pc' := 116) (L' := [(0, .ref 43), (1, .int x1), (2, .int x2)]) (S' := [.ref 3]) (M' := sm g u) [pm_o (.aload_n 0), pm_of (.getfield 23) 2 3 2] (by decide +kernel) rfl ?_
      obtain ⟨q3, hq3, h⟩ := pm_bd h
      refine pm_cV (idx := 33) m_Fault_isTold (c_Fault_isTold_3 l h0 D hT hq3) (As := []) (S0 := []) rfl (by decide +kernel) k_Fault_isTold l_Checker_33 (Nat.le_of_ble_eq_true rfl) (Nat.le_of_ble_eq_true rfl) hle.1 hle.2 ?_
      refine pm_blk (pc' := 119) (L' := [(0, .ref 43), (1, .int x1), (2, .int x2)]) (S' := [.int q3]) (M' := sm g u) [] (by decide +kernel) rfl ?_
      refine pm_if_ne (off := 7) 126 (by decide +kernel) (by decide) (fun hc4 => ?_) (fun hc4 => ?_)
      · rw [if_neg hc4] at h
        have h9 := Option.some.inj h
        subst h9
        exact pm_retv rfl (by decide +kernel) rfl rfl
      · rw [if_pos hc4] at h
        refine pm_blk (pc' := 123) (L' := [(0, .ref 43), (1, .int x1), (2, .int x2)]) (S' := [.ref 43]) (M' := sm g u) [pm_o (.aload_n 0)] (by decide +kernel) rfl ?_
        obtain ⟨q5, hq5, h⟩ := pm_bd h
        refine pm_cV (idx := 67) m_Checker_countAll (c_Checker_countAll l h0 D hT hq5) (As := []) (S0 := []) rfl (by decide +kernel) k_Checker_countAll l_Checker_67 (Nat.le_of_ble_eq_true rfl) (Nat.le_of_ble_eq_true rfl) hle.1 hle.2 ?_
        refine pm_blk (pc' := 126) (L' := [(0, .ref 43), (1, .int x1), (2, .int x2)]) (S' := []) (M' := sm g q5) [] (by decide +kernel) rfl ?_
        have h9 := Option.some.inj h
        subst h9
        exact pm_retv rfl (by decide +kernel) rfl rfl
    · rw [if_neg hc2] at h
      refine pm_blk (pc' := 19) (L' := [(0, .ref 43), (1, .int x1), (2, .int x2)]) (S' := [.ref 3]) (M' := sm g u) [pm_o (.aload_n 0), pm_of (.getfield 23) 2 3 2] (by decide +kernel) rfl ?_
      obtain ⟨q6, hq6, h⟩ := pm_bd h
      refine pm_cV (idx := 33) m_Fault_isTold (c_Fault_isTold_3 l h0 D hT hq6) (As := []) (S0 := []) rfl (by decide +kernel) k_Fault_isTold l_Checker_33 (Nat.le_of_ble_eq_true rfl) (Nat.le_of_ble_eq_true rfl) hle.1 hle.2 ?_
      refine pm_blk (pc' := 22) (L' := [(0, .ref 43), (1, .int x1), (2, .int x2)]) (S' := [.int q6]) (M' := sm g u) [] (by decide +kernel) rfl ?_
      refine pm_if_ne (off := 90) 112 (by decide +kernel) (by decide) (fun hc7 => ?_) (fun hc7 => ?_)
      · rw [if_neg hc7] at h
        refine pm_blk (pc' := 116) (L' := [(0, .ref 43), (1, .int x1), (2, .int x2)]) (S' := [.ref 3]) (M' := sm g u) [pm_o (.aload_n 0), pm_of (.getfield 23) 2 3 2] (by decide +kernel) rfl ?_
        obtain ⟨q8, hq8, h⟩ := pm_bd h
        refine pm_cV (idx := 33) m_Fault_isTold (c_Fault_isTold_3 l h0 D hT hq8) (As := []) (S0 := []) rfl (by decide +kernel) k_Fault_isTold l_Checker_33 (Nat.le_of_ble_eq_true rfl) (Nat.le_of_ble_eq_true rfl) hle.1 hle.2 ?_
        refine pm_blk (pc' := 119) (L' := [(0, .ref 43), (1, .int x1), (2, .int x2)]) (S' := [.int q8]) (M' := sm g u) [] (by decide +kernel) rfl ?_
        refine pm_if_ne (off := 7) 126 (by decide +kernel) (by decide) (fun hc9 => ?_) (fun hc9 => ?_)
        · rw [if_neg hc9] at h
          have h9 := Option.some.inj h
          subst h9
          exact pm_retv rfl (by decide +kernel) rfl rfl
        · rw [if_pos hc9] at h
          refine pm_blk (pc' := 123) (L' := [(0, .ref 43), (1, .int x1), (2, .int x2)]) (S' := [.ref 43]) (M' := sm g u) [pm_o (.aload_n 0)] (by decide +kernel) rfl ?_
          obtain ⟨q10, hq10, h⟩ := pm_bd h
          refine pm_cV (idx := 67) m_Checker_countAll (c_Checker_countAll l h0 D hT hq10) (As := []) (S0 := []) rfl (by decide +kernel) k_Checker_countAll l_Checker_67 (Nat.le_of_ble_eq_true rfl) (Nat.le_of_ble_eq_true rfl) hle.1 hle.2 ?_
          refine pm_blk (pc' := 126) (L' := [(0, .ref 43), (1, .int x1), (2, .int x2)]) (S' := []) (M' := sm g q10) [] (by decide +kernel) rfl ?_
          have h9 := Option.some.inj h
          subst h9
          exact pm_retv rfl (by decide +kernel) rfl rfl
      · rw [if_pos hc7] at h
        refine pm_blk (pc' := 30) (L' := [(0, .ref 43), (1, .int x1), (2, .int x2)]) (S' := []) (M' := sm g (wi u 43 4 x2)) [pm_o (.aload_n 0), pm_o (.iload_n 2), pm_of (.putfield 39) 2 4 0] (by decide +kernel) rfl ?_
        refine pm_loc [0, 1, 2] rfl ?_
        exact w_Checker_checkAll_30 l h0 D ih N x1 x2 g (wi u 43 4 x2) hT hle h
def F_Checker_checkAll (N : Nat) (g : pm_s) (u : pm_J) : Option (Unit × pm_s × pm_J) := pm_S g (K_Checker_checkAll_4 N N 0 0 g u)
set_option maxHeartbeats 4000000 in
set_option maxRecDepth 100000 in
theorem c_Checker_checkAll (l : Launch) (h0 : Nat) (D : pm_D) {g : pm_s} {u : pm_J} (hT : sh_T g) {N : Nat} {out : Unit × pm_s × pm_J} (h : F_Checker_checkAll N g u = some out) : pm_C l h0 D m_Checker_checkAll (111) [.ref 43] (sm g u) none (sm out.2.1 out.2.2) := by
  unfold F_Checker_checkAll at h
  obtain ⟨h, hle⟩ := pm_Ss h
  refine pm_met (by decide +kernel) (Nat.le_of_ble_eq_true rfl) hle.1 hle.2 ?_
  intro p e R s m args below meth c
  refine pm_blk (pc' := 4) (L' := [(2, .int 0), (1, .int 0), (0, .ref 43)]) (S' := []) (M' := sm g u) [pm_oi (.iconst 0) 0, pm_o (.istore_n 1), pm_oi (.iconst 0) 0, pm_o (.istore_n 2)] (by decide +kernel) rfl ?_
  refine pm_loc [2, 1, 0] rfl ?_
  exact w_Checker_checkAll_4 l h0 D N 0 0 g u hT hle h
