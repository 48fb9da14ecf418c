def F_BC_forget (N : Nat) (g : pm_s) (u : pm_J) : Option (pm_J) := (F_Machine_forget N g (wi (wi u 0 2 0) 0 4 0)).bind fun q1 => some q1
set_option maxHeartbeats 4000000 in
set_option maxRecDepth 100000 in
theorem c_BC_forget (l : Launch) (h0 : Nat) (D : pm_D) {g : pm_s} {u : pm_J} (hT : sh_T g) {N : Nat} {out : pm_J} (h : F_BC_forget N g u = some out) : pm_C l h0 D m_BC_forget (3) [.ref 0] (sm g u) none (sm g out) := by
  unfold F_BC_forget at h
  refine pm_met (by decide +kernel) (Nat.le_of_ble_eq_true rfl) (Nat.le_refl _) (Nat.le_refl _) ?_
  intro p e R s m args below meth c
  refine pm_blk (pc' := 14) (L' := [(0, .ref 0)]) (S' := [.ref 44]) (M' := sm g (wi (wi u 0 2 0) 0 4 0)) [pm_o (.aload_n 0), pm_oi (.iconst 0) 0, pm_of (.putfield 98) 0 2 3, pm_o (.aload_n 0), pm_oi (.iconst 0) 0, pm_of (.putfield 147) 0 4 0, pm_o (.aload_n 0), pm_of (.getfield 80) 0 13 2] (by decide +kernel) rfl ?_
  obtain ⟨q1, hq1, h⟩ := pm_bd h
  refine pm_cV (idx := 180) m_Machine_forget (c_Machine_forget l h0 D hT hq1) (As := []) (S0 := []) rfl (by decide +kernel) k_Machine_forget l_BC_180 (Nat.le_of_ble_eq_true rfl) (Nat.le_of_ble_eq_true rfl) (Nat.le_refl _) (Nat.le_refl _) ?_
  refine pm_blk (pc' := 17) (L' := [(0, .ref 0)]) (S' := []) (M' := sm g q1) [] (by decide +kernel) rfl ?_
  have h9 := Option.some.inj h
  subst h9
  exact pm_retv rfl (by decide +kernel) rfl rfl
def K_BC_feed_36 (N : Nat) (g : pm_s) : Nat → Int32 → Int64 → Int32 → pm_J → Option (Int32 × pm_J)
  | 0, _, _, _, _ => none
  | n + 1, x1, y2, x4, u => if x1 ≤ x4 then (F_BC_forget N g u).bind fun q5 => some (q5.1 0 1, q5) else if (Nat.toInt32 3000) ≤ (u.1 0 1) then (F_BC_forget N g u).bind fun q7 => some (q7.1 0 1, q7) else if pm_ok (u.1 0 1) 3000 = true then K_BC_feed_36 N g  n x1 y2 (x4 + 1) (wi (wi u 1 ((u.1 0 1).toNatClampNeg) ((((y2.toUInt64 >>> ((8 * x4).toInt64.toUInt64 &&& Int64.toUInt64 63)).toInt64).toInt32) &&& 255)) 0 1 ((u.1 0 1) + 1)) else none
set_option maxHeartbeats 4000000 in
set_option maxRecDepth 100000 in
theorem w_BC_feed_36 (l : Launch) (h0 : Nat) (D : pm_D) {g : pm_s} (hT : sh_T g) {N : Nat} {u0 : pm_J} {out : Int32 × pm_J} {p : Program} {e : Env} {R : Room} {s : State} {m : MethodId} {args : Array Value} {below : List Frame} {meth : Method} {c : Code} : ∀ (n : Nat) (x1 : Int32) (y2 : Int64) (x4 : Int32) (u : pm_J), K_BC_feed_36 N g n x1 y2 x4 u = some out → pm_V (p, l, e, R, s, m, args, below, meth, c) m_BC_feed h0 D (g.1, g.2.1, g.1, g.2.1, 4) (pm_E (p, l, e, R, s, m, args, below, meth, c) h0 D (sm g u0) (some (.int out.1)) (sm g out.2)) 36 [(0, .ref 0), (1, .int x1), (2, .long y2), (4, .int x4)] [] (sm g u) := by
  intro n
  induction n with
  | zero => intro x1 y2 x4 u h; cases h
  | succ n ih =>
    intro x1 y2 x4 u h
    rw [K_BC_feed_36] at h
    refine pm_blk (pc' := 39) (L' := [(0, .ref 0), (1, .int x1), (2, .long y2), (4, .int x4)]) (S' := [.int x1, .int x4]) (M' := sm g u) [pm_o (.iload 4), pm_o (.iload_n 1)] (by decide +kernel) rfl ?_
    refine pm_ic_ge (off := 52) 91 (by decide +kernel) (by decide) (fun hc4 => ?_) (fun hc4 => ?_)
    · rw [if_pos hc4] at h
      refine pm_blk (pc' := 92) (L' := [(0, .ref 0), (1, .int x1), (2, .long y2), (4, .int x4)]) (S' := [.ref 0]) (M' := sm g u) [pm_o (.aload_n 0)] (by decide +kernel) rfl ?_
      obtain ⟨q5, hq5, h⟩ := pm_bd h
      refine pm_cV (idx := 95) m_BC_forget (c_BC_forget l h0 D hT hq5) (As := []) (S0 := []) rfl (by decide +kernel) k_BC_forget l_BC_95 (Nat.le_of_ble_eq_true rfl) (Nat.le_of_ble_eq_true rfl) (Nat.le_refl _) (Nat.le_refl _) ?_
      refine pm_blk (pc' := 99) (L' := [(0, .ref 0), (1, .int x1), (2, .long y2), (4, .int x4)]) (S' := [.int (q5.1 0 1)]) (M' := sm g q5) [pm_o (.aload_n 0), pm_of (.getfield 84) 0 1 0] (by decide +kernel) rfl ?_
      have h9 := Option.some.inj h
      subst h9
      exact pm_reti rfl (by decide +kernel) rfl rfl rfl
    · rw [if_neg hc4] at h
      refine pm_blk (pc' := 51) (L' := [(0, .ref 0), (1, .int x1), (2, .long y2), (4, .int x4)]) (S' := [.int (Nat.toInt32 3000), .int (u.1 0 1)]) (M' := sm g u) [pm_o (.aload_n 0), pm_of (.getfield 84) 0 1 0, pm_o (.aload_n 0), pm_of (.getfield 9) 0 0 2, pm_o .arraylength] (by decide +kernel) rfl ?_
      refine pm_ic_ge (off := 40) 91 (by decide +kernel) (by decide) (fun hc6 => ?_) (fun hc6 => ?_)
      · rw [if_pos hc6] at h
        refine pm_blk (pc' := 92) (L' := [(0, .ref 0), (1, .int x1), (2, .long y2), (4, .int x4)]) (S' := [.ref 0]) (M' := sm g u) [pm_o (.aload_n 0)] (by decide +kernel) rfl ?_
        obtain ⟨q7, hq7, h⟩ := pm_bd h
        refine pm_cV (idx := 95) m_BC_forget (c_BC_forget l h0 D hT hq7) (As := []) (S0 := []) rfl (by decide +kernel) k_BC_forget l_BC_95 (Nat.le_of_ble_eq_true rfl) (Nat.le_of_ble_eq_true rfl) (Nat.le_refl _) (Nat.le_refl _) ?_
        refine pm_blk (pc' := 99) (L' := [(0, .ref 0), (1, .int x1), (2, .long y2), (4, .int x4)]) (S' := [.int (q7.1 0 1)]) (M' := sm g q7) [pm_o (.aload_n 0), pm_of (.getfield 84) 0 1 0] (by decide +kernel) rfl ?_
        have h9 := Option.some.inj h
        subst h9
        exact pm_reti rfl (by decide +kernel) rfl rfl rfl
      · rw [if_neg hc6] at h
        refine pm_blk (pc' := 74) (L' := [(0, .ref 0), (1, .int x1), (2, .long y2), (4, .int x4)]) (S' := [.int ((((y2.toUInt64 >>> ((8 * x4).toInt64.toUInt64 &&& Int64.toUInt64 63)).toInt64).toInt32) &&& 255), .int (u.1 0 1), .ref 1]) (M' := sm g u) [pm_o (.aload_n 0), pm_of (.getfield 9) 0 0 2, pm_o (.aload_n 0), pm_of (.getfield 84) 0 1 0, pm_o (.lload_n 2), pm_oi (.bipush 8) 8, pm_o (.iload 4), pm_o .imul, pm_o .lushr, pm_o .l2i, pm_oi (.sipush 255) 255, pm_o .iand] (by decide +kernel) rfl ?_
        obtain ⟨ho8, h⟩ := pm_ifs h
        refine pm_iast (by decide +kernel) rfl  (pm_ok_in ho8) ?_
        refine pm_blk (pc' := 88) (L' := [(4, .int (x4 + 1)), (0, .ref 0), (1, .int x1), (2, .long y2)]) (S' := []) (M' := sm g (wi (wi u 1 ((u.1 0 1).toNatClampNeg) ((((y2.toUInt64 >>> ((8 * x4).toInt64.toUInt64 &&& Int64.toUInt64 63)).toInt64).toInt32) &&& 255)) 0 1 ((u.1 0 1) + 1))) [pm_o (.aload_n 0), pm_o .dup, pm_of (.getfield 84) 0 1 0, pm_oi (.iconst 1) 1, pm_o .iadd, pm_of (.putfield 84) 0 1 0, pm_oi (.iinc 4 1) 1] (by decide +kernel) rfl ?_
        refine pm_goto (off := -52) 36 (by decide +kernel) (by decide) ?_
        refine pm_loc [1, 2, 3, 0] rfl ?_
        exact ih x1 y2 (x4 + 1) (wi (wi u 1 ((u.1 0 1).toNatClampNeg) ((((y2.toUInt64 >>> ((8 * x4).toInt64.toUInt64 &&& Int64.toUInt64 63)).toInt64).toInt32) &&& 255)) 0 1 ((u.1 0 1) + 1)) h
def F_BC_feed (N : Nat) (a1 : Int32) (a2 : Int64) (g : pm_s) (u : pm_J) : Option (Int32 × pm_J) := if a1 < 1 then none else if 8 < a1 then none else if ((u.1 0 1) + a1) ≤ 3000 then K_BC_feed_36 N g N a1 a2 0 u else none
set_option maxHeartbeats 4000000 in
set_option maxRecDepth 100000 in
theorem c_BC_feed (l : Launch) (h0 : Nat) (D : pm_D) {g : pm_s} {u : pm_J} (hT : sh_T g) {N : Nat} {a1 : Int32} {a2 : Int64} {out : Int32 × pm_J} (h : F_BC_feed N a1 a2 g u = some out) : pm_C l h0 D m_BC_feed (4) [.ref 0, .int a1, .long a2] (sm g u) (some (.int out.1)) (sm g out.2) := by
  unfold F_BC_feed at h
  refine pm_met (by decide +kernel) (Nat.le_of_ble_eq_true rfl) (Nat.le_refl _) (Nat.le_refl _) ?_
  intro p e R s m args below meth c
  refine pm_blk (pc' := 2) (L' := [(0, .ref 0), (1, .int a1), (2, .long a2)]) (S' := [.int 1, .int a1]) (M' := sm g u) [pm_o (.iload_n 1), pm_oi (.iconst 1) 1] (by decide +kernel) rfl ?_
  refine pm_ic_lt (off := 21) 23 (by decide +kernel) (by decide) (fun hc1 => ?_) (fun hc1 => ?_)
  · rw [if_pos hc1] at h
    cases h
  · rw [if_neg hc1] at h
    refine pm_blk (pc' := 8) (L' := [(0, .ref 0), (1, .int a1), (2, .long a2)]) (S' := [.int 8, .int a1]) (M' := sm g u) [pm_o (.iload_n 1), pm_oi (.bipush 8) 8] (by decide +kernel) rfl ?_
    refine pm_ic_gt (off := 15) 23 (by decide +kernel) (by decide) (fun hc2 => ?_) (fun hc2 => ?_)
    · rw [if_pos hc2] at h
      cases h
    · rw [if_neg hc2] at h
      refine pm_blk (pc' := 20) (L' := [(0, .ref 0), (1, .int a1), (2, .long a2)]) (S' := [.int 3000, .int ((u.1 0 1) + a1)]) (M' := sm g u) [pm_o (.aload_n 0), pm_of (.getfield 84) 0 1 0, pm_o (.iload_n 1), pm_o .iadd, pm_oi (.sipush 3000) 3000] (by decide +kernel) rfl ?_
      refine pm_ic_le (off := 13) 33 (by decide +kernel) (by decide) (fun hc3 => ?_) (fun hc3 => ?_)
      · rw [if_pos hc3] at h
        refine pm_blk (pc' := 36) (L' := [(4, .int 0), (0, .ref 0), (1, .int a1), (2, .long a2)]) (S' := []) (M' := sm g u) [pm_oi (.iconst 0) 0, pm_o (.istore 4)] (by decide +kernel) rfl ?_
        refine pm_loc [1, 2, 3, 0] rfl ?_
        exact w_BC_feed_36 l h0 D hT N a1 a2 0 u h
      · rw [if_neg hc3] at h
        cases h
def F_BC_wipe (N : Nat) (g : pm_s) (u : pm_J) : Option (Int32 × pm_J) := (F_BC_forget N g (wi u 0 1 0)).bind fun q1 => some (u.1 0 1, q1)
set_option maxHeartbeats 4000000 in
set_option maxRecDepth 100000 in
theorem c_BC_wipe (l : Launch) (h0 : Nat) (D : pm_D) {g : pm_s} {u : pm_J} (hT : sh_T g) {N : Nat} {out : Int32 × pm_J} (h : F_BC_wipe N g u = some out) : pm_C l h0 D m_BC_wipe (4) [.ref 0] (sm g u) (some (.int out.1)) (sm g out.2) := by
  unfold F_BC_wipe at h
  refine pm_met (by decide +kernel) (Nat.le_of_ble_eq_true rfl) (Nat.le_refl _) (Nat.le_refl _) ?_
  intro p e R s m args below meth c
  refine pm_blk (pc' := 11) (L' := [(1, .int (u.1 0 1)), (0, .ref 0)]) (S' := [.ref 0]) (M' := sm g (wi u 0 1 0)) [pm_o (.aload_n 0), pm_of (.getfield 84) 0 1 0, pm_o (.istore_n 1), pm_o (.aload_n 0), pm_oi (.iconst 0) 0, pm_of (.putfield 84) 0 1 0, pm_o (.aload_n 0)] (by decide +kernel) rfl ?_
  obtain ⟨q1, hq1, h⟩ := pm_bd h
  refine pm_cV (idx := 95) m_BC_forget (c_BC_forget l h0 D hT hq1) (As := []) (S0 := []) rfl (by decide +kernel) k_BC_forget l_BC_95 (Nat.le_of_ble_eq_true rfl) (Nat.le_of_ble_eq_true rfl) (Nat.le_refl _) (Nat.le_refl _) ?_
  refine pm_blk (pc' := 15) (L' := [(1, .int (u.1 0 1)), (0, .ref 0)]) (S' := [.int (u.1 0 1)]) (M' := sm g q1) [pm_o (.iload_n 1)] (by decide +kernel) rfl ?_
  have h9 := Option.some.inj h
  subst h9
  exact pm_reti rfl (by decide +kernel) rfl rfl rfl
def K_BC_compile_101 (N : Nat) (g : pm_s) (u : pm_J) : Option (Int32 × pm_s × pm_J) := (F_Fault_isTold_3 g u).bind fun q2 => if q2 = 0 then (F_Table_size g u).bind fun q4 => some (q4, g, u) else (F_Fault_what_3 g u).bind fun q5 => some (-q5, g, u)
set_option maxHeartbeats 4000000 in
set_option maxRecDepth 100000 in
theorem w_BC_compile_101 (l : Launch) (h0 : Nat) (D : pm_D) {N : Nat} {g0 : pm_s} {u0 : pm_J} {out : Int32 × pm_s × pm_J} {p : Program} {e : Env} {R : Room} {s : State} {m : MethodId} {args : Array Value} {below : List Frame} {meth : Method} {c : Code} : ∀  (g : pm_s) (u : pm_J) (hT : sh_T g) (hle : g.1 ≤ out.2.1.1 ∧ g.2.1 ≤ out.2.1.2.1), K_BC_compile_101 N g u = some out → pm_V (p, l, e, R, s, m, args, below, meth, c) m_BC_compile h0 D (g0.1, g0.2.1, out.2.1.1, out.2.1.2.1, 247) (pm_E (p, l, e, R, s, m, args, below, meth, c) h0 D (sm g0 u0) (some (.int out.1)) (sm out.2.1 out.2.2)) 101 [(0, .ref 0)] [] (sm g u) := by
    intro g u hT hle h
    unfold K_BC_compile_101 at h
    refine pm_blk (pc' := 105) (L' := [(0, .ref 0)]) (S' := [.ref 3]) (M' := sm g u) [pm_o (.aload_n 0), pm_of (.getfield 20) 0 5 2] (by decide +kernel) rfl ?_
    obtain ⟨q2, hq2, h⟩ := pm_bd h
    refine pm_cV (idx := 115) m_Fault_isTold (c_Fault_isTold_3 l h0 D hT hq2) (As := []) (S0 := []) rfl (by decide +kernel) k_Fault_isTold l_BC_115 (Nat.le_of_ble_eq_true rfl) (Nat.le_of_ble_eq_true rfl) hle.1 hle.2 ?_
    refine pm_blk (pc' := 108) (L' := [(0, .ref 0)]) (S' := [.int q2]) (M' := sm g u) [] (by decide +kernel) rfl ?_
    refine pm_if_eq (off := 14) 122 (by decide +kernel) (by decide) (fun hc3 => ?_) (fun hc3 => ?_)
    · rw [if_pos hc3] at h
      refine pm_blk (pc' := 126) (L' := [(0, .ref 0)]) (S' := [.ref 29]) (M' := sm g u) [pm_o (.aload_n 0), pm_of (.getfield 53) 0 10 2] (by decide +kernel) rfl ?_
      obtain ⟨q4, hq4, h⟩ := pm_bd h
      refine pm_cV (idx := 133) m_Table_size (c_Table_size l h0 D hT hq4) (As := []) (S0 := []) rfl (by decide +kernel) k_Table_size l_BC_133 (Nat.le_of_ble_eq_true rfl) (Nat.le_of_ble_eq_true rfl) hle.1 hle.2 ?_
      refine pm_blk (pc' := 129) (L' := [(0, .ref 0)]) (S' := [.int q4]) (M' := sm g u) [] (by decide +kernel) rfl ?_
      have h9 := Option.some.inj h
      subst h9
      exact pm_reti rfl (by decide +kernel) rfl rfl rfl
    · rw [if_neg hc3] at h
      refine pm_blk (pc' := 115) (L' := [(0, .ref 0)]) (S' := [.ref 3]) (M' := sm g u) [pm_o (.aload_n 0), pm_of (.getfield 20) 0 5 2] (by decide +kernel) rfl ?_
      obtain ⟨q5, hq5, h⟩ := pm_bd h
      refine pm_cV (idx := 130) m_Fault_what (c_Fault_what_3 l h0 D hT hq5) (As := []) (S0 := []) rfl (by decide +kernel) k_Fault_what l_BC_130 (Nat.le_of_ble_eq_true rfl) (Nat.le_of_ble_eq_true rfl) hle.1 hle.2 ?_
      refine pm_blk (pc' := 119) (L' := [(0, .ref 0)]) (S' := [.int (-q5)]) (M' := sm g u) [pm_o .ineg] (by decide +kernel) rfl ?_
      refine pm_goto (off := 10) 129 (by decide +kernel) (by decide) ?_
      have h9 := Option.some.inj h
      subst h9
      exact pm_reti rfl (by decide +kernel) rfl rfl rfl
def F_BC_compile (N : Nat) (g : pm_s) (u : pm_J) : Option (Int32 × pm_s × pm_J) := pm_S g (if (u.1 0 2) = 0 then (F_Fault_clear_3 g (wi u 0 2 1)).bind fun q6 => (F_Fault_clear_4 g q6).bind fun q7 => (F_Types_clear N g q7).bind fun q8 => (F_Tree_clear g q8).bind fun q9 => (F_Table_clear N g q9).bind fun q10 => (F_Tokens_scan_1 N (q10.1 0 1) g q10).bind fun q11 => (F_Parser_readProgram N g q11).bind fun q12 => if sh_Tb q12.2.1 = true then pm_S q12.2.1 ((F_Fault_isTold_4 q12.2.1 q12.2.2).bind fun q15 => if q15 = 0 then (F_Checker_checkAll N q12.2.1 q12.2.2).bind fun q17 => if sh_Tb q17.2.1 = true then pm_S q17.2.1 (K_BC_compile_101 N  q17.2.1 q17.2.2) else none else (F_Fault_where_4 q12.2.1 q12.2.2).bind fun q20 => (F_Fault_tell_3 5 q20 q12.2.1 q12.2.2).bind fun q21 => (F_Checker_checkAll N q12.2.1 q21).bind fun q22 => if sh_Tb q22.2.1 = true then pm_S q22.2.1 (K_BC_compile_101 N  q22.2.1 q22.2.2) else none) else none else K_BC_compile_101 N  g u)
set_option maxHeartbeats 4000000 in
set_option maxRecDepth 100000 in
theorem c_BC_compile (l : Launch) (h0 : Nat) (D : pm_D) {g : pm_s} {u : pm_J} (hT : sh_T g) {N : Nat} {out : Int32 × pm_s × pm_J} (h : F_BC_compile N g u = some out) : pm_C l h0 D m_BC_compile (247) [.ref 0] (sm g u) (some (.int out.1)) (sm out.2.1 out.2.2) := by
  unfold F_BC_compile at h
  obtain ⟨h, hle⟩ := pm_Ss h
  refine pm_met (by decide +kernel) (Nat.le_of_ble_eq_true rfl) hle.1 hle.2 ?_
  intro p e R s m args below meth c
  refine pm_blk (pc' := 4) (L' := [(0, .ref 0)]) (S' := [.int (u.1 0 2)]) (M' := sm g u) [pm_o (.aload_n 0), pm_of (.getfield 98) 0 2 3] (by decide +kernel) rfl ?_
  refine pm_if_ne (off := 97) 101 (by decide +kernel) (by decide) (fun hc1 => ?_) (fun hc1 => ?_)
  · rw [if_neg hc1] at h
    refine pm_loc [0] rfl ?_
    exact w_BC_compile_101 l h0 D  g u hT hle h
  · rw [if_pos hc1] at h
    refine pm_blk (pc' := 16) (L' := [(0, .ref 0)]) (S' := [.ref 3]) (M' := sm g (wi u 0 2 1)) [pm_o (.aload_n 0), pm_oi (.iconst 1) 1, pm_of (.putfield 98) 0 2 3, pm_o (.aload_n 0), pm_of (.getfield 20) 0 5 2] (by decide +kernel) rfl ?_
    obtain ⟨q6, hq6, h⟩ := pm_bd h
    refine pm_cV (idx := 102) m_Fault_clear (c_Fault_clear_3 l h0 D hT hq6) (As := []) (S0 := []) rfl (by decide +kernel) k_Fault_clear l_BC_102 (Nat.le_of_ble_eq_true rfl) (Nat.le_of_ble_eq_true rfl) hle.1 hle.2 ?_
    refine pm_blk (pc' := 23) (L' := [(0, .ref 0)]) (S' := [.ref 4]) (M' := sm g q6) [pm_o (.aload_n 0), pm_of (.getfield 24) 0 6 2] (by decide +kernel) rfl ?_
    obtain ⟨q7, hq7, h⟩ := pm_bd h
    refine pm_cV (idx := 102) m_Fault_clear (c_Fault_clear_4 l h0 D hT hq7) (As := []) (S0 := []) rfl (by decide +kernel) k_Fault_clear l_BC_102 (Nat.le_of_ble_eq_true rfl) (Nat.le_of_ble_eq_true rfl) hle.1 hle.2 ?_
    refine pm_blk (pc' := 30) (L' := [(0, .ref 0)]) (S' := [.ref 10]) (M' := sm g q7) [pm_o (.aload_n 0), pm_of (.getfield 39) 0 8 2] (by decide +kernel) rfl ?_
    obtain ⟨q8, hq8, h⟩ := pm_bd h
    refine pm_cV (idx := 105) m_Types_clear (c_Types_clear l h0 D hT hq8) (As := []) (S0 := []) rfl (by decide +kernel) k_Types_clear l_BC_105 (Nat.le_of_ble_eq_true rfl) (Nat.le_of_ble_eq_true rfl) hle.1 hle.2 ?_
    refine pm_blk (pc' := 37) (L' := [(0, .ref 0)]) (S' := [.ref 18]) (M' := sm g q8) [pm_o (.aload_n 0), pm_of (.getfield 46) 0 9 2] (by decide +kernel) rfl ?_
    obtain ⟨q9, hq9, h⟩ := pm_bd h
    refine pm_cV (idx := 106) m_Tree_clear (c_Tree_clear l h0 D hT hq9) (As := []) (S0 := []) rfl (by decide +kernel) k_Tree_clear l_BC_106 (Nat.le_of_ble_eq_true rfl) (Nat.le_of_ble_eq_true rfl) hle.1 hle.2 ?_
    refine pm_blk (pc' := 44) (L' := [(0, .ref 0)]) (S' := [.ref 29]) (M' := sm g q9) [pm_o (.aload_n 0), pm_of (.getfield 53) 0 10 2] (by decide +kernel) rfl ?_
    obtain ⟨q10, hq10, h⟩ := pm_bd h
    refine pm_cV (idx := 107) m_Table_clear (c_Table_clear l h0 D hT hq10) (As := []) (S0 := []) rfl (by decide +kernel) k_Table_clear l_BC_107 (Nat.le_of_ble_eq_true rfl) (Nat.le_of_ble_eq_true rfl) hle.1 hle.2 ?_
    refine pm_blk (pc' := 59) (L' := [(0, .ref 0)]) (S' := [.int (q10.1 0 1), .ref 1, .ref 5]) (M' := sm g q10) [pm_o (.aload_n 0), pm_of (.getfield 32) 0 7 2, pm_o (.aload_n 0), pm_of (.getfield 9) 0 0 2, pm_o (.aload_n 0), pm_of (.getfield 84) 0 1 0] (by decide +kernel) rfl ?_
    obtain ⟨q11, hq11, h⟩ := pm_bd h
    refine pm_cV (idx := 108) m_Tokens_scan (c_Tokens_scan_1 l h0 D hT hq11) (As := [.ref 1, .int (q10.1 0 1)]) (S0 := []) rfl (by decide +kernel) k_Tokens_scan l_BC_108 (Nat.le_of_ble_eq_true rfl) (Nat.le_of_ble_eq_true rfl) hle.1 hle.2 ?_
    refine pm_blk (pc' := 66) (L' := [(0, .ref 0)]) (S' := [.ref 39]) (M' := sm g q11) [pm_o (.aload_n 0), pm_of (.getfield 62) 0 11 2] (by decide +kernel) rfl ?_
    obtain ⟨q12, hq12, h⟩ := pm_bd h
    obtain ⟨hu13, h⟩ := pm_ifs h
    obtain ⟨h, hl14⟩ := pm_Ss h
    refine pm_cV (idx := 112) m_Parser_readProgram (c_Parser_readProgram l h0 D hT hq12) (As := []) (S0 := []) rfl (by decide +kernel) k_Parser_readProgram l_BC_112 (Nat.le_of_ble_eq_true rfl) (Nat.le_of_ble_eq_true rfl) hl14.1 hl14.2 ?_
    refine pm_blk (pc' := 73) (L' := [(0, .ref 0)]) (S' := [.ref 4]) (M' := sm q12.2.1 q12.2.2) [pm_o (.aload_n 0), pm_of (.getfield 24) 0 6 2] (by decide +kernel) rfl ?_
    obtain ⟨q15, hq15, h⟩ := pm_bd h
    refine pm_cV (idx := 115) m_Fault_isTold (c_Fault_isTold_4 l h0 D (sh_Tb_s hu13) hq15) (As := []) (S0 := []) rfl (by decide +kernel) k_Fault_isTold l_BC_115 (Nat.le_of_ble_eq_true rfl) (Nat.le_of_ble_eq_true rfl) hl14.1 hl14.2 ?_
    refine pm_blk (pc' := 76) (L' := [(0, .ref 0)]) (S' := [.int q15]) (M' := sm q12.2.1 q12.2.2) [] (by decide +kernel) rfl ?_
    refine pm_if_eq (off := 18) 94 (by decide +kernel) (by decide) (fun hc16 => ?_) (fun hc16 => ?_)
    · rw [if_pos hc16] at h
      refine pm_blk (pc' := 98) (L' := [(0, .ref 0)]) (S' := [.ref 43]) (M' := sm q12.2.1 q12.2.2) [pm_o (.aload_n 0), pm_of (.getfield 71) 0 12 2] (by decide +kernel) rfl ?_
      obtain ⟨q17, hq17, h⟩ := pm_bd h
      obtain ⟨hu18, h⟩ := pm_ifs h
      obtain ⟨h, hl19⟩ := pm_Ss h
      refine pm_cV (idx := 127) m_Checker_checkAll (c_Checker_checkAll l h0 D (sh_Tb_s hu13) hq17) (As := []) (S0 := []) rfl (by decide +kernel) k_Checker_checkAll l_BC_127 (Nat.le_of_ble_eq_true rfl) (Nat.le_of_ble_eq_true rfl) hl19.1 hl19.2 ?_
      refine pm_blk (pc' := 101) (L' := [(0, .ref 0)]) (S' := []) (M' := sm q17.2.1 q17.2.2) [] (by decide +kernel) rfl ?_
      refine pm_loc [0] rfl ?_
      exact w_BC_compile_101 l h0 D  q17.2.1 q17.2.2 (sh_Tb_s hu18) hl19 h
    · rw [if_neg hc16] at h
      refine pm_blk (pc' := 88) (L' := [(0, .ref 0)]) (S' := [.ref 4, .int 5, .ref 3]) (M' := sm q12.2.1 q12.2.2) [pm_o (.aload_n 0), pm_of (.getfield 20) 0 5 2, pm_oi (.iconst 5) 5, pm_o (.aload_n 0), pm_of (.getfield 24) 0 6 2] (by decide +kernel) rfl ?_
      obtain ⟨q20, hq20, h⟩ := pm_bd h
      refine pm_cV (idx := 119) m_Fault_where (c_Fault_where_4 l h0 D (sh_Tb_s hu13) hq20) (As := []) (S0 := [.int 5, .ref 3]) rfl (by decide +kernel) k_Fault_where l_BC_119 (Nat.le_of_ble_eq_true rfl) (Nat.le_of_ble_eq_true rfl) hl14.1 hl14.2 ?_
      refine pm_blk (pc' := 91) (L' := [(0, .ref 0)]) (S' := [.int q20, .int 5, .ref 3]) (M' := sm q12.2.1 q12.2.2) [] (by decide +kernel) rfl ?_
      obtain ⟨q21, hq21, h⟩ := pm_bd h
      refine pm_cV (idx := 123) m_Fault_tell (c_Fault_tell_3 l h0 D (sh_Tb_s hu13) hq21) (As := [.int 5, .int q20]) (S0 := []) rfl (by decide +kernel) k_Fault_tell l_BC_123 (Nat.le_of_ble_eq_true rfl) (Nat.le_of_ble_eq_true rfl) hl14.1 hl14.2 ?_
      refine pm_blk (pc' := 98) (L' := [(0, .ref 0)]) (S' := [.ref 43]) (M' := sm q12.2.1 q21) [pm_o (.aload_n 0), pm_of (.getfield 71) 0 12 2] (by decide +kernel) rfl ?_
      obtain ⟨q22, hq22, h⟩ := pm_bd h
      obtain ⟨hu23, h⟩ := pm_ifs h
      obtain ⟨h, hl24⟩ := pm_Ss h
      refine pm_cV (idx := 127) m_Checker_checkAll (c_Checker_checkAll l h0 D (sh_Tb_s hu13) hq22) (As := []) (S0 := []) rfl (by decide +kernel) k_Checker_checkAll l_BC_127 (Nat.le_of_ble_eq_true rfl) (Nat.le_of_ble_eq_true rfl) hl24.1 hl24.2 ?_
      refine pm_blk (pc' := 101) (L' := [(0, .ref 0)]) (S' := []) (M' := sm q22.2.1 q22.2.2) [] (by decide +kernel) rfl ?_
      refine pm_loc [0] rfl ?_
      exact w_BC_compile_101 l h0 D  q22.2.1 q22.2.2 (sh_Tb_s hu23) hl24 h
def F_BC_place (g : pm_s) (u : pm_J) : Option (Int32) := if (u.1 0 2) = 0 then some (-1) else (F_Fault_isTold_3 g u).bind fun q2 => if q2 = 0 then some (-1) else (F_Fault_where_3 g u).bind fun q4 => some q4
set_option maxHeartbeats 4000000 in
set_option maxRecDepth 100000 in
theorem c_BC_place (l : Launch) (h0 : Nat) (D : pm_D) {g : pm_s} {u : pm_J} (hT : sh_T g) {out : Int32} (h : F_BC_place g u = some out) : pm_C l h0 D m_BC_place (1) [.ref 0] (sm g u) (some (.int out)) (sm g u) := by
  unfold F_BC_place at h
  refine pm_met (by decide +kernel) (Nat.le_of_ble_eq_true rfl) (Nat.le_refl _) (Nat.le_refl _) ?_
  intro p e R s m args below meth c
  refine pm_blk (pc' := 4) (L' := [(0, .ref 0)]) (S' := [.int (u.1 0 2)]) (M' := sm g u) [pm_o (.aload_n 0), pm_of (.getfield 98) 0 2 3] (by decide +kernel) rfl ?_
  refine pm_if_eq (off := 23) 27 (by decide +kernel) (by decide) (fun hc1 => ?_) (fun hc1 => ?_)
  · rw [if_pos hc1] at h
    refine pm_blk (pc' := 28) (L' := [(0, .ref 0)]) (S' := [.int (-1)]) (M' := sm g u) [pm_oi (.iconst (-1)) (-1)] (by decide +kernel) rfl ?_
    have h9 := Option.some.inj h
    subst h9
    exact pm_reti rfl (by decide +kernel) rfl rfl rfl
  · rw [if_neg hc1] at h
    refine pm_blk (pc' := 11) (L' := [(0, .ref 0)]) (S' := [.ref 3]) (M' := sm g u) [pm_o (.aload_n 0), pm_of (.getfield 20) 0 5 2] (by decide +kernel) rfl ?_
    obtain ⟨q2, hq2, h⟩ := pm_bd h
    refine pm_cV (idx := 115) m_Fault_isTold (c_Fault_isTold_3 l h0 D hT hq2) (As := []) (S0 := []) rfl (by decide +kernel) k_Fault_isTold l_BC_115 (Nat.le_of_ble_eq_true rfl) (Nat.le_of_ble_eq_true rfl) (Nat.le_refl _) (Nat.le_refl _) ?_
    refine pm_blk (pc' := 14) (L' := [(0, .ref 0)]) (S' := [.int q2]) (M' := sm g u) [] (by decide +kernel) rfl ?_
    refine pm_if_eq (off := 13) 27 (by decide +kernel) (by decide) (fun hc3 => ?_) (fun hc3 => ?_)
    · rw [if_pos hc3] at h
      refine pm_blk (pc' := 28) (L' := [(0, .ref 0)]) (S' := [.int (-1)]) (M' := sm g u) [pm_oi (.iconst (-1)) (-1)] (by decide +kernel) rfl ?_
      have h9 := Option.some.inj h
      subst h9
      exact pm_reti rfl (by decide +kernel) rfl rfl rfl
    · rw [if_neg hc3] at h
      refine pm_blk (pc' := 21) (L' := [(0, .ref 0)]) (S' := [.ref 3]) (M' := sm g u) [pm_o (.aload_n 0), pm_of (.getfield 20) 0 5 2] (by decide +kernel) rfl ?_
      obtain ⟨q4, hq4, h⟩ := pm_bd h
      refine pm_cV (idx := 119) m_Fault_where (c_Fault_where_3 l h0 D hT hq4) (As := []) (S0 := []) rfl (by decide +kernel) k_Fault_where l_BC_119 (Nat.le_of_ble_eq_true rfl) (Nat.le_of_ble_eq_true rfl) (Nat.le_refl _) (Nat.le_refl _) ?_
      refine pm_blk (pc' := 24) (L' := [(0, .ref 0)]) (S' := [.int q4]) (M' := sm g u) [] (by decide +kernel) rfl ?_
      refine pm_goto (off := 4) 28 (by decide +kernel) (by decide) ?_
      have h9 := Option.some.inj h
      subst h9
      exact pm_reti rfl (by decide +kernel) rfl rfl rfl
def F_BC_defs (g : pm_s) (u : pm_J) : Option (Int32) := if (u.1 0 2) = 0 then some 0 else (F_Fault_isTold_3 g u).bind fun q2 => if q2 = 0 then (F_Table_size g u).bind fun q4 => some q4 else some 0
set_option maxHeartbeats 4000000 in
set_option maxRecDepth 100000 in
theorem c_BC_defs (l : Launch) (h0 : Nat) (D : pm_D) {g : pm_s} {u : pm_J} (hT : sh_T g) {out : Int32} (h : F_BC_defs g u = some out) : pm_C l h0 D m_BC_defs (1) [.ref 0] (sm g u) (some (.int out)) (sm g u) := by
  unfold F_BC_defs at h
  refine pm_met (by decide +kernel) (Nat.le_of_ble_eq_true rfl) (Nat.le_refl _) (Nat.le_refl _) ?_
  intro p e R s m args below meth c
  refine pm_blk (pc' := 4) (L' := [(0, .ref 0)]) (S' := [.int (u.1 0 2)]) (M' := sm g u) [pm_o (.aload_n 0), pm_of (.getfield 98) 0 2 3] (by decide +kernel) rfl ?_
  refine pm_if_eq (off := 23) 27 (by decide +kernel) (by decide) (fun hc1 => ?_) (fun hc1 => ?_)
  · rw [if_pos hc1] at h
    refine pm_blk (pc' := 28) (L' := [(0, .ref 0)]) (S' := [.int 0]) (M' := sm g u) [pm_oi (.iconst 0) 0] (by decide +kernel) rfl ?_
    have h9 := Option.some.inj h
    subst h9
    exact pm_reti rfl (by decide +kernel) rfl rfl rfl
  · rw [if_neg hc1] at h
    refine pm_blk (pc' := 11) (L' := [(0, .ref 0)]) (S' := [.ref 3]) (M' := sm g u) [pm_o (.aload_n 0), pm_of (.getfield 20) 0 5 2] (by decide +kernel) rfl ?_
    obtain ⟨q2, hq2, h⟩ := pm_bd h
    refine pm_cV (idx := 115) m_Fault_isTold (c_Fault_isTold_3 l h0 D hT hq2) (As := []) (S0 := []) rfl (by decide +kernel) k_Fault_isTold l_BC_115 (Nat.le_of_ble_eq_true rfl) (Nat.le_of_ble_eq_true rfl) (Nat.le_refl _) (Nat.le_refl _) ?_
    refine pm_blk (pc' := 14) (L' := [(0, .ref 0)]) (S' := [.int q2]) (M' := sm g u) [] (by decide +kernel) rfl ?_
    refine pm_if_ne (off := 13) 27 (by decide +kernel) (by decide) (fun hc3 => ?_) (fun hc3 => ?_)
    · rw [if_neg hc3] at h
      refine pm_blk (pc' := 28) (L' := [(0, .ref 0)]) (S' := [.int 0]) (M' := sm g u) [pm_oi (.iconst 0) 0] (by decide +kernel) rfl ?_
      have h9 := Option.some.inj h
      subst h9
      exact pm_reti rfl (by decide +kernel) rfl rfl rfl
    · rw [if_pos hc3] at h
      refine pm_blk (pc' := 21) (L' := [(0, .ref 0)]) (S' := [.ref 29]) (M' := sm g u) [pm_o (.aload_n 0), pm_of (.getfield 53) 0 10 2] (by decide +kernel) rfl ?_
      obtain ⟨q4, hq4, h⟩ := pm_bd h
      refine pm_cV (idx := 133) m_Table_size (c_Table_size l h0 D hT hq4) (As := []) (S0 := []) rfl (by decide +kernel) k_Table_size l_BC_133 (Nat.le_of_ble_eq_true rfl) (Nat.le_of_ble_eq_true rfl) (Nat.le_refl _) (Nat.le_refl _) ?_
      refine pm_blk (pc' := 24) (L' := [(0, .ref 0)]) (S' := [.int q4]) (M' := sm g u) [] (by decide +kernel) rfl ?_
      refine pm_goto (off := 4) 28 (by decide +kernel) (by decide) ?_
      have h9 := Option.some.inj h
      subst h9
      exact pm_reti rfl (by decide +kernel) rfl rfl rfl
def F_BC_def (a1 : Int32) (a2 : Int32) (g : pm_s) (u : pm_J) : Option (Int32) := if a1 < 0 then none else (F_BC_defs g u).bind fun q2 => if q2 ≤ a1 then none else if a2 < 0 then none else if a2 < 6 then (F_Table_tally a1 a2 g u).bind fun q6 => some q6 else none
set_option maxHeartbeats 4000000 in
set_option maxRecDepth 100000 in
theorem c_BC_def (l : Launch) (h0 : Nat) (D : pm_D) {g : pm_s} {u : pm_J} (hT : sh_T g) {a1 : Int32} {a2 : Int32} {out : Int32} (h : F_BC_def a1 a2 g u = some out) : pm_C l h0 D m_BC_def (2) [.ref 0, .int a1, .int a2] (sm g u) (some (.int out)) (sm g u) := by
  unfold F_BC_def at h
  refine pm_met (by decide +kernel) (Nat.le_of_ble_eq_true rfl) (Nat.le_refl _) (Nat.le_refl _) ?_
  intro p e R s m args below meth c
  refine pm_blk (pc' := 1) (L' := [(0, .ref 0), (1, .int a1), (2, .int a2)]) (S' := [.int a1]) (M' := sm g u) [pm_o (.iload_n 1)] (by decide +kernel) rfl ?_
  refine pm_if_lt (off := 21) 22 (by decide +kernel) (by decide) (fun hc1 => ?_) (fun hc1 => ?_)
  · rw [if_pos hc1] at h
    cases h
  · rw [if_neg hc1] at h
    refine pm_blk (pc' := 6) (L' := [(0, .ref 0), (1, .int a1), (2, .int a2)]) (S' := [.ref 0, .int a1]) (M' := sm g u) [pm_o (.iload_n 1), pm_o (.aload_n 0)] (by decide +kernel) rfl ?_
    obtain ⟨q2, hq2, h⟩ := pm_bd h
    refine pm_cV (idx := 135) m_BC_defs (c_BC_defs l h0 D hT hq2) (As := []) (S0 := [.int a1]) rfl (by decide +kernel) k_BC_defs l_BC_135 (Nat.le_of_ble_eq_true rfl) (Nat.le_of_ble_eq_true rfl) (Nat.le_refl _) (Nat.le_refl _) ?_
    refine pm_blk (pc' := 9) (L' := [(0, .ref 0), (1, .int a1), (2, .int a2)]) (S' := [.int q2, .int a1]) (M' := sm g u) [] (by decide +kernel) rfl ?_
    refine pm_ic_ge (off := 13) 22 (by decide +kernel) (by decide) (fun hc3 => ?_) (fun hc3 => ?_)
    · rw [if_pos hc3] at h
      cases h
    · rw [if_neg hc3] at h
      refine pm_blk (pc' := 13) (L' := [(0, .ref 0), (1, .int a1), (2, .int a2)]) (S' := [.int a2]) (M' := sm g u) [pm_o (.iload_n 2)] (by decide +kernel) rfl ?_
      refine pm_if_lt (off := 9) 22 (by decide +kernel) (by decide) (fun hc4 => ?_) (fun hc4 => ?_)
      · rw [if_pos hc4] at h
        cases h
      · rw [if_neg hc4] at h
        refine pm_blk (pc' := 19) (L' := [(0, .ref 0), (1, .int a1), (2, .int a2)]) (S' := [.int 6, .int a2]) (M' := sm g u) [pm_o (.iload_n 2), pm_oi (.bipush 6) 6] (by decide +kernel) rfl ?_
        refine pm_ic_lt (off := 13) 32 (by decide +kernel) (by decide) (fun hc5 => ?_) (fun hc5 => ?_)
        · rw [if_pos hc5] at h
          refine pm_blk (pc' := 38) (L' := [(0, .ref 0), (1, .int a1), (2, .int a2)]) (S' := [.int a2, .int a1, .ref 29]) (M' := sm g u) [pm_o (.aload_n 0), pm_of (.getfield 53) 0 10 2, pm_o (.iload_n 1), pm_o (.iload_n 2)] (by decide +kernel) rfl ?_
          obtain ⟨q6, hq6, h⟩ := pm_bd h
          refine pm_cV (idx := 143) m_Table_tally (c_Table_tally l h0 D hT hq6) (As := [.int a1, .int a2]) (S0 := []) rfl (by decide +kernel) k_Table_tally l_BC_143 (Nat.le_of_ble_eq_true rfl) (Nat.le_of_ble_eq_true rfl) (Nat.le_refl _) (Nat.le_refl _) ?_
          refine pm_blk (pc' := 41) (L' := [(0, .ref 0), (1, .int a1), (2, .int a2)]) (S' := [.int q6]) (M' := sm g u) [] (by decide +kernel) rfl ?_
          have h9 := Option.some.inj h
          subst h9
          exact pm_reti rfl (by decide +kernel) rfl rfl rfl
        · rw [if_neg hc5] at h
          cases h
def F_BC_argument (a1 : Int64) (g : pm_s) (u : pm_J) : Option (Int32 × pm_J) := if (u.1 0 4) < 6 then if pm_ok (u.1 0 4) 6 = true then some ((u.1 0 4) + 1, (wi (wj u 2 ((u.1 0 4).toNatClampNeg) a1) 0 4 ((u.1 0 4) + 1))) else none else none
set_option maxHeartbeats 4000000 in
set_option maxRecDepth 100000 in
theorem c_BC_argument (l : Launch) (h0 : Nat) (D : pm_D) {g : pm_s} {u : pm_J} (hT : sh_T g) {a1 : Int64} {out : Int32 × pm_J} (h : F_BC_argument a1 g u = some out) : pm_C l h0 D m_BC_argument (0) [.ref 0, .long a1] (sm g u) (some (.int out.1)) (sm g out.2) := by
  unfold F_BC_argument at h
  refine pm_met (by decide +kernel) (Nat.le_of_ble_eq_true rfl) (Nat.le_refl _) (Nat.le_refl _) ?_
  intro p e R s m args below meth c
  refine pm_blk (pc' := 6) (L' := [(0, .ref 0), (1, .long a1)]) (S' := [.int 6, .int (u.1 0 4)]) (M' := sm g u) [pm_o (.aload_n 0), pm_of (.getfield 147) 0 4 0, pm_oi (.bipush 6) 6] (by decide +kernel) rfl ?_
  refine pm_ic_lt (off := 13) 19 (by decide +kernel) (by decide) (fun hc1 => ?_) (fun hc1 => ?_)
  · rw [if_pos hc1] at h
    refine pm_blk (pc' := 28) (L' := [(0, .ref 0), (1, .long a1)]) (S' := [.long a1, .int (u.1 0 4), .ref 2]) (M' := sm g u) [pm_o (.aload_n 0), pm_of (.getfield 13) 0 3 2, pm_o (.aload_n 0), pm_of (.getfield 147) 0 4 0, pm_o (.lload_n 1)] (by decide +kernel) rfl ?_
    obtain ⟨ho2, h⟩ := pm_ifs h
    refine pm_last (by decide +kernel) rfl  (pm_ok_in ho2) ?_
    refine pm_blk (pc' := 43) (L' := [(0, .ref 0), (1, .long a1)]) (S' := [.int ((u.1 0 4) + 1)]) (M' := sm g (wi (wj u 2 ((u.1 0 4).toNatClampNeg) a1) 0 4 ((u.1 0 4) + 1))) [pm_o (.aload_n 0), pm_o .dup, pm_of (.getfield 147) 0 4 0, pm_oi (.iconst 1) 1, pm_o .iadd, pm_of (.putfield 147) 0 4 0, pm_o (.aload_n 0), pm_of (.getfield 147) 0 4 0] (by decide +kernel) rfl ?_
    have h9 := Option.some.inj h
    subst h9
    exact pm_reti rfl (by decide +kernel) rfl rfl rfl
  · rw [if_neg hc1] at h
    cases h
def K_BC_takesArguments_19 (N : Nat) (g : pm_s) (u : pm_J) : Nat → Int32 → Int32 → Option (Int32)
  | 0, _, _ => none
  | n + 1, x1, x2 => if (u.1 0 4) ≤ x2 then some 1 else (F_Table_localType x1 x2 g u).bind fun q4 => (F_Types_kind q4 g u).bind fun q5 => if q5 = 0 then K_BC_takesArguments_19 N g u  n x1 (x2 + 1) else if q5 = 1 then K_BC_takesArguments_19 N g u  n x1 (x2 + 1) else some 0
set_option maxHeartbeats 4000000 in
set_option maxRecDepth 100000 in
theorem w_BC_takesArguments_19 (l : Launch) (h0 : Nat) (D : pm_D) {g : pm_s} (hT : sh_T g) {N : Nat} {u : pm_J} {out : Int32} {p : Program} {e : Env} {R : Room} {s : State} {m : MethodId} {args : Array Value} {below : List Frame} {meth : Method} {c : Code} : ∀ (n : Nat) (x1 : Int32) (x2 : Int32), K_BC_takesArguments_19 N g u n x1 x2 = some out → pm_V (p, l, e, R, s, m, args, below, meth, c) m_BC_takesArguments h0 D (g.1, g.2.1, g.1, g.2.1, 2) (pm_E (p, l, e, R, s, m, args, below, meth, c) h0 D (sm g u) (some (.int out)) (sm g u)) 19 [(0, .ref 0), (1, .int x1), (2, .int x2)] [] (sm g u) := by
  intro n
  induction n with
  | zero => intro x1 x2 h; cases h
  | succ n ih =>
    intro x1 x2 h
    rw [K_BC_takesArguments_19] at h
    refine pm_blk (pc' := 24) (L' := [(0, .ref 0), (1, .int x1), (2, .int x2)]) (S' := [.int (u.1 0 4), .int x2]) (M' := sm g u) [pm_o (.iload_n 2), pm_o (.aload_n 0), pm_of (.getfield 147) 0 4 0] (by decide +kernel) rfl ?_
    refine pm_ic_ge (off := 37) 61 (by decide +kernel) (by decide) (fun hc3 => ?_) (fun hc3 => ?_)
    · rw [if_pos hc3] at h
      refine pm_blk (pc' := 62) (L' := [(0, .ref 0), (1, .int x1), (2, .int x2)]) (S' := [.int 1]) (M' := sm g u) [pm_oi (.iconst 1) 1] (by decide +kernel) rfl ?_
      have h9 := Option.some.inj h
      subst h9
      exact pm_retz rfl (by decide +kernel) rfl rfl rfl rfl
    · rw [if_neg hc3] at h
      refine pm_blk (pc' := 37) (L' := [(0, .ref 0), (1, .int x1), (2, .int x2)]) (S' := [.int x2, .int x1, .ref 29, .ref 10]) (M' := sm g u) [pm_o (.aload_n 0), pm_of (.getfield 39) 0 8 2, pm_o (.aload_n 0), pm_of (.getfield 53) 0 10 2, pm_o (.iload_n 1), pm_o (.iload_n 2)] (by decide +kernel) rfl ?_
      obtain ⟨q4, hq4, h⟩ := pm_bd h
      refine pm_cV (idx := 184) m_Table_localType (c_Table_localType l h0 D hT hq4) (As := [.int x1, .int x2]) (S0 := [.ref 10]) rfl (by decide +kernel) k_Table_localType l_BC_184 (Nat.le_of_ble_eq_true rfl) (Nat.le_of_ble_eq_true rfl) (Nat.le_refl _) (Nat.le_refl _) ?_
      refine pm_blk (pc' := 40) (L' := [(0, .ref 0), (1, .int x1), (2, .int x2)]) (S' := [.int q4, .ref 10]) (M' := sm g u) [] (by decide +kernel) rfl ?_
      obtain ⟨q5, hq5, h⟩ := pm_bd h
      refine pm_cV (idx := 187) m_Types_kind (c_Types_kind l h0 D hT hq5) (As := [.int q4]) (S0 := []) rfl (by decide +kernel) k_Types_kind l_BC_187 (Nat.le_of_ble_eq_true rfl) (Nat.le_of_ble_eq_true rfl) (Nat.le_refl _) (Nat.le_refl _) ?_
      refine pm_blk (pc' := 45) (L' := [(3, .int q5), (0, .ref 0), (1, .int x1), (2, .int x2)]) (S' := [.int q5]) (M' := sm g u) [pm_o (.istore_n 3), pm_o (.iload_n 3)] (by decide +kernel) rfl ?_
      refine pm_if_eq (off := 10) 55 (by decide +kernel) (by decide) (fun hc6 => ?_) (fun hc6 => ?_)
      · rw [if_pos hc6] at h
        refine pm_blk (pc' := 58) (L' := [(2, .int (x2 + 1)), (3, .int q5), (0, .ref 0), (1, .int x1)]) (S' := []) (M' := sm g u) [pm_oi (.iinc 2 1) 1] (by decide +kernel) rfl ?_
        refine pm_goto (off := -39) 19 (by decide +kernel) (by decide) ?_
        refine pm_loc [2, 3, 0] rfl ?_
        exact ih x1 (x2 + 1) h
      · rw [if_neg hc6] at h
        refine pm_blk (pc' := 50) (L' := [(3, .int q5), (0, .ref 0), (1, .int x1), (2, .int x2)]) (S' := [.int 1, .int q5]) (M' := sm g u) [pm_o (.iload_n 3), pm_oi (.iconst 1) 1] (by decide +kernel) rfl ?_
        refine pm_ic_eq (off := 5) 55 (by decide +kernel) (by decide) (fun hc7 => ?_) (fun hc7 => ?_)
        · rw [if_pos hc7] at h
          refine pm_blk (pc' := 58) (L' := [(2, .int (x2 + 1)), (3, .int q5), (0, .ref 0), (1, .int x1)]) (S' := []) (M' := sm g u) [pm_oi (.iinc 2 1) 1] (by decide +kernel) rfl ?_
          refine pm_goto (off := -39) 19 (by decide +kernel) (by decide) ?_
          refine pm_loc [2, 3, 0] rfl ?_
          exact ih x1 (x2 + 1) h
        · rw [if_neg hc7] at h
          refine pm_blk (pc' := 54) (L' := [(3, .int q5), (0, .ref 0), (1, .int x1), (2, .int x2)]) (S' := [.int 0]) (M' := sm g u) [pm_oi (.iconst 0) 0] (by decide +kernel) rfl ?_
          have h9 := Option.some.inj h
          subst h9
          exact pm_retz rfl (by decide +kernel) rfl rfl rfl rfl
def F_BC_takesArguments (N : Nat) (a1 : Int32) (g : pm_s) (u : pm_J) : Option (Int32) := (F_Table_parameters a1 g u).bind fun q1 => if q1 = (u.1 0 4) then K_BC_takesArguments_19 N g u N a1 0 else some 0
set_option maxHeartbeats 4000000 in
set_option maxRecDepth 100000 in
theorem c_BC_takesArguments (l : Launch) (h0 : Nat) (D : pm_D) {g : pm_s} {u : pm_J} (hT : sh_T g) {N : Nat} {a1 : Int32} {out : Int32} (h : F_BC_takesArguments N a1 g u = some out) : pm_C l h0 D m_BC_takesArguments (2) [.ref 0, .int a1] (sm g u) (some (.int out)) (sm g u) := by
  unfold F_BC_takesArguments at h
  refine pm_met (by decide +kernel) (Nat.le_of_ble_eq_true rfl) (Nat.le_refl _) (Nat.le_refl _) ?_
  intro p e R s m args below meth c
  refine pm_blk (pc' := 5) (L' := [(0, .ref 0), (1, .int a1)]) (S' := [.int a1, .ref 29]) (M' := sm g u) [pm_o (.aload_n 0), pm_of (.getfield 53) 0 10 2, pm_o (.iload_n 1)] (by decide +kernel) rfl ?_
  obtain ⟨q1, hq1, h⟩ := pm_bd h
  refine pm_cV (idx := 181) m_Table_parameters (c_Table_parameters l h0 D hT hq1) (As := [.int a1]) (S0 := []) rfl (by decide +kernel) k_Table_parameters l_BC_181 (Nat.le_of_ble_eq_true rfl) (Nat.le_of_ble_eq_true rfl) (Nat.le_refl _) (Nat.le_refl _) ?_
  refine pm_blk (pc' := 12) (L' := [(0, .ref 0), (1, .int a1)]) (S' := [.int (u.1 0 4), .int q1]) (M' := sm g u) [pm_o (.aload_n 0), pm_of (.getfield 147) 0 4 0] (by decide +kernel) rfl ?_
  refine pm_ic_eq (off := 5) 17 (by decide +kernel) (by decide) (fun hc2 => ?_) (fun hc2 => ?_)
  · rw [if_pos hc2] at h
    refine pm_blk (pc' := 19) (L' := [(2, .int 0), (0, .ref 0), (1, .int a1)]) (S' := []) (M' := sm g u) [pm_oi (.iconst 0) 0, pm_o (.istore_n 2)] (by decide +kernel) rfl ?_
    refine pm_loc [1, 2, 0] rfl ?_
    exact w_BC_takesArguments_19 l h0 D hT N a1 0 h
  · rw [if_neg hc2] at h
    refine pm_blk (pc' := 16) (L' := [(0, .ref 0), (1, .int a1)]) (S' := [.int 0]) (M' := sm g u) [pm_oi (.iconst 0) 0] (by decide +kernel) rfl ?_
    have h9 := Option.some.inj h
    subst h9
    exact pm_retz rfl (by decide +kernel) rfl rfl rfl rfl
def F_BC_run (N : Nat) (a1 : Int32) (a2 : Int32) (a3 : Int32) (g : pm_s) (u : pm_J) : Option (Int32 × pm_J) := if a1 < 0 then none else (F_BC_defs g u).bind fun q2 => if a1 < q2 then if a3 < 0 then none else if 20000 < a3 then none else (F_BC_takesArguments N a1 g u).bind fun q6 => if q6 = 0 then none else (F_Machine_start_2 N a1 a2 a3 g (wi u 0 4 0)).bind fun q8 => some (q8.1, q8.2) else none
set_option maxHeartbeats 4000000 in
set_option maxRecDepth 100000 in
theorem c_BC_run (l : Launch) (h0 : Nat) (D : pm_D) {g : pm_s} {u : pm_J} (hT : sh_T g) {N : Nat} {a1 : Int32} {a2 : Int32} {a3 : Int32} {out : Int32 × pm_J} (h : F_BC_run N a1 a2 a3 g u = some out) : pm_C l h0 D m_BC_run (9) [.ref 0, .int a1, .int a2, .int a3] (sm g u) (some (.int out.1)) (sm g out.2) := by
  unfold F_BC_run at h
  refine pm_met (by decide +kernel) (Nat.le_of_ble_eq_true rfl) (Nat.le_refl _) (Nat.le_refl _) ?_
  intro p e R s m args below meth c
  refine pm_blk (pc' := 1) (L' := [(0, .ref 0), (1, .int a1), (2, .int a2), (3, .int a3)]) (S' := [.int a1]) (M' := sm g u) [pm_o (.iload_n 1)] (by decide +kernel) rfl ?_
  refine pm_if_lt (off := 11) 12 (by decide +kernel) (by decide) (fun hc1 => ?_) (fun hc1 => ?_)
  · rw [if_pos hc1] at h
    cases h
  · rw [if_neg hc1] at h
    refine pm_blk (pc' := 6) (L' := [(0, .ref 0), (1, .int a1), (2, .int a2), (3, .int a3)]) (S' := [.ref 0, .int a1]) (M' := sm g u) [pm_o (.iload_n 1), pm_o (.aload_n 0)] (by decide +kernel) rfl ?_
    obtain ⟨q2, hq2, h⟩ := pm_bd h
    refine pm_cV (idx := 135) m_BC_defs (c_BC_defs l h0 D hT hq2) (As := []) (S0 := [.int a1]) rfl (by decide +kernel) k_BC_defs l_BC_135 (Nat.le_of_ble_eq_true rfl) (Nat.le_of_ble_eq_true rfl) (Nat.le_refl _) (Nat.le_refl _) ?_
    refine pm_blk (pc' := 9) (L' := [(0, .ref 0), (1, .int a1), (2, .int a2), (3, .int a3)]) (S' := [.int q2, .int a1]) (M' := sm g u) [] (by decide +kernel) rfl ?_
    refine pm_ic_lt (off := 13) 22 (by decide +kernel) (by decide) (fun hc3 => ?_) (fun hc3 => ?_)
    · rw [if_pos hc3] at h
      refine pm_blk (pc' := 23) (L' := [(0, .ref 0), (1, .int a1), (2, .int a2), (3, .int a3)]) (S' := [.int a3]) (M' := sm g u) [pm_o (.iload_n 3)] (by decide +kernel) rfl ?_
      refine pm_if_lt (off := 18) 41 (by decide +kernel) (by decide) (fun hc4 => ?_) (fun hc4 => ?_)
      · rw [if_pos hc4] at h
        cases h
      · rw [if_neg hc4] at h
        refine pm_blk (pc' := 30) (L' := [(0, .ref 0), (1, .int a1), (2, .int a2), (3, .int a3)]) (S' := [.int 20000, .int a3]) (M' := sm g u) [pm_o (.iload_n 3), pm_oi (.sipush 20000) 20000] (by decide +kernel) rfl ?_
        refine pm_ic_gt (off := 11) 41 (by decide +kernel) (by decide) (fun hc5 => ?_) (fun hc5 => ?_)
        · rw [if_pos hc5] at h
          cases h
        · rw [if_neg hc5] at h
          refine pm_blk (pc' := 35) (L' := [(0, .ref 0), (1, .int a1), (2, .int a2), (3, .int a3)]) (S' := [.int a1, .ref 0]) (M' := sm g u) [pm_o (.aload_n 0), pm_o (.iload_n 1)] (by decide +kernel) rfl ?_
          obtain ⟨q6, hq6, h⟩ := pm_bd h
          refine pm_cV (idx := 157) m_BC_takesArguments (c_BC_takesArguments l h0 D hT hq6) (As := [.int a1]) (S0 := []) rfl (by decide +kernel) k_BC_takesArguments l_BC_157 (Nat.le_of_ble_eq_true rfl) (Nat.le_of_ble_eq_true rfl) (Nat.le_refl _) (Nat.le_refl _) ?_
          refine pm_blk (pc' := 38) (L' := [(0, .ref 0), (1, .int a1), (2, .int a2), (3, .int a3)]) (S' := [.int q6]) (M' := sm g u) [] (by decide +kernel) rfl ?_
          refine pm_if_ne (off := 13) 51 (by decide +kernel) (by decide) (fun hc7 => ?_) (fun hc7 => ?_)
          · rw [if_neg hc7] at h
            refine pm_blk (pc' := 67) (L' := [(0, .ref 0), (1, .int a1), (2, .int a2), (3, .int a3)]) (S' := [.int a3, .int a2, .ref 2, .int a1, .ref 44]) (M' := sm g (wi u 0 4 0)) [pm_o (.aload_n 0), pm_oi (.iconst 0) 0, pm_of (.putfield 147) 0 4 0, pm_o (.aload_n 0), pm_of (.getfield 80) 0 13 2, pm_o (.iload_n 1), pm_o (.aload_n 0), pm_of (.getfield 13) 0 3 2, pm_o (.iload_n 2), pm_o (.iload_n 3)] (by decide +kernel) rfl ?_
            obtain ⟨q8, hq8, h⟩ := pm_bd h
            refine pm_cV (idx := 163) m_Machine_start (c_Machine_start_2 l h0 D hT hq8) (As := [.int a1, .ref 2, .int a2, .int a3]) (S0 := []) rfl (by decide +kernel) k_Machine_start l_BC_163 (Nat.le_of_ble_eq_true rfl) (Nat.le_of_ble_eq_true rfl) (Nat.le_refl _) (Nat.le_refl _) ?_
            refine pm_blk (pc' := 70) (L' := [(0, .ref 0), (1, .int a1), (2, .int a2), (3, .int a3)]) (S' := [.int q8.1]) (M' := sm g q8.2) [] (by decide +kernel) rfl ?_
            have h9 := Option.some.inj h
            subst h9
            exact pm_reti rfl (by decide +kernel) rfl rfl rfl
          · rw [if_pos hc7] at h
            cases h
    · rw [if_neg hc3] at h
      cases h
def F_BC_told (a1 : Int32) (g : pm_s) (u : pm_J) : Option (Int32) := if a1 < 0 then none else if a1 < 8 then (F_Machine_countOf a1 g u).bind fun q3 => some q3 else none
set_option maxHeartbeats 4000000 in
set_option maxRecDepth 100000 in
theorem c_BC_told (l : Launch) (h0 : Nat) (D : pm_D) {g : pm_s} {u : pm_J} (hT : sh_T g) {a1 : Int32} {out : Int32} (h : F_BC_told a1 g u = some out) : pm_C l h0 D m_BC_told (2) [.ref 0, .int a1] (sm g u) (some (.int out)) (sm g u) := by
  unfold F_BC_told at h
  refine pm_met (by decide +kernel) (Nat.le_of_ble_eq_true rfl) (Nat.le_refl _) (Nat.le_refl _) ?_
  intro p e R s m args below meth c
  refine pm_blk (pc' := 1) (L' := [(0, .ref 0), (1, .int a1)]) (S' := [.int a1]) (M' := sm g u) [pm_o (.iload_n 1)] (by decide +kernel) rfl ?_
  refine pm_if_lt (off := 9) 10 (by decide +kernel) (by decide) (fun hc1 => ?_) (fun hc1 => ?_)
  · rw [if_pos hc1] at h
    cases h
  · rw [if_neg hc1] at h
    refine pm_blk (pc' := 7) (L' := [(0, .ref 0), (1, .int a1)]) (S' := [.int 8, .int a1]) (M' := sm g u) [pm_o (.iload_n 1), pm_oi (.bipush 8) 8] (by decide +kernel) rfl ?_
    refine pm_ic_lt (off := 13) 20 (by decide +kernel) (by decide) (fun hc2 => ?_) (fun hc2 => ?_)
    · rw [if_pos hc2] at h
      refine pm_blk (pc' := 25) (L' := [(0, .ref 0), (1, .int a1)]) (S' := [.int a1, .ref 44]) (M' := sm g u) [pm_o (.aload_n 0), pm_of (.getfield 80) 0 13 2, pm_o (.iload_n 1)] (by decide +kernel) rfl ?_
      obtain ⟨q3, hq3, h⟩ := pm_bd h
      refine pm_cV (idx := 169) m_Machine_countOf (c_Machine_countOf l h0 D hT hq3) (As := [.int a1]) (S0 := []) rfl (by decide +kernel) k_Machine_countOf l_BC_169 (Nat.le_of_ble_eq_true rfl) (Nat.le_of_ble_eq_true rfl) (Nat.le_refl _) (Nat.le_refl _) ?_
      refine pm_blk (pc' := 28) (L' := [(0, .ref 0), (1, .int a1)]) (S' := [.int q3]) (M' := sm g u) [] (by decide +kernel) rfl ?_
      have h9 := Option.some.inj h
      subst h9
      exact pm_reti rfl (by decide +kernel) rfl rfl rfl
    · rw [if_neg hc2] at h
      cases h
def F_BC_sort (N : Nat) (a1 : Int32) (g : pm_s) (u : pm_J) : Option (Int32) := (F_Machine_sortAt N a1 g u).bind fun q1 => some q1
set_option maxHeartbeats 4000000 in
set_option maxRecDepth 100000 in
theorem c_BC_sort (l : Launch) (h0 : Nat) (D : pm_D) {g : pm_s} {u : pm_J} (hT : sh_T g) {N : Nat} {a1 : Int32} {out : Int32} (h : F_BC_sort N a1 g u = some out) : pm_C l h0 D m_BC_sort (4) [.ref 0, .int a1] (sm g u) (some (.int out)) (sm g u) := by
  unfold F_BC_sort at h
  refine pm_met (by decide +kernel) (Nat.le_of_ble_eq_true rfl) (Nat.le_refl _) (Nat.le_refl _) ?_
  intro p e R s m args below meth c
  refine pm_blk (pc' := 5) (L' := [(0, .ref 0), (1, .int a1)]) (S' := [.int a1, .ref 44]) (M' := sm g u) [pm_o (.aload_n 0), pm_of (.getfield 80) 0 13 2, pm_o (.iload_n 1)] (by decide +kernel) rfl ?_
  obtain ⟨q1, hq1, h⟩ := pm_bd h
  refine pm_cV (idx := 173) m_Machine_sortAt (c_Machine_sortAt l h0 D hT hq1) (As := [.int a1]) (S0 := []) rfl (by decide +kernel) k_Machine_sortAt l_BC_173 (Nat.le_of_ble_eq_true rfl) (Nat.le_of_ble_eq_true rfl) (Nat.le_refl _) (Nat.le_refl _) ?_
  refine pm_blk (pc' := 8) (L' := [(0, .ref 0), (1, .int a1)]) (S' := [.int q1]) (M' := sm g u) [] (by decide +kernel) rfl ?_
  have h9 := Option.some.inj h
  subst h9
  exact pm_reti rfl (by decide +kernel) rfl rfl rfl
def F_BC_result (N : Nat) (a1 : Int32) (g : pm_s) (u : pm_J) : Option (Int64) := (F_Machine_wordAt N a1 g u).bind fun q1 => some q1
set_option maxHeartbeats 4000000 in
set_option maxRecDepth 100000 in
theorem c_BC_result (l : Launch) (h0 : Nat) (D : pm_D) {g : pm_s} {u : pm_J} (hT : sh_T g) {N : Nat} {a1 : Int32} {out : Int64} (h : F_BC_result N a1 g u = some out) : pm_C l h0 D m_BC_result (5) [.ref 0, .int a1] (sm g u) (some (.long out)) (sm g u) := by
  unfold F_BC_result at h
  refine pm_met (by decide +kernel) (Nat.le_of_ble_eq_true rfl) (Nat.le_refl _) (Nat.le_refl _) ?_
  intro p e R s m args below meth c
  refine pm_blk (pc' := 5) (L' := [(0, .ref 0), (1, .int a1)]) (S' := [.int a1, .ref 44]) (M' := sm g u) [pm_o (.aload_n 0), pm_of (.getfield 80) 0 13 2, pm_o (.iload_n 1)] (by decide +kernel) rfl ?_
  obtain ⟨q1, hq1, h⟩ := pm_bd h
  refine pm_cV (idx := 176) m_Machine_wordAt (c_Machine_wordAt l h0 D hT hq1) (As := [.int a1]) (S0 := []) rfl (by decide +kernel) k_Machine_wordAt l_BC_176 (Nat.le_of_ble_eq_true rfl) (Nat.le_of_ble_eq_true rfl) (Nat.le_refl _) (Nat.le_refl _) ?_
  refine pm_blk (pc' := 8) (L' := [(0, .ref 0), (1, .int a1)]) (S' := [.long q1]) (M' := sm g u) [] (by decide +kernel) rfl ?_
  have h9 := Option.some.inj h
  subst h9
  exact pm_retl rfl (by decide +kernel) rfl rfl rfl
