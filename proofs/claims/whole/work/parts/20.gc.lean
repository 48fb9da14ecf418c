def K_Md_exprTask_203 (N : Nat) (g : pm_s) (x2 : Int32) (t0 : Int32) (u : pm_J) : Option (pm_J) := (F_Md_later t0 x2 0 g u).bind fun q19 => (F_Md_later 10 0 0 g q19).bind fun q20 => some q20
set_option maxHeartbeats 4000000 in
set_option maxRecDepth 100000 in
theorem w_Md_exprTask_203 (l : Launch) (h0 : Nat) (D : pm_D) {g : pm_s} (hT : sh_T g) {N : Nat} {u0 : pm_J} {out : pm_J} {p : Program} {e : Env} {R : Room} {s : State} {m : MethodId} {args : Array Value} {below : List Frame} {meth : Method} {c : Code} : ∀ (x2 : Int32) (t0 : Int32) (u : pm_J), K_Md_exprTask_203 N g x2 t0 u = some out → pm_V (p, l, e, R, s, m, args, below, meth, c) m_Md_exprTask h0 D (g.1, g.2.1, g.1, g.2.1, 4) (pm_E (p, l, e, R, s, m, args, below, meth, c) h0 D (sm g u0) none (sm g out)) 203 [(0, .ref 64), (2, .int x2)] [.int t0, .ref 64] (sm g u) := by
    intro x2 t0 u h
    unfold K_Md_exprTask_203 at h
    refine pm_blk (pc' := 205) (L' := [(0, .ref 64), (2, .int x2)]) (S' := [.int 0, .int x2, .int t0, .ref 64]) (M' := sm g u) [pm_o (.iload_n 2), pm_oi (.iconst 0) 0] (by decide +kernel) rfl ?_
    obtain ⟨q19, hq19, h⟩ := pm_bd h
    refine pm_cV (idx := 383) m_Md_later (c_Md_later l h0 D hT hq19) (As := [.int t0, .int x2, .int 0]) (S0 := []) rfl (by decide +kernel) k_Md_later l_Md_383 (Nat.le_of_ble_eq_true rfl) (Nat.le_of_ble_eq_true rfl) (Nat.le_refl _) (Nat.le_refl _) ?_
    refine pm_blk (pc' := 213) (L' := [(0, .ref 64), (2, .int x2)]) (S' := [.int 0, .int 0, .int 10, .ref 64]) (M' := sm g q19) [pm_o (.aload_n 0), pm_oi (.bipush 10) 10, pm_oi (.iconst 0) 0, pm_oi (.iconst 0) 0] (by decide +kernel) rfl ?_
    obtain ⟨q20, hq20, h⟩ := pm_bd h
    refine pm_cV (idx := 383) m_Md_later (c_Md_later l h0 D hT hq20) (As := [.int 10, .int 0, .int 0]) (S0 := []) rfl (by decide +kernel) k_Md_later l_Md_383 (Nat.le_of_ble_eq_true rfl) (Nat.le_of_ble_eq_true rfl) (Nat.le_refl _) (Nat.le_refl _) ?_
    refine pm_blk (pc' := 216) (L' := [(0, .ref 64), (2, .int x2)]) (S' := []) (M' := sm g q20) [] (by decide +kernel) rfl ?_
    refine pm_goto (off := 215) 431 (by decide +kernel) (by decide) ?_
    have h9 := Option.some.inj h
    subst h9
    exact pm_retv rfl (by decide +kernel) rfl rfl
def K_Md_exprTask_172 (N : Nat) (g : pm_s) (x1 : Int32) (x2 : Int32) (u : pm_J) : Option (pm_J) := if x1 = 13 then (F_Md_expect N 7 g u).bind fun q21 => if x1 = 13 then K_Md_exprTask_203 N g x2 14 q21 else K_Md_exprTask_203 N g x2 15 q21 else (F_Md_expect N 8 g u).bind fun q17 => if x1 = 13 then K_Md_exprTask_203 N g x2 14 q17 else K_Md_exprTask_203 N g x2 15 q17
set_option maxHeartbeats 4000000 in
set_option maxRecDepth 100000 in
theorem w_Md_exprTask_172 (l : Launch) (h0 : Nat) (D : pm_D) {g : pm_s} (hT : sh_T g) {N : Nat} {u0 : pm_J} {out : pm_J} {p : Program} {e : Env} {R : Room} {s : State} {m : MethodId} {args : Array Value} {below : List Frame} {meth : Method} {c : Code} : ∀ (x1 : Int32) (x2 : Int32) (u : pm_J), K_Md_exprTask_172 N g x1 x2 u = some out → pm_V (p, l, e, R, s, m, args, below, meth, c) m_Md_exprTask h0 D (g.1, g.2.1, g.1, g.2.1, 4) (pm_E (p, l, e, R, s, m, args, below, meth, c) h0 D (sm g u0) none (sm g out)) 172 [(0, .ref 64), (1, .int x1), (2, .int x2)] [] (sm g u) := by
    intro x1 x2 u h
    unfold K_Md_exprTask_172 at h
    refine pm_blk (pc' := 176) (L' := [(0, .ref 64), (1, .int x1), (2, .int x2)]) (S' := [.int 13, .int x1, .ref 64]) (M' := sm g u) [pm_o (.aload_n 0), pm_o (.iload_n 1), pm_oi (.bipush 13) 13] (by decide +kernel) rfl ?_
    refine pm_ic_ne (off := 8) 184 (by decide +kernel) (by decide) (fun hc16 => ?_) (fun hc16 => ?_)
    · rw [if_neg hc16] at h
      refine pm_blk (pc' := 186) (L' := [(0, .ref 64), (1, .int x1), (2, .int x2)]) (S' := [.int 8, .ref 64]) (M' := sm g u) [pm_oi (.bipush 8) 8] (by decide +kernel) rfl ?_
      obtain ⟨q17, hq17, h⟩ := pm_bd h
      refine pm_cV (idx := 397) m_Md_expect (c_Md_expect l h0 D hT hq17) (As := [.int 8]) (S0 := []) rfl (by decide +kernel) k_Md_expect l_Md_397 (Nat.le_of_ble_eq_true rfl) (Nat.le_of_ble_eq_true rfl) (Nat.le_refl _) (Nat.le_refl _) ?_
      refine pm_blk (pc' := 193) (L' := [(0, .ref 64), (1, .int x1), (2, .int x2)]) (S' := [.int 13, .int x1, .ref 64]) (M' := sm g q17) [pm_o (.aload_n 0), pm_o (.iload_n 1), pm_oi (.bipush 13) 13] (by decide +kernel) rfl ?_
      refine pm_ic_ne (off := 8) 201 (by decide +kernel) (by decide) (fun hc18 => ?_) (fun hc18 => ?_)
      · rw [if_neg hc18] at h
        refine pm_blk (pc' := 203) (L' := [(0, .ref 64), (1, .int x1), (2, .int x2)]) (S' := [.int 15, .ref 64]) (M' := sm g q17) [pm_oi (.bipush 15) 15] (by decide +kernel) rfl ?_
        refine pm_loc [0, 2] rfl ?_
        exact w_Md_exprTask_203 l h0 D hT x2 15 q17 h
      · rw [if_pos hc18] at h
        refine pm_blk (pc' := 198) (L' := [(0, .ref 64), (1, .int x1), (2, .int x2)]) (S' := [.int 14, .ref 64]) (M' := sm g q17) [pm_oi (.bipush 14) 14] (by decide +kernel) rfl ?_
        refine pm_goto (off := 5) 203 (by decide +kernel) (by decide) ?_
        refine pm_loc [0, 2] rfl ?_
        exact w_Md_exprTask_203 l h0 D hT x2 14 q17 h
    · rw [if_pos hc16] at h
      refine pm_blk (pc' := 181) (L' := [(0, .ref 64), (1, .int x1), (2, .int x2)]) (S' := [.int 7, .ref 64]) (M' := sm g u) [pm_oi (.bipush 7) 7] (by decide +kernel) rfl ?_
      refine pm_goto (off := 5) 186 (by decide +kernel) (by decide) ?_
      obtain ⟨q21, hq21, h⟩ := pm_bd h
      refine pm_cV (idx := 397) m_Md_expect (c_Md_expect l h0 D hT hq21) (As := [.int 7]) (S0 := []) rfl (by decide +kernel) k_Md_expect l_Md_397 (Nat.le_of_ble_eq_true rfl) (Nat.le_of_ble_eq_true rfl) (Nat.le_refl _) (Nat.le_refl _) ?_
      refine pm_blk (pc' := 193) (L' := [(0, .ref 64), (1, .int x1), (2, .int x2)]) (S' := [.int 13, .int x1, .ref 64]) (M' := sm g q21) [pm_o (.aload_n 0), pm_o (.iload_n 1), pm_oi (.bipush 13) 13] (by decide +kernel) rfl ?_
      refine pm_ic_ne (off := 8) 201 (by decide +kernel) (by decide) (fun hc22 => ?_) (fun hc22 => ?_)
      · rw [if_neg hc22] at h
        refine pm_blk (pc' := 203) (L' := [(0, .ref 64), (1, .int x1), (2, .int x2)]) (S' := [.int 15, .ref 64]) (M' := sm g q21) [pm_oi (.bipush 15) 15] (by decide +kernel) rfl ?_
        refine pm_loc [0, 2] rfl ?_
        exact w_Md_exprTask_203 l h0 D hT x2 15 q21 h
      · rw [if_pos hc22] at h
        refine pm_blk (pc' := 198) (L' := [(0, .ref 64), (1, .int x1), (2, .int x2)]) (S' := [.int 14, .ref 64]) (M' := sm g q21) [pm_oi (.bipush 14) 14] (by decide +kernel) rfl ?_
        refine pm_goto (off := 5) 203 (by decide +kernel) (by decide) ?_
        refine pm_loc [0, 2] rfl ?_
        exact w_Md_exprTask_203 l h0 D hT x2 14 q21 h
def K_Md_exprTask_321 (N : Nat) (g : pm_s) (x2 : Int32) (x3 : Int32) (u : pm_J) : Option (pm_J) := (F_Md_enter (x3 - x3 / 100 * 100) (x3 / 100) g u).bind fun q34 => (F_Md_later 17 x2 (x3 - x3 / 100 * 100) g q34).bind fun q35 => (F_Md_later 10 0 0 g q35).bind fun q36 => some q36
set_option maxHeartbeats 4000000 in
set_option maxRecDepth 100000 in
theorem w_Md_exprTask_321 (l : Launch) (h0 : Nat) (D : pm_D) {g : pm_s} (hT : sh_T g) {N : Nat} {u0 : pm_J} {out : pm_J} {p : Program} {e : Env} {R : Room} {s : State} {m : MethodId} {args : Array Value} {below : List Frame} {meth : Method} {c : Code} : ∀ (x2 : Int32) (x3 : Int32) (u : pm_J), K_Md_exprTask_321 N g x2 x3 u = some out → pm_V (p, l, e, R, s, m, args, below, meth, c) m_Md_exprTask h0 D (g.1, g.2.1, g.1, g.2.1, 4) (pm_E (p, l, e, R, s, m, args, below, meth, c) h0 D (sm g u0) none (sm g out)) 321 [(0, .ref 64), (2, .int x2), (3, .int x3)] [] (sm g u) := by
    intro x2 x3 u h
    unfold K_Md_exprTask_321 at h
    refine pm_blk (pc' := 325) (L' := [(0, .ref 64), (2, .int x2), (3, .int x3)]) (S' := [.int 100, .int x3, .ref 64]) (M' := sm g u) [pm_o (.aload_n 0), pm_o (.iload_n 3), pm_oi (.bipush 100) 100] (by decide +kernel) rfl ?_
    refine pm_irem (by decide +kernel) (by decide +kernel) ?_
    refine pm_blk (pc' := 329) (L' := [(0, .ref 64), (2, .int x2), (3, .int x3)]) (S' := [.int 100, .int x3, .int (x3 - x3 / 100 * 100), .ref 64]) (M' := sm g u) [pm_o (.iload_n 3), pm_oi (.bipush 100) 100] (by decide +kernel) rfl ?_
    refine pm_idiv (by decide +kernel) (by decide +kernel) ?_
    refine pm_blk (pc' := 330) (L' := [(0, .ref 64), (2, .int x2), (3, .int x3)]) (S' := [.int (x3 / 100), .int (x3 - x3 / 100 * 100), .ref 64]) (M' := sm g u) [] (by decide +kernel) rfl ?_
    obtain ⟨q34, hq34, h⟩ := pm_bd h
    refine pm_cV (idx := 409) m_Md_enter (c_Md_enter l h0 D hT hq34) (As := [.int (x3 - x3 / 100 * 100), .int (x3 / 100)]) (S0 := []) rfl (by decide +kernel) k_Md_enter l_Md_409 (Nat.le_of_ble_eq_true rfl) (Nat.le_of_ble_eq_true rfl) (Nat.le_refl _) (Nat.le_refl _) ?_
    refine pm_blk (pc' := 340) (L' := [(0, .ref 64), (2, .int x2), (3, .int x3)]) (S' := [.int 100, .int x3, .int x2, .int 17, .ref 64]) (M' := sm g q34) [pm_o (.aload_n 0), pm_oi (.bipush 17) 17, pm_o (.iload_n 2), pm_o (.iload_n 3), pm_oi (.bipush 100) 100] (by decide +kernel) rfl ?_
    refine pm_irem (by decide +kernel) (by decide +kernel) ?_
    refine pm_blk (pc' := 341) (L' := [(0, .ref 64), (2, .int x2), (3, .int x3)]) (S' := [.int (x3 - x3 / 100 * 100), .int x2, .int 17, .ref 64]) (M' := sm g q34) [] (by decide +kernel) rfl ?_
    obtain ⟨q35, hq35, h⟩ := pm_bd h
    refine pm_cV (idx := 383) m_Md_later (c_Md_later l h0 D hT hq35) (As := [.int 17, .int x2, .int (x3 - x3 / 100 * 100)]) (S0 := []) rfl (by decide +kernel) k_Md_later l_Md_383 (Nat.le_of_ble_eq_true rfl) (Nat.le_of_ble_eq_true rfl) (Nat.le_refl _) (Nat.le_refl _) ?_
    refine pm_blk (pc' := 349) (L' := [(0, .ref 64), (2, .int x2), (3, .int x3)]) (S' := [.int 0, .int 0, .int 10, .ref 64]) (M' := sm g q35) [pm_o (.aload_n 0), pm_oi (.bipush 10) 10, pm_oi (.iconst 0) 0, pm_oi (.iconst 0) 0] (by decide +kernel) rfl ?_
    obtain ⟨q36, hq36, h⟩ := pm_bd h
    refine pm_cV (idx := 383) m_Md_later (c_Md_later l h0 D hT hq36) (As := [.int 10, .int 0, .int 0]) (S0 := []) rfl (by decide +kernel) k_Md_later l_Md_383 (Nat.le_of_ble_eq_true rfl) (Nat.le_of_ble_eq_true rfl) (Nat.le_refl _) (Nat.le_refl _) ?_
    refine pm_blk (pc' := 352) (L' := [(0, .ref 64), (2, .int x2), (3, .int x3)]) (S' := []) (M' := sm g q36) [] (by decide +kernel) rfl ?_
    refine pm_goto (off := 79) 431 (by decide +kernel) (by decide) ?_
    have h9 := Option.some.inj h
    subst h9
    exact pm_retv rfl (by decide +kernel) rfl rfl
def F_Md_exprTask (N : Nat) (a1 : Int32) (a2 : Int32) (a3 : Int32) (g : pm_s) (u : pm_J) : Option (pm_J) := if a1 = 10 then (F_Md_expr N g u).bind fun q2 => some q2 else if a1 = 11 then (F_Md_take g (wi (wi u 64 67 ((u.1 64 67) - 1)) 64 61 ((u.1 64 61) - 1))).bind fun q4 => (F_Md_take g q4.2).bind fun q5 => (F_Md_node N 4 a2 q5.1 q4.1 (-1) g q5.2).bind fun q6 => if pm_ok q6.1 2400 = true then if pm_ok q5.1 2400 = true then (F_Md_give q6.1 g (wi (wi q6.2 82 q6.1.toNatClampNeg a3) 86 q5.1.toNatClampNeg a3)).bind fun q9 => some q9 else none else none else if a1 = 12 then (F_Md_expect N 5 g u).bind fun q11 => (F_Md_enter (a3 - a3 / 100 * 100) (a3 / 100) g q11).bind fun q12 => (F_Md_later 11 a2 (a3 - a3 / 100 * 100) g q12).bind fun q13 => (F_Md_later 10 0 0 g q13).bind fun q14 => some q14 else if a1 = 13 then K_Md_exprTask_172 N g a1 a2 u else if a1 = 14 then K_Md_exprTask_172 N g a1 a2 u else if a1 = 15 then (F_Md_take g (wi u 64 61 ((u.1 64 61) - 1))).bind fun q25 => (F_Md_take g q25.2).bind fun q26 => (F_Md_take g q26.2).bind fun q27 => (F_Md_node N 6 a2 q27.1 q26.1 q25.1 g q27.2).bind fun q28 => (F_Md_give q28.1 g q28.2).bind fun q29 => some q29 else if a1 = 16 then (F_Md_expect N 16 g u).bind fun q31 => (F_Md_expect N 20 g q31).bind fun q32 => if (q32.1 64 52) = 0 then K_Md_exprTask_321 N g a2 a3 q32 else (F_Md_takeType g q32).bind fun q37 => if pm_ok ((24 * (q37.2.1 64 44)) + (a3 - a3 / 100 * 100)) 720 = true then (F_Md_checkFnType N q37.1 (a3 / 100) g (wi q37.2 100 (((24 * (q37.2.1 64 44)) + (a3 - a3 / 100 * 100)).toNatClampNeg) q37.1)).bind fun q39 => K_Md_exprTask_321 N g a2 a3 q39 else none else if a1 = 17 then (F_Md_take g (wi (wi u 64 67 ((u.1 64 67) - 1)) 64 61 ((u.1 64 61) - 1))).bind fun q41 => (F_Md_node N 9 a2 q41.1 (-1) (-1) g q41.2).bind fun q42 => if pm_ok q42.1 2400 = true then (F_Md_give q42.1 g (wi q42.2 82 q42.1.toNatClampNeg a3)).bind fun q44 => some q44 else none else if a1 = 19 then some (wi u 64 61 ((u.1 64 61) - 1)) else (F_Md_sumTask N a1 a2 a3 g u).bind fun q46 => some q46
set_option maxHeartbeats 4000000 in
set_option maxRecDepth 100000 in
theorem c_Md_exprTask (l : Launch) (h0 : Nat) (D : pm_D) {g : pm_s} {u : pm_J} (hT : sh_T g) {N : Nat} {a1 : Int32} {a2 : Int32} {a3 : Int32} {out : pm_J} (h : F_Md_exprTask N a1 a2 a3 g u = some out) : pm_C l h0 D m_Md_exprTask (4) [.ref 64, .int a1, .int a2, .int a3] (sm g u) none (sm g out) := by
  unfold F_Md_exprTask at h
  refine pm_met (by decide +kernel) (Nat.le_of_ble_eq_true rfl) (Nat.le_refl _) (Nat.le_refl _) ?_
  intro p e R s m args below meth c
  refine pm_blk (pc' := 1) (L' := [(0, .ref 64), (1, .int a1), (2, .int a2), (3, .int a3)]) (S' := [.int a1]) (M' := sm g u) [pm_o (.iload_n 1)] (by decide +kernel) rfl ?_
  refine pm_tsw (dflt := 423) (lo := 10) (hi := 19) (offs := #[55, 101, 62, 171, 171, 218, 266, 354, 423, 410]) (len := 55) [(10, 56), (11, 102), (12, 63), (13, 172), (14, 172), (15, 219), (16, 267), (17, 355), (19, 411)] 424 (by decide +kernel) (by decide +kernel) ?_
  by_cases hs1 : a1 = 10
  · rw [if_pos hs1] at h
    rw [pm_sw_pos hs1]
    refine pm_blk (pc' := 57) (L' := [(0, .ref 64), (1, .int a1), (2, .int a2), (3, .int a3)]) (S' := [.ref 64]) (M' := sm g u) [pm_o (.aload_n 0)] (by decide +kernel) rfl ?_
    obtain ⟨q2, hq2, h⟩ := pm_bd h
    refine pm_cV (idx := 406) m_Md_expr (c_Md_expr l h0 D hT hq2) (As := []) (S0 := []) rfl (by decide +kernel) k_Md_expr l_Md_406 (Nat.le_of_ble_eq_true rfl) (Nat.le_of_ble_eq_true rfl) (Nat.le_refl _) (Nat.le_refl _) ?_
    refine pm_blk (pc' := 60) (L' := [(0, .ref 64), (1, .int a1), (2, .int a2), (3, .int a3)]) (S' := []) (M' := sm g q2) [] (by decide +kernel) rfl ?_
    refine pm_goto (off := 371) 431 (by decide +kernel) (by decide) ?_
    have h9 := Option.some.inj h
    subst h9
    exact pm_retv rfl (by decide +kernel) rfl rfl
  rw [if_neg hs1] at h
  rw [pm_sw_neg hs1]
  by_cases hs3 : a1 = 11
  · rw [if_pos hs3] at h
    rw [pm_sw_pos hs3]
    refine pm_blk (pc' := 123) (L' := [(0, .ref 64), (1, .int a1), (2, .int a2), (3, .int a3)]) (S' := [.ref 64]) (M' := sm g (wi (wi u 64 67 ((u.1 64 67) - 1)) 64 61 ((u.1 64 61) - 1))) [pm_o (.aload_n 0), pm_o .dup, pm_of (.getfield 362) 12 67 0, pm_oi (.iconst 1) 1, pm_o .isub, pm_of (.putfield 362) 12 67 0, pm_o (.aload_n 0), pm_o .dup, pm_of (.getfield 400) 12 61 0, pm_oi (.iconst 1) 1, pm_o .isub, pm_of (.putfield 400) 12 61 0, pm_o (.aload_n 0)] (by decide +kernel) rfl ?_
    obtain ⟨q4, hq4, h⟩ := pm_bd h
    refine pm_cV (idx := 412) m_Md_take (c_Md_take l h0 D hT hq4) (As := []) (S0 := []) rfl (by decide +kernel) k_Md_take l_Md_412 (Nat.le_of_ble_eq_true rfl) (Nat.le_of_ble_eq_true rfl) (Nat.le_refl _) (Nat.le_refl _) ?_
    refine pm_blk (pc' := 129) (L' := [(4, .int q4.1), (0, .ref 64), (1, .int a1), (2, .int a2), (3, .int a3)]) (S' := [.ref 64]) (M' := sm g q4.2) [pm_o (.istore 4), pm_o (.aload_n 0)] (by decide +kernel) rfl ?_
    obtain ⟨q5, hq5, h⟩ := pm_bd h
    refine pm_cV (idx := 412) m_Md_take (c_Md_take l h0 D hT hq5) (As := []) (S0 := []) rfl (by decide +kernel) k_Md_take l_Md_412 (Nat.le_of_ble_eq_true rfl) (Nat.le_of_ble_eq_true rfl) (Nat.le_refl _) (Nat.le_refl _) ?_
    refine pm_blk (pc' := 142) (L' := [(5, .int q5.1), (4, .int q4.1), (0, .ref 64), (1, .int a1), (2, .int a2), (3, .int a3)]) (S' := [.int (-1), .int q4.1, .int q5.1, .int a2, .int 4, .ref 64]) (M' := sm g q5.2) [pm_o (.istore 5), pm_o (.aload_n 0), pm_oi (.iconst 4) 4, pm_o (.iload_n 2), pm_o (.iload 5), pm_o (.iload 4), pm_oi (.iconst (-1)) (-1)] (by decide +kernel) rfl ?_
    obtain ⟨q6, hq6, h⟩ := pm_bd h
    refine pm_cV (idx := 415) m_Md_node (c_Md_node l h0 D hT hq6) (As := [.int 4, .int a2, .int q5.1, .int q4.1, .int (-1)]) (S0 := []) rfl (by decide +kernel) k_Md_node l_Md_415 (Nat.le_of_ble_eq_true rfl) (Nat.le_of_ble_eq_true rfl) (Nat.le_refl _) (Nat.le_refl _) ?_
    refine pm_blk (pc' := 154) (L' := [(6, .int q6.1), (5, .int q5.1), (4, .int q4.1), (0, .ref 64), (1, .int a1), (2, .int a2), (3, .int a3)]) (S' := [.int a3, .int q6.1, .ref 82]) (M' := sm g q6.2) [pm_o (.istore 6), pm_o (.aload_n 0), pm_of (.getfield 68) 12 24 2, pm_o (.iload 6), pm_o (.iload_n 3)] (by decide +kernel) rfl ?_
    obtain ⟨ho7, h⟩ := pm_ifs h
    refine pm_iast (by decide +kernel) rfl  (pm_ok_in ho7) ?_
    refine pm_blk (pc' := 162) (L' := [(6, .int q6.1), (5, .int q5.1), (4, .int q4.1), (0, .ref 64), (1, .int a1), (2, .int a2), (3, .int a3)]) (S' := [.int a3, .int q5.1, .ref 86]) (M' := sm g (wi q6.2 82 q6.1.toNatClampNeg a3)) [pm_o (.aload_n 0), pm_of (.getfield 80) 12 28 2, pm_o (.iload 5), pm_o (.iload_n 3)] (by decide +kernel) rfl ?_
    obtain ⟨ho8, h⟩ := pm_ifs h
    refine pm_iast (by decide +kernel) rfl  (pm_ok_in ho8) ?_
    refine pm_blk (pc' := 166) (L' := [(6, .int q6.1), (5, .int q5.1), (4, .int q4.1), (0, .ref 64), (1, .int a1), (2, .int a2), (3, .int a3)]) (S' := [.int q6.1, .ref 64]) (M' := sm g (wi (wi q6.2 82 q6.1.toNatClampNeg a3) 86 q5.1.toNatClampNeg a3)) [pm_o (.aload_n 0), pm_o (.iload 6)] (by decide +kernel) rfl ?_
    obtain ⟨q9, hq9, h⟩ := pm_bd h
    refine pm_cV (idx := 419) m_Md_give (c_Md_give l h0 D hT hq9) (As := [.int q6.1]) (S0 := []) rfl (by decide +kernel) k_Md_give l_Md_419 (Nat.le_of_ble_eq_true rfl) (Nat.le_of_ble_eq_true rfl) (Nat.le_refl _) (Nat.le_refl _) ?_
    refine pm_blk (pc' := 169) (L' := [(6, .int q6.1), (5, .int q5.1), (4, .int q4.1), (0, .ref 64), (1, .int a1), (2, .int a2), (3, .int a3)]) (S' := []) (M' := sm g q9) [] (by decide +kernel) rfl ?_
    refine pm_goto (off := 262) 431 (by decide +kernel) (by decide) ?_
    have h9 := Option.some.inj h
    subst h9
    exact pm_retv rfl (by decide +kernel) rfl rfl
  rw [if_neg hs3] at h
  rw [pm_sw_neg hs3]
  by_cases hs10 : a1 = 12
  · rw [if_pos hs10] at h
    rw [pm_sw_pos hs10]
    refine pm_blk (pc' := 65) (L' := [(0, .ref 64), (1, .int a1), (2, .int a2), (3, .int a3)]) (S' := [.int 5, .ref 64]) (M' := sm g u) [pm_o (.aload_n 0), pm_oi (.iconst 5) 5] (by decide +kernel) rfl ?_
    obtain ⟨q11, hq11, h⟩ := pm_bd h
    refine pm_cV (idx := 397) m_Md_expect (c_Md_expect l h0 D hT hq11) (As := [.int 5]) (S0 := []) rfl (by decide +kernel) k_Md_expect l_Md_397 (Nat.le_of_ble_eq_true rfl) (Nat.le_of_ble_eq_true rfl) (Nat.le_refl _) (Nat.le_refl _) ?_
    refine pm_blk (pc' := 72) (L' := [(0, .ref 64), (1, .int a1), (2, .int a2), (3, .int a3)]) (S' := [.int 100, .int a3, .ref 64]) (M' := sm g q11) [pm_o (.aload_n 0), pm_o (.iload_n 3), pm_oi (.bipush 100) 100] (by decide +kernel) rfl ?_
    refine pm_irem (by decide +kernel) (by decide +kernel) ?_
    refine pm_blk (pc' := 76) (L' := [(0, .ref 64), (1, .int a1), (2, .int a2), (3, .int a3)]) (S' := [.int 100, .int a3, .int (a3 - a3 / 100 * 100), .ref 64]) (M' := sm g q11) [pm_o (.iload_n 3), pm_oi (.bipush 100) 100] (by decide +kernel) rfl ?_
    refine pm_idiv (by decide +kernel) (by decide +kernel) ?_
    refine pm_blk (pc' := 77) (L' := [(0, .ref 64), (1, .int a1), (2, .int a2), (3, .int a3)]) (S' := [.int (a3 / 100), .int (a3 - a3 / 100 * 100), .ref 64]) (M' := sm g q11) [] (by decide +kernel) rfl ?_
    obtain ⟨q12, hq12, h⟩ := pm_bd h
    refine pm_cV (idx := 409) m_Md_enter (c_Md_enter l h0 D hT hq12) (As := [.int (a3 - a3 / 100 * 100), .int (a3 / 100)]) (S0 := []) rfl (by decide +kernel) k_Md_enter l_Md_409 (Nat.le_of_ble_eq_true rfl) (Nat.le_of_ble_eq_true rfl) (Nat.le_refl _) (Nat.le_refl _) ?_
    refine pm_blk (pc' := 87) (L' := [(0, .ref 64), (1, .int a1), (2, .int a2), (3, .int a3)]) (S' := [.int 100, .int a3, .int a2, .int 11, .ref 64]) (M' := sm g q12) [pm_o (.aload_n 0), pm_oi (.bipush 11) 11, pm_o (.iload_n 2), pm_o (.iload_n 3), pm_oi (.bipush 100) 100] (by decide +kernel) rfl ?_
    refine pm_irem (by decide +kernel) (by decide +kernel) ?_
    refine pm_blk (pc' := 88) (L' := [(0, .ref 64), (1, .int a1), (2, .int a2), (3, .int a3)]) (S' := [.int (a3 - a3 / 100 * 100), .int a2, .int 11, .ref 64]) (M' := sm g q12) [] (by decide +kernel) rfl ?_
    obtain ⟨q13, hq13, h⟩ := pm_bd h
    refine pm_cV (idx := 383) m_Md_later (c_Md_later l h0 D hT hq13) (As := [.int 11, .int a2, .int (a3 - a3 / 100 * 100)]) (S0 := []) rfl (by decide +kernel) k_Md_later l_Md_383 (Nat.le_of_ble_eq_true rfl) (Nat.le_of_ble_eq_true rfl) (Nat.le_refl _) (Nat.le_refl _) ?_
    refine pm_blk (pc' := 96) (L' := [(0, .ref 64), (1, .int a1), (2, .int a2), (3, .int a3)]) (S' := [.int 0, .int 0, .int 10, .ref 64]) (M' := sm g q13) [pm_o (.aload_n 0), pm_oi (.bipush 10) 10, pm_oi (.iconst 0) 0, pm_oi (.iconst 0) 0] (by decide +kernel) rfl ?_
    obtain ⟨q14, hq14, h⟩ := pm_bd h
    refine pm_cV (idx := 383) m_Md_later (c_Md_later l h0 D hT hq14) (As := [.int 10, .int 0, .int 0]) (S0 := []) rfl (by decide +kernel) k_Md_later l_Md_383 (Nat.le_of_ble_eq_true rfl) (Nat.le_of_ble_eq_true rfl) (Nat.le_refl _) (Nat.le_refl _) ?_
    refine pm_blk (pc' := 99) (L' := [(0, .ref 64), (1, .int a1), (2, .int a2), (3, .int a3)]) (S' := []) (M' := sm g q14) [] (by decide +kernel) rfl ?_
    refine pm_goto (off := 332) 431 (by decide +kernel) (by decide) ?_
    have h9 := Option.some.inj h
    subst h9
    exact pm_retv rfl (by decide +kernel) rfl rfl
  rw [if_neg hs10] at h
  rw [pm_sw_neg hs10]
  by_cases hs15 : a1 = 13
  · rw [if_pos hs15] at h
    rw [pm_sw_pos hs15]
    refine pm_loc [0, 1, 2] rfl ?_
    exact w_Md_exprTask_172 l h0 D hT a1 a2 u h
  rw [if_neg hs15] at h
  rw [pm_sw_neg hs15]
  by_cases hs23 : a1 = 14
  · rw [if_pos hs23] at h
    rw [pm_sw_pos hs23]
    refine pm_loc [0, 1, 2] rfl ?_
    exact w_Md_exprTask_172 l h0 D hT a1 a2 u h
  rw [if_neg hs23] at h
  rw [pm_sw_neg hs23]
  by_cases hs24 : a1 = 15
  · rw [if_pos hs24] at h
    rw [pm_sw_pos hs24]
    refine pm_blk (pc' := 230) (L' := [(0, .ref 64), (1, .int a1), (2, .int a2), (3, .int a3)]) (S' := [.ref 64]) (M' := sm g (wi u 64 61 ((u.1 64 61) - 1))) [pm_o (.aload_n 0), pm_o .dup, pm_of (.getfield 400) 12 61 0, pm_oi (.iconst 1) 1, pm_o .isub, pm_of (.putfield 400) 12 61 0, pm_o (.aload_n 0)] (by decide +kernel) rfl ?_
    obtain ⟨q25, hq25, h⟩ := pm_bd h
    refine pm_cV (idx := 412) m_Md_take (c_Md_take l h0 D hT hq25) (As := []) (S0 := []) rfl (by decide +kernel) k_Md_take l_Md_412 (Nat.le_of_ble_eq_true rfl) (Nat.le_of_ble_eq_true rfl) (Nat.le_refl _) (Nat.le_refl _) ?_
    refine pm_blk (pc' := 236) (L' := [(7, .int q25.1), (0, .ref 64), (1, .int a1), (2, .int a2), (3, .int a3)]) (S' := [.ref 64]) (M' := sm g q25.2) [pm_o (.istore 7), pm_o (.aload_n 0)] (by decide +kernel) rfl ?_
    obtain ⟨q26, hq26, h⟩ := pm_bd h
    refine pm_cV (idx := 412) m_Md_take (c_Md_take l h0 D hT hq26) (As := []) (S0 := []) rfl (by decide +kernel) k_Md_take l_Md_412 (Nat.le_of_ble_eq_true rfl) (Nat.le_of_ble_eq_true rfl) (Nat.le_refl _) (Nat.le_refl _) ?_
    refine pm_blk (pc' := 242) (L' := [(8, .int q26.1), (7, .int q25.1), (0, .ref 64), (1, .int a1), (2, .int a2), (3, .int a3)]) (S' := [.ref 64]) (M' := sm g q26.2) [pm_o (.istore 8), pm_o (.aload_n 0)] (by decide +kernel) rfl ?_
    obtain ⟨q27, hq27, h⟩ := pm_bd h
    refine pm_cV (idx := 412) m_Md_take (c_Md_take l h0 D hT hq27) (As := []) (S0 := []) rfl (by decide +kernel) k_Md_take l_Md_412 (Nat.le_of_ble_eq_true rfl) (Nat.le_of_ble_eq_true rfl) (Nat.le_refl _) (Nat.le_refl _) ?_
    refine pm_blk (pc' := 258) (L' := [(9, .int q27.1), (8, .int q26.1), (7, .int q25.1), (0, .ref 64), (1, .int a1), (2, .int a2), (3, .int a3)]) (S' := [.int q25.1, .int q26.1, .int q27.1, .int a2, .int 6, .ref 64, .ref 64]) (M' := sm g q27.2) [pm_o (.istore 9), pm_o (.aload_n 0), pm_o (.aload_n 0), pm_oi (.bipush 6) 6, pm_o (.iload_n 2), pm_o (.iload 9), pm_o (.iload 8), pm_o (.iload 7)] (by decide +kernel) rfl ?_
    obtain ⟨q28, hq28, h⟩ := pm_bd h
    refine pm_cV (idx := 415) m_Md_node (c_Md_node l h0 D hT hq28) (As := [.int 6, .int a2, .int q27.1, .int q26.1, .int q25.1]) (S0 := [.ref 64]) rfl (by decide +kernel) k_Md_node l_Md_415 (Nat.le_of_ble_eq_true rfl) (Nat.le_of_ble_eq_true rfl) (Nat.le_refl _) (Nat.le_refl _) ?_
    refine pm_blk (pc' := 261) (L' := [(9, .int q27.1), (8, .int q26.1), (7, .int q25.1), (0, .ref 64), (1, .int a1), (2, .int a2), (3, .int a3)]) (S' := [.int q28.1, .ref 64]) (M' := sm g q28.2) [] (by decide +kernel) rfl ?_
    obtain ⟨q29, hq29, h⟩ := pm_bd h
    refine pm_cV (idx := 419) m_Md_give (c_Md_give l h0 D hT hq29) (As := [.int q28.1]) (S0 := []) rfl (by decide +kernel) k_Md_give l_Md_419 (Nat.le_of_ble_eq_true rfl) (Nat.le_of_ble_eq_true rfl) (Nat.le_refl _) (Nat.le_refl _) ?_
    refine pm_blk (pc' := 264) (L' := [(9, .int q27.1), (8, .int q26.1), (7, .int q25.1), (0, .ref 64), (1, .int a1), (2, .int a2), (3, .int a3)]) (S' := []) (M' := sm g q29) [] (by decide +kernel) rfl ?_
    refine pm_goto (off := 167) 431 (by decide +kernel) (by decide) ?_
    have h9 := Option.some.inj h
    subst h9
    exact pm_retv rfl (by decide +kernel) rfl rfl
  rw [if_neg hs24] at h
  rw [pm_sw_neg hs24]
  by_cases hs30 : a1 = 16
  · rw [if_pos hs30] at h
    rw [pm_sw_pos hs30]
    refine pm_blk (pc' := 270) (L' := [(0, .ref 64), (1, .int a1), (2, .int a2), (3, .int a3)]) (S' := [.int 16, .ref 64]) (M' := sm g u) [pm_o (.aload_n 0), pm_oi (.bipush 16) 16] (by decide +kernel) rfl ?_
    obtain ⟨q31, hq31, h⟩ := pm_bd h
    refine pm_cV (idx := 397) m_Md_expect (c_Md_expect l h0 D hT hq31) (As := [.int 16]) (S0 := []) rfl (by decide +kernel) k_Md_expect l_Md_397 (Nat.le_of_ble_eq_true rfl) (Nat.le_of_ble_eq_true rfl) (Nat.le_refl _) (Nat.le_refl _) ?_
    refine pm_blk (pc' := 276) (L' := [(0, .ref 64), (1, .int a1), (2, .int a2), (3, .int a3)]) (S' := [.int 20, .ref 64]) (M' := sm g q31) [pm_o (.aload_n 0), pm_oi (.bipush 20) 20] (by decide +kernel) rfl ?_
    obtain ⟨q32, hq32, h⟩ := pm_bd h
    refine pm_cV (idx := 397) m_Md_expect (c_Md_expect l h0 D hT hq32) (As := [.int 20]) (S0 := []) rfl (by decide +kernel) k_Md_expect l_Md_397 (Nat.le_of_ble_eq_true rfl) (Nat.le_of_ble_eq_true rfl) (Nat.le_refl _) (Nat.le_refl _) ?_
    refine pm_blk (pc' := 283) (L' := [(0, .ref 64), (1, .int a1), (2, .int a2), (3, .int a3)]) (S' := [.int (q32.1 64 52)]) (M' := sm g q32) [pm_o (.aload_n 0), pm_of (.getfield 349) 12 52 3] (by decide +kernel) rfl ?_
    refine pm_if_eq (off := 38) 321 (by decide +kernel) (by decide) (fun hc33 => ?_) (fun hc33 => ?_)
    · rw [if_pos hc33] at h
      refine pm_loc [0, 2, 3] rfl ?_
      exact w_Md_exprTask_321 l h0 D hT a2 a3 q32 h
    · rw [if_neg hc33] at h
      refine pm_blk (pc' := 287) (L' := [(0, .ref 64), (1, .int a1), (2, .int a2), (3, .int a3)]) (S' := [.ref 64]) (M' := sm g q32) [pm_o (.aload_n 0)] (by decide +kernel) rfl ?_
      obtain ⟨q37, hq37, h⟩ := pm_bd h
      refine pm_cV (idx := 387) m_Md_takeType (c_Md_takeType l h0 D hT hq37) (As := []) (S0 := []) rfl (by decide +kernel) k_Md_takeType l_Md_387 (Nat.le_of_ble_eq_true rfl) (Nat.le_of_ble_eq_true rfl) (Nat.le_refl _) (Nat.le_refl _) ?_
      refine pm_blk (pc' := 306) (L' := [(10, .int q37.1), (0, .ref 64), (1, .int a1), (2, .int a2), (3, .int a3)]) (S' := [.int 100, .int a3, .int (24 * (q37.2.1 64 44)), .ref 100]) (M' := sm g q37.2) [pm_o (.istore 10), pm_o (.aload_n 0), pm_of (.getfield 122) 12 43 2, pm_oi (.bipush 24) 24, pm_o (.aload_n 0), pm_of (.getfield 256) 12 44 0, pm_o .imul, pm_o (.iload_n 3), pm_oi (.bipush 100) 100] (by decide +kernel) rfl ?_
      refine pm_irem (by decide +kernel) (by decide +kernel) ?_
      refine pm_blk (pc' := 310) (L' := [(10, .int q37.1), (0, .ref 64), (1, .int a1), (2, .int a2), (3, .int a3)]) (S' := [.int q37.1, .int ((24 * (q37.2.1 64 44)) + (a3 - a3 / 100 * 100)), .ref 100]) (M' := sm g q37.2) [pm_o .iadd, pm_o (.iload 10)] (by decide +kernel) rfl ?_
      obtain ⟨ho38, h⟩ := pm_ifs h
      refine pm_iast (by decide +kernel) rfl  (pm_ok_in ho38) ?_
      refine pm_blk (pc' := 317) (L' := [(10, .int q37.1), (0, .ref 64), (1, .int a1), (2, .int a2), (3, .int a3)]) (S' := [.int 100, .int a3, .int q37.1, .ref 64]) (M' := sm g (wi q37.2 100 (((24 * (q37.2.1 64 44)) + (a3 - a3 / 100 * 100)).toNatClampNeg) q37.1)) [pm_o (.aload_n 0), pm_o (.iload 10), pm_o (.iload_n 3), pm_oi (.bipush 100) 100] (by decide +kernel) rfl ?_
      refine pm_idiv (by decide +kernel) (by decide +kernel) ?_
      refine pm_blk (pc' := 318) (L' := [(10, .int q37.1), (0, .ref 64), (1, .int a1), (2, .int a2), (3, .int a3)]) (S' := [.int (a3 / 100), .int q37.1, .ref 64]) (M' := sm g (wi q37.2 100 (((24 * (q37.2.1 64 44)) + (a3 - a3 / 100 * 100)).toNatClampNeg) q37.1)) [] (by decide +kernel) rfl ?_
      obtain ⟨q39, hq39, h⟩ := pm_bd h
      refine pm_cV (idx := 422) m_Md_checkFnType (c_Md_checkFnType l h0 D hT hq39) (As := [.int q37.1, .int (a3 / 100)]) (S0 := []) rfl (by decide +kernel) k_Md_checkFnType l_Md_422 (Nat.le_of_ble_eq_true rfl) (Nat.le_of_ble_eq_true rfl) (Nat.le_refl _) (Nat.le_refl _) ?_
      refine pm_blk (pc' := 321) (L' := [(10, .int q37.1), (0, .ref 64), (1, .int a1), (2, .int a2), (3, .int a3)]) (S' := []) (M' := sm g q39) [] (by decide +kernel) rfl ?_
      refine pm_loc [1, 3, 4] rfl ?_
      exact w_Md_exprTask_321 l h0 D hT a2 a3 q39 h
  rw [if_neg hs30] at h
  rw [pm_sw_neg hs30]
  by_cases hs40 : a1 = 17
  · rw [if_pos hs40] at h
    rw [pm_sw_pos hs40]
    refine pm_blk (pc' := 376) (L' := [(0, .ref 64), (1, .int a1), (2, .int a2), (3, .int a3)]) (S' := [.ref 64]) (M' := sm g (wi (wi u 64 67 ((u.1 64 67) - 1)) 64 61 ((u.1 64 61) - 1))) [pm_o (.aload_n 0), pm_o .dup, pm_of (.getfield 362) 12 67 0, pm_oi (.iconst 1) 1, pm_o .isub, pm_of (.putfield 362) 12 67 0, pm_o (.aload_n 0), pm_o .dup, pm_of (.getfield 400) 12 61 0, pm_oi (.iconst 1) 1, pm_o .isub, pm_of (.putfield 400) 12 61 0, pm_o (.aload_n 0)] (by decide +kernel) rfl ?_
    obtain ⟨q41, hq41, h⟩ := pm_bd h
    refine pm_cV (idx := 412) m_Md_take (c_Md_take l h0 D hT hq41) (As := []) (S0 := []) rfl (by decide +kernel) k_Md_take l_Md_412 (Nat.le_of_ble_eq_true rfl) (Nat.le_of_ble_eq_true rfl) (Nat.le_refl _) (Nat.le_refl _) ?_
    refine pm_blk (pc' := 389) (L' := [(10, .int q41.1), (0, .ref 64), (1, .int a1), (2, .int a2), (3, .int a3)]) (S' := [.int (-1), .int (-1), .int q41.1, .int a2, .int 9, .ref 64]) (M' := sm g q41.2) [pm_o (.istore 10), pm_o (.aload_n 0), pm_oi (.bipush 9) 9, pm_o (.iload_n 2), pm_o (.iload 10), pm_oi (.iconst (-1)) (-1), pm_oi (.iconst (-1)) (-1)] (by decide +kernel) rfl ?_
    obtain ⟨q42, hq42, h⟩ := pm_bd h
    refine pm_cV (idx := 415) m_Md_node (c_Md_node l h0 D hT hq42) (As := [.int 9, .int a2, .int q41.1, .int (-1), .int (-1)]) (S0 := []) rfl (by decide +kernel) k_Md_node l_Md_415 (Nat.le_of_ble_eq_true rfl) (Nat.le_of_ble_eq_true rfl) (Nat.le_refl _) (Nat.le_refl _) ?_
    refine pm_blk (pc' := 401) (L' := [(11, .int q42.1), (10, .int q41.1), (0, .ref 64), (1, .int a1), (2, .int a2), (3, .int a3)]) (S' := [.int a3, .int q42.1, .ref 82]) (M' := sm g q42.2) [pm_o (.istore 11), pm_o (.aload_n 0), pm_of (.getfield 68) 12 24 2, pm_o (.iload 11), pm_o (.iload_n 3)] (by decide +kernel) rfl ?_
    obtain ⟨ho43, h⟩ := pm_ifs h
    refine pm_iast (by decide +kernel) rfl  (pm_ok_in ho43) ?_
    refine pm_blk (pc' := 405) (L' := [(11, .int q42.1), (10, .int q41.1), (0, .ref 64), (1, .int a1), (2, .int a2), (3, .int a3)]) (S' := [.int q42.1, .ref 64]) (M' := sm g (wi q42.2 82 q42.1.toNatClampNeg a3)) [pm_o (.aload_n 0), pm_o (.iload 11)] (by decide +kernel) rfl ?_
    obtain ⟨q44, hq44, h⟩ := pm_bd h
    refine pm_cV (idx := 419) m_Md_give (c_Md_give l h0 D hT hq44) (As := [.int q42.1]) (S0 := []) rfl (by decide +kernel) k_Md_give l_Md_419 (Nat.le_of_ble_eq_true rfl) (Nat.le_of_ble_eq_true rfl) (Nat.le_refl _) (Nat.le_refl _) ?_
    refine pm_blk (pc' := 408) (L' := [(11, .int q42.1), (10, .int q41.1), (0, .ref 64), (1, .int a1), (2, .int a2), (3, .int a3)]) (S' := []) (M' := sm g q44) [] (by decide +kernel) rfl ?_
    refine pm_goto (off := 23) 431 (by decide +kernel) (by decide) ?_
    have h9 := Option.some.inj h
    subst h9
    exact pm_retv rfl (by decide +kernel) rfl rfl
  rw [if_neg hs40] at h
  rw [pm_sw_neg hs40]
  by_cases hs45 : a1 = 19
  · rw [if_pos hs45] at h
    rw [pm_sw_pos hs45]
    refine pm_blk (pc' := 421) (L' := [(0, .ref 64), (1, .int a1), (2, .int a2), (3, .int a3)]) (S' := []) (M' := sm g (wi u 64 61 ((u.1 64 61) - 1))) [pm_o (.aload_n 0), pm_o .dup, pm_of (.getfield 400) 12 61 0, pm_oi (.iconst 1) 1, pm_o .isub, pm_of (.putfield 400) 12 61 0] (by decide +kernel) rfl ?_
    refine pm_goto (off := 10) 431 (by decide +kernel) (by decide) ?_
    have h9 := Option.some.inj h
    subst h9
    exact pm_retv rfl (by decide +kernel) rfl rfl
  rw [if_neg hs45] at h
  rw [pm_sw_neg hs45]
  refine pm_pc (pc' := 424) rfl ?_
  refine pm_blk (pc' := 428) (L' := [(0, .ref 64), (1, .int a1), (2, .int a2), (3, .int a3)]) (S' := [.int a3, .int a2, .int a1, .ref 64]) (M' := sm g u) [pm_o (.aload_n 0), pm_o (.iload_n 1), pm_o (.iload_n 2), pm_o (.iload_n 3)] (by decide +kernel) rfl ?_
  obtain ⟨q46, hq46, h⟩ := pm_bd h
  refine pm_cV (idx := 425) m_Md_sumTask (c_Md_sumTask l h0 D hT hq46) (As := [.int a1, .int a2, .int a3]) (S0 := []) rfl (by decide +kernel) k_Md_sumTask l_Md_425 (Nat.le_of_ble_eq_true rfl) (Nat.le_of_ble_eq_true rfl) (Nat.le_refl _) (Nat.le_refl _) ?_
  refine pm_blk (pc' := 431) (L' := [(0, .ref 64), (1, .int a1), (2, .int a2), (3, .int a3)]) (S' := []) (M' := sm g q46) [] (by decide +kernel) rfl ?_
  have h9 := Option.some.inj h
  subst h9
  exact pm_retv rfl (by decide +kernel) rfl rfl
def K_Md_work_7 (N : Nat) (g : pm_s) : Nat → Int32 → pm_J → Option (pm_J)
  | 0, _, _ => none
  | n + 1, x2, u => if (u.1 64 52) = 0 then some u else if (u.1 64 56) ≤ x2 then some u else if pm_ok ((u.1 64 56) - 1) 6000 = true then if 10 ≤ (u.1 105 (((u.1 64 56) - 1).toNatClampNeg)) then if pm_ok ((u.1 64 56) - 1) 6000 = true then if pm_ok ((u.1 64 56) - 1) 6000 = true then if pm_ok ((u.1 64 56) - 1) 6000 = true then (F_Md_exprTask N (u.1 105 (((u.1 64 56) - 1).toNatClampNeg)) (u.1 106 (((u.1 64 56) - 1).toNatClampNeg)) (u.1 107 (((u.1 64 56) - 1).toNatClampNeg)) g (wi u 64 56 ((u.1 64 56) - 1))).bind fun q8 => K_Md_work_7 N g  n x2 q8 else none else none else none else if pm_ok ((u.1 64 56) - 1) 6000 = true then if pm_ok ((u.1 64 56) - 1) 6000 = true then (F_Md_typeTask N (u.1 105 (((u.1 64 56) - 1).toNatClampNeg)) (u.1 106 (((u.1 64 56) - 1).toNatClampNeg)) g (wi u 64 56 ((u.1 64 56) - 1))).bind fun q11 => K_Md_work_7 N g  n x2 q11 else none else none else none
set_option maxHeartbeats 4000000 in
set_option maxRecDepth 100000 in
theorem w_Md_work_7 (l : Launch) (h0 : Nat) (D : pm_D) {g : pm_s} (hT : sh_T g) {N : Nat} {u0 : pm_J} {out : pm_J} {p : Program} {e : Env} {R : Room} {s : State} {m : MethodId} {args : Array Value} {below : List Frame} {meth : Method} {c : Code} : ∀ (n : Nat) (x2 : Int32) (u : pm_J), K_Md_work_7 N g n x2 u = some out → pm_V (p, l, e, R, s, m, args, below, meth, c) m_Md_work h0 D (g.1, g.2.1, g.1, g.2.1, 5) (pm_E (p, l, e, R, s, m, args, below, meth, c) h0 D (sm g u0) none (sm g out)) 7 [(0, .ref 64), (2, .int x2)] [] (sm g u) := by
  intro n
  induction n with
  | zero => intro x2 u h; cases h
  | succ n ih =>
    intro x2 u h
    rw [K_Md_work_7] at h
    refine pm_blk (pc' := 11) (L' := [(0, .ref 64), (2, .int x2)]) (S' := [.int (u.1 64 52)]) (M' := sm g u) [pm_o (.aload_n 0), pm_of (.getfield 349) 12 52 3] (by decide +kernel) rfl ?_
    refine pm_if_eq (off := 94) 105 (by decide +kernel) (by decide) (fun hc1 => ?_) (fun hc1 => ?_)
    · rw [if_pos hc1] at h
      have h9 := Option.some.inj h
      subst h9
      exact pm_retv rfl (by decide +kernel) rfl rfl
    · rw [if_neg hc1] at h
      refine pm_blk (pc' := 19) (L' := [(0, .ref 64), (2, .int x2)]) (S' := [.int x2, .int (u.1 64 56)]) (M' := sm g u) [pm_o (.aload_n 0), pm_of (.getfield 368) 12 56 0, pm_o (.iload_n 2)] (by decide +kernel) rfl ?_
      refine pm_ic_le (off := 86) 105 (by decide +kernel) (by decide) (fun hc2 => ?_) (fun hc2 => ?_)
      · rw [if_pos hc2] at h
        have h9 := Option.some.inj h
        subst h9
        exact pm_retv rfl (by decide +kernel) rfl rfl
      · rw [if_neg hc2] at h
        refine pm_blk (pc' := 40) (L' := [(0, .ref 64), (2, .int x2)]) (S' := [.int ((u.1 64 56) - 1), .ref 105]) (M' := sm g (wi u 64 56 ((u.1 64 56) - 1))) [pm_o (.aload_n 0), pm_o .dup, pm_of (.getfield 368) 12 56 0, pm_oi (.iconst 1) 1, pm_o .isub, pm_of (.putfield 368) 12 56 0, pm_o (.aload_n 0), pm_of (.getfield 137) 12 53 2, pm_o (.aload_n 0), pm_of (.getfield 368) 12 56 0] (by decide +kernel) rfl ?_
        obtain ⟨ho3, h⟩ := pm_ifs h
        refine pm_iald (by decide +kernel) rfl (pm_ok_in ho3) ?_
        refine pm_blk (pc' := 43) (L' := [(0, .ref 64), (2, .int x2)]) (S' := [.int 10, .int (u.1 105 (((u.1 64 56) - 1).toNatClampNeg))]) (M' := sm g (wi u 64 56 ((u.1 64 56) - 1))) [pm_oi (.bipush 10) 10] (by decide +kernel) rfl ?_
        refine pm_ic_ge (off := 28) 71 (by decide +kernel) (by decide) (fun hc4 => ?_) (fun hc4 => ?_)
        · rw [if_pos hc4] at h
          refine pm_blk (pc' := 80) (L' := [(0, .ref 64), (2, .int x2)]) (S' := [.int ((u.1 64 56) - 1), .ref 105, .ref 64]) (M' := sm g (wi u 64 56 ((u.1 64 56) - 1))) [pm_o (.aload_n 0), pm_o (.aload_n 0), pm_of (.getfield 137) 12 53 2, pm_o (.aload_n 0), pm_of (.getfield 368) 12 56 0] (by decide +kernel) rfl ?_
          obtain ⟨ho5, h⟩ := pm_ifs h
          refine pm_iald (by decide +kernel) rfl (pm_ok_in ho5) ?_
          refine pm_blk (pc' := 89) (L' := [(0, .ref 64), (2, .int x2)]) (S' := [.int ((u.1 64 56) - 1), .ref 106, .int (u.1 105 (((u.1 64 56) - 1).toNatClampNeg)), .ref 64]) (M' := sm g (wi u 64 56 ((u.1 64 56) - 1))) [pm_o (.aload_n 0), pm_of (.getfield 140) 12 54 2, pm_o (.aload_n 0), pm_of (.getfield 368) 12 56 0] (by decide +kernel) rfl ?_
          obtain ⟨ho6, h⟩ := pm_ifs h
          refine pm_iald (by decide +kernel) rfl (pm_ok_in ho6) ?_
          refine pm_blk (pc' := 98) (L' := [(0, .ref 64), (2, .int x2)]) (S' := [.int ((u.1 64 56) - 1), .ref 107, .int (u.1 106 (((u.1 64 56) - 1).toNatClampNeg)), .int (u.1 105 (((u.1 64 56) - 1).toNatClampNeg)), .ref 64]) (M' := sm g (wi u 64 56 ((u.1 64 56) - 1))) [pm_o (.aload_n 0), pm_of (.getfield 143) 12 55 2, pm_o (.aload_n 0), pm_of (.getfield 368) 12 56 0] (by decide +kernel) rfl ?_
          obtain ⟨ho7, h⟩ := pm_ifs h
          refine pm_iald (by decide +kernel) rfl (pm_ok_in ho7) ?_
          refine pm_blk (pc' := 99) (L' := [(0, .ref 64), (2, .int x2)]) (S' := [.int (u.1 107 (((u.1 64 56) - 1).toNatClampNeg)), .int (u.1 106 (((u.1 64 56) - 1).toNatClampNeg)), .int (u.1 105 (((u.1 64 56) - 1).toNatClampNeg)), .ref 64]) (M' := sm g (wi u 64 56 ((u.1 64 56) - 1))) [] (by decide +kernel) rfl ?_
          obtain ⟨q8, hq8, h⟩ := pm_bd h
          refine pm_cV (idx := 453) m_Md_exprTask (c_Md_exprTask l h0 D hT hq8) (As := [.int (u.1 105 (((u.1 64 56) - 1).toNatClampNeg)), .int (u.1 106 (((u.1 64 56) - 1).toNatClampNeg)), .int (u.1 107 (((u.1 64 56) - 1).toNatClampNeg))]) (S0 := []) rfl (by decide +kernel) k_Md_exprTask l_Md_453 (Nat.le_of_ble_eq_true rfl) (Nat.le_of_ble_eq_true rfl) (Nat.le_refl _) (Nat.le_refl _) ?_
          refine pm_blk (pc' := 102) (L' := [(0, .ref 64), (2, .int x2)]) (S' := []) (M' := sm g q8) [] (by decide +kernel) rfl ?_
          refine pm_goto (off := -95) 7 (by decide +kernel) (by decide) ?_
          refine pm_loc [0, 1] rfl ?_
          exact ih x2 q8 h
        · rw [if_neg hc4] at h
          refine pm_blk (pc' := 55) (L' := [(0, .ref 64), (2, .int x2)]) (S' := [.int ((u.1 64 56) - 1), .ref 105, .ref 64]) (M' := sm g (wi u 64 56 ((u.1 64 56) - 1))) [pm_o (.aload_n 0), pm_o (.aload_n 0), pm_of (.getfield 137) 12 53 2, pm_o (.aload_n 0), pm_of (.getfield 368) 12 56 0] (by decide +kernel) rfl ?_
          obtain ⟨ho9, h⟩ := pm_ifs h
          refine pm_iald (by decide +kernel) rfl (pm_ok_in ho9) ?_
          refine pm_blk (pc' := 64) (L' := [(0, .ref 64), (2, .int x2)]) (S' := [.int ((u.1 64 56) - 1), .ref 106, .int (u.1 105 (((u.1 64 56) - 1).toNatClampNeg)), .ref 64]) (M' := sm g (wi u 64 56 ((u.1 64 56) - 1))) [pm_o (.aload_n 0), pm_of (.getfield 140) 12 54 2, pm_o (.aload_n 0), pm_of (.getfield 368) 12 56 0] (by decide +kernel) rfl ?_
          obtain ⟨ho10, h⟩ := pm_ifs h
          refine pm_iald (by decide +kernel) rfl (pm_ok_in ho10) ?_
          refine pm_blk (pc' := 65) (L' := [(0, .ref 64), (2, .int x2)]) (S' := [.int (u.1 106 (((u.1 64 56) - 1).toNatClampNeg)), .int (u.1 105 (((u.1 64 56) - 1).toNatClampNeg)), .ref 64]) (M' := sm g (wi u 64 56 ((u.1 64 56) - 1))) [] (by decide +kernel) rfl ?_
          obtain ⟨q11, hq11, h⟩ := pm_bd h
          refine pm_cV (idx := 450) m_Md_typeTask (c_Md_typeTask l h0 D hT hq11) (As := [.int (u.1 105 (((u.1 64 56) - 1).toNatClampNeg)), .int (u.1 106 (((u.1 64 56) - 1).toNatClampNeg))]) (S0 := []) rfl (by decide +kernel) k_Md_typeTask l_Md_450 (Nat.le_of_ble_eq_true rfl) (Nat.le_of_ble_eq_true rfl) (Nat.le_refl _) (Nat.le_refl _) ?_
          refine pm_blk (pc' := 68) (L' := [(0, .ref 64), (2, .int x2)]) (S' := []) (M' := sm g q11) [] (by decide +kernel) rfl ?_
          refine pm_goto (off := -61) 7 (by decide +kernel) (by decide) ?_
          refine pm_loc [0, 1] rfl ?_
          exact ih x2 q11 h
def F_Md_work (N : Nat) (a1 : Int32) (g : pm_s) (u : pm_J) : Option (pm_J) := K_Md_work_7 N g N ((u.1 64 56) - a1) u
set_option maxHeartbeats 4000000 in
set_option maxRecDepth 100000 in
theorem c_Md_work (l : Launch) (h0 : Nat) (D : pm_D) {g : pm_s} {u : pm_J} (hT : sh_T g) {N : Nat} {a1 : Int32} {out : pm_J} (h : F_Md_work N a1 g u = some out) : pm_C l h0 D m_Md_work (5) [.ref 64, .int a1] (sm g u) none (sm g out) := by
  unfold F_Md_work at h
  refine pm_met (by decide +kernel) (Nat.le_of_ble_eq_true rfl) (Nat.le_refl _) (Nat.le_refl _) ?_
  intro p e R s m args below meth c
  refine pm_blk (pc' := 7) (L' := [(2, .int ((u.1 64 56) - a1)), (0, .ref 64), (1, .int a1)]) (S' := []) (M' := sm g u) [pm_o (.aload_n 0), pm_of (.getfield 368) 12 56 0, pm_o (.iload_n 1), pm_o .isub, pm_o (.istore_n 2)] (by decide +kernel) rfl ?_
  refine pm_loc [1, 0] rfl ?_
  exact w_Md_work_7 l h0 D hT N ((u.1 64 56) - a1) u h
def F_Md_typeText (N : Nat) (g : pm_s) (u : pm_J) : Option (Int32 × pm_J) := (F_Md_later 1 0 0 g (wi u 64 63 0)).bind fun q1 => (F_Md_work N 1 g q1).bind fun q2 => if (q2.1 64 52) = 0 then some (0, q2) else (F_Md_takeType g q2).bind fun q4 => some (q4.1, q4.2)
set_option maxHeartbeats 4000000 in
set_option maxRecDepth 100000 in
theorem c_Md_typeText (l : Launch) (h0 : Nat) (D : pm_D) {g : pm_s} {u : pm_J} (hT : sh_T g) {N : Nat} {out : Int32 × pm_J} (h : F_Md_typeText N g u = some out) : pm_C l h0 D m_Md_typeText (6) [.ref 64] (sm g u) (some (.int out.1)) (sm g out.2) := by
  unfold F_Md_typeText at h
  refine pm_met (by decide +kernel) (Nat.le_of_ble_eq_true rfl) (Nat.le_refl _) (Nat.le_refl _) ?_
  intro p e R s m args below meth c
  refine pm_blk (pc' := 9) (L' := [(0, .ref 64)]) (S' := [.int 0, .int 0, .int 1, .ref 64]) (M' := sm g (wi u 64 63 0)) [pm_o (.aload_n 0), pm_oi (.iconst 0) 0, pm_of (.putfield 394) 12 63 0, pm_o (.aload_n 0), pm_oi (.iconst 1) 1, pm_oi (.iconst 0) 0, pm_oi (.iconst 0) 0] (by decide +kernel) rfl ?_
  obtain ⟨q1, hq1, h⟩ := pm_bd h
  refine pm_cV (idx := 383) m_Md_later (c_Md_later l h0 D hT hq1) (As := [.int 1, .int 0, .int 0]) (S0 := []) rfl (by decide +kernel) k_Md_later l_Md_383 (Nat.le_of_ble_eq_true rfl) (Nat.le_of_ble_eq_true rfl) (Nat.le_refl _) (Nat.le_refl _) ?_
  refine pm_blk (pc' := 14) (L' := [(0, .ref 64)]) (S' := [.int 1, .ref 64]) (M' := sm g q1) [pm_o (.aload_n 0), pm_oi (.iconst 1) 1] (by decide +kernel) rfl ?_
  obtain ⟨q2, hq2, h⟩ := pm_bd h
  refine pm_cV (idx := 447) m_Md_work (c_Md_work l h0 D hT hq2) (As := [.int 1]) (S0 := []) rfl (by decide +kernel) k_Md_work l_Md_447 (Nat.le_of_ble_eq_true rfl) (Nat.le_of_ble_eq_true rfl) (Nat.le_refl _) (Nat.le_refl _) ?_
  refine pm_blk (pc' := 21) (L' := [(0, .ref 64)]) (S' := [.int (q2.1 64 52)]) (M' := sm g q2) [pm_o (.aload_n 0), pm_of (.getfield 349) 12 52 3] (by decide +kernel) rfl ?_
  refine pm_if_eq (off := 10) 31 (by decide +kernel) (by decide) (fun hc3 => ?_) (fun hc3 => ?_)
  · rw [if_pos hc3] at h
    refine pm_blk (pc' := 32) (L' := [(0, .ref 64)]) (S' := [.int 0]) (M' := sm g q2) [pm_oi (.iconst 0) 0] (by decide +kernel) rfl ?_
    have h9 := Option.some.inj h
    subst h9
    exact pm_reti rfl (by decide +kernel) rfl rfl rfl
  · rw [if_neg hc3] at h
    refine pm_blk (pc' := 25) (L' := [(0, .ref 64)]) (S' := [.ref 64]) (M' := sm g q2) [pm_o (.aload_n 0)] (by decide +kernel) rfl ?_
    obtain ⟨q4, hq4, h⟩ := pm_bd h
    refine pm_cV (idx := 387) m_Md_takeType (c_Md_takeType l h0 D hT hq4) (As := []) (S0 := []) rfl (by decide +kernel) k_Md_takeType l_Md_387 (Nat.le_of_ble_eq_true rfl) (Nat.le_of_ble_eq_true rfl) (Nat.le_refl _) (Nat.le_refl _) ?_
    refine pm_blk (pc' := 28) (L' := [(0, .ref 64)]) (S' := [.int q4.1]) (M' := sm g q4.2) [] (by decide +kernel) rfl ?_
    refine pm_goto (off := 4) 32 (by decide +kernel) (by decide) ?_
    have h9 := Option.some.inj h
    subst h9
    exact pm_reti rfl (by decide +kernel) rfl rfl rfl
def K_Md_parameter_104 (N : Nat) (g : pm_s) : Nat → Int32 → Int32 → Int32 → Int32 → Int32 → pm_J → Option (pm_J)
  | 0, _, _, _, _, _, _ => none
  | n + 1, x1, x2, x3, x4, x5, u => if pm_ok x1 30 = true then if (u.1 92 x1.toNatClampNeg) ≤ x5 then if pm_ok x1 30 = true then if pm_ok ((6 * x1) + (u.1 92 x1.toNatClampNeg)) 180 = true then if pm_ok x1 30 = true then if pm_ok ((6 * x1) + (u.1 92 x1.toNatClampNeg)) 180 = true then if pm_ok ((24 * x1) + x3) 720 = true then (F_Md_enter x3 x2 g (wi (wi (wi u 98 (((6 * x1) + (u.1 92 x1.toNatClampNeg)).toNatClampNeg) x2) 99 (((6 * x1) + (u.1 92 x1.toNatClampNeg)).toNatClampNeg) x4) 100 (((24 * x1) + x3).toNatClampNeg) x4)).bind fun q14 => if pm_ok x1 30 = true then if pm_ok x1 30 = true then some (wi q14 92 x1.toNatClampNeg ((q14.1 92 x1.toNatClampNeg) + 1)) else none else none else none else none else none else none else none else if pm_ok ((6 * x1) + x5) 180 = true then (F_Md_isSame N (u.1 98 (((6 * x1) + x5).toNatClampNeg)) x2 g u).bind fun q18 => if q18 = 0 then K_Md_parameter_104 N g  n x1 x2 x3 x4 (x5 + 1) u else (F_Md_wrong x2 g u).bind fun q20 => K_Md_parameter_104 N g  n x1 x2 x3 x4 (x5 + 1) q20 else none else none
set_option maxHeartbeats 4000000 in
set_option maxRecDepth 100000 in
theorem w_Md_parameter_104 (l : Launch) (h0 : Nat) (D : pm_D) {g : pm_s} (hT : sh_T g) {N : Nat} {u0 : pm_J} {out : pm_J} {p : Program} {e : Env} {R : Room} {s : State} {m : MethodId} {args : Array Value} {below : List Frame} {meth : Method} {c : Code} : ∀ (n : Nat) (x1 : Int32) (x2 : Int32) (x3 : Int32) (x4 : Int32) (x5 : Int32) (u : pm_J), K_Md_parameter_104 N g n x1 x2 x3 x4 x5 u = some out → pm_V (p, l, e, R, s, m, args, below, meth, c) m_Md_parameter h0 D (g.1, g.2.1, g.1, g.2.1, 7) (pm_E (p, l, e, R, s, m, args, below, meth, c) h0 D (sm g u0) none (sm g out)) 104 [(0, .ref 64), (1, .int x1), (2, .int x2), (3, .int x3), (4, .int x4), (5, .int x5)] [] (sm g u) := by
  intro n
  induction n with
  | zero => intro x1 x2 x3 x4 x5 u h; cases h
  | succ n ih =>
    intro x1 x2 x3 x4 x5 u h
    rw [K_Md_parameter_104] at h
    refine pm_blk (pc' := 111) (L' := [(0, .ref 64), (1, .int x1), (2, .int x2), (3, .int x3), (4, .int x4), (5, .int x5)]) (S' := [.int x1, .ref 92, .int x5]) (M' := sm g u) [pm_o (.iload 5), pm_o (.aload_n 0), pm_of (.getfield 98) 12 35 2, pm_o (.iload_n 1)] (by decide +kernel) rfl ?_
    obtain ⟨ho7, h⟩ := pm_ifs h
    refine pm_iald (by decide +kernel) rfl (pm_ok_in ho7) ?_
    refine pm_blk (pc' := 112) (L' := [(0, .ref 64), (1, .int x1), (2, .int x2), (3, .int x3), (4, .int x4), (5, .int x5)]) (S' := [.int (u.1 92 x1.toNatClampNeg), .int x5]) (M' := sm g u) [] (by decide +kernel) rfl ?_
    refine pm_ic_ge (off := 34) 146 (by decide +kernel) (by decide) (fun hc8 => ?_) (fun hc8 => ?_)
    · rw [if_pos hc8] at h
      refine pm_blk (pc' := 159) (L' := [(0, .ref 64), (1, .int x1), (2, .int x2), (3, .int x3), (4, .int x4), (5, .int x5)]) (S' := [.int x1, .ref 92, .int (6 * x1), .ref 98]) (M' := sm g u) [pm_o (.aload_n 0), pm_of (.getfield 116) 12 41 2, pm_oi (.bipush 6) 6, pm_o (.iload_n 1), pm_o .imul, pm_o (.aload_n 0), pm_of (.getfield 98) 12 35 2, pm_o (.iload_n 1)] (by decide +kernel) rfl ?_
      obtain ⟨ho9, h⟩ := pm_ifs h
      refine pm_iald (by decide +kernel) rfl (pm_ok_in ho9) ?_
      refine pm_blk (pc' := 162) (L' := [(0, .ref 64), (1, .int x1), (2, .int x2), (3, .int x3), (4, .int x4), (5, .int x5)]) (S' := [.int x2, .int ((6 * x1) + (u.1 92 x1.toNatClampNeg)), .ref 98]) (M' := sm g u) [pm_o .iadd, pm_o (.iload_n 2)] (by decide +kernel) rfl ?_
      obtain ⟨ho10, h⟩ := pm_ifs h
      refine pm_iast (by decide +kernel) rfl  (pm_ok_in ho10) ?_
      refine pm_blk (pc' := 176) (L' := [(0, .ref 64), (1, .int x1), (2, .int x2), (3, .int x3), (4, .int x4), (5, .int x5)]) (S' := [.int x1, .ref 92, .int (6 * x1), .ref 99]) (M' := sm g (wi u 98 (((6 * x1) + (u.1 92 x1.toNatClampNeg)).toNatClampNeg) x2)) [pm_o (.aload_n 0), pm_of (.getfield 119) 12 42 2, pm_oi (.bipush 6) 6, pm_o (.iload_n 1), pm_o .imul, pm_o (.aload_n 0), pm_of (.getfield 98) 12 35 2, pm_o (.iload_n 1)] (by decide +kernel) rfl ?_
      obtain ⟨ho11, h⟩ := pm_ifs h
      refine pm_iald (by decide +kernel) rfl (pm_ok_in ho11) ?_
      refine pm_blk (pc' := 180) (L' := [(0, .ref 64), (1, .int x1), (2, .int x2), (3, .int x3), (4, .int x4), (5, .int x5)]) (S' := [.int x4, .int ((6 * x1) + (u.1 92 x1.toNatClampNeg)), .ref 99]) (M' := sm g (wi u 98 (((6 * x1) + (u.1 92 x1.toNatClampNeg)).toNatClampNeg) x2)) [pm_o .iadd, pm_o (.iload 4)] (by decide +kernel) rfl ?_
      obtain ⟨ho12, h⟩ := pm_ifs h
      refine pm_iast (by decide +kernel) rfl  (pm_ok_in ho12) ?_
      refine pm_blk (pc' := 193) (L' := [(0, .ref 64), (1, .int x1), (2, .int x2), (3, .int x3), (4, .int x4), (5, .int x5)]) (S' := [.int x4, .int ((24 * x1) + x3), .ref 100]) (M' := sm g (wi (wi u 98 (((6 * x1) + (u.1 92 x1.toNatClampNeg)).toNatClampNeg) x2) 99 (((6 * x1) + (u.1 92 x1.toNatClampNeg)).toNatClampNeg) x4)) [pm_o (.aload_n 0), pm_of (.getfield 122) 12 43 2, pm_oi (.bipush 24) 24, pm_o (.iload_n 1), pm_o .imul, pm_o (.iload_n 3), pm_o .iadd, pm_o (.iload 4)] (by decide +kernel) rfl ?_
      obtain ⟨ho13, h⟩ := pm_ifs h
      refine pm_iast (by decide +kernel) rfl  (pm_ok_in ho13) ?_
      refine pm_blk (pc' := 197) (L' := [(0, .ref 64), (1, .int x1), (2, .int x2), (3, .int x3), (4, .int x4), (5, .int x5)]) (S' := [.int x2, .int x3, .ref 64]) (M' := sm g (wi (wi (wi u 98 (((6 * x1) + (u.1 92 x1.toNatClampNeg)).toNatClampNeg) x2) 99 (((6 * x1) + (u.1 92 x1.toNatClampNeg)).toNatClampNeg) x4) 100 (((24 * x1) + x3).toNatClampNeg) x4)) [pm_o (.aload_n 0), pm_o (.iload_n 3), pm_o (.iload_n 2)] (by decide +kernel) rfl ?_
      obtain ⟨q14, hq14, h⟩ := pm_bd h
      refine pm_cV (idx := 409) m_Md_enter (c_Md_enter l h0 D hT hq14) (As := [.int x3, .int x2]) (S0 := []) rfl (by decide +kernel) k_Md_enter l_Md_409 (Nat.le_of_ble_eq_true rfl) (Nat.le_of_ble_eq_true rfl) (Nat.le_refl _) (Nat.le_refl _) ?_
      refine pm_blk (pc' := 206) (L' := [(0, .ref 64), (1, .int x1), (2, .int x2), (3, .int x3), (4, .int x4), (5, .int x5)]) (S' := [.int x1, .ref 92, .int x1, .ref 92]) (M' := sm g q14) [pm_o (.aload_n 0), pm_of (.getfield 98) 12 35 2, pm_o (.iload_n 1), pm_o .dup2] (by decide +kernel) rfl ?_
      obtain ⟨ho15, h⟩ := pm_ifs h
      refine pm_iald (by decide +kernel) rfl (pm_ok_in ho15) ?_
      refine pm_blk (pc' := 209) (L' := [(0, .ref 64), (1, .int x1), (2, .int x2), (3, .int x3), (4, .int x4), (5, .int x5)]) (S' := [.int ((q14.1 92 x1.toNatClampNeg) + 1), .int x1, .ref 92]) (M' := sm g q14) [pm_oi (.iconst 1) 1, pm_o .iadd] (by decide +kernel) rfl ?_
      obtain ⟨ho16, h⟩ := pm_ifs h
      refine pm_iast (by decide +kernel) rfl  (pm_ok_in ho16) ?_
      refine pm_blk (pc' := 210) (L' := [(0, .ref 64), (1, .int x1), (2, .int x2), (3, .int x3), (4, .int x4), (5, .int x5)]) (S' := []) (M' := sm g (wi q14 92 x1.toNatClampNeg ((q14.1 92 x1.toNatClampNeg) + 1))) [] (by decide +kernel) rfl ?_
      have h9 := Option.some.inj h
      subst h9
      exact pm_retv rfl (by decide +kernel) rfl rfl
    · rw [if_neg hc8] at h
      refine pm_blk (pc' := 127) (L' := [(0, .ref 64), (1, .int x1), (2, .int x2), (3, .int x3), (4, .int x4), (5, .int x5)]) (S' := [.int ((6 * x1) + x5), .ref 98, .ref 64]) (M' := sm g u) [pm_o (.aload_n 0), pm_o (.aload_n 0), pm_of (.getfield 116) 12 41 2, pm_oi (.bipush 6) 6, pm_o (.iload_n 1), pm_o .imul, pm_o (.iload 5), pm_o .iadd] (by decide +kernel) rfl ?_
      obtain ⟨ho17, h⟩ := pm_ifs h
      refine pm_iald (by decide +kernel) rfl (pm_ok_in ho17) ?_
      refine pm_blk (pc' := 129) (L' := [(0, .ref 64), (1, .int x1), (2, .int x2), (3, .int x3), (4, .int x4), (5, .int x5)]) (S' := [.int x2, .int (u.1 98 (((6 * x1) + x5).toNatClampNeg)), .ref 64]) (M' := sm g u) [pm_o (.iload_n 2)] (by decide +kernel) rfl ?_
      obtain ⟨q18, hq18, h⟩ := pm_bd h
      refine pm_cV (idx := 365) m_Md_isSame (c_Md_isSame l h0 D hT hq18) (As := [.int (u.1 98 (((6 * x1) + x5).toNatClampNeg)), .int x2]) (S0 := []) rfl (by decide +kernel) k_Md_isSame l_Md_365 (Nat.le_of_ble_eq_true rfl) (Nat.le_of_ble_eq_true rfl) (Nat.le_refl _) (Nat.le_refl _) ?_
      refine pm_blk (pc' := 132) (L' := [(0, .ref 64), (1, .int x1), (2, .int x2), (3, .int x3), (4, .int x4), (5, .int x5)]) (S' := [.int q18]) (M' := sm g u) [] (by decide +kernel) rfl ?_
      refine pm_if_eq (off := 8) 140 (by decide +kernel) (by decide) (fun hc19 => ?_) (fun hc19 => ?_)
      · rw [if_pos hc19] at h
        refine pm_blk (pc' := 143) (L' := [(5, .int (x5 + 1)), (0, .ref 64), (1, .int x1), (2, .int x2), (3, .int x3), (4, .int x4)]) (S' := []) (M' := sm g u) [pm_oi (.iinc 5 1) 1] (by decide +kernel) rfl ?_
        refine pm_goto (off := -39) 104 (by decide +kernel) (by decide) ?_
        refine pm_loc [1, 2, 3, 4, 5, 0] rfl ?_
        exact ih x1 x2 x3 x4 (x5 + 1) u h
      · rw [if_neg hc19] at h
        refine pm_blk (pc' := 137) (L' := [(0, .ref 64), (1, .int x1), (2, .int x2), (3, .int x3), (4, .int x4), (5, .int x5)]) (S' := [.int x2, .ref 64]) (M' := sm g u) [pm_o (.aload_n 0), pm_o (.iload_n 2)] (by decide +kernel) rfl ?_
        obtain ⟨q20, hq20, h⟩ := pm_bd h
        refine pm_cV (idx := 441) m_Md_wrong (c_Md_wrong l h0 D hT hq20) (As := [.int x2]) (S0 := []) rfl (by decide +kernel) k_Md_wrong l_Md_441 (Nat.le_of_ble_eq_true rfl) (Nat.le_of_ble_eq_true rfl) (Nat.le_refl _) (Nat.le_refl _) ?_
        refine pm_blk (pc' := 143) (L' := [(5, .int (x5 + 1)), (0, .ref 64), (1, .int x1), (2, .int x2), (3, .int x3), (4, .int x4)]) (S' := []) (M' := sm g q20) [pm_oi (.iinc 5 1) 1] (by decide +kernel) rfl ?_
        refine pm_goto (off := -39) 104 (by decide +kernel) (by decide) ?_
        refine pm_loc [1, 2, 3, 4, 5, 0] rfl ?_
        exact ih x1 x2 x3 x4 (x5 + 1) q20 h
def K_Md_parameter_86 (N : Nat) (g : pm_s) (x1 : Int32) (x2 : Int32) (x3 : Int32) (t0 : Int32) (u : pm_J) : Option (pm_J) := (F_Md_expect N 16 g u).bind fun q5 => if (q5.1 64 52) = 0 then some q5 else K_Md_parameter_104 N g N x1 x2 x3 t0 0 q5
set_option maxHeartbeats 4000000 in
set_option maxRecDepth 100000 in
theorem w_Md_parameter_86 (l : Launch) (h0 : Nat) (D : pm_D) {g : pm_s} (hT : sh_T g) {N : Nat} {u0 : pm_J} {out : pm_J} {p : Program} {e : Env} {R : Room} {s : State} {m : MethodId} {args : Array Value} {below : List Frame} {meth : Method} {c : Code} : ∀ (x1 : Int32) (x2 : Int32) (x3 : Int32) (t0 : Int32) (u : pm_J), K_Md_parameter_86 N g x1 x2 x3 t0 u = some out → pm_V (p, l, e, R, s, m, args, below, meth, c) m_Md_parameter h0 D (g.1, g.2.1, g.1, g.2.1, 7) (pm_E (p, l, e, R, s, m, args, below, meth, c) h0 D (sm g u0) none (sm g out)) 86 [(0, .ref 64), (1, .int x1), (2, .int x2), (3, .int x3)] [.int t0] (sm g u) := by
    intro x1 x2 x3 t0 u h
    unfold K_Md_parameter_86 at h
    refine pm_blk (pc' := 91) (L' := [(4, .int t0), (0, .ref 64), (1, .int x1), (2, .int x2), (3, .int x3)]) (S' := [.int 16, .ref 64]) (M' := sm g u) [pm_o (.istore 4), pm_o (.aload_n 0), pm_oi (.bipush 16) 16] (by decide +kernel) rfl ?_
    obtain ⟨q5, hq5, h⟩ := pm_bd h
    refine pm_cV (idx := 397) m_Md_expect (c_Md_expect l h0 D hT hq5) (As := [.int 16]) (S0 := []) rfl (by decide +kernel) k_Md_expect l_Md_397 (Nat.le_of_ble_eq_true rfl) (Nat.le_of_ble_eq_true rfl) (Nat.le_refl _) (Nat.le_refl _) ?_
    refine pm_blk (pc' := 98) (L' := [(4, .int t0), (0, .ref 64), (1, .int x1), (2, .int x2), (3, .int x3)]) (S' := [.int (q5.1 64 52)]) (M' := sm g q5) [pm_o (.aload_n 0), pm_of (.getfield 349) 12 52 3] (by decide +kernel) rfl ?_
    refine pm_if_eq (off := 112) 210 (by decide +kernel) (by decide) (fun hc6 => ?_) (fun hc6 => ?_)
    · rw [if_pos hc6] at h
      have h9 := Option.some.inj h
      subst h9
      exact pm_retv rfl (by decide +kernel) rfl rfl
    · rw [if_neg hc6] at h
      refine pm_blk (pc' := 104) (L' := [(5, .int 0), (4, .int t0), (0, .ref 64), (1, .int x1), (2, .int x2), (3, .int x3)]) (S' := []) (M' := sm g q5) [pm_oi (.iconst 0) 0, pm_o (.istore 5)] (by decide +kernel) rfl ?_
      refine pm_loc [2, 3, 4, 5, 1, 0] rfl ?_
      exact w_Md_parameter_104 l h0 D hT N x1 x2 x3 t0 0 q5 h
def K_Md_parameter_60 (N : Nat) (g : pm_s) (x1 : Int32) (x2 : Int32) (u : pm_J) : Option (pm_J) := (F_Md_declare N g u).bind fun q2 => (F_Md_expect N 17 g q2.2).bind fun q3 => if (q3.1 64 52) = 0 then K_Md_parameter_86 N g x1 x2 q2.1 0 q3 else (F_Md_typeText N g q3).bind fun q21 => K_Md_parameter_86 N g x1 x2 q2.1 q21.1 q21.2
set_option maxHeartbeats 4000000 in
set_option maxRecDepth 100000 in
theorem w_Md_parameter_60 (l : Launch) (h0 : Nat) (D : pm_D) {g : pm_s} (hT : sh_T g) {N : Nat} {u0 : pm_J} {out : pm_J} {p : Program} {e : Env} {R : Room} {s : State} {m : MethodId} {args : Array Value} {below : List Frame} {meth : Method} {c : Code} : ∀ (x1 : Int32) (x2 : Int32) (u : pm_J), K_Md_parameter_60 N g x1 x2 u = some out → pm_V (p, l, e, R, s, m, args, below, meth, c) m_Md_parameter h0 D (g.1, g.2.1, g.1, g.2.1, 7) (pm_E (p, l, e, R, s, m, args, below, meth, c) h0 D (sm g u0) none (sm g out)) 60 [(0, .ref 64), (1, .int x1), (2, .int x2)] [] (sm g u) := by
    intro x1 x2 u h
    unfold K_Md_parameter_60 at h
    refine pm_blk (pc' := 61) (L' := [(0, .ref 64), (1, .int x1), (2, .int x2)]) (S' := [.ref 64]) (M' := sm g u) [pm_o (.aload_n 0)] (by decide +kernel) rfl ?_
    obtain ⟨q2, hq2, h⟩ := pm_bd h
    refine pm_cV (idx := 403) m_Md_declare (c_Md_declare l h0 D hT hq2) (As := []) (S0 := []) rfl (by decide +kernel) k_Md_declare l_Md_403 (Nat.le_of_ble_eq_true rfl) (Nat.le_of_ble_eq_true rfl) (Nat.le_refl _) (Nat.le_refl _) ?_
    refine pm_blk (pc' := 68) (L' := [(3, .int q2.1), (0, .ref 64), (1, .int x1), (2, .int x2)]) (S' := [.int 17, .ref 64]) (M' := sm g q2.2) [pm_o (.istore_n 3), pm_o (.aload_n 0), pm_oi (.bipush 17) 17] (by decide +kernel) rfl ?_
    obtain ⟨q3, hq3, h⟩ := pm_bd h
    refine pm_cV (idx := 397) m_Md_expect (c_Md_expect l h0 D hT hq3) (As := [.int 17]) (S0 := []) rfl (by decide +kernel) k_Md_expect l_Md_397 (Nat.le_of_ble_eq_true rfl) (Nat.le_of_ble_eq_true rfl) (Nat.le_refl _) (Nat.le_refl _) ?_
    refine pm_blk (pc' := 75) (L' := [(3, .int q2.1), (0, .ref 64), (1, .int x1), (2, .int x2)]) (S' := [.int (q3.1 64 52)]) (M' := sm g q3) [pm_o (.aload_n 0), pm_of (.getfield 349) 12 52 3] (by decide +kernel) rfl ?_
    refine pm_if_eq (off := 10) 85 (by decide +kernel) (by decide) (fun hc4 => ?_) (fun hc4 => ?_)
    · rw [if_pos hc4] at h
      refine pm_blk (pc' := 86) (L' := [(3, .int q2.1), (0, .ref 64), (1, .int x1), (2, .int x2)]) (S' := [.int 0]) (M' := sm g q3) [pm_oi (.iconst 0) 0] (by decide +kernel) rfl ?_
      refine pm_loc [1, 2, 3, 0] rfl ?_
      exact w_Md_parameter_86 l h0 D hT x1 x2 q2.1 0 q3 h
    · rw [if_neg hc4] at h
      refine pm_blk (pc' := 79) (L' := [(3, .int q2.1), (0, .ref 64), (1, .int x1), (2, .int x2)]) (S' := [.ref 64]) (M' := sm g q3) [pm_o (.aload_n 0)] (by decide +kernel) rfl ?_
      obtain ⟨q21, hq21, h⟩ := pm_bd h
      refine pm_cV (idx := 456) m_Md_typeText (c_Md_typeText l h0 D hT hq21) (As := []) (S0 := []) rfl (by decide +kernel) k_Md_typeText l_Md_456 (Nat.le_of_ble_eq_true rfl) (Nat.le_of_ble_eq_true rfl) (Nat.le_refl _) (Nat.le_refl _) ?_
      refine pm_blk (pc' := 82) (L' := [(3, .int q2.1), (0, .ref 64), (1, .int x1), (2, .int x2)]) (S' := [.int q21.1]) (M' := sm g q21.2) [] (by decide +kernel) rfl ?_
      refine pm_goto (off := 4) 86 (by decide +kernel) (by decide) ?_
      refine pm_loc [1, 2, 3, 0] rfl ?_
      exact w_Md_parameter_86 l h0 D hT x1 x2 q2.1 q21.1 q21.2 h
def F_Md_parameter (N : Nat) (g : pm_s) (u : pm_J) : Option (pm_J) := if (u.1 64 52) = 0 then K_Md_parameter_60 N g (u.1 64 44) ((u.1 64 51) + 1) (wi u 64 51 ((u.1 64 51) + 1)) else if pm_ok ((u.1 64 51) + 1) 902 = true then if (u.1 66 (((u.1 64 51) + 1).toNatClampNeg)) = 1 then if pm_ok (u.1 64 44) 30 = true then if (u.1 92 ((u.1 64 44).toNatClampNeg)) = 6 then (F_Md_stop 4 ((u.1 64 51) + 1) g (wi u 64 51 ((u.1 64 51) + 1))).bind fun q26 => K_Md_parameter_60 N g (u.1 64 44) ((u.1 64 51) + 1) q26 else K_Md_parameter_60 N g (u.1 64 44) ((u.1 64 51) + 1) (wi u 64 51 ((u.1 64 51) + 1)) else none else K_Md_parameter_60 N g (u.1 64 44) ((u.1 64 51) + 1) (wi u 64 51 ((u.1 64 51) + 1)) else none
set_option maxHeartbeats 4000000 in
set_option maxRecDepth 100000 in
theorem c_Md_parameter (l : Launch) (h0 : Nat) (D : pm_D) {g : pm_s} {u : pm_J} (hT : sh_T g) {N : Nat} {out : pm_J} (h : F_Md_parameter N g u = some out) : pm_C l h0 D m_Md_parameter (7) [.ref 64] (sm g u) none (sm g out) := by
  unfold F_Md_parameter at h
  refine pm_met (by decide +kernel) (Nat.le_of_ble_eq_true rfl) (Nat.le_refl _) (Nat.le_refl _) ?_
  intro p e R s m args below meth c
  refine pm_blk (pc' := 24) (L' := [(2, .int ((u.1 64 51) + 1)), (1, .int (u.1 64 44)), (0, .ref 64)]) (S' := [.int (u.1 64 52)]) (M' := sm g (wi u 64 51 ((u.1 64 51) + 1))) [pm_o (.aload_n 0), pm_of (.getfield 256) 12 44 0, pm_o (.istore_n 1), pm_o (.aload_n 0), pm_o .dup, pm_of (.getfield 352) 12 51 0, pm_oi (.iconst 1) 1, pm_o .iadd, pm_of (.putfield 352) 12 51 0, pm_o (.aload_n 0), pm_of (.getfield 352) 12 51 0, pm_o (.istore_n 2), pm_o (.aload_n 0), pm_of (.getfield 349) 12 52 3] (by decide +kernel) rfl ?_
  refine pm_if_eq (off := 36) 60 (by decide +kernel) (by decide) (fun hc1 => ?_) (fun hc1 => ?_)
  · rw [if_pos hc1] at h
    refine pm_loc [2, 1, 0] rfl ?_
    exact w_Md_parameter_60 l h0 D hT (u.1 64 44) ((u.1 64 51) + 1) (wi u 64 51 ((u.1 64 51) + 1)) h
  · rw [if_neg hc1] at h
    refine pm_blk (pc' := 35) (L' := [(2, .int ((u.1 64 51) + 1)), (1, .int (u.1 64 44)), (0, .ref 64)]) (S' := [.int ((u.1 64 51) + 1), .ref 66]) (M' := sm g (wi u 64 51 ((u.1 64 51) + 1))) [pm_o (.aload_n 0), pm_of (.getfield 17) 12 6 2, pm_o (.aload_n 0), pm_of (.getfield 352) 12 51 0] (by decide +kernel) rfl ?_
    obtain ⟨ho22, h⟩ := pm_ifs h
    refine pm_iald (by decide +kernel) rfl (pm_ok_in ho22) ?_
    refine pm_blk (pc' := 37) (L' := [(2, .int ((u.1 64 51) + 1)), (1, .int (u.1 64 44)), (0, .ref 64)]) (S' := [.int 1, .int (u.1 66 (((u.1 64 51) + 1).toNatClampNeg))]) (M' := sm g (wi u 64 51 ((u.1 64 51) + 1))) [pm_oi (.iconst 1) 1] (by decide +kernel) rfl ?_
    refine pm_ic_ne (off := 23) 60 (by decide +kernel) (by decide) (fun hc23 => ?_) (fun hc23 => ?_)
    · rw [if_neg hc23] at h
      refine pm_loc [2, 1, 0] rfl ?_
      exact w_Md_parameter_60 l h0 D hT (u.1 64 44) ((u.1 64 51) + 1) (wi u 64 51 ((u.1 64 51) + 1)) h
    · rw [if_pos hc23] at h
      refine pm_blk (pc' := 45) (L' := [(2, .int ((u.1 64 51) + 1)), (1, .int (u.1 64 44)), (0, .ref 64)]) (S' := [.int (u.1 64 44), .ref 92]) (M' := sm g (wi u 64 51 ((u.1 64 51) + 1))) [pm_o (.aload_n 0), pm_of (.getfield 98) 12 35 2, pm_o (.iload_n 1)] (by decide +kernel) rfl ?_
      obtain ⟨ho24, h⟩ := pm_ifs h
      refine pm_iald (by decide +kernel) rfl (pm_ok_in ho24) ?_
      refine pm_blk (pc' := 48) (L' := [(2, .int ((u.1 64 51) + 1)), (1, .int (u.1 64 44)), (0, .ref 64)]) (S' := [.int 6, .int (u.1 92 ((u.1 64 44).toNatClampNeg))]) (M' := sm g (wi u 64 51 ((u.1 64 51) + 1))) [pm_oi (.bipush 6) 6] (by decide +kernel) rfl ?_
      refine pm_ic_ne (off := 12) 60 (by decide +kernel) (by decide) (fun hc25 => ?_) (fun hc25 => ?_)
      · rw [if_neg hc25] at h
        refine pm_loc [2, 1, 0] rfl ?_
        exact w_Md_parameter_60 l h0 D hT (u.1 64 44) ((u.1 64 51) + 1) (wi u 64 51 ((u.1 64 51) + 1)) h
      · rw [if_pos hc25] at h
        refine pm_blk (pc' := 57) (L' := [(2, .int ((u.1 64 51) + 1)), (1, .int (u.1 64 44)), (0, .ref 64)]) (S' := [.int ((u.1 64 51) + 1), .int 4, .ref 64]) (M' := sm g (wi u 64 51 ((u.1 64 51) + 1))) [pm_o (.aload_n 0), pm_oi (.iconst 4) 4, pm_o (.aload_n 0), pm_of (.getfield 352) 12 51 0] (by decide +kernel) rfl ?_
        obtain ⟨q26, hq26, h⟩ := pm_bd h
        refine pm_cV (idx := 355) m_Md_stop (c_Md_stop l h0 D hT hq26) (As := [.int 4, .int ((u.1 64 51) + 1)]) (S0 := []) rfl (by decide +kernel) k_Md_stop l_Md_355 (Nat.le_of_ble_eq_true rfl) (Nat.le_of_ble_eq_true rfl) (Nat.le_refl _) (Nat.le_refl _) ?_
        refine pm_blk (pc' := 60) (L' := [(2, .int ((u.1 64 51) + 1)), (1, .int (u.1 64 44)), (0, .ref 64)]) (S' := []) (M' := sm g q26) [] (by decide +kernel) rfl ?_
        refine pm_loc [2, 1, 0] rfl ?_
        exact w_Md_parameter_60 l h0 D hT (u.1 64 44) ((u.1 64 51) + 1) q26 h
def K_Md_define_231 (N : Nat) (g : pm_s) (x1 : Int32) (u : pm_J) : Option (pm_J) := (F_Md_expect N 19 g u).bind fun q16 => if pm_ok x1 30 = true then if (q16.1 64 52) = 0 then some (wi (wi q16 94 x1.toNatClampNeg (q16.1 64 64)) 64 44 ((q16.1 64 44) + 0)) else some (wi (wi q16 94 x1.toNatClampNeg (q16.1 64 64)) 64 44 ((q16.1 64 44) + 1)) else none
set_option maxHeartbeats 4000000 in
set_option maxRecDepth 100000 in
theorem w_Md_define_231 (l : Launch) (h0 : Nat) (D : pm_D) {g : pm_s} (hT : sh_T g) {N : Nat} {u0 : pm_J} {out : pm_J} {p : Program} {e : Env} {R : Room} {s : State} {m : MethodId} {args : Array Value} {below : List Frame} {meth : Method} {c : Code} : ∀ (x1 : Int32) (u : pm_J), K_Md_define_231 N g x1 u = some out → pm_V (p, l, e, R, s, m, args, below, meth, c) m_Md_define h0 D (g.1, g.2.1, g.1, g.2.1, 8) (pm_E (p, l, e, R, s, m, args, below, meth, c) h0 D (sm g u0) none (sm g out)) 231 [(0, .ref 64), (1, .int x1)] [] (sm g u) := by
    intro x1 u h
    unfold K_Md_define_231 at h
    refine pm_blk (pc' := 234) (L' := [(0, .ref 64), (1, .int x1)]) (S' := [.int 19, .ref 64]) (M' := sm g u) [pm_o (.aload_n 0), pm_oi (.bipush 19) 19] (by decide +kernel) rfl ?_
    obtain ⟨q16, hq16, h⟩ := pm_bd h
    refine pm_cV (idx := 397) m_Md_expect (c_Md_expect l h0 D hT hq16) (As := [.int 19]) (S0 := []) rfl (by decide +kernel) k_Md_expect l_Md_397 (Nat.le_of_ble_eq_true rfl) (Nat.le_of_ble_eq_true rfl) (Nat.le_refl _) (Nat.le_refl _) ?_
    refine pm_blk (pc' := 246) (L' := [(0, .ref 64), (1, .int x1)]) (S' := [.int (q16.1 64 64), .int x1, .ref 94]) (M' := sm g q16) [pm_o (.aload_n 0), pm_of (.getfield 104) 12 37 2, pm_o (.iload_n 1), pm_o (.aload_n 0), pm_of (.getfield 359) 12 64 0] (by decide +kernel) rfl ?_
    obtain ⟨ho17, h⟩ := pm_ifs h
    refine pm_iast (by decide +kernel) rfl  (pm_ok_in ho17) ?_
    refine pm_blk (pc' := 256) (L' := [(0, .ref 64), (1, .int x1)]) (S' := [.int (q16.1 64 52), .int (q16.1 64 44), .ref 64]) (M' := sm g (wi q16 94 x1.toNatClampNeg (q16.1 64 64))) [pm_o (.aload_n 0), pm_o .dup, pm_of (.getfield 256) 12 44 0, pm_o (.aload_n 0), pm_of (.getfield 349) 12 52 3] (by decide +kernel) rfl ?_
    refine pm_if_eq (off := 7) 263 (by decide +kernel) (by decide) (fun hc18 => ?_) (fun hc18 => ?_)
    · rw [if_pos hc18] at h
      refine pm_blk (pc' := 268) (L' := [(0, .ref 64), (1, .int x1)]) (S' := []) (M' := sm g (wi (wi q16 94 x1.toNatClampNeg (q16.1 64 64)) 64 44 ((q16.1 64 44) + 0))) [pm_oi (.iconst 0) 0, pm_o .iadd, pm_of (.putfield 256) 12 44 0] (by decide +kernel) rfl ?_
      have h9 := Option.some.inj h
      subst h9
      exact pm_retv rfl (by decide +kernel) rfl rfl
    · rw [if_neg hc18] at h
      refine pm_blk (pc' := 260) (L' := [(0, .ref 64), (1, .int x1)]) (S' := [.int 1, .int (q16.1 64 44), .ref 64]) (M' := sm g (wi q16 94 x1.toNatClampNeg (q16.1 64 64))) [pm_oi (.iconst 1) 1] (by decide +kernel) rfl ?_
      refine pm_goto (off := 4) 264 (by decide +kernel) (by decide) ?_
      refine pm_blk (pc' := 268) (L' := [(0, .ref 64), (1, .int x1)]) (S' := []) (M' := sm g (wi (wi q16 94 x1.toNatClampNeg (q16.1 64 64)) 64 44 ((q16.1 64 44) + 1))) [pm_o .iadd, pm_of (.putfield 256) 12 44 0] (by decide +kernel) rfl ?_
      have h9 := Option.some.inj h
      subst h9
      exact pm_retv rfl (by decide +kernel) rfl rfl
def K_Md_define_214 (N : Nat) (g : pm_s) (x1 : Int32) (u : pm_J) : Option (pm_J) := if (u.1 64 52) = 0 then K_Md_define_231 N g x1 u else (F_Md_take g u).bind fun q19 => if pm_ok x1 30 = true then K_Md_define_231 N g x1 (wi q19.2 96 x1.toNatClampNeg q19.1) else none
set_option maxHeartbeats 4000000 in
set_option maxRecDepth 100000 in
theorem w_Md_define_214 (l : Launch) (h0 : Nat) (D : pm_D) {g : pm_s} (hT : sh_T g) {N : Nat} {u0 : pm_J} {out : pm_J} {p : Program} {e : Env} {R : Room} {s : State} {m : MethodId} {args : Array Value} {below : List Frame} {meth : Method} {c : Code} : ∀ (x1 : Int32) (u : pm_J), K_Md_define_214 N g x1 u = some out → pm_V (p, l, e, R, s, m, args, below, meth, c) m_Md_define h0 D (g.1, g.2.1, g.1, g.2.1, 8) (pm_E (p, l, e, R, s, m, args, below, meth, c) h0 D (sm g u0) none (sm g out)) 214 [(0, .ref 64), (1, .int x1)] [] (sm g u) := by
    intro x1 u h
    unfold K_Md_define_214 at h
    refine pm_blk (pc' := 218) (L' := [(0, .ref 64), (1, .int x1)]) (S' := [.int (u.1 64 52)]) (M' := sm g u) [pm_o (.aload_n 0), pm_of (.getfield 349) 12 52 3] (by decide +kernel) rfl ?_
    refine pm_if_eq (off := 13) 231 (by decide +kernel) (by decide) (fun hc15 => ?_) (fun hc15 => ?_)
    · rw [if_pos hc15] at h
      refine pm_loc [0, 1] rfl ?_
      exact w_Md_define_231 l h0 D hT x1 u h
    · rw [if_neg hc15] at h
      refine pm_blk (pc' := 227) (L' := [(0, .ref 64), (1, .int x1)]) (S' := [.ref 64, .int x1, .ref 96]) (M' := sm g u) [pm_o (.aload_n 0), pm_of (.getfield 110) 12 39 2, pm_o (.iload_n 1), pm_o (.aload_n 0)] (by decide +kernel) rfl ?_
      obtain ⟨q19, hq19, h⟩ := pm_bd h
      refine pm_cV (idx := 412) m_Md_take (c_Md_take l h0 D hT hq19) (As := []) (S0 := [.int x1, .ref 96]) rfl (by decide +kernel) k_Md_take l_Md_412 (Nat.le_of_ble_eq_true rfl) (Nat.le_of_ble_eq_true rfl) (Nat.le_refl _) (Nat.le_refl _) ?_
      refine pm_blk (pc' := 230) (L' := [(0, .ref 64), (1, .int x1)]) (S' := [.int q19.1, .int x1, .ref 96]) (M' := sm g q19.2) [] (by decide +kernel) rfl ?_
      obtain ⟨ho20, h⟩ := pm_ifs h
      refine pm_iast (by decide +kernel) rfl  (pm_ok_in ho20) ?_
      refine pm_blk (pc' := 231) (L' := [(0, .ref 64), (1, .int x1)]) (S' := []) (M' := sm g (wi q19.2 96 x1.toNatClampNeg q19.1)) [] (by decide +kernel) rfl ?_
      refine pm_loc [0, 1] rfl ?_
      exact w_Md_define_231 l h0 D hT x1 (wi q19.2 96 x1.toNatClampNeg q19.1) h
def K_Md_define_172 (N : Nat) (g : pm_s) (x1 : Int32) (x2 : Int32) (t0 : Int32) (t1 : Int32) (u : pm_J) : Option (pm_J) := if pm_ok t1 30 = true then (F_Md_checkLetters N x2 g (wi u 93 t1.toNatClampNeg t0)).bind fun q11 => (F_Md_expect N 18 g q11).bind fun q12 => if pm_ok x1 30 = true then if (q12.1 64 52) = 0 then K_Md_define_214 N g x1 (wi q12 95 x1.toNatClampNeg (q12.1 64 33)) else (F_Md_later 10 0 0 g (wi q12 95 x1.toNatClampNeg (q12.1 64 33))).bind fun q21 => (F_Md_work N 1 g q21).bind fun q22 => K_Md_define_214 N g x1 q22 else none else none
set_option maxHeartbeats 4000000 in
set_option maxRecDepth 100000 in
theorem w_Md_define_172 (l : Launch) (h0 : Nat) (D : pm_D) {g : pm_s} (hT : sh_T g) {N : Nat} {u0 : pm_J} {out : pm_J} {p : Program} {e : Env} {R : Room} {s : State} {m : MethodId} {args : Array Value} {below : List Frame} {meth : Method} {c : Code} : ∀ (x1 : Int32) (x2 : Int32) (t0 : Int32) (t1 : Int32) (u : pm_J), K_Md_define_172 N g x1 x2 t0 t1 u = some out → pm_V (p, l, e, R, s, m, args, below, meth, c) m_Md_define h0 D (g.1, g.2.1, g.1, g.2.1, 8) (pm_E (p, l, e, R, s, m, args, below, meth, c) h0 D (sm g u0) none (sm g out)) 172 [(0, .ref 64), (1, .int x1), (2, .int x2)] [.int t0, .int t1, .ref 93] (sm g u) := by
    intro x1 x2 t0 t1 u h
    unfold K_Md_define_172 at h
    obtain ⟨ho10, h⟩ := pm_ifs h
    refine pm_iast (by decide +kernel) rfl  (pm_ok_in ho10) ?_
    refine pm_blk (pc' := 175) (L' := [(0, .ref 64), (1, .int x1), (2, .int x2)]) (S' := [.int x2, .ref 64]) (M' := sm g (wi u 93 t1.toNatClampNeg t0)) [pm_o (.aload_n 0), pm_o (.iload_n 2)] (by decide +kernel) rfl ?_
    obtain ⟨q11, hq11, h⟩ := pm_bd h
    refine pm_cV (idx := 444) m_Md_checkLetters (c_Md_checkLetters l h0 D hT hq11) (As := [.int x2]) (S0 := []) rfl (by decide +kernel) k_Md_checkLetters l_Md_444 (Nat.le_of_ble_eq_true rfl) (Nat.le_of_ble_eq_true rfl) (Nat.le_refl _) (Nat.le_refl _) ?_
    refine pm_blk (pc' := 181) (L' := [(0, .ref 64), (1, .int x1), (2, .int x2)]) (S' := [.int 18, .ref 64]) (M' := sm g q11) [pm_o (.aload_n 0), pm_oi (.bipush 18) 18] (by decide +kernel) rfl ?_
    obtain ⟨q12, hq12, h⟩ := pm_bd h
    refine pm_cV (idx := 397) m_Md_expect (c_Md_expect l h0 D hT hq12) (As := [.int 18]) (S0 := []) rfl (by decide +kernel) k_Md_expect l_Md_397 (Nat.le_of_ble_eq_true rfl) (Nat.le_of_ble_eq_true rfl) (Nat.le_refl _) (Nat.le_refl _) ?_
    refine pm_blk (pc' := 193) (L' := [(0, .ref 64), (1, .int x1), (2, .int x2)]) (S' := [.int (q12.1 64 33), .int x1, .ref 95]) (M' := sm g q12) [pm_o (.aload_n 0), pm_of (.getfield 107) 12 38 2, pm_o (.iload_n 1), pm_o (.aload_n 0), pm_of (.getfield 377) 12 33 0] (by decide +kernel) rfl ?_
    obtain ⟨ho13, h⟩ := pm_ifs h
    refine pm_iast (by decide +kernel) rfl  (pm_ok_in ho13) ?_
    refine pm_blk (pc' := 198) (L' := [(0, .ref 64), (1, .int x1), (2, .int x2)]) (S' := [.int (q12.1 64 52)]) (M' := sm g (wi q12 95 x1.toNatClampNeg (q12.1 64 33))) [pm_o (.aload_n 0), pm_of (.getfield 349) 12 52 3] (by decide +kernel) rfl ?_
    refine pm_if_eq (off := 16) 214 (by decide +kernel) (by decide) (fun hc14 => ?_) (fun hc14 => ?_)
    · rw [if_pos hc14] at h
      refine pm_loc [0, 1] rfl ?_
      exact w_Md_define_214 l h0 D hT x1 (wi q12 95 x1.toNatClampNeg (q12.1 64 33)) h
    · rw [if_neg hc14] at h
      refine pm_blk (pc' := 206) (L' := [(0, .ref 64), (1, .int x1), (2, .int x2)]) (S' := [.int 0, .int 0, .int 10, .ref 64]) (M' := sm g (wi q12 95 x1.toNatClampNeg (q12.1 64 33))) [pm_o (.aload_n 0), pm_oi (.bipush 10) 10, pm_oi (.iconst 0) 0, pm_oi (.iconst 0) 0] (by decide +kernel) rfl ?_
      obtain ⟨q21, hq21, h⟩ := pm_bd h
      refine pm_cV (idx := 383) m_Md_later (c_Md_later l h0 D hT hq21) (As := [.int 10, .int 0, .int 0]) (S0 := []) rfl (by decide +kernel) k_Md_later l_Md_383 (Nat.le_of_ble_eq_true rfl) (Nat.le_of_ble_eq_true rfl) (Nat.le_refl _) (Nat.le_refl _) ?_
      refine pm_blk (pc' := 211) (L' := [(0, .ref 64), (1, .int x1), (2, .int x2)]) (S' := [.int 1, .ref 64]) (M' := sm g q21) [pm_o (.aload_n 0), pm_oi (.iconst 1) 1] (by decide +kernel) rfl ?_
      obtain ⟨q22, hq22, h⟩ := pm_bd h
      refine pm_cV (idx := 447) m_Md_work (c_Md_work l h0 D hT hq22) (As := [.int 1]) (S0 := []) rfl (by decide +kernel) k_Md_work l_Md_447 (Nat.le_of_ble_eq_true rfl) (Nat.le_of_ble_eq_true rfl) (Nat.le_refl _) (Nat.le_refl _) ?_
      refine pm_blk (pc' := 214) (L' := [(0, .ref 64), (1, .int x1), (2, .int x2)]) (S' := []) (M' := sm g q22) [] (by decide +kernel) rfl ?_
      refine pm_loc [0, 1] rfl ?_
      exact w_Md_define_214 l h0 D hT x1 q22 h
def K_Md_define_141 (N : Nat) (g : pm_s) (x1 : Int32) (u : pm_J) : Option (pm_J) := (F_Md_expect N 17 g u).bind fun q8 => if (q8.1 64 52) = 0 then K_Md_define_172 N g x1 (q8.1 64 51) 0 x1 q8 else (F_Md_typeText N g q8).bind fun q23 => K_Md_define_172 N g x1 (q8.1 64 51) q23.1 x1 q23.2
set_option maxHeartbeats 4000000 in
set_option maxRecDepth 100000 in
theorem w_Md_define_141 (l : Launch) (h0 : Nat) (D : pm_D) {g : pm_s} (hT : sh_T g) {N : Nat} {u0 : pm_J} {out : pm_J} {p : Program} {e : Env} {R : Room} {s : State} {m : MethodId} {args : Array Value} {below : List Frame} {meth : Method} {c : Code} : ∀ (x1 : Int32) (u : pm_J), K_Md_define_141 N g x1 u = some out → pm_V (p, l, e, R, s, m, args, below, meth, c) m_Md_define h0 D (g.1, g.2.1, g.1, g.2.1, 8) (pm_E (p, l, e, R, s, m, args, below, meth, c) h0 D (sm g u0) none (sm g out)) 141 [(0, .ref 64), (1, .int x1)] [] (sm g u) := by
    intro x1 u h
    unfold K_Md_define_141 at h
    refine pm_blk (pc' := 144) (L' := [(0, .ref 64), (1, .int x1)]) (S' := [.int 17, .ref 64]) (M' := sm g u) [pm_o (.aload_n 0), pm_oi (.bipush 17) 17] (by decide +kernel) rfl ?_
    obtain ⟨q8, hq8, h⟩ := pm_bd h
    refine pm_cV (idx := 397) m_Md_expect (c_Md_expect l h0 D hT hq8) (As := [.int 17]) (S0 := []) rfl (by decide +kernel) k_Md_expect l_Md_397 (Nat.le_of_ble_eq_true rfl) (Nat.le_of_ble_eq_true rfl) (Nat.le_refl _) (Nat.le_refl _) ?_
    refine pm_blk (pc' := 161) (L' := [(2, .int (q8.1 64 51)), (0, .ref 64), (1, .int x1)]) (S' := [.int (q8.1 64 52), .int x1, .ref 93]) (M' := sm g q8) [pm_o (.aload_n 0), pm_of (.getfield 352) 12 51 0, pm_o (.istore_n 2), pm_o (.aload_n 0), pm_of (.getfield 101) 12 36 2, pm_o (.iload_n 1), pm_o (.aload_n 0), pm_of (.getfield 349) 12 52 3] (by decide +kernel) rfl ?_
    refine pm_if_eq (off := 10) 171 (by decide +kernel) (by decide) (fun hc9 => ?_) (fun hc9 => ?_)
    · rw [if_pos hc9] at h
      refine pm_blk (pc' := 172) (L' := [(2, .int (q8.1 64 51)), (0, .ref 64), (1, .int x1)]) (S' := [.int 0, .int x1, .ref 93]) (M' := sm g q8) [pm_oi (.iconst 0) 0] (by decide +kernel) rfl ?_
      refine pm_loc [1, 2, 0] rfl ?_
      exact w_Md_define_172 l h0 D hT x1 (q8.1 64 51) 0 x1 q8 h
    · rw [if_neg hc9] at h
      refine pm_blk (pc' := 165) (L' := [(2, .int (q8.1 64 51)), (0, .ref 64), (1, .int x1)]) (S' := [.ref 64, .int x1, .ref 93]) (M' := sm g q8) [pm_o (.aload_n 0)] (by decide +kernel) rfl ?_
      obtain ⟨q23, hq23, h⟩ := pm_bd h
      refine pm_cV (idx := 456) m_Md_typeText (c_Md_typeText l h0 D hT hq23) (As := []) (S0 := [.int x1, .ref 93]) rfl (by decide +kernel) k_Md_typeText l_Md_456 (Nat.le_of_ble_eq_true rfl) (Nat.le_of_ble_eq_true rfl) (Nat.le_refl _) (Nat.le_refl _) ?_
      refine pm_blk (pc' := 168) (L' := [(2, .int (q8.1 64 51)), (0, .ref 64), (1, .int x1)]) (S' := [.int q23.1, .int x1, .ref 93]) (M' := sm g q23.2) [] (by decide +kernel) rfl ?_
      refine pm_goto (off := 4) 172 (by decide +kernel) (by decide) ?_
      refine pm_loc [1, 2, 0] rfl ?_
      exact w_Md_define_172 l h0 D hT x1 (q8.1 64 51) q23.1 x1 q23.2 h
def K_Md_define_113 (N : Nat) (g : pm_s) : Nat → Int32 → pm_J → Option (pm_J)
  | 0, _, _ => none
  | n + 1, x1, u => if (u.1 64 52) = 0 then K_Md_define_141 N g x1 u else if pm_ok (u.1 64 51) 902 = true then if (u.1 66 ((u.1 64 51).toNatClampNeg)) = 15 then (F_Md_parameter N g u).bind fun q26 => K_Md_define_113 N g  n x1 q26 else K_Md_define_141 N g x1 u else none
set_option maxHeartbeats 4000000 in
set_option maxRecDepth 100000 in
theorem w_Md_define_113 (l : Launch) (h0 : Nat) (D : pm_D) {g : pm_s} (hT : sh_T g) {N : Nat} {u0 : pm_J} {out : pm_J} {p : Program} {e : Env} {R : Room} {s : State} {m : MethodId} {args : Array Value} {below : List Frame} {meth : Method} {c : Code} : ∀ (n : Nat) (x1 : Int32) (u : pm_J), K_Md_define_113 N g n x1 u = some out → pm_V (p, l, e, R, s, m, args, below, meth, c) m_Md_define h0 D (g.1, g.2.1, g.1, g.2.1, 8) (pm_E (p, l, e, R, s, m, args, below, meth, c) h0 D (sm g u0) none (sm g out)) 113 [(0, .ref 64), (1, .int x1)] [] (sm g u) := by
  intro n
  induction n with
  | zero => intro x1 u h; cases h
  | succ n ih =>
    intro x1 u h
    rw [K_Md_define_113] at h
    refine pm_blk (pc' := 117) (L' := [(0, .ref 64), (1, .int x1)]) (S' := [.int (u.1 64 52)]) (M' := sm g u) [pm_o (.aload_n 0), pm_of (.getfield 349) 12 52 3] (by decide +kernel) rfl ?_
    refine pm_if_eq (off := 24) 141 (by decide +kernel) (by decide) (fun hc7 => ?_) (fun hc7 => ?_)
    · rw [if_pos hc7] at h
      refine pm_loc [0, 1] rfl ?_
      exact w_Md_define_141 l h0 D hT x1 u h
    · rw [if_neg hc7] at h
      refine pm_blk (pc' := 128) (L' := [(0, .ref 64), (1, .int x1)]) (S' := [.int (u.1 64 51), .ref 66]) (M' := sm g u) [pm_o (.aload_n 0), pm_of (.getfield 17) 12 6 2, pm_o (.aload_n 0), pm_of (.getfield 352) 12 51 0] (by decide +kernel) rfl ?_
      obtain ⟨ho24, h⟩ := pm_ifs h
      refine pm_iald (by decide +kernel) rfl (pm_ok_in ho24) ?_
      refine pm_blk (pc' := 131) (L' := [(0, .ref 64), (1, .int x1)]) (S' := [.int 15, .int (u.1 66 ((u.1 64 51).toNatClampNeg))]) (M' := sm g u) [pm_oi (.bipush 15) 15] (by decide +kernel) rfl ?_
      refine pm_ic_ne (off := 10) 141 (by decide +kernel) (by decide) (fun hc25 => ?_) (fun hc25 => ?_)
      · rw [if_neg hc25] at h
        refine pm_loc [0, 1] rfl ?_
        exact w_Md_define_141 l h0 D hT x1 u h
      · rw [if_pos hc25] at h
        refine pm_blk (pc' := 135) (L' := [(0, .ref 64), (1, .int x1)]) (S' := [.ref 64]) (M' := sm g u) [pm_o (.aload_n 0)] (by decide +kernel) rfl ?_
        obtain ⟨q26, hq26, h⟩ := pm_bd h
        refine pm_cV (idx := 459) m_Md_parameter (c_Md_parameter l h0 D hT hq26) (As := []) (S0 := []) rfl (by decide +kernel) k_Md_parameter l_Md_459 (Nat.le_of_ble_eq_true rfl) (Nat.le_of_ble_eq_true rfl) (Nat.le_refl _) (Nat.le_refl _) ?_
        refine pm_blk (pc' := 138) (L' := [(0, .ref 64), (1, .int x1)]) (S' := []) (M' := sm g q26) [] (by decide +kernel) rfl ?_
        refine pm_goto (off := -25) 113 (by decide +kernel) (by decide) ?_
        refine pm_loc [0, 1] rfl ?_
        exact ih x1 q26 h
def F_Md_define (N : Nat) (g : pm_s) (u : pm_J) : Option (pm_J) := if pm_ok (u.1 64 51) 902 = true then if (u.1 66 ((u.1 64 51).toNatClampNeg)) = 1 then if (u.1 64 44) = 30 then (F_Md_stop 4 (u.1 64 51) g u).bind fun q27 => some q27 else if pm_ok (u.1 64 44) 30 = true then if pm_ok (u.1 64 44) 30 = true then if pm_ok (u.1 64 44) 30 = true then K_Md_define_113 N g N (u.1 64 44) (wi (wi (wi (wi (wi (wi (wi (wi (wi (wi (wi u 91 ((u.1 64 44).toNatClampNeg) (u.1 64 51)) 92 ((u.1 64 44).toNatClampNeg) 0) 97 ((u.1 64 44).toNatClampNeg) (-1)) 64 64 0) 64 67 0) 64 61 0) 64 62 0) 64 56 0) 64 58 0) 64 60 0) 64 51 ((u.1 64 51) + 1)) else none else none else none else (F_Md_stop 2 (u.1 64 51) g u).bind fun q28 => some q28 else none
set_option maxHeartbeats 4000000 in
set_option maxRecDepth 100000 in
theorem c_Md_define (l : Launch) (h0 : Nat) (D : pm_D) {g : pm_s} {u : pm_J} (hT : sh_T g) {N : Nat} {out : pm_J} (h : F_Md_define N g u = some out) : pm_C l h0 D m_Md_define (8) [.ref 64] (sm g u) none (sm g out) := by
  unfold F_Md_define at h
  refine pm_met (by decide +kernel) (Nat.le_of_ble_eq_true rfl) (Nat.le_refl _) (Nat.le_refl _) ?_
  intro p e R s m args below meth c
  refine pm_blk (pc' := 13) (L' := [(1, .int (u.1 64 44)), (0, .ref 64)]) (S' := [.int (u.1 64 51), .ref 66]) (M' := sm g u) [pm_o (.aload_n 0), pm_of (.getfield 256) 12 44 0, pm_o (.istore_n 1), pm_o (.aload_n 0), pm_of (.getfield 17) 12 6 2, pm_o (.aload_n 0), pm_of (.getfield 352) 12 51 0] (by decide +kernel) rfl ?_
  obtain ⟨ho1, h⟩ := pm_ifs h
  refine pm_iald (by decide +kernel) rfl (pm_ok_in ho1) ?_
  refine pm_blk (pc' := 15) (L' := [(1, .int (u.1 64 44)), (0, .ref 64)]) (S' := [.int 1, .int (u.1 66 ((u.1 64 51).toNatClampNeg))]) (M' := sm g u) [pm_oi (.iconst 1) 1] (by decide +kernel) rfl ?_
  refine pm_ic_eq (off := 13) 28 (by decide +kernel) (by decide) (fun hc2 => ?_) (fun hc2 => ?_)
  · rw [if_pos hc2] at h
    refine pm_blk (pc' := 31) (L' := [(1, .int (u.1 64 44)), (0, .ref 64)]) (S' := [.int 30, .int (u.1 64 44)]) (M' := sm g u) [pm_o (.iload_n 1), pm_oi (.bipush 30) 30] (by decide +kernel) rfl ?_
    refine pm_ic_ne (off := 13) 44 (by decide +kernel) (by decide) (fun hc3 => ?_) (fun hc3 => ?_)
    · rw [if_neg hc3] at h
      refine pm_blk (pc' := 53) (L' := [(1, .int (u.1 64 44)), (0, .ref 64)]) (S' := [.int (u.1 64 51), .int (u.1 64 44), .ref 91]) (M' := sm g u) [pm_o (.aload_n 0), pm_of (.getfield 95) 12 34 2, pm_o (.iload_n 1), pm_o (.aload_n 0), pm_of (.getfield 352) 12 51 0] (by decide +kernel) rfl ?_
      obtain ⟨ho4, h⟩ := pm_ifs h
      refine pm_iast (by decide +kernel) rfl  (pm_ok_in ho4) ?_
      refine pm_blk (pc' := 60) (L' := [(1, .int (u.1 64 44)), (0, .ref 64)]) (S' := [.int 0, .int (u.1 64 44), .ref 92]) (M' := sm g (wi u 91 ((u.1 64 44).toNatClampNeg) (u.1 64 51))) [pm_o (.aload_n 0), pm_of (.getfield 98) 12 35 2, pm_o (.iload_n 1), pm_oi (.iconst 0) 0] (by decide +kernel) rfl ?_
      obtain ⟨ho5, h⟩ := pm_ifs h
      refine pm_iast (by decide +kernel) rfl  (pm_ok_in ho5) ?_
      refine pm_blk (pc' := 67) (L' := [(1, .int (u.1 64 44)), (0, .ref 64)]) (S' := [.int (-1), .int (u.1 64 44), .ref 97]) (M' := sm g (wi (wi u 91 ((u.1 64 44).toNatClampNeg) (u.1 64 51)) 92 ((u.1 64 44).toNatClampNeg) 0)) [pm_o (.aload_n 0), pm_of (.getfield 113) 12 40 2, pm_o (.iload_n 1), pm_oi (.iconst (-1)) (-1)] (by decide +kernel) rfl ?_
      obtain ⟨ho6, h⟩ := pm_ifs h
      refine pm_iast (by decide +kernel) rfl  (pm_ok_in ho6) ?_
      refine pm_blk (pc' := 113) (L' := [(1, .int (u.1 64 44)), (0, .ref 64)]) (S' := []) (M' := sm g (wi (wi (wi (wi (wi (wi (wi (wi (wi (wi (wi u 91 ((u.1 64 44).toNatClampNeg) (u.1 64 51)) 92 ((u.1 64 44).toNatClampNeg) 0) 97 ((u.1 64 44).toNatClampNeg) (-1)) 64 64 0) 64 67 0) 64 61 0) 64 62 0) 64 56 0) 64 58 0) 64 60 0) 64 51 ((u.1 64 51) + 1))) [pm_o (.aload_n 0), pm_oi (.iconst 0) 0, pm_of (.putfield 359) 12 64 0, pm_o (.aload_n 0), pm_oi (.iconst 0) 0, pm_of (.putfield 362) 12 67 0, pm_o (.aload_n 0), pm_oi (.iconst 0) 0, pm_of (.putfield 400) 12 61 0, pm_o (.aload_n 0), pm_oi (.iconst 0) 0, pm_of (.putfield 380) 12 62 0, pm_o (.aload_n 0), pm_oi (.iconst 0) 0, pm_of (.putfield 368) 12 56 0, pm_o (.aload_n 0), pm_oi (.iconst 0) 0, pm_of (.putfield 371) 12 58 0, pm_o (.aload_n 0), pm_oi (.iconst 0) 0, pm_of (.putfield 374) 12 60 0, pm_o (.aload_n 0), pm_o .dup, pm_of (.getfield 352) 12 51 0, pm_oi (.iconst 1) 1, pm_o .iadd, pm_of (.putfield 352) 12 51 0] (by decide +kernel) rfl ?_
      refine pm_loc [1, 0] rfl ?_
      exact w_Md_define_113 l h0 D hT N (u.1 64 44) (wi (wi (wi (wi (wi (wi (wi (wi (wi (wi (wi u 91 ((u.1 64 44).toNatClampNeg) (u.1 64 51)) 92 ((u.1 64 44).toNatClampNeg) 0) 97 ((u.1 64 44).toNatClampNeg) (-1)) 64 64 0) 64 67 0) 64 61 0) 64 62 0) 64 56 0) 64 58 0) 64 60 0) 64 51 ((u.1 64 51) + 1)) h
    · rw [if_pos hc3] at h
      refine pm_blk (pc' := 40) (L' := [(1, .int (u.1 64 44)), (0, .ref 64)]) (S' := [.int (u.1 64 51), .int 4, .ref 64]) (M' := sm g u) [pm_o (.aload_n 0), pm_oi (.iconst 4) 4, pm_o (.aload_n 0), pm_of (.getfield 352) 12 51 0] (by decide +kernel) rfl ?_
      obtain ⟨q27, hq27, h⟩ := pm_bd h
      refine pm_cV (idx := 355) m_Md_stop (c_Md_stop l h0 D hT hq27) (As := [.int 4, .int (u.1 64 51)]) (S0 := []) rfl (by decide +kernel) k_Md_stop l_Md_355 (Nat.le_of_ble_eq_true rfl) (Nat.le_of_ble_eq_true rfl) (Nat.le_refl _) (Nat.le_refl _) ?_
      refine pm_blk (pc' := 43) (L' := [(1, .int (u.1 64 44)), (0, .ref 64)]) (S' := []) (M' := sm g q27) [] (by decide +kernel) rfl ?_
      have h9 := Option.some.inj h
      subst h9
      exact pm_retv rfl (by decide +kernel) rfl rfl
  · rw [if_neg hc2] at h
    refine pm_blk (pc' := 24) (L' := [(1, .int (u.1 64 44)), (0, .ref 64)]) (S' := [.int (u.1 64 51), .int 2, .ref 64]) (M' := sm g u) [pm_o (.aload_n 0), pm_oi (.iconst 2) 2, pm_o (.aload_n 0), pm_of (.getfield 352) 12 51 0] (by decide +kernel) rfl ?_
    obtain ⟨q28, hq28, h⟩ := pm_bd h
    refine pm_cV (idx := 355) m_Md_stop (c_Md_stop l h0 D hT hq28) (As := [.int 2, .int (u.1 64 51)]) (S0 := []) rfl (by decide +kernel) k_Md_stop l_Md_355 (Nat.le_of_ble_eq_true rfl) (Nat.le_of_ble_eq_true rfl) (Nat.le_refl _) (Nat.le_refl _) ?_
    refine pm_blk (pc' := 27) (L' := [(1, .int (u.1 64 44)), (0, .ref 64)]) (S' := []) (M' := sm g q28) [] (by decide +kernel) rfl ?_
    have h9 := Option.some.inj h
    subst h9
    exact pm_retv rfl (by decide +kernel) rfl rfl
def K_Md_readAll_24 (N : Nat) (g : pm_s) : Nat → pm_J → Option (Int32 × pm_J)
  | 0, _ => none
  | n + 1, u => if (u.1 64 52) = 0 then if ((u.1 64 52) == 0 || (u.1 64 52) == 1) = true then some (u.1 64 52, u) else none else if pm_ok (u.1 64 51) 902 = true then if (u.1 66 ((u.1 64 51).toNatClampNeg)) = 26 then if ((u.1 64 52) == 0 || (u.1 64 52) == 1) = true then some (u.1 64 52, u) else none else (F_Md_define N g u).bind fun q7 => K_Md_readAll_24 N g  n  q7 else none
set_option maxHeartbeats 4000000 in
set_option maxRecDepth 100000 in
theorem w_Md_readAll_24 (l : Launch) (h0 : Nat) (D : pm_D) {g : pm_s} (hT : sh_T g) {N : Nat} {u0 : pm_J} {out : Int32 × pm_J} {p : Program} {e : Env} {R : Room} {s : State} {m : MethodId} {args : Array Value} {below : List Frame} {meth : Method} {c : Code} : ∀ (n : Nat)  (u : pm_J), K_Md_readAll_24 N g n u = some out → pm_V (p, l, e, R, s, m, args, below, meth, c) m_Md_readAll h0 D (g.1, g.2.1, g.1, g.2.1, 9) (pm_E (p, l, e, R, s, m, args, below, meth, c) h0 D (sm g u0) (some (.int out.1)) (sm g out.2)) 24 [(0, .ref 64)] [] (sm g u) := by
  intro n
  induction n with
  | zero => intro u h; cases h
  | succ n ih =>
    intro u h
    rw [K_Md_readAll_24] at h
    refine pm_blk (pc' := 28) (L' := [(0, .ref 64)]) (S' := [.int (u.1 64 52)]) (M' := sm g u) [pm_o (.aload_n 0), pm_of (.getfield 349) 12 52 3] (by decide +kernel) rfl ?_
    refine pm_if_eq (off := 24) 52 (by decide +kernel) (by decide) (fun hc2 => ?_) (fun hc2 => ?_)
    · rw [if_pos hc2] at h
      refine pm_blk (pc' := 56) (L' := [(0, .ref 64)]) (S' := [.int (u.1 64 52)]) (M' := sm g u) [pm_o (.aload_n 0), pm_of (.getfield 349) 12 52 3] (by decide +kernel) rfl ?_
      obtain ⟨hz3, h⟩ := pm_ifs h
      have h9 := Option.some.inj h
      subst h9
      exact pm_retz rfl (by decide +kernel) hz3 rfl rfl rfl
    · rw [if_neg hc2] at h
      refine pm_blk (pc' := 39) (L' := [(0, .ref 64)]) (S' := [.int (u.1 64 51), .ref 66]) (M' := sm g u) [pm_o (.aload_n 0), pm_of (.getfield 17) 12 6 2, pm_o (.aload_n 0), pm_of (.getfield 352) 12 51 0] (by decide +kernel) rfl ?_
      obtain ⟨ho4, h⟩ := pm_ifs h
      refine pm_iald (by decide +kernel) rfl (pm_ok_in ho4) ?_
      refine pm_blk (pc' := 42) (L' := [(0, .ref 64)]) (S' := [.int 26, .int (u.1 66 ((u.1 64 51).toNatClampNeg))]) (M' := sm g u) [pm_oi (.bipush 26) 26] (by decide +kernel) rfl ?_
      refine pm_ic_eq (off := 10) 52 (by decide +kernel) (by decide) (fun hc5 => ?_) (fun hc5 => ?_)
      · rw [if_pos hc5] at h
        refine pm_blk (pc' := 56) (L' := [(0, .ref 64)]) (S' := [.int (u.1 64 52)]) (M' := sm g u) [pm_o (.aload_n 0), pm_of (.getfield 349) 12 52 3] (by decide +kernel) rfl ?_
        obtain ⟨hz6, h⟩ := pm_ifs h
        have h9 := Option.some.inj h
        subst h9
        exact pm_retz rfl (by decide +kernel) hz6 rfl rfl rfl
      · rw [if_neg hc5] at h
        refine pm_blk (pc' := 46) (L' := [(0, .ref 64)]) (S' := [.ref 64]) (M' := sm g u) [pm_o (.aload_n 0)] (by decide +kernel) rfl ?_
        obtain ⟨q7, hq7, h⟩ := pm_bd h
        refine pm_cV (idx := 462) m_Md_define (c_Md_define l h0 D hT hq7) (As := []) (S0 := []) rfl (by decide +kernel) k_Md_define l_Md_462 (Nat.le_of_ble_eq_true rfl) (Nat.le_of_ble_eq_true rfl) (Nat.le_refl _) (Nat.le_refl _) ?_
        refine pm_blk (pc' := 49) (L' := [(0, .ref 64)]) (S' := []) (M' := sm g q7) [] (by decide +kernel) rfl ?_
        refine pm_goto (off := -25) 24 (by decide +kernel) (by decide) ?_
        refine pm_loc [0] rfl ?_
        exact ih  q7 h
def F_Md_readAll (N : Nat) (g : pm_s) (u : pm_J) : Option (Int32 × pm_J) := (F_Md_noTypes N g (wi (wi (wi u 64 51 0) 64 33 0) 64 44 0)).bind fun q1 => K_Md_readAll_24 N g N  (wi q1 64 52 1)
set_option maxHeartbeats 4000000 in
set_option maxRecDepth 100000 in
theorem c_Md_readAll (l : Launch) (h0 : Nat) (D : pm_D) {g : pm_s} {u : pm_J} (hT : sh_T g) {N : Nat} {out : Int32 × pm_J} (h : F_Md_readAll N g u = some out) : pm_C l h0 D m_Md_readAll (9) [.ref 64] (sm g u) (some (.int out.1)) (sm g out.2) := by
  unfold F_Md_readAll at h
  refine pm_met (by decide +kernel) (Nat.le_of_ble_eq_true rfl) (Nat.le_refl _) (Nat.le_refl _) ?_
  intro p e R s m args below meth c
  refine pm_blk (pc' := 16) (L' := [(0, .ref 64)]) (S' := [.ref 64]) (M' := sm g (wi (wi (wi u 64 51 0) 64 33 0) 64 44 0)) [pm_o (.aload_n 0), pm_oi (.iconst 0) 0, pm_of (.putfield 352) 12 51 0, pm_o (.aload_n 0), pm_oi (.iconst 0) 0, pm_of (.putfield 377) 12 33 0, pm_o (.aload_n 0), pm_oi (.iconst 0) 0, pm_of (.putfield 256) 12 44 0, pm_o (.aload_n 0)] (by decide +kernel) rfl ?_
  obtain ⟨q1, hq1, h⟩ := pm_bd h
  refine pm_cV (idx := 243) m_Md_noTypes (c_Md_noTypes l h0 D hT hq1) (As := []) (S0 := []) rfl (by decide +kernel) k_Md_noTypes l_Md_243 (Nat.le_of_ble_eq_true rfl) (Nat.le_of_ble_eq_true rfl) (Nat.le_refl _) (Nat.le_refl _) ?_
  refine pm_blk (pc' := 24) (L' := [(0, .ref 64)]) (S' := []) (M' := sm g (wi q1 64 52 1)) [pm_o (.aload_n 0), pm_oi (.iconst 1) 1, pm_of (.putfield 349) 12 52 3] (by decide +kernel) rfl ?_
  refine pm_loc [0] rfl ?_
  exact w_Md_readAll_24 l h0 D hT N  (wi q1 64 52 1) h
def K_Md_names_57 (N : Nat) (g : pm_s) (x1 : Int32) (x2 : Int32) (u : pm_J) : Option (Int32 × pm_J) := if x2 = 0 then if pm_ok x1 30 = true then if pm_ok (u.1 97 x1.toNatClampNeg) 902 = true then (F_Md_fails 5 (u.1 67 ((u.1 97 x1.toNatClampNeg).toNatClampNeg)) g u).bind fun q7 => if (q7.1 == 0 || q7.1 == 1) = true then some (q7.1, q7.2) else none else none else none else if pm_ok x1 30 = true then if pm_ok (u.1 91 x1.toNatClampNeg) 902 = true then (F_Md_fails 5 (u.1 67 ((u.1 91 x1.toNatClampNeg).toNatClampNeg)) g u).bind fun q11 => if (q11.1 == 0 || q11.1 == 1) = true then some (q11.1, q11.2) else none else none else none
set_option maxHeartbeats 4000000 in
set_option maxRecDepth 100000 in
theorem w_Md_names_57 (l : Launch) (h0 : Nat) (D : pm_D) {g : pm_s} (hT : sh_T g) {N : Nat} {u0 : pm_J} {out : Int32 × pm_J} {p : Program} {e : Env} {R : Room} {s : State} {m : MethodId} {args : Array Value} {below : List Frame} {meth : Method} {c : Code} : ∀ (x1 : Int32) (x2 : Int32) (u : pm_J), K_Md_names_57 N g x1 x2 u = some out → pm_V (p, l, e, R, s, m, args, below, meth, c) m_Md_names h0 D (g.1, g.2.1, g.1, g.2.1, 1) (pm_E (p, l, e, R, s, m, args, below, meth, c) h0 D (sm g u0) (some (.int out.1)) (sm g out.2)) 57 [(0, .ref 64), (1, .int x1), (2, .int x2)] [] (sm g u) := by
    intro x1 x2 u h
    unfold K_Md_names_57 at h
    refine pm_blk (pc' := 64) (L' := [(0, .ref 64), (1, .int x1), (2, .int x2)]) (S' := [.int x2, .ref 67, .int 5, .ref 64]) (M' := sm g u) [pm_o (.aload_n 0), pm_oi (.iconst 5) 5, pm_o (.aload_n 0), pm_of (.getfield 20) 12 7 2, pm_o (.iload_n 2)] (by decide +kernel) rfl ?_
    refine pm_if_eq (off := 12) 76 (by decide +kernel) (by decide) (fun hc4 => ?_) (fun hc4 => ?_)
    · rw [if_pos hc4] at h
      refine pm_blk (pc' := 81) (L' := [(0, .ref 64), (1, .int x1), (2, .int x2)]) (S' := [.int x1, .ref 97, .ref 67, .int 5, .ref 64]) (M' := sm g u) [pm_o (.aload_n 0), pm_of (.getfield 113) 12 40 2, pm_o (.iload_n 1)] (by decide +kernel) rfl ?_
      obtain ⟨ho5, h⟩ := pm_ifs h
      refine pm_iald (by decide +kernel) rfl (pm_ok_in ho5) ?_
      refine pm_blk (pc' := 82) (L' := [(0, .ref 64), (1, .int x1), (2, .int x2)]) (S' := [.int (u.1 97 x1.toNatClampNeg), .ref 67, .int 5, .ref 64]) (M' := sm g u) [] (by decide +kernel) rfl ?_
      obtain ⟨ho6, h⟩ := pm_ifs h
      refine pm_iald (by decide +kernel) rfl (pm_ok_in ho6) ?_
      refine pm_blk (pc' := 83) (L' := [(0, .ref 64), (1, .int x1), (2, .int x2)]) (S' := [.int (u.1 67 ((u.1 97 x1.toNatClampNeg).toNatClampNeg)), .int 5, .ref 64]) (M' := sm g u) [] (by decide +kernel) rfl ?_
      obtain ⟨q7, hq7, h⟩ := pm_bd h
      refine pm_cV (idx := 337) m_Md_fails (c_Md_fails l h0 D hT hq7) (As := [.int 5, .int (u.1 67 ((u.1 97 x1.toNatClampNeg).toNatClampNeg))]) (S0 := []) rfl (by decide +kernel) k_Md_fails l_Md_337 (Nat.le_of_ble_eq_true rfl) (Nat.le_of_ble_eq_true rfl) (Nat.le_refl _) (Nat.le_refl _) ?_
      refine pm_blk (pc' := 86) (L' := [(0, .ref 64), (1, .int x1), (2, .int x2)]) (S' := [.int q7.1]) (M' := sm g q7.2) [] (by decide +kernel) rfl ?_
      obtain ⟨hz8, h⟩ := pm_ifs h
      have h9 := Option.some.inj h
      subst h9
      exact pm_retz rfl (by decide +kernel) hz8 rfl rfl rfl
    · rw [if_neg hc4] at h
      refine pm_blk (pc' := 72) (L' := [(0, .ref 64), (1, .int x1), (2, .int x2)]) (S' := [.int x1, .ref 91, .ref 67, .int 5, .ref 64]) (M' := sm g u) [pm_o (.aload_n 0), pm_of (.getfield 95) 12 34 2, pm_o (.iload_n 1)] (by decide +kernel) rfl ?_
      obtain ⟨ho9, h⟩ := pm_ifs h
      refine pm_iald (by decide +kernel) rfl (pm_ok_in ho9) ?_
      refine pm_blk (pc' := 73) (L' := [(0, .ref 64), (1, .int x1), (2, .int x2)]) (S' := [.int (u.1 91 x1.toNatClampNeg), .ref 67, .int 5, .ref 64]) (M' := sm g u) [] (by decide +kernel) rfl ?_
      refine pm_goto (off := 9) 82 (by decide +kernel) (by decide) ?_
      obtain ⟨ho10, h⟩ := pm_ifs h
      refine pm_iald (by decide +kernel) rfl (pm_ok_in ho10) ?_
      refine pm_blk (pc' := 83) (L' := [(0, .ref 64), (1, .int x1), (2, .int x2)]) (S' := [.int (u.1 67 ((u.1 91 x1.toNatClampNeg).toNatClampNeg)), .int 5, .ref 64]) (M' := sm g u) [] (by decide +kernel) rfl ?_
      obtain ⟨q11, hq11, h⟩ := pm_bd h
      refine pm_cV (idx := 337) m_Md_fails (c_Md_fails l h0 D hT hq11) (As := [.int 5, .int (u.1 67 ((u.1 91 x1.toNatClampNeg).toNatClampNeg))]) (S0 := []) rfl (by decide +kernel) k_Md_fails l_Md_337 (Nat.le_of_ble_eq_true rfl) (Nat.le_of_ble_eq_true rfl) (Nat.le_refl _) (Nat.le_refl _) ?_
      refine pm_blk (pc' := 86) (L' := [(0, .ref 64), (1, .int x1), (2, .int x2)]) (S' := [.int q11.1]) (M' := sm g q11.2) [] (by decide +kernel) rfl ?_
      obtain ⟨hz12, h⟩ := pm_ifs h
      have h9 := Option.some.inj h
      subst h9
      exact pm_retz rfl (by decide +kernel) hz12 rfl rfl rfl
def K_Md_names_14 (N : Nat) (g : pm_s) (k2 : Int32 → pm_J → Option (Int32 × pm_J)) : Nat → Int32 → Int32 → Int32 → pm_J → Option (Int32 × pm_J)
  | 0, _, _, _, _ => none
  | n + 1, x1, x2, x3, u => if x1 ≤ x3 then if x2 = 0 then if pm_ok x1 30 = true then if (u.1 97 x1.toNatClampNeg) < 0 then k2 (x1 + 1) u else K_Md_names_57 N g x1 x2 u else none else K_Md_names_57 N g x1 x2 u else if pm_ok x3 30 = true then if pm_ok x1 30 = true then (F_Md_isSame N (u.1 91 x3.toNatClampNeg) (u.1 91 x1.toNatClampNeg) g u).bind fun q17 => K_Md_names_14 N g k2 n x1 (x2 ||| q17) (x3 + 1) u else none else none
set_option maxHeartbeats 4000000 in
set_option maxRecDepth 100000 in
theorem w_Md_names_14 (l : Launch) (h0 : Nat) (D : pm_D) {g : pm_s} (hT : sh_T g) {N : Nat} {u0 : pm_J} {out : Int32 × pm_J} {p : Program} {e : Env} {R : Room} {s : State} {m : MethodId} {args : Array Value} {below : List Frame} {meth : Method} {c : Code} {k2 : Int32 → pm_J → Option (Int32 × pm_J)} (hk2 : ∀ (x1 : Int32) (u : pm_J), k2 x1 u = some out → pm_V (p, l, e, R, s, m, args, below, meth, c) m_Md_names h0 D (g.1, g.2.1, g.1, g.2.1, 1) (pm_E (p, l, e, R, s, m, args, below, meth, c) h0 D (sm g u0) (some (.int out.1)) (sm g out.2)) 2 [(0, .ref 64), (1, .int x1)] [] (sm g u)) : ∀ (n : Nat) (x1 : Int32) (x2 : Int32) (x3 : Int32) (u : pm_J), K_Md_names_14 N g k2 n x1 x2 x3 u = some out → pm_V (p, l, e, R, s, m, args, below, meth, c) m_Md_names h0 D (g.1, g.2.1, g.1, g.2.1, 1) (pm_E (p, l, e, R, s, m, args, below, meth, c) h0 D (sm g u0) (some (.int out.1)) (sm g out.2)) 14 [(0, .ref 64), (1, .int x1), (2, .int x2), (3, .int x3)] [] (sm g u) := by
  intro n
  induction n with
  | zero => intro x1 x2 x3 u h; cases h
  | succ n ih =>
    intro x1 x2 x3 u h
    rw [K_Md_names_14] at h
    refine pm_blk (pc' := 16) (L' := [(0, .ref 64), (1, .int x1), (2, .int x2), (3, .int x3)]) (S' := [.int x1, .int x3]) (M' := sm g u) [pm_o (.iload_n 3), pm_o (.iload_n 1)] (by decide +kernel) rfl ?_
    refine pm_ic_ge (off := 28) 44 (by decide +kernel) (by decide) (fun hc2 => ?_) (fun hc2 => ?_)
    · rw [if_pos hc2] at h
      refine pm_blk (pc' := 45) (L' := [(0, .ref 64), (1, .int x1), (2, .int x2), (3, .int x3)]) (S' := [.int x2]) (M' := sm g u) [pm_o (.iload_n 2)] (by decide +kernel) rfl ?_
      refine pm_if_ne (off := 12) 57 (by decide +kernel) (by decide) (fun hc3 => ?_) (fun hc3 => ?_)
      · rw [if_neg hc3] at h
        refine pm_loc [0, 1, 2] rfl ?_
        exact w_Md_names_57 l h0 D hT x1 x2 u h
      · rw [if_pos hc3] at h
        refine pm_blk (pc' := 53) (L' := [(0, .ref 64), (1, .int x1), (2, .int x2), (3, .int x3)]) (S' := [.int x1, .ref 97]) (M' := sm g u) [pm_o (.aload_n 0), pm_of (.getfield 113) 12 40 2, pm_o (.iload_n 1)] (by decide +kernel) rfl ?_
        obtain ⟨ho13, h⟩ := pm_ifs h
        refine pm_iald (by decide +kernel) rfl (pm_ok_in ho13) ?_
        refine pm_blk (pc' := 54) (L' := [(0, .ref 64), (1, .int x1), (2, .int x2), (3, .int x3)]) (S' := [.int (u.1 97 x1.toNatClampNeg)]) (M' := sm g u) [] (by decide +kernel) rfl ?_
        refine pm_if_lt (off := 33) 87 (by decide +kernel) (by decide) (fun hc14 => ?_) (fun hc14 => ?_)
        · rw [if_pos hc14] at h
          refine pm_blk (pc' := 90) (L' := [(1, .int (x1 + 1)), (0, .ref 64), (2, .int x2), (3, .int x3)]) (S' := []) (M' := sm g u) [pm_oi (.iinc 1 1) 1] (by decide +kernel) rfl ?_
          refine pm_goto (off := -88) 2 (by decide +kernel) (by decide) ?_
          refine pm_loc [1, 0] rfl ?_
          exact hk2 (x1 + 1) u h
        · rw [if_neg hc14] at h
          refine pm_loc [0, 1, 2] rfl ?_
          exact w_Md_names_57 l h0 D hT x1 x2 u h
    · rw [if_neg hc2] at h
      refine pm_blk (pc' := 26) (L' := [(0, .ref 64), (1, .int x1), (2, .int x2), (3, .int x3)]) (S' := [.int x3, .ref 91, .ref 64, .int x2]) (M' := sm g u) [pm_o (.iload_n 2), pm_o (.aload_n 0), pm_o (.aload_n 0), pm_of (.getfield 95) 12 34 2, pm_o (.iload_n 3)] (by decide +kernel) rfl ?_
      obtain ⟨ho15, h⟩ := pm_ifs h
      refine pm_iald (by decide +kernel) rfl (pm_ok_in ho15) ?_
      refine pm_blk (pc' := 32) (L' := [(0, .ref 64), (1, .int x1), (2, .int x2), (3, .int x3)]) (S' := [.int x1, .ref 91, .int (u.1 91 x3.toNatClampNeg), .ref 64, .int x2]) (M' := sm g u) [pm_o (.aload_n 0), pm_of (.getfield 95) 12 34 2, pm_o (.iload_n 1)] (by decide +kernel) rfl ?_
      obtain ⟨ho16, h⟩ := pm_ifs h
      refine pm_iald (by decide +kernel) rfl (pm_ok_in ho16) ?_
      refine pm_blk (pc' := 33) (L' := [(0, .ref 64), (1, .int x1), (2, .int x2), (3, .int x3)]) (S' := [.int (u.1 91 x1.toNatClampNeg), .int (u.1 91 x3.toNatClampNeg), .ref 64, .int x2]) (M' := sm g u) [] (by decide +kernel) rfl ?_
      obtain ⟨q17, hq17, h⟩ := pm_bd h
      refine pm_cV (idx := 365) m_Md_isSame (c_Md_isSame l h0 D hT hq17) (As := [.int (u.1 91 x3.toNatClampNeg), .int (u.1 91 x1.toNatClampNeg)]) (S0 := [.int x2]) rfl (by decide +kernel) k_Md_isSame l_Md_365 (Nat.le_of_ble_eq_true rfl) (Nat.le_of_ble_eq_true rfl) (Nat.le_refl _) (Nat.le_refl _) ?_
      refine pm_blk (pc' := 41) (L' := [(3, .int (x3 + 1)), (2, .int (x2 ||| q17)), (0, .ref 64), (1, .int x1)]) (S' := []) (M' := sm g u) [pm_o .ior, pm_o (.istore_n 2), pm_oi (.iinc 3 1) 1] (by decide +kernel) rfl ?_
      refine pm_goto (off := -27) 14 (by decide +kernel) (by decide) ?_
      refine pm_loc [2, 3, 1, 0] rfl ?_
      exact ih x1 (x2 ||| q17) (x3 + 1) u h
def K_Md_names_2 (N : Nat) (g : pm_s) : Nat → Int32 → pm_J → Option (Int32 × pm_J)
  | 0, _, _ => none
  | n + 1, x1, u => if (u.1 64 44) ≤ x1 then some (1, u) else K_Md_names_14 N g (K_Md_names_2 N g  n) N x1 0 0 u
set_option maxHeartbeats 4000000 in
set_option maxRecDepth 100000 in
theorem w_Md_names_2 (l : Launch) (h0 : Nat) (D : pm_D) {g : pm_s} (hT : sh_T g) {N : Nat} {u0 : pm_J} {out : Int32 × pm_J} {p : Program} {e : Env} {R : Room} {s : State} {m : MethodId} {args : Array Value} {below : List Frame} {meth : Method} {c : Code} : ∀ (n : Nat) (x1 : Int32) (u : pm_J), K_Md_names_2 N g n x1 u = some out → pm_V (p, l, e, R, s, m, args, below, meth, c) m_Md_names h0 D (g.1, g.2.1, g.1, g.2.1, 1) (pm_E (p, l, e, R, s, m, args, below, meth, c) h0 D (sm g u0) (some (.int out.1)) (sm g out.2)) 2 [(0, .ref 64), (1, .int x1)] [] (sm g u) := by
  intro n
  induction n with
  | zero => intro x1 u h; cases h
  | succ n ih =>
    intro x1 u h
    rw [K_Md_names_2] at h
    refine pm_blk (pc' := 7) (L' := [(0, .ref 64), (1, .int x1)]) (S' := [.int (u.1 64 44), .int x1]) (M' := sm g u) [pm_o (.iload_n 1), pm_o (.aload_n 0), pm_of (.getfield 256) 12 44 0] (by decide +kernel) rfl ?_
    refine pm_ic_ge (off := 86) 93 (by decide +kernel) (by decide) (fun hc1 => ?_) (fun hc1 => ?_)
    · rw [if_pos hc1] at h
      refine pm_blk (pc' := 94) (L' := [(0, .ref 64), (1, .int x1)]) (S' := [.int 1]) (M' := sm g u) [pm_oi (.iconst 1) 1] (by decide +kernel) rfl ?_
      have h9 := Option.some.inj h
      subst h9
      exact pm_retz rfl (by decide +kernel) rfl rfl rfl rfl
    · rw [if_neg hc1] at h
      refine pm_blk (pc' := 14) (L' := [(3, .int 0), (2, .int 0), (0, .ref 64), (1, .int x1)]) (S' := []) (M' := sm g u) [pm_oi (.iconst 0) 0, pm_o (.istore_n 2), pm_oi (.iconst 0) 0, pm_o (.istore_n 3)] (by decide +kernel) rfl ?_
      refine pm_loc [2, 3, 1, 0] rfl ?_
      exact w_Md_names_14 l h0 D hT ih N x1 0 0 u h
def F_Md_names (N : Nat) (g : pm_s) (u : pm_J) : Option (Int32 × pm_J) := K_Md_names_2 N g N 0 u
set_option maxHeartbeats 4000000 in
set_option maxRecDepth 100000 in
theorem c_Md_names (l : Launch) (h0 : Nat) (D : pm_D) {g : pm_s} {u : pm_J} (hT : sh_T g) {N : Nat} {out : Int32 × pm_J} (h : F_Md_names N g u = some out) : pm_C l h0 D m_Md_names (1) [.ref 64] (sm g u) (some (.int out.1)) (sm g out.2) := by
  unfold F_Md_names at h
  refine pm_met (by decide +kernel) (Nat.le_of_ble_eq_true rfl) (Nat.le_refl _) (Nat.le_refl _) ?_
  intro p e R s m args below meth c
  refine pm_blk (pc' := 2) (L' := [(1, .int 0), (0, .ref 64)]) (S' := []) (M' := sm g u) [pm_oi (.iconst 0) 0, pm_o (.istore_n 1)] (by decide +kernel) rfl ?_
  refine pm_loc [1, 0] rfl ?_
  exact w_Md_names_2 l h0 D hT N 0 u h
def K_Md_defNamed_2 (N : Nat) (g : pm_s) (u : pm_J) : Nat → Int32 → Int32 → Option (Int32)
  | 0, _, _ => none
  | n + 1, x1, x2 => if (u.1 64 44) ≤ x2 then some (-1) else if pm_ok x2 30 = true then (F_Md_isSame N (u.1 91 x2.toNatClampNeg) x1 g u).bind fun q3 => if q3 = 0 then K_Md_defNamed_2 N g u  n x1 (x2 + 1) else some x2 else none
set_option maxHeartbeats 4000000 in
set_option maxRecDepth 100000 in
theorem w_Md_defNamed_2 (l : Launch) (h0 : Nat) (D : pm_D) {g : pm_s} (hT : sh_T g) {N : Nat} {u : pm_J} {out : Int32} {p : Program} {e : Env} {R : Room} {s : State} {m : MethodId} {args : Array Value} {below : List Frame} {meth : Method} {c : Code} : ∀ (n : Nat) (x1 : Int32) (x2 : Int32), K_Md_defNamed_2 N g u n x1 x2 = some out → pm_V (p, l, e, R, s, m, args, below, meth, c) m_Md_defNamed h0 D (g.1, g.2.1, g.1, g.2.1, 1) (pm_E (p, l, e, R, s, m, args, below, meth, c) h0 D (sm g u) (some (.int out)) (sm g u)) 2 [(0, .ref 64), (1, .int x1), (2, .int x2)] [] (sm g u) := by
  intro n
  induction n with
  | zero => intro x1 x2 h; cases h
  | succ n ih =>
    intro x1 x2 h
    rw [K_Md_defNamed_2] at h
    refine pm_blk (pc' := 7) (L' := [(0, .ref 64), (1, .int x1), (2, .int x2)]) (S' := [.int (u.1 64 44), .int x2]) (M' := sm g u) [pm_o (.iload_n 2), pm_o (.aload_n 0), pm_of (.getfield 256) 12 44 0] (by decide +kernel) rfl ?_
    refine pm_ic_ge (off := 25) 32 (by decide +kernel) (by decide) (fun hc1 => ?_) (fun hc1 => ?_)
    · rw [if_pos hc1] at h
      refine pm_blk (pc' := 33) (L' := [(0, .ref 64), (1, .int x1), (2, .int x2)]) (S' := [.int (-1)]) (M' := sm g u) [pm_oi (.iconst (-1)) (-1)] (by decide +kernel) rfl ?_
      have h9 := Option.some.inj h
      subst h9
      exact pm_reti rfl (by decide +kernel) rfl rfl rfl
    · rw [if_neg hc1] at h
      refine pm_blk (pc' := 16) (L' := [(0, .ref 64), (1, .int x1), (2, .int x2)]) (S' := [.int x2, .ref 91, .ref 64]) (M' := sm g u) [pm_o (.aload_n 0), pm_o (.aload_n 0), pm_of (.getfield 95) 12 34 2, pm_o (.iload_n 2)] (by decide +kernel) rfl ?_
      obtain ⟨ho2, h⟩ := pm_ifs h
      refine pm_iald (by decide +kernel) rfl (pm_ok_in ho2) ?_
      refine pm_blk (pc' := 18) (L' := [(0, .ref 64), (1, .int x1), (2, .int x2)]) (S' := [.int x1, .int (u.1 91 x2.toNatClampNeg), .ref 64]) (M' := sm g u) [pm_o (.iload_n 1)] (by decide +kernel) rfl ?_
      obtain ⟨q3, hq3, h⟩ := pm_bd h
      refine pm_cV (idx := 365) m_Md_isSame (c_Md_isSame l h0 D hT hq3) (As := [.int (u.1 91 x2.toNatClampNeg), .int x1]) (S0 := []) rfl (by decide +kernel) k_Md_isSame l_Md_365 (Nat.le_of_ble_eq_true rfl) (Nat.le_of_ble_eq_true rfl) (Nat.le_refl _) (Nat.le_refl _) ?_
      refine pm_blk (pc' := 21) (L' := [(0, .ref 64), (1, .int x1), (2, .int x2)]) (S' := [.int q3]) (M' := sm g u) [] (by decide +kernel) rfl ?_
      refine pm_if_eq (off := 5) 26 (by decide +kernel) (by decide) (fun hc4 => ?_) (fun hc4 => ?_)
      · rw [if_pos hc4] at h
        refine pm_blk (pc' := 29) (L' := [(2, .int (x2 + 1)), (0, .ref 64), (1, .int x1)]) (S' := []) (M' := sm g u) [pm_oi (.iinc 2 1) 1] (by decide +kernel) rfl ?_
        refine pm_goto (off := -27) 2 (by decide +kernel) (by decide) ?_
        refine pm_loc [1, 2, 0] rfl ?_
        exact ih x1 (x2 + 1) h
      · rw [if_neg hc4] at h
        refine pm_blk (pc' := 25) (L' := [(0, .ref 64), (1, .int x1), (2, .int x2)]) (S' := [.int x2]) (M' := sm g u) [pm_o (.iload_n 2)] (by decide +kernel) rfl ?_
        have h9 := Option.some.inj h
        subst h9
        exact pm_reti rfl (by decide +kernel) rfl rfl rfl
def F_Md_defNamed (N : Nat) (a1 : Int32) (g : pm_s) (u : pm_J) : Option (Int32) := K_Md_defNamed_2 N g u N a1 0
set_option maxHeartbeats 4000000 in
set_option maxRecDepth 100000 in
theorem c_Md_defNamed (l : Launch) (h0 : Nat) (D : pm_D) {g : pm_s} {u : pm_J} (hT : sh_T g) {N : Nat} {a1 : Int32} {out : Int32} (h : F_Md_defNamed N a1 g u = some out) : pm_C l h0 D m_Md_defNamed (1) [.ref 64, .int a1] (sm g u) (some (.int out)) (sm g u) := by
  unfold F_Md_defNamed at h
  refine pm_met (by decide +kernel) (Nat.le_of_ble_eq_true rfl) (Nat.le_refl _) (Nat.le_refl _) ?_
  intro p e R s m args below meth c
  refine pm_blk (pc' := 2) (L' := [(2, .int 0), (0, .ref 64), (1, .int a1)]) (S' := []) (M' := sm g u) [pm_oi (.iconst 0) 0, pm_o (.istore_n 2)] (by decide +kernel) rfl ?_
  refine pm_loc [1, 2, 0] rfl ?_
  exact w_Md_defNamed_2 l h0 D hT N a1 0 h
def F_Md_untyped (a1 : Int32) (g : pm_s) (u : pm_J) : Option (Int32 × pm_J) := if pm_ok a1 2400 = true then if pm_ok (u.1 78 a1.toNatClampNeg) 902 = true then (F_Md_fails 7 (u.1 67 ((u.1 78 a1.toNatClampNeg).toNatClampNeg)) g u).bind fun q3 => if (q3.1 == 0 || q3.1 == 1) = true then some (q3.1, q3.2) else none else none else none
set_option maxHeartbeats 4000000 in
set_option maxRecDepth 100000 in
theorem c_Md_untyped (l : Launch) (h0 : Nat) (D : pm_D) {g : pm_s} {u : pm_J} (hT : sh_T g) {a1 : Int32} {out : Int32 × pm_J} (h : F_Md_untyped a1 g u = some out) : pm_C l h0 D m_Md_untyped (1) [.ref 64, .int a1] (sm g u) (some (.int out.1)) (sm g out.2) := by
  unfold F_Md_untyped at h
  refine pm_met (by decide +kernel) (Nat.le_of_ble_eq_true rfl) (Nat.le_refl _) (Nat.le_refl _) ?_
  intro p e R s m args below meth c
  refine pm_blk (pc' := 12) (L' := [(0, .ref 64), (1, .int a1)]) (S' := [.int a1, .ref 78, .ref 67, .int 7, .ref 64]) (M' := sm g u) [pm_o (.aload_n 0), pm_oi (.bipush 7) 7, pm_o (.aload_n 0), pm_of (.getfield 20) 12 7 2, pm_o (.aload_n 0), pm_of (.getfield 56) 12 20 2, pm_o (.iload_n 1)] (by decide +kernel) rfl ?_
  obtain ⟨ho1, h⟩ := pm_ifs h
  refine pm_iald (by decide +kernel) rfl (pm_ok_in ho1) ?_
  refine pm_blk (pc' := 13) (L' := [(0, .ref 64), (1, .int a1)]) (S' := [.int (u.1 78 a1.toNatClampNeg), .ref 67, .int 7, .ref 64]) (M' := sm g u) [] (by decide +kernel) rfl ?_
  obtain ⟨ho2, h⟩ := pm_ifs h
  refine pm_iald (by decide +kernel) rfl (pm_ok_in ho2) ?_
  refine pm_blk (pc' := 14) (L' := [(0, .ref 64), (1, .int a1)]) (S' := [.int (u.1 67 ((u.1 78 a1.toNatClampNeg).toNatClampNeg)), .int 7, .ref 64]) (M' := sm g u) [] (by decide +kernel) rfl ?_
  obtain ⟨q3, hq3, h⟩ := pm_bd h
  refine pm_cV (idx := 337) m_Md_fails (c_Md_fails l h0 D hT hq3) (As := [.int 7, .int (u.1 67 ((u.1 78 a1.toNatClampNeg).toNatClampNeg))]) (S0 := []) rfl (by decide +kernel) k_Md_fails l_Md_337 (Nat.le_of_ble_eq_true rfl) (Nat.le_of_ble_eq_true rfl) (Nat.le_refl _) (Nat.le_refl _) ?_
  refine pm_blk (pc' := 17) (L' := [(0, .ref 64), (1, .int a1)]) (S' := [.int q3.1]) (M' := sm g q3.2) [] (by decide +kernel) rfl ?_
  obtain ⟨hz4, h⟩ := pm_ifs h
  have h9 := Option.some.inj h
  subst h9
  exact pm_retz rfl (by decide +kernel) hz4 rfl rfl rfl
def F_Md_typeName (N : Nat) (a1 : Int32) (g : pm_s) (u : pm_J) : Option (Int32 × pm_J) := if pm_ok a1 2400 = true then if (u.1 82 a1.toNatClampNeg) < 0 then if pm_ok a1 2400 = true then (F_Md_defNamed N (u.1 78 a1.toNatClampNeg) g u).bind fun q4 => if 0 ≤ q4 then if pm_ok a1 2400 = true then if pm_ok q4 30 = true then if (u.1 92 q4.toNatClampNeg) ≤ 0 then if pm_ok q4 30 = true then if pm_ok a1 2400 = true then some (1, (wi (wi u 88 a1.toNatClampNeg q4) 87 a1.toNatClampNeg (u.1 93 q4.toNatClampNeg))) else none else none else if pm_ok a1 2400 = true then if (u.1 112 a1.toNatClampNeg) = 0 then (F_Md_untyped a1 g (wi u 88 a1.toNatClampNeg q4)).bind fun q13 => if q13.1 = 0 then some (0, q13.2) else some (1, q13.2) else some (1, (wi u 88 a1.toNatClampNeg q4)) else none else none else none else if pm_ok a1 2400 = true then if pm_ok (u.1 78 a1.toNatClampNeg) 902 = true then (F_Md_fails 6 (u.1 67 ((u.1 78 a1.toNatClampNeg).toNatClampNeg)) g u).bind fun q17 => if (q17.1 == 0 || q17.1 == 1) = true then some (q17.1, q17.2) else none else none else none else none else if pm_ok a1 2400 = true then if pm_ok ((24 * (u.1 64 69)) + (u.1 82 a1.toNatClampNeg)) 720 = true then if pm_ok a1 2400 = true then some (1, (wi u 87 a1.toNatClampNeg (u.1 100 (((24 * (u.1 64 69)) + (u.1 82 a1.toNatClampNeg)).toNatClampNeg)))) else none else none else none else none
set_option maxHeartbeats 4000000 in
set_option maxRecDepth 100000 in
theorem c_Md_typeName (l : Launch) (h0 : Nat) (D : pm_D) {g : pm_s} {u : pm_J} (hT : sh_T g) {N : Nat} {a1 : Int32} {out : Int32 × pm_J} (h : F_Md_typeName N a1 g u = some out) : pm_C l h0 D m_Md_typeName (2) [.ref 64, .int a1] (sm g u) (some (.int out.1)) (sm g out.2) := by
  unfold F_Md_typeName at h
  refine pm_met (by decide +kernel) (Nat.le_of_ble_eq_true rfl) (Nat.le_refl _) (Nat.le_refl _) ?_
  intro p e R s m args below meth c
  refine pm_blk (pc' := 5) (L' := [(0, .ref 64), (1, .int a1)]) (S' := [.int a1, .ref 82]) (M' := sm g u) [pm_o (.aload_n 0), pm_of (.getfield 68) 12 24 2, pm_o (.iload_n 1)] (by decide +kernel) rfl ?_
  obtain ⟨ho1, h⟩ := pm_ifs h
  refine pm_iald (by decide +kernel) rfl (pm_ok_in ho1) ?_
  refine pm_blk (pc' := 6) (L' := [(0, .ref 64), (1, .int a1)]) (S' := [.int (u.1 82 a1.toNatClampNeg)]) (M' := sm g u) [] (by decide +kernel) rfl ?_
  refine pm_if_lt (off := 30) 36 (by decide +kernel) (by decide) (fun hc2 => ?_) (fun hc2 => ?_)
  · rw [if_pos hc2] at h
    refine pm_blk (pc' := 42) (L' := [(0, .ref 64), (1, .int a1)]) (S' := [.int a1, .ref 78, .ref 64]) (M' := sm g u) [pm_o (.aload_n 0), pm_o (.aload_n 0), pm_of (.getfield 56) 12 20 2, pm_o (.iload_n 1)] (by decide +kernel) rfl ?_
    obtain ⟨ho3, h⟩ := pm_ifs h
    refine pm_iald (by decide +kernel) rfl (pm_ok_in ho3) ?_
    refine pm_blk (pc' := 43) (L' := [(0, .ref 64), (1, .int a1)]) (S' := [.int (u.1 78 a1.toNatClampNeg), .ref 64]) (M' := sm g u) [] (by decide +kernel) rfl ?_
    obtain ⟨q4, hq4, h⟩ := pm_bd h
    refine pm_cV (idx := 480) m_Md_defNamed (c_Md_defNamed l h0 D hT hq4) (As := [.int (u.1 78 a1.toNatClampNeg)]) (S0 := []) rfl (by decide +kernel) k_Md_defNamed l_Md_480 (Nat.le_of_ble_eq_true rfl) (Nat.le_of_ble_eq_true rfl) (Nat.le_refl _) (Nat.le_refl _) ?_
    refine pm_blk (pc' := 48) (L' := [(2, .int q4), (0, .ref 64), (1, .int a1)]) (S' := [.int q4]) (M' := sm g u) [pm_o (.istore_n 2), pm_o (.iload_n 2)] (by decide +kernel) rfl ?_
    refine pm_if_ge (off := 21) 69 (by decide +kernel) (by decide) (fun hc5 => ?_) (fun hc5 => ?_)
    · rw [if_pos hc5] at h
      refine pm_blk (pc' := 75) (L' := [(2, .int q4), (0, .ref 64), (1, .int a1)]) (S' := [.int q4, .int a1, .ref 88]) (M' := sm g u) [pm_o (.aload_n 0), pm_of (.getfield 86) 12 30 2, pm_o (.iload_n 1), pm_o (.iload_n 2)] (by decide +kernel) rfl ?_
      obtain ⟨ho6, h⟩ := pm_ifs h
      refine pm_iast (by decide +kernel) rfl  (pm_ok_in ho6) ?_
      refine pm_blk (pc' := 81) (L' := [(2, .int q4), (0, .ref 64), (1, .int a1)]) (S' := [.int q4, .ref 92]) (M' := sm g (wi u 88 a1.toNatClampNeg q4)) [pm_o (.aload_n 0), pm_of (.getfield 98) 12 35 2, pm_o (.iload_n 2)] (by decide +kernel) rfl ?_
      obtain ⟨ho7, h⟩ := pm_ifs h
      refine pm_iald (by decide +kernel) rfl (pm_ok_in ho7) ?_
      refine pm_blk (pc' := 82) (L' := [(2, .int q4), (0, .ref 64), (1, .int a1)]) (S' := [.int (u.1 92 q4.toNatClampNeg)]) (M' := sm g (wi u 88 a1.toNatClampNeg q4)) [] (by decide +kernel) rfl ?_
      refine pm_if_le (off := 26) 108 (by decide +kernel) (by decide) (fun hc8 => ?_) (fun hc8 => ?_)
      · rw [if_pos hc8] at h
        refine pm_blk (pc' := 118) (L' := [(2, .int q4), (0, .ref 64), (1, .int a1)]) (S' := [.int q4, .ref 93, .int a1, .ref 87]) (M' := sm g (wi u 88 a1.toNatClampNeg q4)) [pm_o (.aload_n 0), pm_of (.getfield 83) 12 29 2, pm_o (.iload_n 1), pm_o (.aload_n 0), pm_of (.getfield 101) 12 36 2, pm_o (.iload_n 2)] (by decide +kernel) rfl ?_
        obtain ⟨ho9, h⟩ := pm_ifs h
        refine pm_iald (by decide +kernel) rfl (pm_ok_in ho9) ?_
        refine pm_blk (pc' := 119) (L' := [(2, .int q4), (0, .ref 64), (1, .int a1)]) (S' := [.int (u.1 93 q4.toNatClampNeg), .int a1, .ref 87]) (M' := sm g (wi u 88 a1.toNatClampNeg q4)) [] (by decide +kernel) rfl ?_
        obtain ⟨ho10, h⟩ := pm_ifs h
        refine pm_iast (by decide +kernel) rfl  (pm_ok_in ho10) ?_
        refine pm_blk (pc' := 121) (L' := [(2, .int q4), (0, .ref 64), (1, .int a1)]) (S' := [.int 1]) (M' := sm g (wi (wi u 88 a1.toNatClampNeg q4) 87 a1.toNatClampNeg (u.1 93 q4.toNatClampNeg))) [pm_oi (.iconst 1) 1] (by decide +kernel) rfl ?_
        have h9 := Option.some.inj h
        subst h9
        exact pm_retz rfl (by decide +kernel) rfl rfl rfl rfl
      · rw [if_neg hc8] at h
        refine pm_blk (pc' := 90) (L' := [(2, .int q4), (0, .ref 64), (1, .int a1)]) (S' := [.int a1, .ref 112]) (M' := sm g (wi u 88 a1.toNatClampNeg q4)) [pm_o (.aload_n 0), pm_of (.getfield 158) 12 68 2, pm_o (.iload_n 1)] (by decide +kernel) rfl ?_
        obtain ⟨ho11, h⟩ := pm_ifs h
        refine pm_zald (by decide +kernel) rfl (pm_ok_in ho11) ?_
        refine pm_blk (pc' := 91) (L' := [(2, .int q4), (0, .ref 64), (1, .int a1)]) (S' := [.int (u.1 112 a1.toNatClampNeg)]) (M' := sm g (wi u 88 a1.toNatClampNeg q4)) [] (by decide +kernel) rfl ?_
        refine pm_if_ne (off := 11) 102 (by decide +kernel) (by decide) (fun hc12 => ?_) (fun hc12 => ?_)
        · rw [if_neg hc12] at h
          refine pm_blk (pc' := 103) (L' := [(2, .int q4), (0, .ref 64), (1, .int a1)]) (S' := [.int 1]) (M' := sm g (wi u 88 a1.toNatClampNeg q4)) [pm_oi (.iconst 1) 1] (by decide +kernel) rfl ?_
          refine pm_goto (off := 4) 107 (by decide +kernel) (by decide) ?_
          have h9 := Option.some.inj h
          subst h9
          exact pm_retz rfl (by decide +kernel) rfl rfl rfl rfl
        · rw [if_pos hc12] at h
          refine pm_blk (pc' := 96) (L' := [(2, .int q4), (0, .ref 64), (1, .int a1)]) (S' := [.int a1, .ref 64]) (M' := sm g (wi u 88 a1.toNatClampNeg q4)) [pm_o (.aload_n 0), pm_o (.iload_n 1)] (by decide +kernel) rfl ?_
          obtain ⟨q13, hq13, h⟩ := pm_bd h
          refine pm_cV (idx := 471) m_Md_untyped (c_Md_untyped l h0 D hT hq13) (As := [.int a1]) (S0 := []) rfl (by decide +kernel) k_Md_untyped l_Md_471 (Nat.le_of_ble_eq_true rfl) (Nat.le_of_ble_eq_true rfl) (Nat.le_refl _) (Nat.le_refl _) ?_
          refine pm_blk (pc' := 99) (L' := [(2, .int q4), (0, .ref 64), (1, .int a1)]) (S' := [.int q13.1]) (M' := sm g q13.2) [] (by decide +kernel) rfl ?_
          refine pm_if_eq (off := 7) 106 (by decide +kernel) (by decide) (fun hc14 => ?_) (fun hc14 => ?_)
          · rw [if_pos hc14] at h
            refine pm_blk (pc' := 107) (L' := [(2, .int q4), (0, .ref 64), (1, .int a1)]) (S' := [.int 0]) (M' := sm g q13.2) [pm_oi (.iconst 0) 0] (by decide +kernel) rfl ?_
            have h9 := Option.some.inj h
            subst h9
            exact pm_retz rfl (by decide +kernel) rfl rfl rfl rfl
          · rw [if_neg hc14] at h
            refine pm_blk (pc' := 103) (L' := [(2, .int q4), (0, .ref 64), (1, .int a1)]) (S' := [.int 1]) (M' := sm g q13.2) [pm_oi (.iconst 1) 1] (by decide +kernel) rfl ?_
            refine pm_goto (off := 4) 107 (by decide +kernel) (by decide) ?_
            have h9 := Option.some.inj h
            subst h9
            exact pm_retz rfl (by decide +kernel) rfl rfl rfl rfl
    · rw [if_neg hc5] at h
      refine pm_blk (pc' := 63) (L' := [(2, .int q4), (0, .ref 64), (1, .int a1)]) (S' := [.int a1, .ref 78, .ref 67, .int 6, .ref 64]) (M' := sm g u) [pm_o (.aload_n 0), pm_oi (.bipush 6) 6, pm_o (.aload_n 0), pm_of (.getfield 20) 12 7 2, pm_o (.aload_n 0), pm_of (.getfield 56) 12 20 2, pm_o (.iload_n 1)] (by decide +kernel) rfl ?_
      obtain ⟨ho15, h⟩ := pm_ifs h
      refine pm_iald (by decide +kernel) rfl (pm_ok_in ho15) ?_
      refine pm_blk (pc' := 64) (L' := [(2, .int q4), (0, .ref 64), (1, .int a1)]) (S' := [.int (u.1 78 a1.toNatClampNeg), .ref 67, .int 6, .ref 64]) (M' := sm g u) [] (by decide +kernel) rfl ?_
      obtain ⟨ho16, h⟩ := pm_ifs h
      refine pm_iald (by decide +kernel) rfl (pm_ok_in ho16) ?_
      refine pm_blk (pc' := 65) (L' := [(2, .int q4), (0, .ref 64), (1, .int a1)]) (S' := [.int (u.1 67 ((u.1 78 a1.toNatClampNeg).toNatClampNeg)), .int 6, .ref 64]) (M' := sm g u) [] (by decide +kernel) rfl ?_
      obtain ⟨q17, hq17, h⟩ := pm_bd h
      refine pm_cV (idx := 337) m_Md_fails (c_Md_fails l h0 D hT hq17) (As := [.int 6, .int (u.1 67 ((u.1 78 a1.toNatClampNeg).toNatClampNeg))]) (S0 := []) rfl (by decide +kernel) k_Md_fails l_Md_337 (Nat.le_of_ble_eq_true rfl) (Nat.le_of_ble_eq_true rfl) (Nat.le_refl _) (Nat.le_refl _) ?_
      refine pm_blk (pc' := 68) (L' := [(2, .int q4), (0, .ref 64), (1, .int a1)]) (S' := [.int q17.1]) (M' := sm g q17.2) [] (by decide +kernel) rfl ?_
      obtain ⟨hz18, h⟩ := pm_ifs h
      have h9 := Option.some.inj h
      subst h9
      exact pm_retz rfl (by decide +kernel) hz18 rfl rfl rfl
  · rw [if_neg hc2] at h
    refine pm_blk (pc' := 30) (L' := [(0, .ref 64), (1, .int a1)]) (S' := [.int a1, .ref 82, .int (24 * (u.1 64 69)), .ref 100, .int a1, .ref 87]) (M' := sm g u) [pm_o (.aload_n 0), pm_of (.getfield 83) 12 29 2, pm_o (.iload_n 1), pm_o (.aload_n 0), pm_of (.getfield 122) 12 43 2, pm_oi (.bipush 24) 24, pm_o (.aload_n 0), pm_of (.getfield 465) 12 69 0, pm_o .imul, pm_o (.aload_n 0), pm_of (.getfield 68) 12 24 2, pm_o (.iload_n 1)] (by decide +kernel) rfl ?_
    obtain ⟨ho19, h⟩ := pm_ifs h
    refine pm_iald (by decide +kernel) rfl (pm_ok_in ho19) ?_
    refine pm_blk (pc' := 32) (L' := [(0, .ref 64), (1, .int a1)]) (S' := [.int ((24 * (u.1 64 69)) + (u.1 82 a1.toNatClampNeg)), .ref 100, .int a1, .ref 87]) (M' := sm g u) [pm_o .iadd] (by decide +kernel) rfl ?_
    obtain ⟨ho20, h⟩ := pm_ifs h
    refine pm_iald (by decide +kernel) rfl (pm_ok_in ho20) ?_
    refine pm_blk (pc' := 33) (L' := [(0, .ref 64), (1, .int a1)]) (S' := [.int (u.1 100 (((24 * (u.1 64 69)) + (u.1 82 a1.toNatClampNeg)).toNatClampNeg)), .int a1, .ref 87]) (M' := sm g u) [] (by decide +kernel) rfl ?_
    obtain ⟨ho21, h⟩ := pm_ifs h
    refine pm_iast (by decide +kernel) rfl  (pm_ok_in ho21) ?_
    refine pm_blk (pc' := 35) (L' := [(0, .ref 64), (1, .int a1)]) (S' := [.int 1]) (M' := sm g (wi u 87 a1.toNatClampNeg (u.1 100 (((24 * (u.1 64 69)) + (u.1 82 a1.toNatClampNeg)).toNatClampNeg)))) [pm_oi (.iconst 1) 1] (by decide +kernel) rfl ?_
    have h9 := Option.some.inj h
    subst h9
    exact pm_retz rfl (by decide +kernel) rfl rfl rfl rfl
def K_Md_typeRow_177 (N : Nat) (g : pm_s) : Nat → Int32 → Int32 → Int32 → pm_J → Option (Int32 × pm_J)
  | 0, _, _, _, _ => none
  | n + 1, x1, x5, x6, u => if pm_ok x1 2400 = true then if (u.1 84 x1.toNatClampNeg) ≤ x6 then some (1, u) else if pm_ok x1 2400 = true then if (u.1 87 x1.toNatClampNeg) < 6 then (F_Md_untyped x1 g u).bind fun q18 => if (q18.1 == 0 || q18.1 == 1) = true then some (q18.1, q18.2) else none else if pm_ok (u.1 87 x1.toNatClampNeg) 100000 = true then if (u.1 70 ((u.1 87 x1.toNatClampNeg).toNatClampNeg)) = 0 then (F_Md_untyped x1 g u).bind fun q22 => if (q22.1 == 0 || q22.1 == 1) = true then some (q22.1, q22.2) else none else if pm_ok (u.1 87 x1.toNatClampNeg) 100000 = true then if pm_ok x5 2400 = true then if (u.1 71 ((u.1 87 x1.toNatClampNeg).toNatClampNeg)) = (u.1 87 x5.toNatClampNeg) then if pm_ok (u.1 87 x1.toNatClampNeg) 100000 = true then if pm_ok x1 2400 = true then if pm_ok x5 2400 = true then K_Md_typeRow_177 N g  n x1 (u.1 83 x5.toNatClampNeg) (x6 + 1) (wi u 87 x1.toNatClampNeg (u.1 72 ((u.1 87 x1.toNatClampNeg).toNatClampNeg))) else none else none else none else (F_Md_untyped x1 g u).bind fun q30 => if (q30.1 == 0 || q30.1 == 1) = true then some (q30.1, q30.2) else none else none else none else none else none else none
set_option maxHeartbeats 4000000 in
set_option maxRecDepth 100000 in
theorem w_Md_typeRow_177 (l : Launch) (h0 : Nat) (D : pm_D) {g : pm_s} (hT : sh_T g) {N : Nat} {u0 : pm_J} {out : Int32 × pm_J} {p : Program} {e : Env} {R : Room} {s : State} {m : MethodId} {args : Array Value} {below : List Frame} {meth : Method} {c : Code} : ∀ (n : Nat) (x1 : Int32) (x5 : Int32) (x6 : Int32) (u : pm_J), K_Md_typeRow_177 N g n x1 x5 x6 u = some out → pm_V (p, l, e, R, s, m, args, below, meth, c) m_Md_typeRow h0 D (g.1, g.2.1, g.1, g.2.1, 2) (pm_E (p, l, e, R, s, m, args, below, meth, c) h0 D (sm g u0) (some (.int out.1)) (sm g out.2)) 177 [(0, .ref 64), (1, .int x1), (5, .int x5), (6, .int x6)] [] (sm g u) := by
  intro n
  induction n with
  | zero => intro x1 x5 x6 u h; cases h
  | succ n ih =>
    intro x1 x5 x6 u h
    rw [K_Md_typeRow_177] at h
    refine pm_blk (pc' := 184) (L' := [(0, .ref 64), (1, .int x1), (5, .int x5), (6, .int x6)]) (S' := [.int x1, .ref 84, .int x6]) (M' := sm g u) [pm_o (.iload 6), pm_o (.aload_n 0), pm_of (.getfield 74) 12 26 2, pm_o (.iload_n 1)] (by decide +kernel) rfl ?_
    obtain ⟨ho14, h⟩ := pm_ifs h
    refine pm_iald (by decide +kernel) rfl (pm_ok_in ho14) ?_
    refine pm_blk (pc' := 185) (L' := [(0, .ref 64), (1, .int x1), (5, .int x5), (6, .int x6)]) (S' := [.int (u.1 84 x1.toNatClampNeg), .int x6]) (M' := sm g u) [] (by decide +kernel) rfl ?_
    refine pm_ic_ge (off := 79) 264 (by decide +kernel) (by decide) (fun hc15 => ?_) (fun hc15 => ?_)
    · rw [if_pos hc15] at h
      refine pm_blk (pc' := 265) (L' := [(0, .ref 64), (1, .int x1), (5, .int x5), (6, .int x6)]) (S' := [.int 1]) (M' := sm g u) [pm_oi (.iconst 1) 1] (by decide +kernel) rfl ?_
      have h9 := Option.some.inj h
      subst h9
      exact pm_retz rfl (by decide +kernel) rfl rfl rfl rfl
    · rw [if_neg hc15] at h
      refine pm_blk (pc' := 193) (L' := [(0, .ref 64), (1, .int x1), (5, .int x5), (6, .int x6)]) (S' := [.int x1, .ref 87]) (M' := sm g u) [pm_o (.aload_n 0), pm_of (.getfield 83) 12 29 2, pm_o (.iload_n 1)] (by decide +kernel) rfl ?_
      obtain ⟨ho16, h⟩ := pm_ifs h
      refine pm_iald (by decide +kernel) rfl (pm_ok_in ho16) ?_
      refine pm_blk (pc' := 200) (L' := [(7, .int (u.1 87 x1.toNatClampNeg)), (0, .ref 64), (1, .int x1), (5, .int x5), (6, .int x6)]) (S' := [.int 6, .int (u.1 87 x1.toNatClampNeg)]) (M' := sm g u) [pm_o (.istore 7), pm_o (.iload 7), pm_oi (.bipush 6) 6] (by decide +kernel) rfl ?_
      refine pm_ic_lt (off := 30) 230 (by decide +kernel) (by decide) (fun hc17 => ?_) (fun hc17 => ?_)
      · rw [if_pos hc17] at h
        refine pm_blk (pc' := 232) (L' := [(7, .int (u.1 87 x1.toNatClampNeg)), (0, .ref 64), (1, .int x1), (5, .int x5), (6, .int x6)]) (S' := [.int x1, .ref 64]) (M' := sm g u) [pm_o (.aload_n 0), pm_o (.iload_n 1)] (by decide +kernel) rfl ?_
        obtain ⟨q18, hq18, h⟩ := pm_bd h
        refine pm_cV (idx := 471) m_Md_untyped (c_Md_untyped l h0 D hT hq18) (As := [.int x1]) (S0 := []) rfl (by decide +kernel) k_Md_untyped l_Md_471 (Nat.le_of_ble_eq_true rfl) (Nat.le_of_ble_eq_true rfl) (Nat.le_refl _) (Nat.le_refl _) ?_
        refine pm_blk (pc' := 235) (L' := [(7, .int (u.1 87 x1.toNatClampNeg)), (0, .ref 64), (1, .int x1), (5, .int x5), (6, .int x6)]) (S' := [.int q18.1]) (M' := sm g q18.2) [] (by decide +kernel) rfl ?_
        obtain ⟨hz19, h⟩ := pm_ifs h
        have h9 := Option.some.inj h
        subst h9
        exact pm_retz rfl (by decide +kernel) hz19 rfl rfl rfl
      · rw [if_neg hc17] at h
        refine pm_blk (pc' := 209) (L' := [(7, .int (u.1 87 x1.toNatClampNeg)), (0, .ref 64), (1, .int x1), (5, .int x5), (6, .int x6)]) (S' := [.int (u.1 87 x1.toNatClampNeg), .ref 70]) (M' := sm g u) [pm_o (.aload_n 0), pm_of (.getfield 31) 12 11 2, pm_o (.iload 7)] (by decide +kernel) rfl ?_
        obtain ⟨ho20, h⟩ := pm_ifs h
        refine pm_zald (by decide +kernel) rfl (pm_ok_in ho20) ?_
        refine pm_blk (pc' := 210) (L' := [(7, .int (u.1 87 x1.toNatClampNeg)), (0, .ref 64), (1, .int x1), (5, .int x5), (6, .int x6)]) (S' := [.int (u.1 70 ((u.1 87 x1.toNatClampNeg).toNatClampNeg))]) (M' := sm g u) [] (by decide +kernel) rfl ?_
        refine pm_if_eq (off := 20) 230 (by decide +kernel) (by decide) (fun hc21 => ?_) (fun hc21 => ?_)
        · rw [if_pos hc21] at h
          refine pm_blk (pc' := 232) (L' := [(7, .int (u.1 87 x1.toNatClampNeg)), (0, .ref 64), (1, .int x1), (5, .int x5), (6, .int x6)]) (S' := [.int x1, .ref 64]) (M' := sm g u) [pm_o (.aload_n 0), pm_o (.iload_n 1)] (by decide +kernel) rfl ?_
          obtain ⟨q22, hq22, h⟩ := pm_bd h
          refine pm_cV (idx := 471) m_Md_untyped (c_Md_untyped l h0 D hT hq22) (As := [.int x1]) (S0 := []) rfl (by decide +kernel) k_Md_untyped l_Md_471 (Nat.le_of_ble_eq_true rfl) (Nat.le_of_ble_eq_true rfl) (Nat.le_refl _) (Nat.le_refl _) ?_
          refine pm_blk (pc' := 235) (L' := [(7, .int (u.1 87 x1.toNatClampNeg)), (0, .ref 64), (1, .int x1), (5, .int x5), (6, .int x6)]) (S' := [.int q22.1]) (M' := sm g q22.2) [] (by decide +kernel) rfl ?_
          obtain ⟨hz23, h⟩ := pm_ifs h
          have h9 := Option.some.inj h
          subst h9
          exact pm_retz rfl (by decide +kernel) hz23 rfl rfl rfl
        · rw [if_neg hc21] at h
          refine pm_blk (pc' := 219) (L' := [(7, .int (u.1 87 x1.toNatClampNeg)), (0, .ref 64), (1, .int x1), (5, .int x5), (6, .int x6)]) (S' := [.int (u.1 87 x1.toNatClampNeg), .ref 71]) (M' := sm g u) [pm_o (.aload_n 0), pm_of (.getfield 35) 12 12 2, pm_o (.iload 7)] (by decide +kernel) rfl ?_
          obtain ⟨ho24, h⟩ := pm_ifs h
          refine pm_iald (by decide +kernel) rfl (pm_ok_in ho24) ?_
          refine pm_blk (pc' := 226) (L' := [(7, .int (u.1 87 x1.toNatClampNeg)), (0, .ref 64), (1, .int x1), (5, .int x5), (6, .int x6)]) (S' := [.int x5, .ref 87, .int (u.1 71 ((u.1 87 x1.toNatClampNeg).toNatClampNeg))]) (M' := sm g u) [pm_o (.aload_n 0), pm_of (.getfield 83) 12 29 2, pm_o (.iload 5)] (by decide +kernel) rfl ?_
          obtain ⟨ho25, h⟩ := pm_ifs h
          refine pm_iald (by decide +kernel) rfl (pm_ok_in ho25) ?_
          refine pm_blk (pc' := 227) (L' := [(7, .int (u.1 87 x1.toNatClampNeg)), (0, .ref 64), (1, .int x1), (5, .int x5), (6, .int x6)]) (S' := [.int (u.1 87 x5.toNatClampNeg), .int (u.1 71 ((u.1 87 x1.toNatClampNeg).toNatClampNeg))]) (M' := sm g u) [] (by decide +kernel) rfl ?_
          refine pm_ic_eq (off := 9) 236 (by decide +kernel) (by decide) (fun hc26 => ?_) (fun hc26 => ?_)
          · rw [if_pos hc26] at h
            refine pm_blk (pc' := 247) (L' := [(7, .int (u.1 87 x1.toNatClampNeg)), (0, .ref 64), (1, .int x1), (5, .int x5), (6, .int x6)]) (S' := [.int (u.1 87 x1.toNatClampNeg), .ref 72, .int x1, .ref 87]) (M' := sm g u) [pm_o (.aload_n 0), pm_of (.getfield 83) 12 29 2, pm_o (.iload_n 1), pm_o (.aload_n 0), pm_of (.getfield 38) 12 13 2, pm_o (.iload 7)] (by decide +kernel) rfl ?_
            obtain ⟨ho27, h⟩ := pm_ifs h
            refine pm_iald (by decide +kernel) rfl (pm_ok_in ho27) ?_
            refine pm_blk (pc' := 248) (L' := [(7, .int (u.1 87 x1.toNatClampNeg)), (0, .ref 64), (1, .int x1), (5, .int x5), (6, .int x6)]) (S' := [.int (u.1 72 ((u.1 87 x1.toNatClampNeg).toNatClampNeg)), .int x1, .ref 87]) (M' := sm g u) [] (by decide +kernel) rfl ?_
            obtain ⟨ho28, h⟩ := pm_ifs h
            refine pm_iast (by decide +kernel) rfl  (pm_ok_in ho28) ?_
            refine pm_blk (pc' := 255) (L' := [(7, .int (u.1 87 x1.toNatClampNeg)), (0, .ref 64), (1, .int x1), (5, .int x5), (6, .int x6)]) (S' := [.int x5, .ref 83]) (M' := sm g (wi u 87 x1.toNatClampNeg (u.1 72 ((u.1 87 x1.toNatClampNeg).toNatClampNeg)))) [pm_o (.aload_n 0), pm_of (.getfield 71) 12 25 2, pm_o (.iload 5)] (by decide +kernel) rfl ?_
            obtain ⟨ho29, h⟩ := pm_ifs h
            refine pm_iald (by decide +kernel) rfl (pm_ok_in ho29) ?_
            refine pm_blk (pc' := 261) (L' := [(6, .int (x6 + 1)), (5, .int (u.1 83 x5.toNatClampNeg)), (7, .int (u.1 87 x1.toNatClampNeg)), (0, .ref 64), (1, .int x1)]) (S' := []) (M' := sm g (wi u 87 x1.toNatClampNeg (u.1 72 ((u.1 87 x1.toNatClampNeg).toNatClampNeg)))) [pm_o (.istore 5), pm_oi (.iinc 6 1) 1] (by decide +kernel) rfl ?_
            refine pm_goto (off := -84) 177 (by decide +kernel) (by decide) ?_
            refine pm_loc [3, 4, 1, 0] rfl ?_
            exact ih x1 (u.1 83 x5.toNatClampNeg) (x6 + 1) (wi u 87 x1.toNatClampNeg (u.1 72 ((u.1 87 x1.toNatClampNeg).toNatClampNeg))) h
          · rw [if_neg hc26] at h
            refine pm_blk (pc' := 232) (L' := [(7, .int (u.1 87 x1.toNatClampNeg)), (0, .ref 64), (1, .int x1), (5, .int x5), (6, .int x6)]) (S' := [.int x1, .ref 64]) (M' := sm g u) [pm_o (.aload_n 0), pm_o (.iload_n 1)] (by decide +kernel) rfl ?_
            obtain ⟨q30, hq30, h⟩ := pm_bd h
            refine pm_cV (idx := 471) m_Md_untyped (c_Md_untyped l h0 D hT hq30) (As := [.int x1]) (S0 := []) rfl (by decide +kernel) k_Md_untyped l_Md_471 (Nat.le_of_ble_eq_true rfl) (Nat.le_of_ble_eq_true rfl) (Nat.le_refl _) (Nat.le_refl _) ?_
            refine pm_blk (pc' := 235) (L' := [(7, .int (u.1 87 x1.toNatClampNeg)), (0, .ref 64), (1, .int x1), (5, .int x5), (6, .int x6)]) (S' := [.int q30.1]) (M' := sm g q30.2) [] (by decide +kernel) rfl ?_
            obtain ⟨hz31, h⟩ := pm_ifs h
            have h9 := Option.some.inj h
            subst h9
            exact pm_retz rfl (by decide +kernel) hz31 rfl rfl rfl
def K_Md_typeRow_87 (N : Nat) (g : pm_s) : Nat → Int32 → Int32 → Int32 → Int32 → Int32 → Int32 → pm_J → Option (Int32 × pm_J)
  | 0, _, _, _, _, _, _, _ => none
  | n + 1, x1, x2, x3, x4, x5, x6, u => if x4 ≤ x6 then if x4 ≤ 0 then if pm_ok x2 2400 = true then if pm_ok x1 2400 = true then K_Md_typeRow_177 N g N x1 x5 x4 (wi u 87 x1.toNatClampNeg (u.1 87 x2.toNatClampNeg)) else none else none else if pm_ok x3 30 = true then (F_Md_filled N (u.1 93 x3.toNatClampNeg) x1 g u).bind fun q33 => if pm_ok x1 2400 = true then K_Md_typeRow_177 N g N x1 x5 x4 (wi q33.2 87 x1.toNatClampNeg q33.1) else none else none else if pm_ok ((6 * x3) + x6) 180 = true then if pm_ok x5 2400 = true then (F_Md_fits N (u.1 99 (((6 * x3) + x6).toNatClampNeg)) (u.1 87 x5.toNatClampNeg) x1 g u).bind fun q37 => if q37.1 = 0 then (F_Md_untyped x1 g q37.2).bind fun q40 => if (q40.1 == 0 || q40.1 == 1) = true then some (q40.1, q40.2) else none else if pm_ok x5 2400 = true then K_Md_typeRow_87 N g  n x1 x2 x3 x4 (q37.2.1 83 x5.toNatClampNeg) (x6 + 1) q37.2 else none else none else none
set_option maxHeartbeats 4000000 in
set_option maxRecDepth 100000 in
theorem w_Md_typeRow_87 (l : Launch) (h0 : Nat) (D : pm_D) {g : pm_s} (hT : sh_T g) {N : Nat} {u0 : pm_J} {out : Int32 × pm_J} {p : Program} {e : Env} {R : Room} {s : State} {m : MethodId} {args : Array Value} {below : List Frame} {meth : Method} {c : Code} : ∀ (n : Nat) (x1 : Int32) (x2 : Int32) (x3 : Int32) (x4 : Int32) (x5 : Int32) (x6 : Int32) (u : pm_J), K_Md_typeRow_87 N g n x1 x2 x3 x4 x5 x6 u = some out → pm_V (p, l, e, R, s, m, args, below, meth, c) m_Md_typeRow h0 D (g.1, g.2.1, g.1, g.2.1, 2) (pm_E (p, l, e, R, s, m, args, below, meth, c) h0 D (sm g u0) (some (.int out.1)) (sm g out.2)) 87 [(0, .ref 64), (1, .int x1), (2, .int x2), (3, .int x3), (4, .int x4), (5, .int x5), (6, .int x6)] [] (sm g u) := by
  intro n
  induction n with
  | zero => intro x1 x2 x3 x4 x5 x6 u h; cases h
  | succ n ih =>
    intro x1 x2 x3 x4 x5 x6 u h
    rw [K_Md_typeRow_87] at h
    refine pm_blk (pc' := 91) (L' := [(0, .ref 64), (1, .int x1), (2, .int x2), (3, .int x3), (4, .int x4), (5, .int x5), (6, .int x6)]) (S' := [.int x4, .int x6]) (M' := sm g u) [pm_o (.iload 6), pm_o (.iload 4)] (by decide +kernel) rfl ?_
    refine pm_ic_ge (off := 51) 142 (by decide +kernel) (by decide) (fun hc10 => ?_) (fun hc10 => ?_)
    · rw [if_pos hc10] at h
      refine pm_blk (pc' := 149) (L' := [(0, .ref 64), (1, .int x1), (2, .int x2), (3, .int x3), (4, .int x4), (5, .int x5), (6, .int x6)]) (S' := [.int x4, .int x1, .ref 87]) (M' := sm g u) [pm_o (.aload_n 0), pm_of (.getfield 83) 12 29 2, pm_o (.iload_n 1), pm_o (.iload 4)] (by decide +kernel) rfl ?_
      refine pm_if_le (off := 17) 166 (by decide +kernel) (by decide) (fun hc11 => ?_) (fun hc11 => ?_)
      · rw [if_pos hc11] at h
        refine pm_blk (pc' := 171) (L' := [(0, .ref 64), (1, .int x1), (2, .int x2), (3, .int x3), (4, .int x4), (5, .int x5), (6, .int x6)]) (S' := [.int x2, .ref 87, .int x1, .ref 87]) (M' := sm g u) [pm_o (.aload_n 0), pm_of (.getfield 83) 12 29 2, pm_o (.iload_n 2)] (by decide +kernel) rfl ?_
        obtain ⟨ho12, h⟩ := pm_ifs h
        refine pm_iald (by decide +kernel) rfl (pm_ok_in ho12) ?_
        refine pm_blk (pc' := 172) (L' := [(0, .ref 64), (1, .int x1), (2, .int x2), (3, .int x3), (4, .int x4), (5, .int x5), (6, .int x6)]) (S' := [.int (u.1 87 x2.toNatClampNeg), .int x1, .ref 87]) (M' := sm g u) [] (by decide +kernel) rfl ?_
        obtain ⟨ho13, h⟩ := pm_ifs h
        refine pm_iast (by decide +kernel) rfl  (pm_ok_in ho13) ?_
        refine pm_blk (pc' := 177) (L' := [(6, .int x4), (0, .ref 64), (1, .int x1), (2, .int x2), (3, .int x3), (4, .int x4), (5, .int x5)]) (S' := []) (M' := sm g (wi u 87 x1.toNatClampNeg (u.1 87 x2.toNatClampNeg))) [pm_o (.iload 4), pm_o (.istore 6)] (by decide +kernel) rfl ?_
        refine pm_loc [1, 2, 6, 0] rfl ?_
        exact w_Md_typeRow_177 l h0 D hT N x1 x5 x4 (wi u 87 x1.toNatClampNeg (u.1 87 x2.toNatClampNeg)) h
      · rw [if_neg hc11] at h
        refine pm_blk (pc' := 158) (L' := [(0, .ref 64), (1, .int x1), (2, .int x2), (3, .int x3), (4, .int x4), (5, .int x5), (6, .int x6)]) (S' := [.int x3, .ref 93, .ref 64, .int x1, .ref 87]) (M' := sm g u) [pm_o (.aload_n 0), pm_o (.aload_n 0), pm_of (.getfield 101) 12 36 2, pm_o (.iload_n 3)] (by decide +kernel) rfl ?_
        obtain ⟨ho32, h⟩ := pm_ifs h
        refine pm_iald (by decide +kernel) rfl (pm_ok_in ho32) ?_
        refine pm_blk (pc' := 160) (L' := [(0, .ref 64), (1, .int x1), (2, .int x2), (3, .int x3), (4, .int x4), (5, .int x5), (6, .int x6)]) (S' := [.int x1, .int (u.1 93 x3.toNatClampNeg), .ref 64, .int x1, .ref 87]) (M' := sm g u) [pm_o (.iload_n 1)] (by decide +kernel) rfl ?_
        obtain ⟨q33, hq33, h⟩ := pm_bd h
        refine pm_cV (idx := 487) m_Md_filled (c_Md_filled l h0 D hT hq33) (As := [.int (u.1 93 x3.toNatClampNeg), .int x1]) (S0 := [.int x1, .ref 87]) rfl (by decide +kernel) k_Md_filled l_Md_487 (Nat.le_of_ble_eq_true rfl) (Nat.le_of_ble_eq_true rfl) (Nat.le_refl _) (Nat.le_refl _) ?_
        refine pm_blk (pc' := 163) (L' := [(0, .ref 64), (1, .int x1), (2, .int x2), (3, .int x3), (4, .int x4), (5, .int x5), (6, .int x6)]) (S' := [.int q33.1, .int x1, .ref 87]) (M' := sm g q33.2) [] (by decide +kernel) rfl ?_
        refine pm_goto (off := 9) 172 (by decide +kernel) (by decide) ?_
        obtain ⟨ho34, h⟩ := pm_ifs h
        refine pm_iast (by decide +kernel) rfl  (pm_ok_in ho34) ?_
        refine pm_blk (pc' := 177) (L' := [(6, .int x4), (0, .ref 64), (1, .int x1), (2, .int x2), (3, .int x3), (4, .int x4), (5, .int x5)]) (S' := []) (M' := sm g (wi q33.2 87 x1.toNatClampNeg q33.1)) [pm_o (.iload 4), pm_o (.istore 6)] (by decide +kernel) rfl ?_
        refine pm_loc [1, 2, 6, 0] rfl ?_
        exact w_Md_typeRow_177 l h0 D hT N x1 x5 x4 (wi q33.2 87 x1.toNatClampNeg q33.1) h
    · rw [if_neg hc10] at h
      refine pm_blk (pc' := 106) (L' := [(0, .ref 64), (1, .int x1), (2, .int x2), (3, .int x3), (4, .int x4), (5, .int x5), (6, .int x6)]) (S' := [.int ((6 * x3) + x6), .ref 99, .ref 64]) (M' := sm g u) [pm_o (.aload_n 0), pm_o (.aload_n 0), pm_of (.getfield 119) 12 42 2, pm_oi (.bipush 6) 6, pm_o (.iload_n 3), pm_o .imul, pm_o (.iload 6), pm_o .iadd] (by decide +kernel) rfl ?_
      obtain ⟨ho35, h⟩ := pm_ifs h
      refine pm_iald (by decide +kernel) rfl (pm_ok_in ho35) ?_
      refine pm_blk (pc' := 113) (L' := [(0, .ref 64), (1, .int x1), (2, .int x2), (3, .int x3), (4, .int x4), (5, .int x5), (6, .int x6)]) (S' := [.int x5, .ref 87, .int (u.1 99 (((6 * x3) + x6).toNatClampNeg)), .ref 64]) (M' := sm g u) [pm_o (.aload_n 0), pm_of (.getfield 83) 12 29 2, pm_o (.iload 5)] (by decide +kernel) rfl ?_
      obtain ⟨ho36, h⟩ := pm_ifs h
      refine pm_iald (by decide +kernel) rfl (pm_ok_in ho36) ?_
      refine pm_blk (pc' := 115) (L' := [(0, .ref 64), (1, .int x1), (2, .int x2), (3, .int x3), (4, .int x4), (5, .int x5), (6, .int x6)]) (S' := [.int x1, .int (u.1 87 x5.toNatClampNeg), .int (u.1 99 (((6 * x3) + x6).toNatClampNeg)), .ref 64]) (M' := sm g u) [pm_o (.iload_n 1)] (by decide +kernel) rfl ?_
      obtain ⟨q37, hq37, h⟩ := pm_bd h
      refine pm_cV (idx := 483) m_Md_fits (c_Md_fits l h0 D hT hq37) (As := [.int (u.1 99 (((6 * x3) + x6).toNatClampNeg)), .int (u.1 87 x5.toNatClampNeg), .int x1]) (S0 := []) rfl (by decide +kernel) k_Md_fits l_Md_483 (Nat.le_of_ble_eq_true rfl) (Nat.le_of_ble_eq_true rfl) (Nat.le_refl _) (Nat.le_refl _) ?_
      refine pm_blk (pc' := 118) (L' := [(0, .ref 64), (1, .int x1), (2, .int x2), (3, .int x3), (4, .int x4), (5, .int x5), (6, .int x6)]) (S' := [.int q37.1]) (M' := sm g q37.2) [] (by decide +kernel) rfl ?_
      refine pm_if_ne (off := 9) 127 (by decide +kernel) (by decide) (fun hc38 => ?_) (fun hc38 => ?_)
      · rw [if_neg hc38] at h
        refine pm_blk (pc' := 133) (L' := [(0, .ref 64), (1, .int x1), (2, .int x2), (3, .int x3), (4, .int x4), (5, .int x5), (6, .int x6)]) (S' := [.int x5, .ref 83]) (M' := sm g q37.2) [pm_o (.aload_n 0), pm_of (.getfield 71) 12 25 2, pm_o (.iload 5)] (by decide +kernel) rfl ?_
        obtain ⟨ho39, h⟩ := pm_ifs h
        refine pm_iald (by decide +kernel) rfl (pm_ok_in ho39) ?_
        refine pm_blk (pc' := 139) (L' := [(6, .int (x6 + 1)), (5, .int (q37.2.1 83 x5.toNatClampNeg)), (0, .ref 64), (1, .int x1), (2, .int x2), (3, .int x3), (4, .int x4)]) (S' := []) (M' := sm g q37.2) [pm_o (.istore 5), pm_oi (.iinc 6 1) 1] (by decide +kernel) rfl ?_
        refine pm_goto (off := -52) 87 (by decide +kernel) (by decide) ?_
        refine pm_loc [2, 3, 4, 5, 6, 1, 0] rfl ?_
        exact ih x1 x2 x3 x4 (q37.2.1 83 x5.toNatClampNeg) (x6 + 1) q37.2 h
      · rw [if_pos hc38] at h
        refine pm_blk (pc' := 123) (L' := [(0, .ref 64), (1, .int x1), (2, .int x2), (3, .int x3), (4, .int x4), (5, .int x5), (6, .int x6)]) (S' := [.int x1, .ref 64]) (M' := sm g q37.2) [pm_o (.aload_n 0), pm_o (.iload_n 1)] (by decide +kernel) rfl ?_
        obtain ⟨q40, hq40, h⟩ := pm_bd h
        refine pm_cV (idx := 471) m_Md_untyped (c_Md_untyped l h0 D hT hq40) (As := [.int x1]) (S0 := []) rfl (by decide +kernel) k_Md_untyped l_Md_471 (Nat.le_of_ble_eq_true rfl) (Nat.le_of_ble_eq_true rfl) (Nat.le_refl _) (Nat.le_refl _) ?_
        refine pm_blk (pc' := 126) (L' := [(0, .ref 64), (1, .int x1), (2, .int x2), (3, .int x3), (4, .int x4), (5, .int x5), (6, .int x6)]) (S' := [.int q40.1]) (M' := sm g q40.2) [] (by decide +kernel) rfl ?_
        obtain ⟨hz41, h⟩ := pm_ifs h
        have h9 := Option.some.inj h
        subst h9
        exact pm_retz rfl (by decide +kernel) hz41 rfl rfl rfl
def K_Md_typeRow_58 (N : Nat) (g : pm_s) (x1 : Int32) (x2 : Int32) (x3 : Int32) (x4 : Int32) (t0 : Int32) (t1 : Int32) (u : pm_J) : Option (Int32 × pm_J) := if pm_ok t1 2400 = true then if pm_ok x1 2400 = true then if x4 ≤ (u.1 84 x1.toNatClampNeg) then if pm_ok x1 2400 = true then K_Md_typeRow_87 N g N x1 x2 x3 x4 (u.1 80 x1.toNatClampNeg) 0 (wi u 88 t1.toNatClampNeg t0) else none else (F_Md_untyped x1 g (wi u 88 t1.toNatClampNeg t0)).bind fun q42 => if (q42.1 == 0 || q42.1 == 1) = true then some (q42.1, q42.2) else none else none else none
set_option maxHeartbeats 4000000 in
set_option maxRecDepth 100000 in
theorem w_Md_typeRow_58 (l : Launch) (h0 : Nat) (D : pm_D) {g : pm_s} (hT : sh_T g) {N : Nat} {u0 : pm_J} {out : Int32 × pm_J} {p : Program} {e : Env} {R : Room} {s : State} {m : MethodId} {args : Array Value} {below : List Frame} {meth : Method} {c : Code} : ∀ (x1 : Int32) (x2 : Int32) (x3 : Int32) (x4 : Int32) (t0 : Int32) (t1 : Int32) (u : pm_J), K_Md_typeRow_58 N g x1 x2 x3 x4 t0 t1 u = some out → pm_V (p, l, e, R, s, m, args, below, meth, c) m_Md_typeRow h0 D (g.1, g.2.1, g.1, g.2.1, 2) (pm_E (p, l, e, R, s, m, args, below, meth, c) h0 D (sm g u0) (some (.int out.1)) (sm g out.2)) 58 [(0, .ref 64), (1, .int x1), (2, .int x2), (3, .int x3), (4, .int x4)] [.int t0, .int t1, .ref 88] (sm g u) := by
    intro x1 x2 x3 x4 t0 t1 u h
    unfold K_Md_typeRow_58 at h
    obtain ⟨ho6, h⟩ := pm_ifs h
    refine pm_iast (by decide +kernel) rfl  (pm_ok_in ho6) ?_
    refine pm_blk (pc' := 64) (L' := [(0, .ref 64), (1, .int x1), (2, .int x2), (3, .int x3), (4, .int x4)]) (S' := [.int x1, .ref 84]) (M' := sm g (wi u 88 t1.toNatClampNeg t0)) [pm_o (.aload_n 0), pm_of (.getfield 74) 12 26 2, pm_o (.iload_n 1)] (by decide +kernel) rfl ?_
    obtain ⟨ho7, h⟩ := pm_ifs h
    refine pm_iald (by decide +kernel) rfl (pm_ok_in ho7) ?_
    refine pm_blk (pc' := 67) (L' := [(0, .ref 64), (1, .int x1), (2, .int x2), (3, .int x3), (4, .int x4)]) (S' := [.int x4, .int (u.1 84 x1.toNatClampNeg)]) (M' := sm g (wi u 88 t1.toNatClampNeg t0)) [pm_o (.iload 4)] (by decide +kernel) rfl ?_
    refine pm_ic_ge (off := 9) 76 (by decide +kernel) (by decide) (fun hc8 => ?_) (fun hc8 => ?_)
    · rw [if_pos hc8] at h
      refine pm_blk (pc' := 81) (L' := [(0, .ref 64), (1, .int x1), (2, .int x2), (3, .int x3), (4, .int x4)]) (S' := [.int x1, .ref 80]) (M' := sm g (wi u 88 t1.toNatClampNeg t0)) [pm_o (.aload_n 0), pm_of (.getfield 62) 12 22 2, pm_o (.iload_n 1)] (by decide +kernel) rfl ?_
      obtain ⟨ho9, h⟩ := pm_ifs h
      refine pm_iald (by decide +kernel) rfl (pm_ok_in ho9) ?_
      refine pm_blk (pc' := 87) (L' := [(6, .int 0), (5, .int (u.1 80 x1.toNatClampNeg)), (0, .ref 64), (1, .int x1), (2, .int x2), (3, .int x3), (4, .int x4)]) (S' := []) (M' := sm g (wi u 88 t1.toNatClampNeg t0)) [pm_o (.istore 5), pm_oi (.iconst 0) 0, pm_o (.istore 6)] (by decide +kernel) rfl ?_
      refine pm_loc [2, 3, 4, 5, 6, 1, 0] rfl ?_
      exact w_Md_typeRow_87 l h0 D hT N x1 x2 x3 x4 (u.1 80 x1.toNatClampNeg) 0 (wi u 88 t1.toNatClampNeg t0) h
    · rw [if_neg hc8] at h
      refine pm_blk (pc' := 72) (L' := [(0, .ref 64), (1, .int x1), (2, .int x2), (3, .int x3), (4, .int x4)]) (S' := [.int x1, .ref 64]) (M' := sm g (wi u 88 t1.toNatClampNeg t0)) [pm_o (.aload_n 0), pm_o (.iload_n 1)] (by decide +kernel) rfl ?_
      obtain ⟨q42, hq42, h⟩ := pm_bd h
      refine pm_cV (idx := 471) m_Md_untyped (c_Md_untyped l h0 D hT hq42) (As := [.int x1]) (S0 := []) rfl (by decide +kernel) k_Md_untyped l_Md_471 (Nat.le_of_ble_eq_true rfl) (Nat.le_of_ble_eq_true rfl) (Nat.le_refl _) (Nat.le_refl _) ?_
      refine pm_blk (pc' := 75) (L' := [(0, .ref 64), (1, .int x1), (2, .int x2), (3, .int x3), (4, .int x4)]) (S' := [.int q42.1]) (M' := sm g q42.2) [] (by decide +kernel) rfl ?_
      obtain ⟨hz43, h⟩ := pm_ifs h
      have h9 := Option.some.inj h
      subst h9
      exact pm_retz rfl (by decide +kernel) hz43 rfl rfl rfl
def K_Md_typeRow_41 (N : Nat) (g : pm_s) (x1 : Int32) (x2 : Int32) (x3 : Int32) (t0 : Int32) (u : pm_J) : Option (Int32 × pm_J) := if t0 ≤ 0 then K_Md_typeRow_58 N g x1 x2 x3 t0 (-1) x1 u else K_Md_typeRow_58 N g x1 x2 x3 t0 x3 x1 u
set_option maxHeartbeats 4000000 in
set_option maxRecDepth 100000 in
theorem w_Md_typeRow_41 (l : Launch) (h0 : Nat) (D : pm_D) {g : pm_s} (hT : sh_T g) {N : Nat} {u0 : pm_J} {out : Int32 × pm_J} {p : Program} {e : Env} {R : Room} {s : State} {m : MethodId} {args : Array Value} {below : List Frame} {meth : Method} {c : Code} : ∀ (x1 : Int32) (x2 : Int32) (x3 : Int32) (t0 : Int32) (u : pm_J), K_Md_typeRow_41 N g x1 x2 x3 t0 u = some out → pm_V (p, l, e, R, s, m, args, below, meth, c) m_Md_typeRow h0 D (g.1, g.2.1, g.1, g.2.1, 2) (pm_E (p, l, e, R, s, m, args, below, meth, c) h0 D (sm g u0) (some (.int out.1)) (sm g out.2)) 41 [(0, .ref 64), (1, .int x1), (2, .int x2), (3, .int x3)] [.int t0] (sm g u) := by
    intro x1 x2 x3 t0 u h
    unfold K_Md_typeRow_41 at h
    refine pm_blk (pc' := 50) (L' := [(4, .int t0), (0, .ref 64), (1, .int x1), (2, .int x2), (3, .int x3)]) (S' := [.int t0, .int x1, .ref 88]) (M' := sm g u) [pm_o (.istore 4), pm_o (.aload_n 0), pm_of (.getfield 86) 12 30 2, pm_o (.iload_n 1), pm_o (.iload 4)] (by decide +kernel) rfl ?_
    refine pm_if_le (off := 7) 57 (by decide +kernel) (by decide) (fun hc5 => ?_) (fun hc5 => ?_)
    · rw [if_pos hc5] at h
      refine pm_blk (pc' := 58) (L' := [(4, .int t0), (0, .ref 64), (1, .int x1), (2, .int x2), (3, .int x3)]) (S' := [.int (-1), .int x1, .ref 88]) (M' := sm g u) [pm_oi (.iconst (-1)) (-1)] (by decide +kernel) rfl ?_
      refine pm_loc [1, 2, 3, 4, 0] rfl ?_
      exact w_Md_typeRow_58 l h0 D hT x1 x2 x3 t0 (-1) x1 u h
    · rw [if_neg hc5] at h
      refine pm_blk (pc' := 54) (L' := [(4, .int t0), (0, .ref 64), (1, .int x1), (2, .int x2), (3, .int x3)]) (S' := [.int x3, .int x1, .ref 88]) (M' := sm g u) [pm_o (.iload_n 3)] (by decide +kernel) rfl ?_
      refine pm_goto (off := 4) 58 (by decide +kernel) (by decide) ?_
      refine pm_loc [1, 2, 3, 4, 0] rfl ?_
      exact w_Md_typeRow_58 l h0 D hT x1 x2 x3 t0 x3 x1 u h
def K_Md_typeRow_26 (N : Nat) (g : pm_s) (x1 : Int32) (x2 : Int32) (t0 : Int32) (u : pm_J) : Option (Int32 × pm_J) := if t0 < 0 then K_Md_typeRow_41 N g x1 x2 t0 0 u else if pm_ok t0 30 = true then K_Md_typeRow_41 N g x1 x2 t0 (u.1 92 t0.toNatClampNeg) u else none
set_option maxHeartbeats 4000000 in
set_option maxRecDepth 100000 in
theorem w_Md_typeRow_26 (l : Launch) (h0 : Nat) (D : pm_D) {g : pm_s} (hT : sh_T g) {N : Nat} {u0 : pm_J} {out : Int32 × pm_J} {p : Program} {e : Env} {R : Room} {s : State} {m : MethodId} {args : Array Value} {below : List Frame} {meth : Method} {c : Code} : ∀ (x1 : Int32) (x2 : Int32) (t0 : Int32) (u : pm_J), K_Md_typeRow_26 N g x1 x2 t0 u = some out → pm_V (p, l, e, R, s, m, args, below, meth, c) m_Md_typeRow h0 D (g.1, g.2.1, g.1, g.2.1, 2) (pm_E (p, l, e, R, s, m, args, below, meth, c) h0 D (sm g u0) (some (.int out.1)) (sm g out.2)) 26 [(0, .ref 64), (1, .int x1), (2, .int x2)] [.int t0] (sm g u) := by
    intro x1 x2 t0 u h
    unfold K_Md_typeRow_26 at h
    refine pm_blk (pc' := 28) (L' := [(3, .int t0), (0, .ref 64), (1, .int x1), (2, .int x2)]) (S' := [.int t0]) (M' := sm g u) [pm_o (.istore_n 3), pm_o (.iload_n 3)] (by decide +kernel) rfl ?_
    refine pm_if_lt (off := 12) 40 (by decide +kernel) (by decide) (fun hc4 => ?_) (fun hc4 => ?_)
    · rw [if_pos hc4] at h
      refine pm_blk (pc' := 41) (L' := [(3, .int t0), (0, .ref 64), (1, .int x1), (2, .int x2)]) (S' := [.int 0]) (M' := sm g u) [pm_oi (.iconst 0) 0] (by decide +kernel) rfl ?_
      refine pm_loc [1, 2, 3, 0] rfl ?_
      exact w_Md_typeRow_41 l h0 D hT x1 x2 t0 0 u h
    · rw [if_neg hc4] at h
      refine pm_blk (pc' := 36) (L' := [(3, .int t0), (0, .ref 64), (1, .int x1), (2, .int x2)]) (S' := [.int t0, .ref 92]) (M' := sm g u) [pm_o (.aload_n 0), pm_of (.getfield 98) 12 35 2, pm_o (.iload_n 3)] (by decide +kernel) rfl ?_
      obtain ⟨ho44, h⟩ := pm_ifs h
      refine pm_iald (by decide +kernel) rfl (pm_ok_in ho44) ?_
      refine pm_blk (pc' := 37) (L' := [(3, .int t0), (0, .ref 64), (1, .int x1), (2, .int x2)]) (S' := [.int (u.1 92 t0.toNatClampNeg)]) (M' := sm g u) [] (by decide +kernel) rfl ?_
      refine pm_goto (off := 4) 41 (by decide +kernel) (by decide) ?_
      refine pm_loc [1, 2, 3, 0] rfl ?_
      exact w_Md_typeRow_41 l h0 D hT x1 x2 t0 (u.1 92 t0.toNatClampNeg) u h
def F_Md_typeRow (N : Nat) (a1 : Int32) (g : pm_s) (u : pm_J) : Option (Int32 × pm_J) := if pm_ok a1 2400 = true then if pm_ok (u.1 79 a1.toNatClampNeg) 2400 = true then if (u.1 112 ((u.1 79 a1.toNatClampNeg).toNatClampNeg)) = 0 then K_Md_typeRow_26 N g a1 (u.1 79 a1.toNatClampNeg) (-1) u else if pm_ok (u.1 79 a1.toNatClampNeg) 2400 = true then K_Md_typeRow_26 N g a1 (u.1 79 a1.toNatClampNeg) (u.1 88 ((u.1 79 a1.toNatClampNeg).toNatClampNeg)) u else none else none else none
set_option maxHeartbeats 4000000 in
set_option maxRecDepth 100000 in
theorem c_Md_typeRow (l : Launch) (h0 : Nat) (D : pm_D) {g : pm_s} {u : pm_J} (hT : sh_T g) {N : Nat} {a1 : Int32} {out : Int32 × pm_J} (h : F_Md_typeRow N a1 g u = some out) : pm_C l h0 D m_Md_typeRow (2) [.ref 64, .int a1] (sm g u) (some (.int out.1)) (sm g out.2) := by
  unfold F_Md_typeRow at h
  refine pm_met (by decide +kernel) (Nat.le_of_ble_eq_true rfl) (Nat.le_refl _) (Nat.le_refl _) ?_
  intro p e R s m args below meth c
  refine pm_blk (pc' := 5) (L' := [(0, .ref 64), (1, .int a1)]) (S' := [.int a1, .ref 79]) (M' := sm g u) [pm_o (.aload_n 0), pm_of (.getfield 59) 12 21 2, pm_o (.iload_n 1)] (by decide +kernel) rfl ?_
  obtain ⟨ho1, h⟩ := pm_ifs h
  refine pm_iald (by decide +kernel) rfl (pm_ok_in ho1) ?_
  refine pm_blk (pc' := 12) (L' := [(2, .int (u.1 79 a1.toNatClampNeg)), (0, .ref 64), (1, .int a1)]) (S' := [.int (u.1 79 a1.toNatClampNeg), .ref 112]) (M' := sm g u) [pm_o (.istore_n 2), pm_o (.aload_n 0), pm_of (.getfield 158) 12 68 2, pm_o (.iload_n 2)] (by decide +kernel) rfl ?_
  obtain ⟨ho2, h⟩ := pm_ifs h
  refine pm_zald (by decide +kernel) rfl (pm_ok_in ho2) ?_
  refine pm_blk (pc' := 13) (L' := [(2, .int (u.1 79 a1.toNatClampNeg)), (0, .ref 64), (1, .int a1)]) (S' := [.int (u.1 112 ((u.1 79 a1.toNatClampNeg).toNatClampNeg))]) (M' := sm g u) [] (by decide +kernel) rfl ?_
  refine pm_if_eq (off := 12) 25 (by decide +kernel) (by decide) (fun hc3 => ?_) (fun hc3 => ?_)
  · rw [if_pos hc3] at h
    refine pm_blk (pc' := 26) (L' := [(2, .int (u.1 79 a1.toNatClampNeg)), (0, .ref 64), (1, .int a1)]) (S' := [.int (-1)]) (M' := sm g u) [pm_oi (.iconst (-1)) (-1)] (by decide +kernel) rfl ?_
    refine pm_loc [1, 2, 0] rfl ?_
    exact w_Md_typeRow_26 l h0 D hT a1 (u.1 79 a1.toNatClampNeg) (-1) u h
  · rw [if_neg hc3] at h
    refine pm_blk (pc' := 21) (L' := [(2, .int (u.1 79 a1.toNatClampNeg)), (0, .ref 64), (1, .int a1)]) (S' := [.int (u.1 79 a1.toNatClampNeg), .ref 88]) (M' := sm g u) [pm_o (.aload_n 0), pm_of (.getfield 86) 12 30 2, pm_o (.iload_n 2)] (by decide +kernel) rfl ?_
    obtain ⟨ho45, h⟩ := pm_ifs h
    refine pm_iald (by decide +kernel) rfl (pm_ok_in ho45) ?_
    refine pm_blk (pc' := 22) (L' := [(2, .int (u.1 79 a1.toNatClampNeg)), (0, .ref 64), (1, .int a1)]) (S' := [.int (u.1 88 ((u.1 79 a1.toNatClampNeg).toNatClampNeg))]) (M' := sm g u) [] (by decide +kernel) rfl ?_
    refine pm_goto (off := 4) 26 (by decide +kernel) (by decide) ?_
    refine pm_loc [1, 2, 0] rfl ?_
    exact w_Md_typeRow_26 l h0 D hT a1 (u.1 79 a1.toNatClampNeg) (u.1 88 ((u.1 79 a1.toNatClampNeg).toNatClampNeg)) u h
def K_Md_typeOne_345 (N : Nat) (g : pm_s) (x1 : Int32) (u : pm_J) : Option (Int32 × pm_J) := if pm_ok x1 2400 = true then if pm_ok (u.1 79 x1.toNatClampNeg) 2400 = true then if (u.1 87 ((u.1 79 x1.toNatClampNeg).toNatClampNeg)) < 6 then (F_Md_untyped x1 g u).bind fun q36 => if (q36.1 == 0 || q36.1 == 1) = true then some (q36.1, q36.2) else none else if pm_ok (u.1 87 ((u.1 79 x1.toNatClampNeg).toNatClampNeg)) 100000 = true then if (u.1 70 ((u.1 87 ((u.1 79 x1.toNatClampNeg).toNatClampNeg)).toNatClampNeg)) = 0 then if pm_ok x1 2400 = true then if (u.1 77 x1.toNatClampNeg) = 10 then if pm_ok (u.1 87 ((u.1 79 x1.toNatClampNeg).toNatClampNeg)) 100000 = true then if pm_ok x1 2400 = true then some (1, (wi u 87 x1.toNatClampNeg (u.1 71 ((u.1 87 ((u.1 79 x1.toNatClampNeg).toNatClampNeg)).toNatClampNeg)))) else none else none else if pm_ok (u.1 87 ((u.1 79 x1.toNatClampNeg).toNatClampNeg)) 100000 = true then if pm_ok x1 2400 = true then some (1, (wi u 87 x1.toNatClampNeg (u.1 72 ((u.1 87 ((u.1 79 x1.toNatClampNeg).toNatClampNeg)).toNatClampNeg)))) else none else none else none else (F_Md_untyped x1 g u).bind fun q46 => if (q46.1 == 0 || q46.1 == 1) = true then some (q46.1, q46.2) else none else none else none else none
set_option maxHeartbeats 4000000 in
set_option maxRecDepth 100000 in
theorem w_Md_typeOne_345 (l : Launch) (h0 : Nat) (D : pm_D) {g : pm_s} (hT : sh_T g) {N : Nat} {u0 : pm_J} {out : Int32 × pm_J} {p : Program} {e : Env} {R : Room} {s : State} {m : MethodId} {args : Array Value} {below : List Frame} {meth : Method} {c : Code} : ∀ (x1 : Int32) (u : pm_J), K_Md_typeOne_345 N g x1 u = some out → pm_V (p, l, e, R, s, m, args, below, meth, c) m_Md_typeOne h0 D (g.1, g.2.1, g.1, g.2.1, 3) (pm_E (p, l, e, R, s, m, args, below, meth, c) h0 D (sm g u0) (some (.int out.1)) (sm g out.2)) 345 [(0, .ref 64), (1, .int x1)] [] (sm g u) := by
    intro x1 u h
    unfold K_Md_typeOne_345 at h
    refine pm_blk (pc' := 354) (L' := [(0, .ref 64), (1, .int x1)]) (S' := [.int x1, .ref 79, .ref 87]) (M' := sm g u) [pm_o (.aload_n 0), pm_of (.getfield 83) 12 29 2, pm_o (.aload_n 0), pm_of (.getfield 59) 12 21 2, pm_o (.iload_n 1)] (by decide +kernel) rfl ?_
    obtain ⟨ho33, h⟩ := pm_ifs h
    refine pm_iald (by decide +kernel) rfl (pm_ok_in ho33) ?_
    refine pm_blk (pc' := 355) (L' := [(0, .ref 64), (1, .int x1)]) (S' := [.int (u.1 79 x1.toNatClampNeg), .ref 87]) (M' := sm g u) [] (by decide +kernel) rfl ?_
    obtain ⟨ho34, h⟩ := pm_ifs h
    refine pm_iald (by decide +kernel) rfl (pm_ok_in ho34) ?_
    refine pm_blk (pc' := 360) (L' := [(2, .int (u.1 87 ((u.1 79 x1.toNatClampNeg).toNatClampNeg))), (0, .ref 64), (1, .int x1)]) (S' := [.int 6, .int (u.1 87 ((u.1 79 x1.toNatClampNeg).toNatClampNeg))]) (M' := sm g u) [pm_o (.istore_n 2), pm_o (.iload_n 2), pm_oi (.bipush 6) 6] (by decide +kernel) rfl ?_
    refine pm_ic_lt (off := 12) 372 (by decide +kernel) (by decide) (fun hc35 => ?_) (fun hc35 => ?_)
    · rw [if_pos hc35] at h
      refine pm_blk (pc' := 374) (L' := [(2, .int (u.1 87 ((u.1 79 x1.toNatClampNeg).toNatClampNeg))), (0, .ref 64), (1, .int x1)]) (S' := [.int x1, .ref 64]) (M' := sm g u) [pm_o (.aload_n 0), pm_o (.iload_n 1)] (by decide +kernel) rfl ?_
      obtain ⟨q36, hq36, h⟩ := pm_bd h
      refine pm_cV (idx := 471) m_Md_untyped (c_Md_untyped l h0 D hT hq36) (As := [.int x1]) (S0 := []) rfl (by decide +kernel) k_Md_untyped l_Md_471 (Nat.le_of_ble_eq_true rfl) (Nat.le_of_ble_eq_true rfl) (Nat.le_refl _) (Nat.le_refl _) ?_
      refine pm_blk (pc' := 377) (L' := [(2, .int (u.1 87 ((u.1 79 x1.toNatClampNeg).toNatClampNeg))), (0, .ref 64), (1, .int x1)]) (S' := [.int q36.1]) (M' := sm g q36.2) [] (by decide +kernel) rfl ?_
      obtain ⟨hz37, h⟩ := pm_ifs h
      have h9 := Option.some.inj h
      subst h9
      exact pm_retz rfl (by decide +kernel) hz37 rfl rfl rfl
    · rw [if_neg hc35] at h
      refine pm_blk (pc' := 368) (L' := [(2, .int (u.1 87 ((u.1 79 x1.toNatClampNeg).toNatClampNeg))), (0, .ref 64), (1, .int x1)]) (S' := [.int (u.1 87 ((u.1 79 x1.toNatClampNeg).toNatClampNeg)), .ref 70]) (M' := sm g u) [pm_o (.aload_n 0), pm_of (.getfield 31) 12 11 2, pm_o (.iload_n 2)] (by decide +kernel) rfl ?_
      obtain ⟨ho38, h⟩ := pm_ifs h
      refine pm_zald (by decide +kernel) rfl (pm_ok_in ho38) ?_
      refine pm_blk (pc' := 369) (L' := [(2, .int (u.1 87 ((u.1 79 x1.toNatClampNeg).toNatClampNeg))), (0, .ref 64), (1, .int x1)]) (S' := [.int (u.1 70 ((u.1 87 ((u.1 79 x1.toNatClampNeg).toNatClampNeg)).toNatClampNeg))]) (M' := sm g u) [] (by decide +kernel) rfl ?_
      refine pm_if_eq (off := 9) 378 (by decide +kernel) (by decide) (fun hc39 => ?_) (fun hc39 => ?_)
      · rw [if_pos hc39] at h
        refine pm_blk (pc' := 388) (L' := [(2, .int (u.1 87 ((u.1 79 x1.toNatClampNeg).toNatClampNeg))), (0, .ref 64), (1, .int x1)]) (S' := [.int x1, .ref 77, .int x1, .ref 87]) (M' := sm g u) [pm_o (.aload_n 0), pm_of (.getfield 83) 12 29 2, pm_o (.iload_n 1), pm_o (.aload_n 0), pm_of (.getfield 53) 12 19 2, pm_o (.iload_n 1)] (by decide +kernel) rfl ?_
        obtain ⟨ho40, h⟩ := pm_ifs h
        refine pm_iald (by decide +kernel) rfl (pm_ok_in ho40) ?_
        refine pm_blk (pc' := 391) (L' := [(2, .int (u.1 87 ((u.1 79 x1.toNatClampNeg).toNatClampNeg))), (0, .ref 64), (1, .int x1)]) (S' := [.int 10, .int (u.1 77 x1.toNatClampNeg), .int x1, .ref 87]) (M' := sm g u) [pm_oi (.bipush 10) 10] (by decide +kernel) rfl ?_
        refine pm_ic_ne (off := 12) 403 (by decide +kernel) (by decide) (fun hc41 => ?_) (fun hc41 => ?_)
        · rw [if_neg hc41] at h
          refine pm_blk (pc' := 408) (L' := [(2, .int (u.1 87 ((u.1 79 x1.toNatClampNeg).toNatClampNeg))), (0, .ref 64), (1, .int x1)]) (S' := [.int (u.1 87 ((u.1 79 x1.toNatClampNeg).toNatClampNeg)), .ref 72, .int x1, .ref 87]) (M' := sm g u) [pm_o (.aload_n 0), pm_of (.getfield 38) 12 13 2, pm_o (.iload_n 2)] (by decide +kernel) rfl ?_
          obtain ⟨ho42, h⟩ := pm_ifs h
          refine pm_iald (by decide +kernel) rfl (pm_ok_in ho42) ?_
          refine pm_blk (pc' := 409) (L' := [(2, .int (u.1 87 ((u.1 79 x1.toNatClampNeg).toNatClampNeg))), (0, .ref 64), (1, .int x1)]) (S' := [.int (u.1 72 ((u.1 87 ((u.1 79 x1.toNatClampNeg).toNatClampNeg)).toNatClampNeg)), .int x1, .ref 87]) (M' := sm g u) [] (by decide +kernel) rfl ?_
          obtain ⟨ho43, h⟩ := pm_ifs h
          refine pm_iast (by decide +kernel) rfl  (pm_ok_in ho43) ?_
          refine pm_blk (pc' := 411) (L' := [(2, .int (u.1 87 ((u.1 79 x1.toNatClampNeg).toNatClampNeg))), (0, .ref 64), (1, .int x1)]) (S' := [.int 1]) (M' := sm g (wi u 87 x1.toNatClampNeg (u.1 72 ((u.1 87 ((u.1 79 x1.toNatClampNeg).toNatClampNeg)).toNatClampNeg)))) [pm_oi (.iconst 1) 1] (by decide +kernel) rfl ?_
          have h9 := Option.some.inj h
          subst h9
          exact pm_retz rfl (by decide +kernel) rfl rfl rfl rfl
        · rw [if_pos hc41] at h
          refine pm_blk (pc' := 399) (L' := [(2, .int (u.1 87 ((u.1 79 x1.toNatClampNeg).toNatClampNeg))), (0, .ref 64), (1, .int x1)]) (S' := [.int (u.1 87 ((u.1 79 x1.toNatClampNeg).toNatClampNeg)), .ref 71, .int x1, .ref 87]) (M' := sm g u) [pm_o (.aload_n 0), pm_of (.getfield 35) 12 12 2, pm_o (.iload_n 2)] (by decide +kernel) rfl ?_
          obtain ⟨ho44, h⟩ := pm_ifs h
          refine pm_iald (by decide +kernel) rfl (pm_ok_in ho44) ?_
          refine pm_blk (pc' := 400) (L' := [(2, .int (u.1 87 ((u.1 79 x1.toNatClampNeg).toNatClampNeg))), (0, .ref 64), (1, .int x1)]) (S' := [.int (u.1 71 ((u.1 87 ((u.1 79 x1.toNatClampNeg).toNatClampNeg)).toNatClampNeg)), .int x1, .ref 87]) (M' := sm g u) [] (by decide +kernel) rfl ?_
          refine pm_goto (off := 9) 409 (by decide +kernel) (by decide) ?_
          obtain ⟨ho45, h⟩ := pm_ifs h
          refine pm_iast (by decide +kernel) rfl  (pm_ok_in ho45) ?_
          refine pm_blk (pc' := 411) (L' := [(2, .int (u.1 87 ((u.1 79 x1.toNatClampNeg).toNatClampNeg))), (0, .ref 64), (1, .int x1)]) (S' := [.int 1]) (M' := sm g (wi u 87 x1.toNatClampNeg (u.1 71 ((u.1 87 ((u.1 79 x1.toNatClampNeg).toNatClampNeg)).toNatClampNeg)))) [pm_oi (.iconst 1) 1] (by decide +kernel) rfl ?_
          have h9 := Option.some.inj h
          subst h9
          exact pm_retz rfl (by decide +kernel) rfl rfl rfl rfl
      · rw [if_neg hc39] at h
        refine pm_blk (pc' := 374) (L' := [(2, .int (u.1 87 ((u.1 79 x1.toNatClampNeg).toNatClampNeg))), (0, .ref 64), (1, .int x1)]) (S' := [.int x1, .ref 64]) (M' := sm g u) [pm_o (.aload_n 0), pm_o (.iload_n 1)] (by decide +kernel) rfl ?_
        obtain ⟨q46, hq46, h⟩ := pm_bd h
        refine pm_cV (idx := 471) m_Md_untyped (c_Md_untyped l h0 D hT hq46) (As := [.int x1]) (S0 := []) rfl (by decide +kernel) k_Md_untyped l_Md_471 (Nat.le_of_ble_eq_true rfl) (Nat.le_of_ble_eq_true rfl) (Nat.le_refl _) (Nat.le_refl _) ?_
        refine pm_blk (pc' := 377) (L' := [(2, .int (u.1 87 ((u.1 79 x1.toNatClampNeg).toNatClampNeg))), (0, .ref 64), (1, .int x1)]) (S' := [.int q46.1]) (M' := sm g q46.2) [] (by decide +kernel) rfl ?_
        obtain ⟨hz47, h⟩ := pm_ifs h
        have h9 := Option.some.inj h
        subst h9
        exact pm_retz rfl (by decide +kernel) hz47 rfl rfl rfl
def K_Md_typeOne_412 (N : Nat) (g : pm_s) (x1 : Int32) (u : pm_J) : Option (Int32 × pm_J) := if pm_ok x1 2400 = true then if pm_ok x1 2400 = true then if pm_ok (u.1 79 x1.toNatClampNeg) 2400 = true then if ((wi u 87 x1.toNatClampNeg 0).1 87 ((u.1 79 x1.toNatClampNeg).toNatClampNeg)) = 0 then if pm_ok x1 2400 = true then if pm_ok (u.1 80 x1.toNatClampNeg) 2400 = true then if ((wi u 87 x1.toNatClampNeg 0).1 87 ((u.1 80 x1.toNatClampNeg).toNatClampNeg)) = 0 then some (1, (wi u 87 x1.toNatClampNeg 0)) else (F_Md_untyped x1 g (wi u 87 x1.toNatClampNeg 0)).bind fun q72 => if q72.1 = 0 then some (0, q72.2) else some (1, q72.2) else none else none else (F_Md_untyped x1 g (wi u 87 x1.toNatClampNeg 0)).bind fun q67 => if q67.1 = 0 then some (0, q67.2) else some (1, q67.2) else none else none else none
set_option maxHeartbeats 4000000 in
set_option maxRecDepth 100000 in
theorem w_Md_typeOne_412 (l : Launch) (h0 : Nat) (D : pm_D) {g : pm_s} (hT : sh_T g) {N : Nat} {u0 : pm_J} {out : Int32 × pm_J} {p : Program} {e : Env} {R : Room} {s : State} {m : MethodId} {args : Array Value} {below : List Frame} {meth : Method} {c : Code} : ∀ (x1 : Int32) (u : pm_J), K_Md_typeOne_412 N g x1 u = some out → pm_V (p, l, e, R, s, m, args, below, meth, c) m_Md_typeOne h0 D (g.1, g.2.1, g.1, g.2.1, 3) (pm_E (p, l, e, R, s, m, args, below, meth, c) h0 D (sm g u0) (some (.int out.1)) (sm g out.2)) 412 [(0, .ref 64), (1, .int x1)] [] (sm g u) := by
    intro x1 u h
    unfold K_Md_typeOne_412 at h
    refine pm_blk (pc' := 418) (L' := [(0, .ref 64), (1, .int x1)]) (S' := [.int 0, .int x1, .ref 87]) (M' := sm g u) [pm_o (.aload_n 0), pm_of (.getfield 83) 12 29 2, pm_o (.iload_n 1), pm_oi (.iconst 0) 0] (by decide +kernel) rfl ?_
    obtain ⟨ho63, h⟩ := pm_ifs h
    refine pm_iast (by decide +kernel) rfl  (pm_ok_in ho63) ?_
    refine pm_blk (pc' := 428) (L' := [(0, .ref 64), (1, .int x1)]) (S' := [.int x1, .ref 79, .ref 87]) (M' := sm g (wi u 87 x1.toNatClampNeg 0)) [pm_o (.aload_n 0), pm_of (.getfield 83) 12 29 2, pm_o (.aload_n 0), pm_of (.getfield 59) 12 21 2, pm_o (.iload_n 1)] (by decide +kernel) rfl ?_
    obtain ⟨ho64, h⟩ := pm_ifs h
    refine pm_iald (by decide +kernel) rfl (pm_ok_in ho64) ?_
    refine pm_blk (pc' := 429) (L' := [(0, .ref 64), (1, .int x1)]) (S' := [.int (u.1 79 x1.toNatClampNeg), .ref 87]) (M' := sm g (wi u 87 x1.toNatClampNeg 0)) [] (by decide +kernel) rfl ?_
    obtain ⟨ho65, h⟩ := pm_ifs h
    refine pm_iald (by decide +kernel) rfl (pm_ok_in ho65) ?_
    refine pm_blk (pc' := 430) (L' := [(0, .ref 64), (1, .int x1)]) (S' := [.int ((wi u 87 x1.toNatClampNeg 0).1 87 ((u.1 79 x1.toNatClampNeg).toNatClampNeg))]) (M' := sm g (wi u 87 x1.toNatClampNeg 0)) [] (by decide +kernel) rfl ?_
    refine pm_if_ne (off := 17) 447 (by decide +kernel) (by decide) (fun hc66 => ?_) (fun hc66 => ?_)
    · rw [if_neg hc66] at h
      refine pm_blk (pc' := 449) (L' := [(0, .ref 64), (1, .int x1)]) (S' := [.int x1, .ref 64]) (M' := sm g (wi u 87 x1.toNatClampNeg 0)) [pm_o (.aload_n 0), pm_o (.iload_n 1)] (by decide +kernel) rfl ?_
      obtain ⟨q67, hq67, h⟩ := pm_bd h
      refine pm_cV (idx := 471) m_Md_untyped (c_Md_untyped l h0 D hT hq67) (As := [.int x1]) (S0 := []) rfl (by decide +kernel) k_Md_untyped l_Md_471 (Nat.le_of_ble_eq_true rfl) (Nat.le_of_ble_eq_true rfl) (Nat.le_refl _) (Nat.le_refl _) ?_
      refine pm_blk (pc' := 452) (L' := [(0, .ref 64), (1, .int x1)]) (S' := [.int q67.1]) (M' := sm g q67.2) [] (by decide +kernel) rfl ?_
      refine pm_if_eq (off := 7) 459 (by decide +kernel) (by decide) (fun hc68 => ?_) (fun hc68 => ?_)
      · rw [if_pos hc68] at h
        refine pm_blk (pc' := 460) (L' := [(0, .ref 64), (1, .int x1)]) (S' := [.int 0]) (M' := sm g q67.2) [pm_oi (.iconst 0) 0] (by decide +kernel) rfl ?_
        have h9 := Option.some.inj h
        subst h9
        exact pm_retz rfl (by decide +kernel) rfl rfl rfl rfl
      · rw [if_neg hc68] at h
        refine pm_blk (pc' := 456) (L' := [(0, .ref 64), (1, .int x1)]) (S' := [.int 1]) (M' := sm g q67.2) [pm_oi (.iconst 1) 1] (by decide +kernel) rfl ?_
        refine pm_goto (off := 4) 460 (by decide +kernel) (by decide) ?_
        have h9 := Option.some.inj h
        subst h9
        exact pm_retz rfl (by decide +kernel) rfl rfl rfl rfl
    · rw [if_pos hc66] at h
      refine pm_blk (pc' := 442) (L' := [(0, .ref 64), (1, .int x1)]) (S' := [.int x1, .ref 80, .ref 87]) (M' := sm g (wi u 87 x1.toNatClampNeg 0)) [pm_o (.aload_n 0), pm_of (.getfield 83) 12 29 2, pm_o (.aload_n 0), pm_of (.getfield 62) 12 22 2, pm_o (.iload_n 1)] (by decide +kernel) rfl ?_
      obtain ⟨ho69, h⟩ := pm_ifs h
      refine pm_iald (by decide +kernel) rfl (pm_ok_in ho69) ?_
      refine pm_blk (pc' := 443) (L' := [(0, .ref 64), (1, .int x1)]) (S' := [.int (u.1 80 x1.toNatClampNeg), .ref 87]) (M' := sm g (wi u 87 x1.toNatClampNeg 0)) [] (by decide +kernel) rfl ?_
      obtain ⟨ho70, h⟩ := pm_ifs h
      refine pm_iald (by decide +kernel) rfl (pm_ok_in ho70) ?_
      refine pm_blk (pc' := 444) (L' := [(0, .ref 64), (1, .int x1)]) (S' := [.int ((wi u 87 x1.toNatClampNeg 0).1 87 ((u.1 80 x1.toNatClampNeg).toNatClampNeg))]) (M' := sm g (wi u 87 x1.toNatClampNeg 0)) [] (by decide +kernel) rfl ?_
      refine pm_if_eq (off := 11) 455 (by decide +kernel) (by decide) (fun hc71 => ?_) (fun hc71 => ?_)
      · rw [if_pos hc71] at h
        refine pm_blk (pc' := 456) (L' := [(0, .ref 64), (1, .int x1)]) (S' := [.int 1]) (M' := sm g (wi u 87 x1.toNatClampNeg 0)) [pm_oi (.iconst 1) 1] (by decide +kernel) rfl ?_
        refine pm_goto (off := 4) 460 (by decide +kernel) (by decide) ?_
        have h9 := Option.some.inj h
        subst h9
        exact pm_retz rfl (by decide +kernel) rfl rfl rfl rfl
      · rw [if_neg hc71] at h
        refine pm_blk (pc' := 449) (L' := [(0, .ref 64), (1, .int x1)]) (S' := [.int x1, .ref 64]) (M' := sm g (wi u 87 x1.toNatClampNeg 0)) [pm_o (.aload_n 0), pm_o (.iload_n 1)] (by decide +kernel) rfl ?_
        obtain ⟨q72, hq72, h⟩ := pm_bd h
        refine pm_cV (idx := 471) m_Md_untyped (c_Md_untyped l h0 D hT hq72) (As := [.int x1]) (S0 := []) rfl (by decide +kernel) k_Md_untyped l_Md_471 (Nat.le_of_ble_eq_true rfl) (Nat.le_of_ble_eq_true rfl) (Nat.le_refl _) (Nat.le_refl _) ?_
        refine pm_blk (pc' := 452) (L' := [(0, .ref 64), (1, .int x1)]) (S' := [.int q72.1]) (M' := sm g q72.2) [] (by decide +kernel) rfl ?_
        refine pm_if_eq (off := 7) 459 (by decide +kernel) (by decide) (fun hc73 => ?_) (fun hc73 => ?_)
        · rw [if_pos hc73] at h
          refine pm_blk (pc' := 460) (L' := [(0, .ref 64), (1, .int x1)]) (S' := [.int 0]) (M' := sm g q72.2) [pm_oi (.iconst 0) 0] (by decide +kernel) rfl ?_
          have h9 := Option.some.inj h
          subst h9
          exact pm_retz rfl (by decide +kernel) rfl rfl rfl rfl
        · rw [if_neg hc73] at h
          refine pm_blk (pc' := 456) (L' := [(0, .ref 64), (1, .int x1)]) (S' := [.int 1]) (M' := sm g q72.2) [pm_oi (.iconst 1) 1] (by decide +kernel) rfl ?_
          refine pm_goto (off := 4) 460 (by decide +kernel) (by decide) ?_
          have h9 := Option.some.inj h
          subst h9
          exact pm_retz rfl (by decide +kernel) rfl rfl rfl rfl
def F_Md_typeOne (N : Nat) (a1 : Int32) (g : pm_s) (u : pm_J) : Option (Int32 × pm_J) := if pm_ok a1 2400 = true then if (u.1 77 a1.toNatClampNeg) = 1 then (F_Md_typeName N a1 g u).bind fun q3 => if (q3.1 == 0 || q3.1 == 1) = true then some (q3.1, q3.2) else none else if (u.1 77 a1.toNatClampNeg) = 4 then if pm_ok a1 2400 = true then if pm_ok (u.1 80 a1.toNatClampNeg) 2400 = true then if pm_ok a1 2400 = true then some (1, (wi u 87 a1.toNatClampNeg (u.1 87 ((u.1 80 a1.toNatClampNeg).toNatClampNeg)))) else none else none else none else if (u.1 77 a1.toNatClampNeg) = 6 then if pm_ok a1 2400 = true then if pm_ok (u.1 80 a1.toNatClampNeg) 2400 = true then if pm_ok a1 2400 = true then if pm_ok a1 2400 = true then if pm_ok (u.1 79 a1.toNatClampNeg) 2400 = true then if ((wi u 87 a1.toNatClampNeg (u.1 87 ((u.1 80 a1.toNatClampNeg).toNatClampNeg))).1 87 ((u.1 79 a1.toNatClampNeg).toNatClampNeg)) = 0 then if pm_ok a1 2400 = true then if pm_ok (u.1 80 a1.toNatClampNeg) 2400 = true then if pm_ok a1 2400 = true then if pm_ok (u.1 81 a1.toNatClampNeg) 2400 = true then if ((wi u 87 a1.toNatClampNeg (u.1 87 ((u.1 80 a1.toNatClampNeg).toNatClampNeg))).1 87 ((u.1 80 a1.toNatClampNeg).toNatClampNeg)) = ((wi u 87 a1.toNatClampNeg (u.1 87 ((u.1 80 a1.toNatClampNeg).toNatClampNeg))).1 87 ((u.1 81 a1.toNatClampNeg).toNatClampNeg)) then some (1, (wi u 87 a1.toNatClampNeg (u.1 87 ((u.1 80 a1.toNatClampNeg).toNatClampNeg)))) else (F_Md_untyped a1 g (wi u 87 a1.toNatClampNeg (u.1 87 ((u.1 80 a1.toNatClampNeg).toNatClampNeg)))).bind fun q23 => if q23.1 = 0 then some (0, q23.2) else some (1, q23.2) else none else none else none else none else (F_Md_untyped a1 g (wi u 87 a1.toNatClampNeg (u.1 87 ((u.1 80 a1.toNatClampNeg).toNatClampNeg)))).bind fun q16 => if q16.1 = 0 then some (0, q16.2) else some (1, q16.2) else none else none else none else none else none else if (u.1 77 a1.toNatClampNeg) = 9 then if pm_ok a1 2400 = true then if pm_ok ((24 * (u.1 64 69)) + (u.1 82 a1.toNatClampNeg)) 720 = true then if pm_ok a1 2400 = true then if pm_ok (u.1 79 a1.toNatClampNeg) 2400 = true then (F_Md_typeOf N 1 (u.1 100 (((24 * (u.1 64 69)) + (u.1 82 a1.toNatClampNeg)).toNatClampNeg)) (u.1 87 ((u.1 79 a1.toNatClampNeg).toNatClampNeg)) g u).bind fun q30 => if pm_ok a1 2400 = true then some (1, (wi q30.2 87 a1.toNatClampNeg q30.1)) else none else none else none else none else none else if (u.1 77 a1.toNatClampNeg) = 10 then K_Md_typeOne_345 N g a1 u else if (u.1 77 a1.toNatClampNeg) = 11 then K_Md_typeOne_345 N g a1 u else if (u.1 77 a1.toNatClampNeg) = 12 then if pm_ok a1 2400 = true then some (1, (wi u 87 a1.toNatClampNeg 0)) else none else if (u.1 77 a1.toNatClampNeg) = 13 then if pm_ok a1 2400 = true then some (1, (wi u 87 a1.toNatClampNeg 1)) else none else if (u.1 77 a1.toNatClampNeg) = 30 then (F_Md_typeRow N a1 g u).bind fun q54 => if (q54.1 == 0 || q54.1 == 1) = true then some (q54.1, q54.2) else none else if (u.1 77 a1.toNatClampNeg) = 32 then if pm_ok a1 2400 = true then if pm_ok (u.1 79 a1.toNatClampNeg) 2400 = true then if pm_ok a1 2400 = true then if pm_ok (u.1 80 a1.toNatClampNeg) 2400 = true then (F_Md_typeOf N 0 (u.1 87 ((u.1 79 a1.toNatClampNeg).toNatClampNeg)) (u.1 87 ((u.1 80 a1.toNatClampNeg).toNatClampNeg)) g u).bind fun q61 => if pm_ok a1 2400 = true then some (1, (wi q61.2 87 a1.toNatClampNeg q61.1)) else none else none else none else none else none else K_Md_typeOne_412 N g a1 u else none
set_option maxHeartbeats 4000000 in
set_option maxRecDepth 100000 in
theorem c_Md_typeOne (l : Launch) (h0 : Nat) (D : pm_D) {g : pm_s} {u : pm_J} (hT : sh_T g) {N : Nat} {a1 : Int32} {out : Int32 × pm_J} (h : F_Md_typeOne N a1 g u = some out) : pm_C l h0 D m_Md_typeOne (3) [.ref 64, .int a1] (sm g u) (some (.int out.1)) (sm g out.2) := by
  unfold F_Md_typeOne at h
  refine pm_met (by decide +kernel) (Nat.le_of_ble_eq_true rfl) (Nat.le_refl _) (Nat.le_refl _) ?_
  intro p e R s m args below meth c
  refine pm_blk (pc' := 5) (L' := [(0, .ref 64), (1, .int a1)]) (S' := [.int a1, .ref 77]) (M' := sm g u) [pm_o (.aload_n 0), pm_of (.getfield 53) 12 19 2, pm_o (.iload_n 1)] (by decide +kernel) rfl ?_
  obtain ⟨ho1, h⟩ := pm_ifs h
  refine pm_iald (by decide +kernel) rfl (pm_ok_in ho1) ?_
  refine pm_blk (pc' := 6) (L' := [(0, .ref 64), (1, .int a1)]) (S' := [.int (u.1 77 a1.toNatClampNeg)]) (M' := sm g u) [] (by decide +kernel) rfl ?_
  refine pm_tsw (dflt := 406) (lo := 1) (hi := 32) (offs := #[160, 406, 406, 172, 406, 191, 406, 406, 261, 339, 339, 142, 151, 406, 406, 406, 406, 406, 406, 406, 406, 406, 406, 406, 406, 406, 406, 406, 406, 166, 406, 304]) (len := 142) [(1, 166), (4, 178), (6, 197), (9, 267), (10, 345), (11, 345), (12, 148), (13, 157), (30, 172), (32, 310)] 412 (by decide +kernel) (by decide +kernel) ?_
  by_cases hs2 : (u.1 77 a1.toNatClampNeg) = 1
  · rw [if_pos hs2] at h
    rw [pm_sw_pos hs2]
    refine pm_blk (pc' := 168) (L' := [(0, .ref 64), (1, .int a1)]) (S' := [.int a1, .ref 64]) (M' := sm g u) [pm_o (.aload_n 0), pm_o (.iload_n 1)] (by decide +kernel) rfl ?_
    obtain ⟨q3, hq3, h⟩ := pm_bd h
    refine pm_cV (idx := 474) m_Md_typeName (c_Md_typeName l h0 D hT hq3) (As := [.int a1]) (S0 := []) rfl (by decide +kernel) k_Md_typeName l_Md_474 (Nat.le_of_ble_eq_true rfl) (Nat.le_of_ble_eq_true rfl) (Nat.le_refl _) (Nat.le_refl _) ?_
    refine pm_blk (pc' := 171) (L' := [(0, .ref 64), (1, .int a1)]) (S' := [.int q3.1]) (M' := sm g q3.2) [] (by decide +kernel) rfl ?_
    obtain ⟨hz4, h⟩ := pm_ifs h
    have h9 := Option.some.inj h
    subst h9
    exact pm_retz rfl (by decide +kernel) hz4 rfl rfl rfl
  rw [if_neg hs2] at h
  rw [pm_sw_neg hs2]
  by_cases hs5 : (u.1 77 a1.toNatClampNeg) = 4
  · rw [if_pos hs5] at h
    rw [pm_sw_pos hs5]
    refine pm_blk (pc' := 192) (L' := [(0, .ref 64), (1, .int a1)]) (S' := [.int a1, .ref 80, .ref 87, .int a1, .ref 87]) (M' := sm g u) [pm_o (.aload_n 0), pm_of (.getfield 83) 12 29 2, pm_o (.iload_n 1), pm_o (.aload_n 0), pm_of (.getfield 83) 12 29 2, pm_o (.aload_n 0), pm_of (.getfield 62) 12 22 2, pm_o (.iload_n 1)] (by decide +kernel) rfl ?_
    obtain ⟨ho6, h⟩ := pm_ifs h
    refine pm_iald (by decide +kernel) rfl (pm_ok_in ho6) ?_
    refine pm_blk (pc' := 193) (L' := [(0, .ref 64), (1, .int a1)]) (S' := [.int (u.1 80 a1.toNatClampNeg), .ref 87, .int a1, .ref 87]) (M' := sm g u) [] (by decide +kernel) rfl ?_
    obtain ⟨ho7, h⟩ := pm_ifs h
    refine pm_iald (by decide +kernel) rfl (pm_ok_in ho7) ?_
    refine pm_blk (pc' := 194) (L' := [(0, .ref 64), (1, .int a1)]) (S' := [.int (u.1 87 ((u.1 80 a1.toNatClampNeg).toNatClampNeg)), .int a1, .ref 87]) (M' := sm g u) [] (by decide +kernel) rfl ?_
    obtain ⟨ho8, h⟩ := pm_ifs h
    refine pm_iast (by decide +kernel) rfl  (pm_ok_in ho8) ?_
    refine pm_blk (pc' := 196) (L' := [(0, .ref 64), (1, .int a1)]) (S' := [.int 1]) (M' := sm g (wi u 87 a1.toNatClampNeg (u.1 87 ((u.1 80 a1.toNatClampNeg).toNatClampNeg)))) [pm_oi (.iconst 1) 1] (by decide +kernel) rfl ?_
    have h9 := Option.some.inj h
    subst h9
    exact pm_retz rfl (by decide +kernel) rfl rfl rfl rfl
  rw [if_neg hs5] at h
  rw [pm_sw_neg hs5]
  by_cases hs9 : (u.1 77 a1.toNatClampNeg) = 6
  · rw [if_pos hs9] at h
    rw [pm_sw_pos hs9]
    refine pm_blk (pc' := 211) (L' := [(0, .ref 64), (1, .int a1)]) (S' := [.int a1, .ref 80, .ref 87, .int a1, .ref 87]) (M' := sm g u) [pm_o (.aload_n 0), pm_of (.getfield 83) 12 29 2, pm_o (.iload_n 1), pm_o (.aload_n 0), pm_of (.getfield 83) 12 29 2, pm_o (.aload_n 0), pm_of (.getfield 62) 12 22 2, pm_o (.iload_n 1)] (by decide +kernel) rfl ?_
    obtain ⟨ho10, h⟩ := pm_ifs h
    refine pm_iald (by decide +kernel) rfl (pm_ok_in ho10) ?_
    refine pm_blk (pc' := 212) (L' := [(0, .ref 64), (1, .int a1)]) (S' := [.int (u.1 80 a1.toNatClampNeg), .ref 87, .int a1, .ref 87]) (M' := sm g u) [] (by decide +kernel) rfl ?_
    obtain ⟨ho11, h⟩ := pm_ifs h
    refine pm_iald (by decide +kernel) rfl (pm_ok_in ho11) ?_
    refine pm_blk (pc' := 213) (L' := [(0, .ref 64), (1, .int a1)]) (S' := [.int (u.1 87 ((u.1 80 a1.toNatClampNeg).toNatClampNeg)), .int a1, .ref 87]) (M' := sm g u) [] (by decide +kernel) rfl ?_
    obtain ⟨ho12, h⟩ := pm_ifs h
    refine pm_iast (by decide +kernel) rfl  (pm_ok_in ho12) ?_
    refine pm_blk (pc' := 223) (L' := [(0, .ref 64), (1, .int a1)]) (S' := [.int a1, .ref 79, .ref 87]) (M' := sm g (wi u 87 a1.toNatClampNeg (u.1 87 ((u.1 80 a1.toNatClampNeg).toNatClampNeg)))) [pm_o (.aload_n 0), pm_of (.getfield 83) 12 29 2, pm_o (.aload_n 0), pm_of (.getfield 59) 12 21 2, pm_o (.iload_n 1)] (by decide +kernel) rfl ?_
    obtain ⟨ho13, h⟩ := pm_ifs h
    refine pm_iald (by decide +kernel) rfl (pm_ok_in ho13) ?_
    refine pm_blk (pc' := 224) (L' := [(0, .ref 64), (1, .int a1)]) (S' := [.int (u.1 79 a1.toNatClampNeg), .ref 87]) (M' := sm g (wi u 87 a1.toNatClampNeg (u.1 87 ((u.1 80 a1.toNatClampNeg).toNatClampNeg)))) [] (by decide +kernel) rfl ?_
    obtain ⟨ho14, h⟩ := pm_ifs h
    refine pm_iald (by decide +kernel) rfl (pm_ok_in ho14) ?_
    refine pm_blk (pc' := 225) (L' := [(0, .ref 64), (1, .int a1)]) (S' := [.int ((wi u 87 a1.toNatClampNeg (u.1 87 ((u.1 80 a1.toNatClampNeg).toNatClampNeg))).1 87 ((u.1 79 a1.toNatClampNeg).toNatClampNeg))]) (M' := sm g (wi u 87 a1.toNatClampNeg (u.1 87 ((u.1 80 a1.toNatClampNeg).toNatClampNeg)))) [] (by decide +kernel) rfl ?_
    refine pm_if_ne (off := 28) 253 (by decide +kernel) (by decide) (fun hc15 => ?_) (fun hc15 => ?_)
    · rw [if_neg hc15] at h
      refine pm_blk (pc' := 255) (L' := [(0, .ref 64), (1, .int a1)]) (S' := [.int a1, .ref 64]) (M' := sm g (wi u 87 a1.toNatClampNeg (u.1 87 ((u.1 80 a1.toNatClampNeg).toNatClampNeg)))) [pm_o (.aload_n 0), pm_o (.iload_n 1)] (by decide +kernel) rfl ?_
      obtain ⟨q16, hq16, h⟩ := pm_bd h
      refine pm_cV (idx := 471) m_Md_untyped (c_Md_untyped l h0 D hT hq16) (As := [.int a1]) (S0 := []) rfl (by decide +kernel) k_Md_untyped l_Md_471 (Nat.le_of_ble_eq_true rfl) (Nat.le_of_ble_eq_true rfl) (Nat.le_refl _) (Nat.le_refl _) ?_
      refine pm_blk (pc' := 258) (L' := [(0, .ref 64), (1, .int a1)]) (S' := [.int q16.1]) (M' := sm g q16.2) [] (by decide +kernel) rfl ?_
      refine pm_if_eq (off := 7) 265 (by decide +kernel) (by decide) (fun hc17 => ?_) (fun hc17 => ?_)
      · rw [if_pos hc17] at h
        refine pm_blk (pc' := 266) (L' := [(0, .ref 64), (1, .int a1)]) (S' := [.int 0]) (M' := sm g q16.2) [pm_oi (.iconst 0) 0] (by decide +kernel) rfl ?_
        have h9 := Option.some.inj h
        subst h9
        exact pm_retz rfl (by decide +kernel) rfl rfl rfl rfl
      · rw [if_neg hc17] at h
        refine pm_blk (pc' := 262) (L' := [(0, .ref 64), (1, .int a1)]) (S' := [.int 1]) (M' := sm g q16.2) [pm_oi (.iconst 1) 1] (by decide +kernel) rfl ?_
        refine pm_goto (off := 4) 266 (by decide +kernel) (by decide) ?_
        have h9 := Option.some.inj h
        subst h9
        exact pm_retz rfl (by decide +kernel) rfl rfl rfl rfl
    · rw [if_pos hc15] at h
      refine pm_blk (pc' := 237) (L' := [(0, .ref 64), (1, .int a1)]) (S' := [.int a1, .ref 80, .ref 87]) (M' := sm g (wi u 87 a1.toNatClampNeg (u.1 87 ((u.1 80 a1.toNatClampNeg).toNatClampNeg)))) [pm_o (.aload_n 0), pm_of (.getfield 83) 12 29 2, pm_o (.aload_n 0), pm_of (.getfield 62) 12 22 2, pm_o (.iload_n 1)] (by decide +kernel) rfl ?_
      obtain ⟨ho18, h⟩ := pm_ifs h
      refine pm_iald (by decide +kernel) rfl (pm_ok_in ho18) ?_
      refine pm_blk (pc' := 238) (L' := [(0, .ref 64), (1, .int a1)]) (S' := [.int (u.1 80 a1.toNatClampNeg), .ref 87]) (M' := sm g (wi u 87 a1.toNatClampNeg (u.1 87 ((u.1 80 a1.toNatClampNeg).toNatClampNeg)))) [] (by decide +kernel) rfl ?_
      obtain ⟨ho19, h⟩ := pm_ifs h
      refine pm_iald (by decide +kernel) rfl (pm_ok_in ho19) ?_
      refine pm_blk (pc' := 248) (L' := [(0, .ref 64), (1, .int a1)]) (S' := [.int a1, .ref 81, .ref 87, .int ((wi u 87 a1.toNatClampNeg (u.1 87 ((u.1 80 a1.toNatClampNeg).toNatClampNeg))).1 87 ((u.1 80 a1.toNatClampNeg).toNatClampNeg))]) (M' := sm g (wi u 87 a1.toNatClampNeg (u.1 87 ((u.1 80 a1.toNatClampNeg).toNatClampNeg)))) [pm_o (.aload_n 0), pm_of (.getfield 83) 12 29 2, pm_o (.aload_n 0), pm_of (.getfield 65) 12 23 2, pm_o (.iload_n 1)] (by decide +kernel) rfl ?_
      obtain ⟨ho20, h⟩ := pm_ifs h
      refine pm_iald (by decide +kernel) rfl (pm_ok_in ho20) ?_
      refine pm_blk (pc' := 249) (L' := [(0, .ref 64), (1, .int a1)]) (S' := [.int (u.1 81 a1.toNatClampNeg), .ref 87, .int ((wi u 87 a1.toNatClampNeg (u.1 87 ((u.1 80 a1.toNatClampNeg).toNatClampNeg))).1 87 ((u.1 80 a1.toNatClampNeg).toNatClampNeg))]) (M' := sm g (wi u 87 a1.toNatClampNeg (u.1 87 ((u.1 80 a1.toNatClampNeg).toNatClampNeg)))) [] (by decide +kernel) rfl ?_
      obtain ⟨ho21, h⟩ := pm_ifs h
      refine pm_iald (by decide +kernel) rfl (pm_ok_in ho21) ?_
      refine pm_blk (pc' := 250) (L' := [(0, .ref 64), (1, .int a1)]) (S' := [.int ((wi u 87 a1.toNatClampNeg (u.1 87 ((u.1 80 a1.toNatClampNeg).toNatClampNeg))).1 87 ((u.1 81 a1.toNatClampNeg).toNatClampNeg)), .int ((wi u 87 a1.toNatClampNeg (u.1 87 ((u.1 80 a1.toNatClampNeg).toNatClampNeg))).1 87 ((u.1 80 a1.toNatClampNeg).toNatClampNeg))]) (M' := sm g (wi u 87 a1.toNatClampNeg (u.1 87 ((u.1 80 a1.toNatClampNeg).toNatClampNeg)))) [] (by decide +kernel) rfl ?_
      refine pm_ic_eq (off := 11) 261 (by decide +kernel) (by decide) (fun hc22 => ?_) (fun hc22 => ?_)
      · rw [if_pos hc22] at h
        refine pm_blk (pc' := 262) (L' := [(0, .ref 64), (1, .int a1)]) (S' := [.int 1]) (M' := sm g (wi u 87 a1.toNatClampNeg (u.1 87 ((u.1 80 a1.toNatClampNeg).toNatClampNeg)))) [pm_oi (.iconst 1) 1] (by decide +kernel) rfl ?_
        refine pm_goto (off := 4) 266 (by decide +kernel) (by decide) ?_
        have h9 := Option.some.inj h
        subst h9
        exact pm_retz rfl (by decide +kernel) rfl rfl rfl rfl
      · rw [if_neg hc22] at h
        refine pm_blk (pc' := 255) (L' := [(0, .ref 64), (1, .int a1)]) (S' := [.int a1, .ref 64]) (M' := sm g (wi u 87 a1.toNatClampNeg (u.1 87 ((u.1 80 a1.toNatClampNeg).toNatClampNeg)))) [pm_o (.aload_n 0), pm_o (.iload_n 1)] (by decide +kernel) rfl ?_
        obtain ⟨q23, hq23, h⟩ := pm_bd h
        refine pm_cV (idx := 471) m_Md_untyped (c_Md_untyped l h0 D hT hq23) (As := [.int a1]) (S0 := []) rfl (by decide +kernel) k_Md_untyped l_Md_471 (Nat.le_of_ble_eq_true rfl) (Nat.le_of_ble_eq_true rfl) (Nat.le_refl _) (Nat.le_refl _) ?_
        refine pm_blk (pc' := 258) (L' := [(0, .ref 64), (1, .int a1)]) (S' := [.int q23.1]) (M' := sm g q23.2) [] (by decide +kernel) rfl ?_
        refine pm_if_eq (off := 7) 265 (by decide +kernel) (by decide) (fun hc24 => ?_) (fun hc24 => ?_)
        · rw [if_pos hc24] at h
          refine pm_blk (pc' := 266) (L' := [(0, .ref 64), (1, .int a1)]) (S' := [.int 0]) (M' := sm g q23.2) [pm_oi (.iconst 0) 0] (by decide +kernel) rfl ?_
          have h9 := Option.some.inj h
          subst h9
          exact pm_retz rfl (by decide +kernel) rfl rfl rfl rfl
        · rw [if_neg hc24] at h
          refine pm_blk (pc' := 262) (L' := [(0, .ref 64), (1, .int a1)]) (S' := [.int 1]) (M' := sm g q23.2) [pm_oi (.iconst 1) 1] (by decide +kernel) rfl ?_
          refine pm_goto (off := 4) 266 (by decide +kernel) (by decide) ?_
          have h9 := Option.some.inj h
          subst h9
          exact pm_retz rfl (by decide +kernel) rfl rfl rfl rfl
  rw [if_neg hs9] at h
  rw [pm_sw_neg hs9]
  by_cases hs25 : (u.1 77 a1.toNatClampNeg) = 9
  · rw [if_pos hs25] at h
    rw [pm_sw_pos hs25]
    refine pm_blk (pc' := 290) (L' := [(0, .ref 64), (1, .int a1)]) (S' := [.int a1, .ref 82, .int (24 * (u.1 64 69)), .ref 100, .int 1, .ref 64, .int a1, .ref 87]) (M' := sm g u) [pm_o (.aload_n 0), pm_of (.getfield 83) 12 29 2, pm_o (.iload_n 1), pm_o (.aload_n 0), pm_oi (.iconst 1) 1, pm_o (.aload_n 0), pm_of (.getfield 122) 12 43 2, pm_oi (.bipush 24) 24, pm_o (.aload_n 0), pm_of (.getfield 465) 12 69 0, pm_o .imul, pm_o (.aload_n 0), pm_of (.getfield 68) 12 24 2, pm_o (.iload_n 1)] (by decide +kernel) rfl ?_
    obtain ⟨ho26, h⟩ := pm_ifs h
    refine pm_iald (by decide +kernel) rfl (pm_ok_in ho26) ?_
    refine pm_blk (pc' := 292) (L' := [(0, .ref 64), (1, .int a1)]) (S' := [.int ((24 * (u.1 64 69)) + (u.1 82 a1.toNatClampNeg)), .ref 100, .int 1, .ref 64, .int a1, .ref 87]) (M' := sm g u) [pm_o .iadd] (by decide +kernel) rfl ?_
    obtain ⟨ho27, h⟩ := pm_ifs h
    refine pm_iald (by decide +kernel) rfl (pm_ok_in ho27) ?_
    refine pm_blk (pc' := 302) (L' := [(0, .ref 64), (1, .int a1)]) (S' := [.int a1, .ref 79, .ref 87, .int (u.1 100 (((24 * (u.1 64 69)) + (u.1 82 a1.toNatClampNeg)).toNatClampNeg)), .int 1, .ref 64, .int a1, .ref 87]) (M' := sm g u) [pm_o (.aload_n 0), pm_of (.getfield 83) 12 29 2, pm_o (.aload_n 0), pm_of (.getfield 59) 12 21 2, pm_o (.iload_n 1)] (by decide +kernel) rfl ?_
    obtain ⟨ho28, h⟩ := pm_ifs h
    refine pm_iald (by decide +kernel) rfl (pm_ok_in ho28) ?_
    refine pm_blk (pc' := 303) (L' := [(0, .ref 64), (1, .int a1)]) (S' := [.int (u.1 79 a1.toNatClampNeg), .ref 87, .int (u.1 100 (((24 * (u.1 64 69)) + (u.1 82 a1.toNatClampNeg)).toNatClampNeg)), .int 1, .ref 64, .int a1, .ref 87]) (M' := sm g u) [] (by decide +kernel) rfl ?_
    obtain ⟨ho29, h⟩ := pm_ifs h
    refine pm_iald (by decide +kernel) rfl (pm_ok_in ho29) ?_
    refine pm_blk (pc' := 304) (L' := [(0, .ref 64), (1, .int a1)]) (S' := [.int (u.1 87 ((u.1 79 a1.toNatClampNeg).toNatClampNeg)), .int (u.1 100 (((24 * (u.1 64 69)) + (u.1 82 a1.toNatClampNeg)).toNatClampNeg)), .int 1, .ref 64, .int a1, .ref 87]) (M' := sm g u) [] (by decide +kernel) rfl ?_
    obtain ⟨q30, hq30, h⟩ := pm_bd h
    refine pm_cV (idx := 345) m_Md_typeOf (c_Md_typeOf l h0 D hT hq30) (As := [.int 1, .int (u.1 100 (((24 * (u.1 64 69)) + (u.1 82 a1.toNatClampNeg)).toNatClampNeg)), .int (u.1 87 ((u.1 79 a1.toNatClampNeg).toNatClampNeg))]) (S0 := [.int a1, .ref 87]) rfl (by decide +kernel) k_Md_typeOf l_Md_345 (Nat.le_of_ble_eq_true rfl) (Nat.le_of_ble_eq_true rfl) (Nat.le_refl _) (Nat.le_refl _) ?_
    refine pm_blk (pc' := 307) (L' := [(0, .ref 64), (1, .int a1)]) (S' := [.int q30.1, .int a1, .ref 87]) (M' := sm g q30.2) [] (by decide +kernel) rfl ?_
    obtain ⟨ho31, h⟩ := pm_ifs h
    refine pm_iast (by decide +kernel) rfl  (pm_ok_in ho31) ?_
    refine pm_blk (pc' := 309) (L' := [(0, .ref 64), (1, .int a1)]) (S' := [.int 1]) (M' := sm g (wi q30.2 87 a1.toNatClampNeg q30.1)) [pm_oi (.iconst 1) 1] (by decide +kernel) rfl ?_
    have h9 := Option.some.inj h
    subst h9
    exact pm_retz rfl (by decide +kernel) rfl rfl rfl rfl
  rw [if_neg hs25] at h
  rw [pm_sw_neg hs25]
  by_cases hs32 : (u.1 77 a1.toNatClampNeg) = 10
  · rw [if_pos hs32] at h
    rw [pm_sw_pos hs32]
    refine pm_loc [0, 1] rfl ?_
    exact w_Md_typeOne_345 l h0 D hT a1 u h
  rw [if_neg hs32] at h
  rw [pm_sw_neg hs32]
  by_cases hs48 : (u.1 77 a1.toNatClampNeg) = 11
  · rw [if_pos hs48] at h
    rw [pm_sw_pos hs48]
    refine pm_loc [0, 1] rfl ?_
    exact w_Md_typeOne_345 l h0 D hT a1 u h
  rw [if_neg hs48] at h
  rw [pm_sw_neg hs48]
  by_cases hs49 : (u.1 77 a1.toNatClampNeg) = 12
  · rw [if_pos hs49] at h
    rw [pm_sw_pos hs49]
    refine pm_blk (pc' := 154) (L' := [(0, .ref 64), (1, .int a1)]) (S' := [.int 0, .int a1, .ref 87]) (M' := sm g u) [pm_o (.aload_n 0), pm_of (.getfield 83) 12 29 2, pm_o (.iload_n 1), pm_oi (.iconst 0) 0] (by decide +kernel) rfl ?_
    obtain ⟨ho50, h⟩ := pm_ifs h
    refine pm_iast (by decide +kernel) rfl  (pm_ok_in ho50) ?_
    refine pm_blk (pc' := 156) (L' := [(0, .ref 64), (1, .int a1)]) (S' := [.int 1]) (M' := sm g (wi u 87 a1.toNatClampNeg 0)) [pm_oi (.iconst 1) 1] (by decide +kernel) rfl ?_
    have h9 := Option.some.inj h
    subst h9
    exact pm_retz rfl (by decide +kernel) rfl rfl rfl rfl
  rw [if_neg hs49] at h
  rw [pm_sw_neg hs49]
  by_cases hs51 : (u.1 77 a1.toNatClampNeg) = 13
  · rw [if_pos hs51] at h
    rw [pm_sw_pos hs51]
    refine pm_blk (pc' := 163) (L' := [(0, .ref 64), (1, .int a1)]) (S' := [.int 1, .int a1, .ref 87]) (M' := sm g u) [pm_o (.aload_n 0), pm_of (.getfield 83) 12 29 2, pm_o (.iload_n 1), pm_oi (.iconst 1) 1] (by decide +kernel) rfl ?_
    obtain ⟨ho52, h⟩ := pm_ifs h
    refine pm_iast (by decide +kernel) rfl  (pm_ok_in ho52) ?_
    refine pm_blk (pc' := 165) (L' := [(0, .ref 64), (1, .int a1)]) (S' := [.int 1]) (M' := sm g (wi u 87 a1.toNatClampNeg 1)) [pm_oi (.iconst 1) 1] (by decide +kernel) rfl ?_
    have h9 := Option.some.inj h
    subst h9
    exact pm_retz rfl (by decide +kernel) rfl rfl rfl rfl
  rw [if_neg hs51] at h
  rw [pm_sw_neg hs51]
  by_cases hs53 : (u.1 77 a1.toNatClampNeg) = 30
  · rw [if_pos hs53] at h
    rw [pm_sw_pos hs53]
    refine pm_blk (pc' := 174) (L' := [(0, .ref 64), (1, .int a1)]) (S' := [.int a1, .ref 64]) (M' := sm g u) [pm_o (.aload_n 0), pm_o (.iload_n 1)] (by decide +kernel) rfl ?_
    obtain ⟨q54, hq54, h⟩ := pm_bd h
    refine pm_cV (idx := 477) m_Md_typeRow (c_Md_typeRow l h0 D hT hq54) (As := [.int a1]) (S0 := []) rfl (by decide +kernel) k_Md_typeRow l_Md_477 (Nat.le_of_ble_eq_true rfl) (Nat.le_of_ble_eq_true rfl) (Nat.le_refl _) (Nat.le_refl _) ?_
    refine pm_blk (pc' := 177) (L' := [(0, .ref 64), (1, .int a1)]) (S' := [.int q54.1]) (M' := sm g q54.2) [] (by decide +kernel) rfl ?_
    obtain ⟨hz55, h⟩ := pm_ifs h
    have h9 := Option.some.inj h
    subst h9
    exact pm_retz rfl (by decide +kernel) hz55 rfl rfl rfl
  rw [if_neg hs53] at h
  rw [pm_sw_neg hs53]
  by_cases hs56 : (u.1 77 a1.toNatClampNeg) = 32
  · rw [if_pos hs56] at h
    rw [pm_sw_pos hs56]
    refine pm_blk (pc' := 326) (L' := [(0, .ref 64), (1, .int a1)]) (S' := [.int a1, .ref 79, .ref 87, .int 0, .ref 64, .int a1, .ref 87]) (M' := sm g u) [pm_o (.aload_n 0), pm_of (.getfield 83) 12 29 2, pm_o (.iload_n 1), pm_o (.aload_n 0), pm_oi (.iconst 0) 0, pm_o (.aload_n 0), pm_of (.getfield 83) 12 29 2, pm_o (.aload_n 0), pm_of (.getfield 59) 12 21 2, pm_o (.iload_n 1)] (by decide +kernel) rfl ?_
    obtain ⟨ho57, h⟩ := pm_ifs h
    refine pm_iald (by decide +kernel) rfl (pm_ok_in ho57) ?_
    refine pm_blk (pc' := 327) (L' := [(0, .ref 64), (1, .int a1)]) (S' := [.int (u.1 79 a1.toNatClampNeg), .ref 87, .int 0, .ref 64, .int a1, .ref 87]) (M' := sm g u) [] (by decide +kernel) rfl ?_
    obtain ⟨ho58, h⟩ := pm_ifs h
    refine pm_iald (by decide +kernel) rfl (pm_ok_in ho58) ?_
    refine pm_blk (pc' := 337) (L' := [(0, .ref 64), (1, .int a1)]) (S' := [.int a1, .ref 80, .ref 87, .int (u.1 87 ((u.1 79 a1.toNatClampNeg).toNatClampNeg)), .int 0, .ref 64, .int a1, .ref 87]) (M' := sm g u) [pm_o (.aload_n 0), pm_of (.getfield 83) 12 29 2, pm_o (.aload_n 0), pm_of (.getfield 62) 12 22 2, pm_o (.iload_n 1)] (by decide +kernel) rfl ?_
    obtain ⟨ho59, h⟩ := pm_ifs h
    refine pm_iald (by decide +kernel) rfl (pm_ok_in ho59) ?_
    refine pm_blk (pc' := 338) (L' := [(0, .ref 64), (1, .int a1)]) (S' := [.int (u.1 80 a1.toNatClampNeg), .ref 87, .int (u.1 87 ((u.1 79 a1.toNatClampNeg).toNatClampNeg)), .int 0, .ref 64, .int a1, .ref 87]) (M' := sm g u) [] (by decide +kernel) rfl ?_
    obtain ⟨ho60, h⟩ := pm_ifs h
    refine pm_iald (by decide +kernel) rfl (pm_ok_in ho60) ?_
    refine pm_blk (pc' := 339) (L' := [(0, .ref 64), (1, .int a1)]) (S' := [.int (u.1 87 ((u.1 80 a1.toNatClampNeg).toNatClampNeg)), .int (u.1 87 ((u.1 79 a1.toNatClampNeg).toNatClampNeg)), .int 0, .ref 64, .int a1, .ref 87]) (M' := sm g u) [] (by decide +kernel) rfl ?_
    obtain ⟨q61, hq61, h⟩ := pm_bd h
    refine pm_cV (idx := 345) m_Md_typeOf (c_Md_typeOf l h0 D hT hq61) (As := [.int 0, .int (u.1 87 ((u.1 79 a1.toNatClampNeg).toNatClampNeg)), .int (u.1 87 ((u.1 80 a1.toNatClampNeg).toNatClampNeg))]) (S0 := [.int a1, .ref 87]) rfl (by decide +kernel) k_Md_typeOf l_Md_345 (Nat.le_of_ble_eq_true rfl) (Nat.le_of_ble_eq_true rfl) (Nat.le_refl _) (Nat.le_refl _) ?_
    refine pm_blk (pc' := 342) (L' := [(0, .ref 64), (1, .int a1)]) (S' := [.int q61.1, .int a1, .ref 87]) (M' := sm g q61.2) [] (by decide +kernel) rfl ?_
    obtain ⟨ho62, h⟩ := pm_ifs h
    refine pm_iast (by decide +kernel) rfl  (pm_ok_in ho62) ?_
    refine pm_blk (pc' := 344) (L' := [(0, .ref 64), (1, .int a1)]) (S' := [.int 1]) (M' := sm g (wi q61.2 87 a1.toNatClampNeg q61.1)) [pm_oi (.iconst 1) 1] (by decide +kernel) rfl ?_
    have h9 := Option.some.inj h
    subst h9
    exact pm_retz rfl (by decide +kernel) rfl rfl rfl rfl
  rw [if_neg hs56] at h
  rw [pm_sw_neg hs56]
  refine pm_pc (pc' := 412) rfl ?_
  refine pm_loc [0, 1] rfl ?_
  exact w_Md_typeOne_412 l h0 D hT a1 u h
