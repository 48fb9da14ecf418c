def K_Md_typeAll_74 (N : Nat) (g : pm_s) (k22 : Int32 → Int32 → pm_J → Option (Int32 × pm_J)) (x1 : Int32) (x2 : Int32) (u : pm_J) : Option (Int32 × pm_J) := if pm_ok x2 2400 = true then if (u.1 86 x2.toNatClampNeg) < 0 then k22 x1 (x2 + 1) u else if pm_ok x2 2400 = true then if pm_ok x2 2400 = true then if pm_ok ((24 * x1) + (u.1 86 x2.toNatClampNeg)) 720 = true then k22 x1 (x2 + 1) (wi u 100 (((24 * x1) + (u.1 86 x2.toNatClampNeg)).toNatClampNeg) (u.1 87 x2.toNatClampNeg)) else none else none else none else none
set_option maxHeartbeats 4000000 in
set_option maxRecDepth 100000 in
theorem w_Md_typeAll_74 (l : Launch) (h0 : Nat) (D : pm_D) {g : pm_s} (hT : sh_T g) {N : Nat} {u0 : pm_J} {out : Int32 × pm_J} {p : Program} {e : Env} {R : Room} {s : State} {m : MethodId} {args : Array Value} {below : List Frame} {meth : Method} {c : Code} {k22 : Int32 → Int32 → pm_J → Option (Int32 × pm_J)} (hk22 : ∀ (x1 : Int32) (x2 : Int32) (u : pm_J), k22 x1 x2 u = some out → pm_V (p, l, e, R, s, m, args, below, meth, c) m_Md_typeAll h0 D (g.1, g.2.1, g.1, g.2.1, 4) (pm_E (p, l, e, R, s, m, args, below, meth, c) h0 D (sm g u0) (some (.int out.1)) (sm g out.2)) 22 [(0, .ref 64), (1, .int x1), (2, .int x2)] [] (sm g u)) : ∀ (x1 : Int32) (x2 : Int32) (u : pm_J), K_Md_typeAll_74 N g k22 x1 x2 u = some out → pm_V (p, l, e, R, s, m, args, below, meth, c) m_Md_typeAll h0 D (g.1, g.2.1, g.1, g.2.1, 4) (pm_E (p, l, e, R, s, m, args, below, meth, c) h0 D (sm g u0) (some (.int out.1)) (sm g out.2)) 74 [(0, .ref 64), (1, .int x1), (2, .int x2)] [] (sm g u) := by
    intro x1 x2 u h
    unfold K_Md_typeAll_74 at h
    refine pm_blk (pc' := 79) (L' := [(0, .ref 64), (1, .int x1), (2, .int x2)]) (S' := [.int x2, .ref 86]) (M' := sm g u) [pm_o (.aload_n 0), pm_of (.getfield 80) 12 28 2, pm_o (.iload_n 2)] (by decide +kernel) rfl ?_
    obtain ⟨ho17, h⟩ := pm_ifs h
    refine pm_iald (by decide +kernel) rfl (pm_ok_in ho17) ?_
    refine pm_blk (pc' := 80) (L' := [(0, .ref 64), (1, .int x1), (2, .int x2)]) (S' := [.int (u.1 86 x2.toNatClampNeg)]) (M' := sm g u) [] (by decide +kernel) rfl ?_
    refine pm_if_lt (off := 25) 105 (by decide +kernel) (by decide) (fun hc18 => ?_) (fun hc18 => ?_)
    · rw [if_pos hc18] at h
      refine pm_blk (pc' := 108) (L' := [(2, .int (x2 + 1)), (0, .ref 64), (1, .int x1)]) (S' := []) (M' := sm g u) [pm_oi (.iinc 2 1) 1] (by decide +kernel) rfl ?_
      refine pm_goto (off := -86) 22 (by decide +kernel) (by decide) ?_
      refine pm_loc [1, 2, 0] rfl ?_
      exact hk22 x1 (x2 + 1) u h
    · rw [if_neg hc18] at h
      refine pm_blk (pc' := 96) (L' := [(0, .ref 64), (1, .int x1), (2, .int x2)]) (S' := [.int x2, .ref 86, .int (24 * x1), .ref 100]) (M' := sm g u) [pm_o (.aload_n 0), pm_of (.getfield 122) 12 43 2, pm_oi (.bipush 24) 24, pm_o (.iload_n 1), pm_o .imul, pm_o (.aload_n 0), pm_of (.getfield 80) 12 28 2, pm_o (.iload_n 2)] (by decide +kernel) rfl ?_
      obtain ⟨ho19, h⟩ := pm_ifs h
      refine pm_iald (by decide +kernel) rfl (pm_ok_in ho19) ?_
      refine pm_blk (pc' := 103) (L' := [(0, .ref 64), (1, .int x1), (2, .int x2)]) (S' := [.int x2, .ref 87, .int ((24 * x1) + (u.1 86 x2.toNatClampNeg)), .ref 100]) (M' := sm g u) [pm_o .iadd, pm_o (.aload_n 0), pm_of (.getfield 83) 12 29 2, pm_o (.iload_n 2)] (by decide +kernel) rfl ?_
      obtain ⟨ho20, h⟩ := pm_ifs h
      refine pm_iald (by decide +kernel) rfl (pm_ok_in ho20) ?_
      refine pm_blk (pc' := 104) (L' := [(0, .ref 64), (1, .int x1), (2, .int x2)]) (S' := [.int (u.1 87 x2.toNatClampNeg), .int ((24 * x1) + (u.1 86 x2.toNatClampNeg)), .ref 100]) (M' := sm g u) [] (by decide +kernel) rfl ?_
      obtain ⟨ho21, h⟩ := pm_ifs h
      refine pm_iast (by decide +kernel) rfl  (pm_ok_in ho21) ?_
      refine pm_blk (pc' := 108) (L' := [(2, .int (x2 + 1)), (0, .ref 64), (1, .int x1)]) (S' := []) (M' := sm g (wi u 100 (((24 * x1) + (u.1 86 x2.toNatClampNeg)).toNatClampNeg) (u.1 87 x2.toNatClampNeg))) [pm_oi (.iinc 2 1) 1] (by decide +kernel) rfl ?_
      refine pm_goto (off := -86) 22 (by decide +kernel) (by decide) ?_
      refine pm_loc [1, 2, 0] rfl ?_
      exact hk22 x1 (x2 + 1) (wi u 100 (((24 * x1) + (u.1 86 x2.toNatClampNeg)).toNatClampNeg) (u.1 87 x2.toNatClampNeg)) h
def K_Md_typeAll_22 (N : Nat) (g : pm_s) (k2 : Int32 → pm_J → Option (Int32 × pm_J)) : Nat → Int32 → Int32 → pm_J → Option (Int32 × pm_J)
  | 0, _, _, _ => none
  | n + 1, x1, x2, u => if pm_ok x1 30 = true then if (u.1 96 x1.toNatClampNeg) < x2 then if pm_ok x1 30 = true then if pm_ok (u.1 96 x1.toNatClampNeg) 2400 = true then if pm_ok x1 30 = true then if (u.1 87 ((u.1 96 x1.toNatClampNeg).toNatClampNeg)) = (u.1 93 x1.toNatClampNeg) then k2 (x1 + 1) u else if pm_ok x1 30 = true then if pm_ok (u.1 91 x1.toNatClampNeg) 902 = true then (F_Md_fails 7 (u.1 67 ((u.1 91 x1.toNatClampNeg).toNatClampNeg)) g u).bind fun q11 => if (q11.1 == 0 || q11.1 == 1) = true then some (q11.1, q11.2) else none else none else none else none else none else none else (F_Md_typeOne N x2 g u).bind fun q13 => if q13.1 = 0 then some (0, q13.2) else if pm_ok x2 2400 = true then if (q13.2.1 87 x2.toNatClampNeg) < 0 then K_Md_typeAll_74 N g (K_Md_typeAll_22 N g k2 n) x1 x2 q13.2 else if pm_ok x2 2400 = true then if pm_ok (q13.2.1 87 x2.toNatClampNeg) 100000 = true then if (q13.2.1 74 ((q13.2.1 87 x2.toNatClampNeg).toNatClampNeg)) ≤ 200 then K_Md_typeAll_74 N g (K_Md_typeAll_22 N g k2 n) x1 x2 q13.2 else (F_Md_untyped x2 g q13.2).bind fun q25 => if (q25.1 == 0 || q25.1 == 1) = true then some (q25.1, q25.2) else none else none else none else none else none
set_option maxHeartbeats 4000000 in
set_option maxRecDepth 100000 in
theorem w_Md_typeAll_22 (l : Launch) (h0 : Nat) (D : pm_D) {g : pm_s} (hT : sh_T g) {N : Nat} {u0 : pm_J} {out : Int32 × pm_J} {p : Program} {e : Env} {R : Room} {s : State} {m : MethodId} {args : Array Value} {below : List Frame} {meth : Method} {c : Code} {k2 : Int32 → pm_J → Option (Int32 × pm_J)} (hk2 : ∀ (x1 : Int32) (u : pm_J), k2 x1 u = some out → pm_V (p, l, e, R, s, m, args, below, meth, c) m_Md_typeAll h0 D (g.1, g.2.1, g.1, g.2.1, 4) (pm_E (p, l, e, R, s, m, args, below, meth, c) h0 D (sm g u0) (some (.int out.1)) (sm g out.2)) 2 [(0, .ref 64), (1, .int x1)] [] (sm g u)) : ∀ (n : Nat) (x1 : Int32) (x2 : Int32) (u : pm_J), K_Md_typeAll_22 N g k2 n x1 x2 u = some out → pm_V (p, l, e, R, s, m, args, below, meth, c) m_Md_typeAll h0 D (g.1, g.2.1, g.1, g.2.1, 4) (pm_E (p, l, e, R, s, m, args, below, meth, c) h0 D (sm g u0) (some (.int out.1)) (sm g out.2)) 22 [(0, .ref 64), (1, .int x1), (2, .int x2)] [] (sm g u) := by
  intro n
  induction n with
  | zero => intro x1 x2 u h; cases h
  | succ n ih =>
    intro x1 x2 u h
    rw [K_Md_typeAll_22] at h
    refine pm_blk (pc' := 28) (L' := [(0, .ref 64), (1, .int x1), (2, .int x2)]) (S' := [.int x1, .ref 96, .int x2]) (M' := sm g u) [pm_o (.iload_n 2), pm_o (.aload_n 0), pm_of (.getfield 110) 12 39 2, pm_o (.iload_n 1)] (by decide +kernel) rfl ?_
    obtain ⟨ho3, h⟩ := pm_ifs h
    refine pm_iald (by decide +kernel) rfl (pm_ok_in ho3) ?_
    refine pm_blk (pc' := 29) (L' := [(0, .ref 64), (1, .int x1), (2, .int x2)]) (S' := [.int (u.1 96 x1.toNatClampNeg), .int x2]) (M' := sm g u) [] (by decide +kernel) rfl ?_
    refine pm_ic_gt (off := 82) 111 (by decide +kernel) (by decide) (fun hc4 => ?_) (fun hc4 => ?_)
    · rw [if_pos hc4] at h
      refine pm_blk (pc' := 120) (L' := [(0, .ref 64), (1, .int x1), (2, .int x2)]) (S' := [.int x1, .ref 96, .ref 87]) (M' := sm g u) [pm_o (.aload_n 0), pm_of (.getfield 83) 12 29 2, pm_o (.aload_n 0), pm_of (.getfield 110) 12 39 2, pm_o (.iload_n 1)] (by decide +kernel) rfl ?_
      obtain ⟨ho5, h⟩ := pm_ifs h
      refine pm_iald (by decide +kernel) rfl (pm_ok_in ho5) ?_
      refine pm_blk (pc' := 121) (L' := [(0, .ref 64), (1, .int x1), (2, .int x2)]) (S' := [.int (u.1 96 x1.toNatClampNeg), .ref 87]) (M' := sm g u) [] (by decide +kernel) rfl ?_
      obtain ⟨ho6, h⟩ := pm_ifs h
      refine pm_iald (by decide +kernel) rfl (pm_ok_in ho6) ?_
      refine pm_blk (pc' := 127) (L' := [(0, .ref 64), (1, .int x1), (2, .int x2)]) (S' := [.int x1, .ref 93, .int (u.1 87 ((u.1 96 x1.toNatClampNeg).toNatClampNeg))]) (M' := sm g u) [pm_o (.aload_n 0), pm_of (.getfield 101) 12 36 2, pm_o (.iload_n 1)] (by decide +kernel) rfl ?_
      obtain ⟨ho7, h⟩ := pm_ifs h
      refine pm_iald (by decide +kernel) rfl (pm_ok_in ho7) ?_
      refine pm_blk (pc' := 128) (L' := [(0, .ref 64), (1, .int x1), (2, .int x2)]) (S' := [.int (u.1 93 x1.toNatClampNeg), .int (u.1 87 ((u.1 96 x1.toNatClampNeg).toNatClampNeg))]) (M' := sm g u) [] (by decide +kernel) rfl ?_
      refine pm_ic_eq (off := 21) 149 (by decide +kernel) (by decide) (fun hc8 => ?_) (fun hc8 => ?_)
      · rw [if_pos hc8] at h
        refine pm_blk (pc' := 152) (L' := [(1, .int (x1 + 1)), (0, .ref 64), (2, .int x2)]) (S' := []) (M' := sm g u) [pm_oi (.iinc 1 1) 1] (by decide +kernel) rfl ?_
        refine pm_goto (off := -150) 2 (by decide +kernel) (by decide) ?_
        refine pm_loc [1, 0] rfl ?_
        exact hk2 (x1 + 1) u h
      · rw [if_neg hc8] at h
        refine pm_blk (pc' := 143) (L' := [(0, .ref 64), (1, .int x1), (2, .int x2)]) (S' := [.int x1, .ref 91, .ref 67, .int 7, .ref 64]) (M' := sm g u) [pm_o (.aload_n 0), pm_oi (.bipush 7) 7, pm_o (.aload_n 0), pm_of (.getfield 20) 12 7 2, pm_o (.aload_n 0), pm_of (.getfield 95) 12 34 2, pm_o (.iload_n 1)] (by decide +kernel) rfl ?_
        obtain ⟨ho9, h⟩ := pm_ifs h
        refine pm_iald (by decide +kernel) rfl (pm_ok_in ho9) ?_
        refine pm_blk (pc' := 144) (L' := [(0, .ref 64), (1, .int x1), (2, .int x2)]) (S' := [.int (u.1 91 x1.toNatClampNeg), .ref 67, .int 7, .ref 64]) (M' := sm g u) [] (by decide +kernel) rfl ?_
        obtain ⟨ho10, h⟩ := pm_ifs h
        refine pm_iald (by decide +kernel) rfl (pm_ok_in ho10) ?_
        refine pm_blk (pc' := 145) (L' := [(0, .ref 64), (1, .int x1), (2, .int x2)]) (S' := [.int (u.1 67 ((u.1 91 x1.toNatClampNeg).toNatClampNeg)), .int 7, .ref 64]) (M' := sm g u) [] (by decide +kernel) rfl ?_
        obtain ⟨q11, hq11, h⟩ := pm_bd h
        refine pm_cV (idx := 337) m_Md_fails (c_Md_fails l h0 D hT hq11) (As := [.int 7, .int (u.1 67 ((u.1 91 x1.toNatClampNeg).toNatClampNeg))]) (S0 := []) rfl (by decide +kernel) k_Md_fails l_Md_337 (Nat.le_of_ble_eq_true rfl) (Nat.le_of_ble_eq_true rfl) (Nat.le_refl _) (Nat.le_refl _) ?_
        refine pm_blk (pc' := 148) (L' := [(0, .ref 64), (1, .int x1), (2, .int x2)]) (S' := [.int q11.1]) (M' := sm g q11.2) [] (by decide +kernel) rfl ?_
        obtain ⟨hz12, h⟩ := pm_ifs h
        have h9 := Option.some.inj h
        subst h9
        exact pm_retz rfl (by decide +kernel) hz12 rfl rfl rfl
    · rw [if_neg hc4] at h
      refine pm_blk (pc' := 34) (L' := [(0, .ref 64), (1, .int x1), (2, .int x2)]) (S' := [.int x2, .ref 64]) (M' := sm g u) [pm_o (.aload_n 0), pm_o (.iload_n 2)] (by decide +kernel) rfl ?_
      obtain ⟨q13, hq13, h⟩ := pm_bd h
      refine pm_cV (idx := 468) m_Md_typeOne (c_Md_typeOne l h0 D hT hq13) (As := [.int x2]) (S0 := []) rfl (by decide +kernel) k_Md_typeOne l_Md_468 (Nat.le_of_ble_eq_true rfl) (Nat.le_of_ble_eq_true rfl) (Nat.le_refl _) (Nat.le_refl _) ?_
      refine pm_blk (pc' := 37) (L' := [(0, .ref 64), (1, .int x1), (2, .int x2)]) (S' := [.int q13.1]) (M' := sm g q13.2) [] (by decide +kernel) rfl ?_
      refine pm_if_ne (off := 5) 42 (by decide +kernel) (by decide) (fun hc14 => ?_) (fun hc14 => ?_)
      · rw [if_neg hc14] at h
        refine pm_blk (pc' := 47) (L' := [(0, .ref 64), (1, .int x1), (2, .int x2)]) (S' := [.int x2, .ref 87]) (M' := sm g q13.2) [pm_o (.aload_n 0), pm_of (.getfield 83) 12 29 2, pm_o (.iload_n 2)] (by decide +kernel) rfl ?_
        obtain ⟨ho15, h⟩ := pm_ifs h
        refine pm_iald (by decide +kernel) rfl (pm_ok_in ho15) ?_
        refine pm_blk (pc' := 48) (L' := [(0, .ref 64), (1, .int x1), (2, .int x2)]) (S' := [.int (q13.2.1 87 x2.toNatClampNeg)]) (M' := sm g q13.2) [] (by decide +kernel) rfl ?_
        refine pm_if_lt (off := 26) 74 (by decide +kernel) (by decide) (fun hc16 => ?_) (fun hc16 => ?_)
        · rw [if_pos hc16] at h
          refine pm_loc [0, 1, 2] rfl ?_
          exact w_Md_typeAll_74 l h0 D hT ih x1 x2 q13.2 h
        · rw [if_neg hc16] at h
          refine pm_blk (pc' := 60) (L' := [(0, .ref 64), (1, .int x1), (2, .int x2)]) (S' := [.int x2, .ref 87, .ref 74]) (M' := sm g q13.2) [pm_o (.aload_n 0), pm_of (.getfield 44) 12 15 2, pm_o (.aload_n 0), pm_of (.getfield 83) 12 29 2, pm_o (.iload_n 2)] (by decide +kernel) rfl ?_
          obtain ⟨ho22, h⟩ := pm_ifs h
          refine pm_iald (by decide +kernel) rfl (pm_ok_in ho22) ?_
          refine pm_blk (pc' := 61) (L' := [(0, .ref 64), (1, .int x1), (2, .int x2)]) (S' := [.int (q13.2.1 87 x2.toNatClampNeg), .ref 74]) (M' := sm g q13.2) [] (by decide +kernel) rfl ?_
          obtain ⟨ho23, h⟩ := pm_ifs h
          refine pm_iald (by decide +kernel) rfl (pm_ok_in ho23) ?_
          refine pm_blk (pc' := 65) (L' := [(0, .ref 64), (1, .int x1), (2, .int x2)]) (S' := [.int 200, .int (q13.2.1 74 ((q13.2.1 87 x2.toNatClampNeg).toNatClampNeg))]) (M' := sm g q13.2) [pm_oi (.sipush 200) 200] (by decide +kernel) rfl ?_
          refine pm_ic_le (off := 9) 74 (by decide +kernel) (by decide) (fun hc24 => ?_) (fun hc24 => ?_)
          · rw [if_pos hc24] at h
            refine pm_loc [0, 1, 2] rfl ?_
            exact w_Md_typeAll_74 l h0 D hT ih x1 x2 q13.2 h
          · rw [if_neg hc24] at h
            refine pm_blk (pc' := 70) (L' := [(0, .ref 64), (1, .int x1), (2, .int x2)]) (S' := [.int x2, .ref 64]) (M' := sm g q13.2) [pm_o (.aload_n 0), pm_o (.iload_n 2)] (by decide +kernel) rfl ?_
            obtain ⟨q25, hq25, h⟩ := pm_bd h
            refine pm_cV (idx := 471) m_Md_untyped (c_Md_untyped l h0 D hT hq25) (As := [.int x2]) (S0 := []) rfl (by decide +kernel) k_Md_untyped l_Md_471 (Nat.le_of_ble_eq_true rfl) (Nat.le_of_ble_eq_true rfl) (Nat.le_refl _) (Nat.le_refl _) ?_
            refine pm_blk (pc' := 73) (L' := [(0, .ref 64), (1, .int x1), (2, .int x2)]) (S' := [.int q25.1]) (M' := sm g q25.2) [] (by decide +kernel) rfl ?_
            obtain ⟨hz26, h⟩ := pm_ifs h
            have h9 := Option.some.inj h
            subst h9
            exact pm_retz rfl (by decide +kernel) hz26 rfl rfl rfl
      · rw [if_pos hc14] at h
        refine pm_blk (pc' := 41) (L' := [(0, .ref 64), (1, .int x1), (2, .int x2)]) (S' := [.int 0]) (M' := sm g q13.2) [pm_oi (.iconst 0) 0] (by decide +kernel) rfl ?_
        have h9 := Option.some.inj h
        subst h9
        exact pm_retz rfl (by decide +kernel) rfl rfl rfl rfl
def K_Md_typeAll_2 (N : Nat) (g : pm_s) : Nat → Int32 → pm_J → Option (Int32 × pm_J)
  | 0, _, _ => none
  | n + 1, x1, u => if (u.1 64 44) ≤ x1 then some (1, u) else if pm_ok x1 30 = true then K_Md_typeAll_22 N g (K_Md_typeAll_2 N g  n) N x1 (u.1 95 x1.toNatClampNeg) (wi u 64 69 x1) else none
set_option maxHeartbeats 4000000 in
set_option maxRecDepth 100000 in
theorem w_Md_typeAll_2 (l : Launch) (h0 : Nat) (D : pm_D) {g : pm_s} (hT : sh_T g) {N : Nat} {u0 : pm_J} {out : Int32 × pm_J} {p : Program} {e : Env} {R : Room} {s : State} {m : MethodId} {args : Array Value} {below : List Frame} {meth : Method} {c : Code} : ∀ (n : Nat) (x1 : Int32) (u : pm_J), K_Md_typeAll_2 N g n x1 u = some out → pm_V (p, l, e, R, s, m, args, below, meth, c) m_Md_typeAll h0 D (g.1, g.2.1, g.1, g.2.1, 4) (pm_E (p, l, e, R, s, m, args, below, meth, c) h0 D (sm g u0) (some (.int out.1)) (sm g out.2)) 2 [(0, .ref 64), (1, .int x1)] [] (sm g u) := by
  intro n
  induction n with
  | zero => intro x1 u h; cases h
  | succ n ih =>
    intro x1 u h
    rw [K_Md_typeAll_2] at h
    refine pm_blk (pc' := 7) (L' := [(0, .ref 64), (1, .int x1)]) (S' := [.int (u.1 64 44), .int x1]) (M' := sm g u) [pm_o (.iload_n 1), pm_o (.aload_n 0), pm_of (.getfield 256) 12 44 0] (by decide +kernel) rfl ?_
    refine pm_ic_ge (off := 148) 155 (by decide +kernel) (by decide) (fun hc1 => ?_) (fun hc1 => ?_)
    · rw [if_pos hc1] at h
      refine pm_blk (pc' := 156) (L' := [(0, .ref 64), (1, .int x1)]) (S' := [.int 1]) (M' := sm g u) [pm_oi (.iconst 1) 1] (by decide +kernel) rfl ?_
      have h9 := Option.some.inj h
      subst h9
      exact pm_retz rfl (by decide +kernel) rfl rfl rfl rfl
    · rw [if_neg hc1] at h
      refine pm_blk (pc' := 20) (L' := [(0, .ref 64), (1, .int x1)]) (S' := [.int x1, .ref 95]) (M' := sm g (wi u 64 69 x1)) [pm_o (.aload_n 0), pm_o (.iload_n 1), pm_of (.putfield 465) 12 69 0, pm_o (.aload_n 0), pm_of (.getfield 107) 12 38 2, pm_o (.iload_n 1)] (by decide +kernel) rfl ?_
      obtain ⟨ho2, h⟩ := pm_ifs h
      refine pm_iald (by decide +kernel) rfl (pm_ok_in ho2) ?_
      refine pm_blk (pc' := 22) (L' := [(2, .int (u.1 95 x1.toNatClampNeg)), (0, .ref 64), (1, .int x1)]) (S' := []) (M' := sm g (wi u 64 69 x1)) [pm_o (.istore_n 2)] (by decide +kernel) rfl ?_
      refine pm_loc [1, 2, 0] rfl ?_
      exact w_Md_typeAll_22 l h0 D hT ih N x1 (u.1 95 x1.toNatClampNeg) (wi u 64 69 x1) h
def F_Md_typeAll (N : Nat) (g : pm_s) (u : pm_J) : Option (Int32 × pm_J) := K_Md_typeAll_2 N g N 0 u
set_option maxHeartbeats 4000000 in
set_option maxRecDepth 100000 in
theorem c_Md_typeAll (l : Launch) (h0 : Nat) (D : pm_D) {g : pm_s} {u : pm_J} (hT : sh_T g) {N : Nat} {out : Int32 × pm_J} (h : F_Md_typeAll N g u = some out) : pm_C l h0 D m_Md_typeAll (4) [.ref 64] (sm g u) (some (.int out.1)) (sm g out.2) := by
  unfold F_Md_typeAll at h
  refine pm_met (by decide +kernel) (Nat.le_of_ble_eq_true rfl) (Nat.le_refl _) (Nat.le_refl _) ?_
  intro p e R s m args below meth c
  refine pm_blk (pc' := 2) (L' := [(1, .int 0), (0, .ref 64)]) (S' := []) (M' := sm g u) [pm_oi (.iconst 0) 0, pm_o (.istore_n 1)] (by decide +kernel) rfl ?_
  refine pm_loc [1, 0] rfl ?_
  exact w_Md_typeAll_2 l h0 D hT N 0 u h
def F_Md_isCall (a1 : Int32) (g : pm_s) (u : pm_J) : Option (Int32) := if pm_ok a1 2400 = true then if (u.1 77 a1.toNatClampNeg) = 1 then if pm_ok a1 2400 = true then if (u.1 88 a1.toNatClampNeg) < 0 then some 0 else if pm_ok a1 2400 = true then if (u.1 112 a1.toNatClampNeg) = 0 then some 1 else some 0 else none else none else if pm_ok a1 2400 = true then if (u.1 77 a1.toNatClampNeg) = 30 then if pm_ok a1 2400 = true then if (u.1 88 a1.toNatClampNeg) < 0 then some 0 else if pm_ok a1 2400 = true then if pm_ok a1 2400 = true then if pm_ok (u.1 88 a1.toNatClampNeg) 30 = true then if (u.1 84 a1.toNatClampNeg) = (u.1 92 ((u.1 88 a1.toNatClampNeg).toNatClampNeg)) then some 1 else some 0 else none else none else none else none else some 0 else none else none
set_option maxHeartbeats 4000000 in
set_option maxRecDepth 100000 in
theorem c_Md_isCall (l : Launch) (h0 : Nat) (D : pm_D) {g : pm_s} {u : pm_J} (hT : sh_T g) {a1 : Int32} {out : Int32} (h : F_Md_isCall a1 g u = some out) : pm_C l h0 D m_Md_isCall (0) [.ref 64, .int a1] (sm g u) (some (.int out)) (sm g u) := by
  unfold F_Md_isCall at h
  refine pm_met (by decide +kernel) (Nat.le_of_ble_eq_true rfl) (Nat.le_refl _) (Nat.le_refl _) ?_
  intro p e R s m args below meth c
  refine pm_blk (pc' := 5) (L' := [(0, .ref 64), (1, .int a1)]) (S' := [.int a1, .ref 77]) (M' := sm g u) [pm_o (.aload_n 0), pm_of (.getfield 53) 12 19 2, pm_o (.iload_n 1)] (by decide +kernel) rfl ?_
  obtain ⟨ho1, h⟩ := pm_ifs h
  refine pm_iald (by decide +kernel) rfl (pm_ok_in ho1) ?_
  refine pm_blk (pc' := 7) (L' := [(0, .ref 64), (1, .int a1)]) (S' := [.int 1, .int (u.1 77 a1.toNatClampNeg)]) (M' := sm g u) [pm_oi (.iconst 1) 1] (by decide +kernel) rfl ?_
  refine pm_ic_ne (off := 29) 36 (by decide +kernel) (by decide) (fun hc2 => ?_) (fun hc2 => ?_)
  · rw [if_neg hc2] at h
    refine pm_blk (pc' := 41) (L' := [(0, .ref 64), (1, .int a1)]) (S' := [.int a1, .ref 77]) (M' := sm g u) [pm_o (.aload_n 0), pm_of (.getfield 53) 12 19 2, pm_o (.iload_n 1)] (by decide +kernel) rfl ?_
    obtain ⟨ho3, h⟩ := pm_ifs h
    refine pm_iald (by decide +kernel) rfl (pm_ok_in ho3) ?_
    refine pm_blk (pc' := 44) (L' := [(0, .ref 64), (1, .int a1)]) (S' := [.int 30, .int (u.1 77 a1.toNatClampNeg)]) (M' := sm g u) [pm_oi (.bipush 30) 30] (by decide +kernel) rfl ?_
    refine pm_ic_ne (off := 36) 80 (by decide +kernel) (by decide) (fun hc4 => ?_) (fun hc4 => ?_)
    · rw [if_neg hc4] at h
      refine pm_blk (pc' := 81) (L' := [(0, .ref 64), (1, .int a1)]) (S' := [.int 0]) (M' := sm g u) [pm_oi (.iconst 0) 0] (by decide +kernel) rfl ?_
      have h9 := Option.some.inj h
      subst h9
      exact pm_retz rfl (by decide +kernel) rfl rfl rfl rfl
    · rw [if_pos hc4] at h
      refine pm_blk (pc' := 52) (L' := [(0, .ref 64), (1, .int a1)]) (S' := [.int a1, .ref 88]) (M' := sm g u) [pm_o (.aload_n 0), pm_of (.getfield 86) 12 30 2, pm_o (.iload_n 1)] (by decide +kernel) rfl ?_
      obtain ⟨ho5, h⟩ := pm_ifs h
      refine pm_iald (by decide +kernel) rfl (pm_ok_in ho5) ?_
      refine pm_blk (pc' := 53) (L' := [(0, .ref 64), (1, .int a1)]) (S' := [.int (u.1 88 a1.toNatClampNeg)]) (M' := sm g u) [] (by decide +kernel) rfl ?_
      refine pm_if_lt (off := 27) 80 (by decide +kernel) (by decide) (fun hc6 => ?_) (fun hc6 => ?_)
      · rw [if_pos hc6] at h
        refine pm_blk (pc' := 81) (L' := [(0, .ref 64), (1, .int a1)]) (S' := [.int 0]) (M' := sm g u) [pm_oi (.iconst 0) 0] (by decide +kernel) rfl ?_
        have h9 := Option.some.inj h
        subst h9
        exact pm_retz rfl (by decide +kernel) rfl rfl rfl rfl
      · rw [if_neg hc6] at h
        refine pm_blk (pc' := 61) (L' := [(0, .ref 64), (1, .int a1)]) (S' := [.int a1, .ref 84]) (M' := sm g u) [pm_o (.aload_n 0), pm_of (.getfield 74) 12 26 2, pm_o (.iload_n 1)] (by decide +kernel) rfl ?_
        obtain ⟨ho7, h⟩ := pm_ifs h
        refine pm_iald (by decide +kernel) rfl (pm_ok_in ho7) ?_
        refine pm_blk (pc' := 71) (L' := [(0, .ref 64), (1, .int a1)]) (S' := [.int a1, .ref 88, .ref 92, .int (u.1 84 a1.toNatClampNeg)]) (M' := sm g u) [pm_o (.aload_n 0), pm_of (.getfield 98) 12 35 2, pm_o (.aload_n 0), pm_of (.getfield 86) 12 30 2, pm_o (.iload_n 1)] (by decide +kernel) rfl ?_
        obtain ⟨ho8, h⟩ := pm_ifs h
        refine pm_iald (by decide +kernel) rfl (pm_ok_in ho8) ?_
        refine pm_blk (pc' := 72) (L' := [(0, .ref 64), (1, .int a1)]) (S' := [.int (u.1 88 a1.toNatClampNeg), .ref 92, .int (u.1 84 a1.toNatClampNeg)]) (M' := sm g u) [] (by decide +kernel) rfl ?_
        obtain ⟨ho9, h⟩ := pm_ifs h
        refine pm_iald (by decide +kernel) rfl (pm_ok_in ho9) ?_
        refine pm_blk (pc' := 73) (L' := [(0, .ref 64), (1, .int a1)]) (S' := [.int (u.1 92 ((u.1 88 a1.toNatClampNeg).toNatClampNeg)), .int (u.1 84 a1.toNatClampNeg)]) (M' := sm g u) [] (by decide +kernel) rfl ?_
        refine pm_ic_ne (off := 7) 80 (by decide +kernel) (by decide) (fun hc10 => ?_) (fun hc10 => ?_)
        · rw [if_neg hc10] at h
          refine pm_blk (pc' := 81) (L' := [(0, .ref 64), (1, .int a1)]) (S' := [.int 0]) (M' := sm g u) [pm_oi (.iconst 0) 0] (by decide +kernel) rfl ?_
          have h9 := Option.some.inj h
          subst h9
          exact pm_retz rfl (by decide +kernel) rfl rfl rfl rfl
        · rw [if_pos hc10] at h
          refine pm_blk (pc' := 77) (L' := [(0, .ref 64), (1, .int a1)]) (S' := [.int 1]) (M' := sm g u) [pm_oi (.iconst 1) 1] (by decide +kernel) rfl ?_
          refine pm_goto (off := 4) 81 (by decide +kernel) (by decide) ?_
          have h9 := Option.some.inj h
          subst h9
          exact pm_retz rfl (by decide +kernel) rfl rfl rfl rfl
  · rw [if_pos hc2] at h
    refine pm_blk (pc' := 15) (L' := [(0, .ref 64), (1, .int a1)]) (S' := [.int a1, .ref 88]) (M' := sm g u) [pm_o (.aload_n 0), pm_of (.getfield 86) 12 30 2, pm_o (.iload_n 1)] (by decide +kernel) rfl ?_
    obtain ⟨ho11, h⟩ := pm_ifs h
    refine pm_iald (by decide +kernel) rfl (pm_ok_in ho11) ?_
    refine pm_blk (pc' := 16) (L' := [(0, .ref 64), (1, .int a1)]) (S' := [.int (u.1 88 a1.toNatClampNeg)]) (M' := sm g u) [] (by decide +kernel) rfl ?_
    refine pm_if_lt (off := 16) 32 (by decide +kernel) (by decide) (fun hc12 => ?_) (fun hc12 => ?_)
    · rw [if_pos hc12] at h
      refine pm_blk (pc' := 33) (L' := [(0, .ref 64), (1, .int a1)]) (S' := [.int 0]) (M' := sm g u) [pm_oi (.iconst 0) 0] (by decide +kernel) rfl ?_
      refine pm_goto (off := 48) 81 (by decide +kernel) (by decide) ?_
      have h9 := Option.some.inj h
      subst h9
      exact pm_retz rfl (by decide +kernel) rfl rfl rfl rfl
    · rw [if_neg hc12] at h
      refine pm_blk (pc' := 24) (L' := [(0, .ref 64), (1, .int a1)]) (S' := [.int a1, .ref 112]) (M' := sm g u) [pm_o (.aload_n 0), pm_of (.getfield 158) 12 68 2, pm_o (.iload_n 1)] (by decide +kernel) rfl ?_
      obtain ⟨ho13, h⟩ := pm_ifs h
      refine pm_zald (by decide +kernel) rfl (pm_ok_in ho13) ?_
      refine pm_blk (pc' := 25) (L' := [(0, .ref 64), (1, .int a1)]) (S' := [.int (u.1 112 a1.toNatClampNeg)]) (M' := sm g u) [] (by decide +kernel) rfl ?_
      refine pm_if_ne (off := 7) 32 (by decide +kernel) (by decide) (fun hc14 => ?_) (fun hc14 => ?_)
      · rw [if_neg hc14] at h
        refine pm_blk (pc' := 33) (L' := [(0, .ref 64), (1, .int a1)]) (S' := [.int 0]) (M' := sm g u) [pm_oi (.iconst 0) 0] (by decide +kernel) rfl ?_
        refine pm_goto (off := 48) 81 (by decide +kernel) (by decide) ?_
        have h9 := Option.some.inj h
        subst h9
        exact pm_retz rfl (by decide +kernel) rfl rfl rfl rfl
      · rw [if_pos hc14] at h
        refine pm_blk (pc' := 29) (L' := [(0, .ref 64), (1, .int a1)]) (S' := [.int 1]) (M' := sm g u) [pm_oi (.iconst 1) 1] (by decide +kernel) rfl ?_
        refine pm_goto (off := 52) 81 (by decide +kernel) (by decide) ?_
        have h9 := Option.some.inj h
        subst h9
        exact pm_retz rfl (by decide +kernel) rfl rfl rfl rfl
def F_Md_isLetterType (a1 : Int32) (g : pm_s) (u : pm_J) : Option (Int32) := if a1 < 2 then some 0 else if 6 ≤ a1 then some 0 else some 1
set_option maxHeartbeats 4000000 in
set_option maxRecDepth 100000 in
theorem c_Md_isLetterType (l : Launch) (h0 : Nat) (D : pm_D) {g : pm_s} {u : pm_J} (hT : sh_T g) {a1 : Int32} {out : Int32} (h : F_Md_isLetterType a1 g u = some out) : pm_C l h0 D m_Md_isLetterType (0) [.int a1] (sm g u) (some (.int out)) (sm g u) := by
  unfold F_Md_isLetterType at h
  refine pm_met (by decide +kernel) (Nat.le_of_ble_eq_true rfl) (Nat.le_refl _) (Nat.le_refl _) ?_
  intro p e R s m args below meth c
  refine pm_blk (pc' := 2) (L' := [(0, .int a1)]) (S' := [.int 2, .int a1]) (M' := sm g u) [pm_o (.iload_n 0), pm_oi (.iconst 2) 2] (by decide +kernel) rfl ?_
  refine pm_ic_lt (off := 13) 15 (by decide +kernel) (by decide) (fun hc1 => ?_) (fun hc1 => ?_)
  · rw [if_pos hc1] at h
    refine pm_blk (pc' := 16) (L' := [(0, .int a1)]) (S' := [.int 0]) (M' := sm g u) [pm_oi (.iconst 0) 0] (by decide +kernel) rfl ?_
    have h9 := Option.some.inj h
    subst h9
    exact pm_retz rfl (by decide +kernel) rfl rfl rfl rfl
  · rw [if_neg hc1] at h
    refine pm_blk (pc' := 8) (L' := [(0, .int a1)]) (S' := [.int 6, .int a1]) (M' := sm g u) [pm_o (.iload_n 0), pm_oi (.bipush 6) 6] (by decide +kernel) rfl ?_
    refine pm_ic_ge (off := 7) 15 (by decide +kernel) (by decide) (fun hc2 => ?_) (fun hc2 => ?_)
    · rw [if_pos hc2] at h
      refine pm_blk (pc' := 16) (L' := [(0, .int a1)]) (S' := [.int 0]) (M' := sm g u) [pm_oi (.iconst 0) 0] (by decide +kernel) rfl ?_
      have h9 := Option.some.inj h
      subst h9
      exact pm_retz rfl (by decide +kernel) rfl rfl rfl rfl
    · rw [if_neg hc2] at h
      refine pm_blk (pc' := 12) (L' := [(0, .int a1)]) (S' := [.int 1]) (M' := sm g u) [pm_oi (.iconst 1) 1] (by decide +kernel) rfl ?_
      refine pm_goto (off := 4) 16 (by decide +kernel) (by decide) ?_
      have h9 := Option.some.inj h
      subst h9
      exact pm_retz rfl (by decide +kernel) rfl rfl rfl rfl
def K_Md_shorten_110 (N : Nat) (g : pm_s) (k39 : Int32 → Int32 → Int32 → pm_J → Option (pm_J)) (x1 : Int32) (x2 : Int32) (x3 : Int32) (t0 : Int32) (u : pm_J) : Option (pm_J) := if pm_ok t0 2400 = true then if pm_ok x2 2400 = true then k39 x1 (u.1 83 x2.toNatClampNeg) (x3 + 1) (wi u 89 t0.toNatClampNeg 0) else none else none
set_option maxHeartbeats 4000000 in
set_option maxRecDepth 100000 in
theorem w_Md_shorten_110 (l : Launch) (h0 : Nat) (D : pm_D) {g : pm_s} (hT : sh_T g) {N : Nat} {u0 : pm_J} {out : pm_J} {p : Program} {e : Env} {R : Room} {s : State} {m : MethodId} {args : Array Value} {below : List Frame} {meth : Method} {c : Code} {k39 : Int32 → Int32 → Int32 → pm_J → Option (pm_J)} (hk39 : ∀ (x1 : Int32) (x2 : Int32) (x3 : Int32) (u : pm_J), k39 x1 x2 x3 u = some out → pm_V (p, l, e, R, s, m, args, below, meth, c) m_Md_shorten h0 D (g.1, g.2.1, g.1, g.2.1, 1) (pm_E (p, l, e, R, s, m, args, below, meth, c) h0 D (sm g u0) none (sm g out)) 39 [(0, .ref 64), (1, .int x1), (2, .int x2), (3, .int x3)] [] (sm g u)) : ∀ (x1 : Int32) (x2 : Int32) (x3 : Int32) (t0 : Int32) (u : pm_J), K_Md_shorten_110 N g k39 x1 x2 x3 t0 u = some out → pm_V (p, l, e, R, s, m, args, below, meth, c) m_Md_shorten h0 D (g.1, g.2.1, g.1, g.2.1, 1) (pm_E (p, l, e, R, s, m, args, below, meth, c) h0 D (sm g u0) none (sm g out)) 110 [(0, .ref 64), (1, .int x1), (2, .int x2), (3, .int x3)] [.int t0, .ref 89] (sm g u) := by
    intro x1 x2 x3 t0 u h
    unfold K_Md_shorten_110 at h
    refine pm_blk (pc' := 111) (L' := [(0, .ref 64), (1, .int x1), (2, .int x2), (3, .int x3)]) (S' := [.int 0, .int t0, .ref 89]) (M' := sm g u) [pm_oi (.iconst 0) 0] (by decide +kernel) rfl ?_
    obtain ⟨ho14, h⟩ := pm_ifs h
    refine pm_zast (by decide +kernel) rfl rfl (pm_ok_in ho14) ?_
    refine pm_blk (pc' := 117) (L' := [(0, .ref 64), (1, .int x1), (2, .int x2), (3, .int x3)]) (S' := [.int x2, .ref 83]) (M' := sm g (wi u 89 t0.toNatClampNeg 0)) [pm_o (.aload_n 0), pm_of (.getfield 71) 12 25 2, pm_o (.iload_n 2)] (by decide +kernel) rfl ?_
    obtain ⟨ho15, h⟩ := pm_ifs h
    refine pm_iald (by decide +kernel) rfl (pm_ok_in ho15) ?_
    refine pm_blk (pc' := 122) (L' := [(3, .int (x3 + 1)), (2, .int (u.1 83 x2.toNatClampNeg)), (0, .ref 64), (1, .int x1)]) (S' := []) (M' := sm g (wi u 89 t0.toNatClampNeg 0)) [pm_o (.istore_n 2), pm_oi (.iinc 3 1) 1] (by decide +kernel) rfl ?_
    refine pm_goto (off := -83) 39 (by decide +kernel) (by decide) ?_
    refine pm_loc [2, 3, 1, 0] rfl ?_
    exact hk39 x1 (u.1 83 x2.toNatClampNeg) (x3 + 1) (wi u 89 t0.toNatClampNeg 0) h
def K_Md_shorten_39 (N : Nat) (g : pm_s) (k2 : Int32 → pm_J → Option (pm_J)) : Nat → Int32 → Int32 → Int32 → pm_J → Option (pm_J)
  | 0, _, _, _, _ => none
  | n + 1, x1, x2, x3, u => if pm_ok x1 2400 = true then if pm_ok (u.1 88 x1.toNatClampNeg) 30 = true then if (u.1 92 ((u.1 88 x1.toNatClampNeg).toNatClampNeg)) ≤ x3 then k2 (x1 + 1) u else if pm_ok x1 2400 = true then if pm_ok ((6 * (u.1 88 x1.toNatClampNeg)) + x3) 180 = true then (F_Md_isLetterType (u.1 99 (((6 * (u.1 88 x1.toNatClampNeg)) + x3).toNatClampNeg)) g u).bind fun q12 => if q12 = 0 then K_Md_shorten_110 N g (K_Md_shorten_39 N g k2 n) x1 x2 x3 x2 u else (F_Md_isCall x2 g u).bind fun q16 => if q16 = 0 then K_Md_shorten_110 N g (K_Md_shorten_39 N g k2 n) x1 x2 x3 x2 u else if pm_ok x2 2400 = true then if pm_ok (u.1 88 x2.toNatClampNeg) 30 = true then (F_Md_isLetterType (u.1 93 ((u.1 88 x2.toNatClampNeg).toNatClampNeg)) g u).bind fun q20 => if q20 = 0 then K_Md_shorten_110 N g (K_Md_shorten_39 N g k2 n) x1 x2 x3 x2 u else if pm_ok x2 2400 = true then if pm_ok x2 2400 = true then K_Md_shorten_39 N g k2 n x1 (u.1 83 x2.toNatClampNeg) (x3 + 1) (wi u 89 x2.toNatClampNeg 1) else none else none else none else none else none else none else none else none
set_option maxHeartbeats 4000000 in
set_option maxRecDepth 100000 in
theorem w_Md_shorten_39 (l : Launch) (h0 : Nat) (D : pm_D) {g : pm_s} (hT : sh_T g) {N : Nat} {u0 : pm_J} {out : pm_J} {p : Program} {e : Env} {R : Room} {s : State} {m : MethodId} {args : Array Value} {below : List Frame} {meth : Method} {c : Code} {k2 : Int32 → pm_J → Option (pm_J)} (hk2 : ∀ (x1 : Int32) (u : pm_J), k2 x1 u = some out → pm_V (p, l, e, R, s, m, args, below, meth, c) m_Md_shorten h0 D (g.1, g.2.1, g.1, g.2.1, 1) (pm_E (p, l, e, R, s, m, args, below, meth, c) h0 D (sm g u0) none (sm g out)) 2 [(0, .ref 64), (1, .int x1)] [] (sm g u)) : ∀ (n : Nat) (x1 : Int32) (x2 : Int32) (x3 : Int32) (u : pm_J), K_Md_shorten_39 N g k2 n x1 x2 x3 u = some out → pm_V (p, l, e, R, s, m, args, below, meth, c) m_Md_shorten h0 D (g.1, g.2.1, g.1, g.2.1, 1) (pm_E (p, l, e, R, s, m, args, below, meth, c) h0 D (sm g u0) none (sm g out)) 39 [(0, .ref 64), (1, .int x1), (2, .int x2), (3, .int x3)] [] (sm g u) := by
  intro n
  induction n with
  | zero => intro x1 x2 x3 u h; cases h
  | succ n ih =>
    intro x1 x2 x3 u h
    rw [K_Md_shorten_39] at h
    refine pm_blk (pc' := 49) (L' := [(0, .ref 64), (1, .int x1), (2, .int x2), (3, .int x3)]) (S' := [.int x1, .ref 88, .ref 92, .int x3]) (M' := sm g u) [pm_o (.iload_n 3), pm_o (.aload_n 0), pm_of (.getfield 98) 12 35 2, pm_o (.aload_n 0), pm_of (.getfield 86) 12 30 2, pm_o (.iload_n 1)] (by decide +kernel) rfl ?_
    obtain ⟨ho7, h⟩ := pm_ifs h
    refine pm_iald (by decide +kernel) rfl (pm_ok_in ho7) ?_
    refine pm_blk (pc' := 50) (L' := [(0, .ref 64), (1, .int x1), (2, .int x2), (3, .int x3)]) (S' := [.int (u.1 88 x1.toNatClampNeg), .ref 92, .int x3]) (M' := sm g u) [] (by decide +kernel) rfl ?_
    obtain ⟨ho8, h⟩ := pm_ifs h
    refine pm_iald (by decide +kernel) rfl (pm_ok_in ho8) ?_
    refine pm_blk (pc' := 51) (L' := [(0, .ref 64), (1, .int x1), (2, .int x2), (3, .int x3)]) (S' := [.int (u.1 92 ((u.1 88 x1.toNatClampNeg).toNatClampNeg)), .int x3]) (M' := sm g u) [] (by decide +kernel) rfl ?_
    refine pm_ic_ge (off := 74) 125 (by decide +kernel) (by decide) (fun hc9 => ?_) (fun hc9 => ?_)
    · rw [if_pos hc9] at h
      refine pm_blk (pc' := 128) (L' := [(1, .int (x1 + 1)), (0, .ref 64), (2, .int x2), (3, .int x3)]) (S' := []) (M' := sm g u) [pm_oi (.iinc 1 1) 1] (by decide +kernel) rfl ?_
      refine pm_goto (off := -126) 2 (by decide +kernel) (by decide) ?_
      refine pm_loc [1, 0] rfl ?_
      exact hk2 (x1 + 1) u h
    · rw [if_neg hc9] at h
      refine pm_blk (pc' := 70) (L' := [(0, .ref 64), (1, .int x1), (2, .int x2), (3, .int x3)]) (S' := [.int x1, .ref 88, .int 6, .ref 99, .int x2, .ref 89]) (M' := sm g u) [pm_o (.aload_n 0), pm_of (.getfield 89) 12 31 2, pm_o (.iload_n 2), pm_o (.aload_n 0), pm_of (.getfield 119) 12 42 2, pm_oi (.bipush 6) 6, pm_o (.aload_n 0), pm_of (.getfield 86) 12 30 2, pm_o (.iload_n 1)] (by decide +kernel) rfl ?_
      obtain ⟨ho10, h⟩ := pm_ifs h
      refine pm_iald (by decide +kernel) rfl (pm_ok_in ho10) ?_
      refine pm_blk (pc' := 74) (L' := [(0, .ref 64), (1, .int x1), (2, .int x2), (3, .int x3)]) (S' := [.int ((6 * (u.1 88 x1.toNatClampNeg)) + x3), .ref 99, .int x2, .ref 89]) (M' := sm g u) [pm_o .imul, pm_o (.iload_n 3), pm_o .iadd] (by decide +kernel) rfl ?_
      obtain ⟨ho11, h⟩ := pm_ifs h
      refine pm_iald (by decide +kernel) rfl (pm_ok_in ho11) ?_
      refine pm_blk (pc' := 75) (L' := [(0, .ref 64), (1, .int x1), (2, .int x2), (3, .int x3)]) (S' := [.int (u.1 99 (((6 * (u.1 88 x1.toNatClampNeg)) + x3).toNatClampNeg)), .int x2, .ref 89]) (M' := sm g u) [] (by decide +kernel) rfl ?_
      obtain ⟨q12, hq12, h⟩ := pm_bd h
      refine pm_cS (idx := 490) m_Md_isLetterType (c_Md_isLetterType l h0 D hT hq12) (As := [.int (u.1 99 (((6 * (u.1 88 x1.toNatClampNeg)) + x3).toNatClampNeg))]) (S0 := [.int x2, .ref 89]) rfl (by decide +kernel) k_Md_isLetterType l_Md_490 (Nat.le_of_ble_eq_true rfl) (Nat.le_of_ble_eq_true rfl) (Nat.le_refl _) (Nat.le_refl _) ?_
      refine pm_blk (pc' := 78) (L' := [(0, .ref 64), (1, .int x1), (2, .int x2), (3, .int x3)]) (S' := [.int q12, .int x2, .ref 89]) (M' := sm g u) [] (by decide +kernel) rfl ?_
      refine pm_if_eq (off := 32) 110 (by decide +kernel) (by decide) (fun hc13 => ?_) (fun hc13 => ?_)
      · rw [if_pos hc13] at h
        refine pm_loc [0, 1, 2, 3] rfl ?_
        exact w_Md_shorten_110 l h0 D hT ih x1 x2 x3 x2 u h
      · rw [if_neg hc13] at h
        refine pm_blk (pc' := 83) (L' := [(0, .ref 64), (1, .int x1), (2, .int x2), (3, .int x3)]) (S' := [.int x2, .ref 64, .int x2, .ref 89]) (M' := sm g u) [pm_o (.aload_n 0), pm_o (.iload_n 2)] (by decide +kernel) rfl ?_
        obtain ⟨q16, hq16, h⟩ := pm_bd h
        refine pm_cV (idx := 493) m_Md_isCall (c_Md_isCall l h0 D hT hq16) (As := [.int x2]) (S0 := [.int x2, .ref 89]) rfl (by decide +kernel) k_Md_isCall l_Md_493 (Nat.le_of_ble_eq_true rfl) (Nat.le_of_ble_eq_true rfl) (Nat.le_refl _) (Nat.le_refl _) ?_
        refine pm_blk (pc' := 86) (L' := [(0, .ref 64), (1, .int x1), (2, .int x2), (3, .int x3)]) (S' := [.int q16, .int x2, .ref 89]) (M' := sm g u) [] (by decide +kernel) rfl ?_
        refine pm_if_eq (off := 24) 110 (by decide +kernel) (by decide) (fun hc17 => ?_) (fun hc17 => ?_)
        · rw [if_pos hc17] at h
          refine pm_loc [0, 1, 2, 3] rfl ?_
          exact w_Md_shorten_110 l h0 D hT ih x1 x2 x3 x2 u h
        · rw [if_neg hc17] at h
          refine pm_blk (pc' := 98) (L' := [(0, .ref 64), (1, .int x1), (2, .int x2), (3, .int x3)]) (S' := [.int x2, .ref 88, .ref 93, .int x2, .ref 89]) (M' := sm g u) [pm_o (.aload_n 0), pm_of (.getfield 101) 12 36 2, pm_o (.aload_n 0), pm_of (.getfield 86) 12 30 2, pm_o (.iload_n 2)] (by decide +kernel) rfl ?_
          obtain ⟨ho18, h⟩ := pm_ifs h
          refine pm_iald (by decide +kernel) rfl (pm_ok_in ho18) ?_
          refine pm_blk (pc' := 99) (L' := [(0, .ref 64), (1, .int x1), (2, .int x2), (3, .int x3)]) (S' := [.int (u.1 88 x2.toNatClampNeg), .ref 93, .int x2, .ref 89]) (M' := sm g u) [] (by decide +kernel) rfl ?_
          obtain ⟨ho19, h⟩ := pm_ifs h
          refine pm_iald (by decide +kernel) rfl (pm_ok_in ho19) ?_
          refine pm_blk (pc' := 100) (L' := [(0, .ref 64), (1, .int x1), (2, .int x2), (3, .int x3)]) (S' := [.int (u.1 93 ((u.1 88 x2.toNatClampNeg).toNatClampNeg)), .int x2, .ref 89]) (M' := sm g u) [] (by decide +kernel) rfl ?_
          obtain ⟨q20, hq20, h⟩ := pm_bd h
          refine pm_cS (idx := 490) m_Md_isLetterType (c_Md_isLetterType l h0 D hT hq20) (As := [.int (u.1 93 ((u.1 88 x2.toNatClampNeg).toNatClampNeg))]) (S0 := [.int x2, .ref 89]) rfl (by decide +kernel) k_Md_isLetterType l_Md_490 (Nat.le_of_ble_eq_true rfl) (Nat.le_of_ble_eq_true rfl) (Nat.le_refl _) (Nat.le_refl _) ?_
          refine pm_blk (pc' := 103) (L' := [(0, .ref 64), (1, .int x1), (2, .int x2), (3, .int x3)]) (S' := [.int q20, .int x2, .ref 89]) (M' := sm g u) [] (by decide +kernel) rfl ?_
          refine pm_if_eq (off := 7) 110 (by decide +kernel) (by decide) (fun hc21 => ?_) (fun hc21 => ?_)
          · rw [if_pos hc21] at h
            refine pm_loc [0, 1, 2, 3] rfl ?_
            exact w_Md_shorten_110 l h0 D hT ih x1 x2 x3 x2 u h
          · rw [if_neg hc21] at h
            refine pm_blk (pc' := 107) (L' := [(0, .ref 64), (1, .int x1), (2, .int x2), (3, .int x3)]) (S' := [.int 1, .int x2, .ref 89]) (M' := sm g u) [pm_oi (.iconst 1) 1] (by decide +kernel) rfl ?_
            refine pm_goto (off := 4) 111 (by decide +kernel) (by decide) ?_
            obtain ⟨ho22, h⟩ := pm_ifs h
            refine pm_zast (by decide +kernel) rfl rfl (pm_ok_in ho22) ?_
            refine pm_blk (pc' := 117) (L' := [(0, .ref 64), (1, .int x1), (2, .int x2), (3, .int x3)]) (S' := [.int x2, .ref 83]) (M' := sm g (wi u 89 x2.toNatClampNeg 1)) [pm_o (.aload_n 0), pm_of (.getfield 71) 12 25 2, pm_o (.iload_n 2)] (by decide +kernel) rfl ?_
            obtain ⟨ho23, h⟩ := pm_ifs h
            refine pm_iald (by decide +kernel) rfl (pm_ok_in ho23) ?_
            refine pm_blk (pc' := 122) (L' := [(3, .int (x3 + 1)), (2, .int (u.1 83 x2.toNatClampNeg)), (0, .ref 64), (1, .int x1)]) (S' := []) (M' := sm g (wi u 89 x2.toNatClampNeg 1)) [pm_o (.istore_n 2), pm_oi (.iinc 3 1) 1] (by decide +kernel) rfl ?_
            refine pm_goto (off := -83) 39 (by decide +kernel) (by decide) ?_
            refine pm_loc [2, 3, 1, 0] rfl ?_
            exact ih x1 (u.1 83 x2.toNatClampNeg) (x3 + 1) (wi u 89 x2.toNatClampNeg 1) h
def K_Md_shorten_2 (N : Nat) (g : pm_s) : Nat → Int32 → pm_J → Option (pm_J)
  | 0, _, _ => none
  | n + 1, x1, u => if (u.1 64 33) ≤ x1 then some u else if pm_ok x1 2400 = true then if (u.1 77 x1.toNatClampNeg) = 30 then if pm_ok x1 2400 = true then if (u.1 88 x1.toNatClampNeg) < 0 then K_Md_shorten_2 N g  n (x1 + 1) u else if pm_ok x1 2400 = true then K_Md_shorten_39 N g (K_Md_shorten_2 N g  n) N x1 (u.1 80 x1.toNatClampNeg) 0 u else none else none else K_Md_shorten_2 N g  n (x1 + 1) u else none
set_option maxHeartbeats 4000000 in
set_option maxRecDepth 100000 in
theorem w_Md_shorten_2 (l : Launch) (h0 : Nat) (D : pm_D) {g : pm_s} (hT : sh_T g) {N : Nat} {u0 : pm_J} {out : pm_J} {p : Program} {e : Env} {R : Room} {s : State} {m : MethodId} {args : Array Value} {below : List Frame} {meth : Method} {c : Code} : ∀ (n : Nat) (x1 : Int32) (u : pm_J), K_Md_shorten_2 N g n x1 u = some out → pm_V (p, l, e, R, s, m, args, below, meth, c) m_Md_shorten h0 D (g.1, g.2.1, g.1, g.2.1, 1) (pm_E (p, l, e, R, s, m, args, below, meth, c) h0 D (sm g u0) none (sm g out)) 2 [(0, .ref 64), (1, .int x1)] [] (sm g u) := by
  intro n
  induction n with
  | zero => intro x1 u h; cases h
  | succ n ih =>
    intro x1 u h
    rw [K_Md_shorten_2] at h
    refine pm_blk (pc' := 7) (L' := [(0, .ref 64), (1, .int x1)]) (S' := [.int (u.1 64 33), .int x1]) (M' := sm g u) [pm_o (.iload_n 1), pm_o (.aload_n 0), pm_of (.getfield 377) 12 33 0] (by decide +kernel) rfl ?_
    refine pm_ic_ge (off := 124) 131 (by decide +kernel) (by decide) (fun hc1 => ?_) (fun hc1 => ?_)
    · rw [if_pos hc1] at h
      have h9 := Option.some.inj h
      subst h9
      exact pm_retv rfl (by decide +kernel) rfl rfl
    · rw [if_neg hc1] at h
      refine pm_blk (pc' := 15) (L' := [(0, .ref 64), (1, .int x1)]) (S' := [.int x1, .ref 77]) (M' := sm g u) [pm_o (.aload_n 0), pm_of (.getfield 53) 12 19 2, pm_o (.iload_n 1)] (by decide +kernel) rfl ?_
      obtain ⟨ho2, h⟩ := pm_ifs h
      refine pm_iald (by decide +kernel) rfl (pm_ok_in ho2) ?_
      refine pm_blk (pc' := 18) (L' := [(0, .ref 64), (1, .int x1)]) (S' := [.int 30, .int (u.1 77 x1.toNatClampNeg)]) (M' := sm g u) [pm_oi (.bipush 30) 30] (by decide +kernel) rfl ?_
      refine pm_ic_ne (off := 107) 125 (by decide +kernel) (by decide) (fun hc3 => ?_) (fun hc3 => ?_)
      · rw [if_neg hc3] at h
        refine pm_blk (pc' := 128) (L' := [(1, .int (x1 + 1)), (0, .ref 64)]) (S' := []) (M' := sm g u) [pm_oi (.iinc 1 1) 1] (by decide +kernel) rfl ?_
        refine pm_goto (off := -126) 2 (by decide +kernel) (by decide) ?_
        refine pm_loc [1, 0] rfl ?_
        exact ih (x1 + 1) u h
      · rw [if_pos hc3] at h
        refine pm_blk (pc' := 26) (L' := [(0, .ref 64), (1, .int x1)]) (S' := [.int x1, .ref 88]) (M' := sm g u) [pm_o (.aload_n 0), pm_of (.getfield 86) 12 30 2, pm_o (.iload_n 1)] (by decide +kernel) rfl ?_
        obtain ⟨ho4, h⟩ := pm_ifs h
        refine pm_iald (by decide +kernel) rfl (pm_ok_in ho4) ?_
        refine pm_blk (pc' := 27) (L' := [(0, .ref 64), (1, .int x1)]) (S' := [.int (u.1 88 x1.toNatClampNeg)]) (M' := sm g u) [] (by decide +kernel) rfl ?_
        refine pm_if_lt (off := 98) 125 (by decide +kernel) (by decide) (fun hc5 => ?_) (fun hc5 => ?_)
        · rw [if_pos hc5] at h
          refine pm_blk (pc' := 128) (L' := [(1, .int (x1 + 1)), (0, .ref 64)]) (S' := []) (M' := sm g u) [pm_oi (.iinc 1 1) 1] (by decide +kernel) rfl ?_
          refine pm_goto (off := -126) 2 (by decide +kernel) (by decide) ?_
          refine pm_loc [1, 0] rfl ?_
          exact ih (x1 + 1) u h
        · rw [if_neg hc5] at h
          refine pm_blk (pc' := 35) (L' := [(0, .ref 64), (1, .int x1)]) (S' := [.int x1, .ref 80]) (M' := sm g u) [pm_o (.aload_n 0), pm_of (.getfield 62) 12 22 2, pm_o (.iload_n 1)] (by decide +kernel) rfl ?_
          obtain ⟨ho6, h⟩ := pm_ifs h
          refine pm_iald (by decide +kernel) rfl (pm_ok_in ho6) ?_
          refine pm_blk (pc' := 39) (L' := [(3, .int 0), (2, .int (u.1 80 x1.toNatClampNeg)), (0, .ref 64), (1, .int x1)]) (S' := []) (M' := sm g u) [pm_o (.istore_n 2), pm_oi (.iconst 0) 0, pm_o (.istore_n 3)] (by decide +kernel) rfl ?_
          refine pm_loc [2, 3, 1, 0] rfl ?_
          exact w_Md_shorten_39 l h0 D hT ih N x1 (u.1 80 x1.toNatClampNeg) 0 u h
def F_Md_shorten (N : Nat) (g : pm_s) (u : pm_J) : Option (pm_J) := K_Md_shorten_2 N g N 0 u
set_option maxHeartbeats 4000000 in
set_option maxRecDepth 100000 in
theorem c_Md_shorten (l : Launch) (h0 : Nat) (D : pm_D) {g : pm_s} {u : pm_J} (hT : sh_T g) {N : Nat} {out : pm_J} (h : F_Md_shorten N g u = some out) : pm_C l h0 D m_Md_shorten (1) [.ref 64] (sm g u) none (sm g out) := by
  unfold F_Md_shorten at h
  refine pm_met (by decide +kernel) (Nat.le_of_ble_eq_true rfl) (Nat.le_refl _) (Nat.le_refl _) ?_
  intro p e R s m args below meth c
  refine pm_blk (pc' := 2) (L' := [(1, .int 0), (0, .ref 64)]) (S' := []) (M' := sm g u) [pm_oi (.iconst 0) 0, pm_o (.istore_n 1)] (by decide +kernel) rfl ?_
  refine pm_loc [1, 0] rfl ?_
  exact w_Md_shorten_2 l h0 D hT N 0 u h
def K_Md_compile_54 (N : Nat) (g : pm_s) (t0 : Int32) (u : pm_J) : Option (Int32 × pm_J) := if (t0 == 0 || t0 == 1) = true then if t0 = 0 then some (-(u.1 64 4), (wi (wi u 64 3 t0) 64 44 0)) else (F_Md_shorten N g (wi u 64 3 t0)).bind fun q5 => some (q5.1 64 44, q5) else none
set_option maxHeartbeats 4000000 in
set_option maxRecDepth 100000 in
theorem w_Md_compile_54 (l : Launch) (h0 : Nat) (D : pm_D) {g : pm_s} (hT : sh_T g) {N : Nat} {u0 : pm_J} {out : Int32 × pm_J} {p : Program} {e : Env} {R : Room} {s : State} {m : MethodId} {args : Array Value} {below : List Frame} {meth : Method} {c : Code} : ∀ (t0 : Int32) (u : pm_J), K_Md_compile_54 N g t0 u = some out → pm_V (p, l, e, R, s, m, args, below, meth, c) m_Md_compile h0 D (g.1, g.2.1, g.1, g.2.1, 10) (pm_E (p, l, e, R, s, m, args, below, meth, c) h0 D (sm g u0) (some (.int out.1)) (sm g out.2)) 54 [(0, .ref 64)] [.int t0, .ref 64] (sm g u) := by
    intro t0 u h
    unfold K_Md_compile_54 at h
    obtain ⟨hz3, h⟩ := pm_ifs h
    refine pm_puti (idx := 249) (v1 := 0) (v2 := 0) (ci := 12) (k := 3) (t := 3) (by decide +kernel) (by decide +kernel) rfl (Or.inr ⟨rfl, hz3⟩) ?_
    refine pm_blk (pc' := 61) (L' := [(0, .ref 64)]) (S' := [.int t0]) (M' := sm g (wi u 64 3 t0)) [pm_o (.aload_n 0), pm_of (.getfield 249) 12 3 3] (by decide +kernel) rfl ?_
    refine pm_if_ne (off := 14) 75 (by decide +kernel) (by decide) (fun hc4 => ?_) (fun hc4 => ?_)
    · rw [if_neg hc4] at h
      refine pm_blk (pc' := 76) (L' := [(0, .ref 64)]) (S' := [.ref 64]) (M' := sm g (wi u 64 3 t0)) [pm_o (.aload_n 0)] (by decide +kernel) rfl ?_
      obtain ⟨q5, hq5, h⟩ := pm_bd h
      refine pm_cV (idx := 509) m_Md_shorten (c_Md_shorten l h0 D hT hq5) (As := []) (S0 := []) rfl (by decide +kernel) k_Md_shorten l_Md_509 (Nat.le_of_ble_eq_true rfl) (Nat.le_of_ble_eq_true rfl) (Nat.le_refl _) (Nat.le_refl _) ?_
      refine pm_blk (pc' := 83) (L' := [(0, .ref 64)]) (S' := [.int (q5.1 64 44)]) (M' := sm g q5) [pm_o (.aload_n 0), pm_of (.getfield 256) 12 44 0] (by decide +kernel) rfl ?_
      have h9 := Option.some.inj h
      subst h9
      exact pm_reti rfl (by decide +kernel) rfl rfl rfl
    · rw [if_pos hc4] at h
      refine pm_blk (pc' := 74) (L' := [(0, .ref 64)]) (S' := [.int (-(u.1 64 4))]) (M' := sm g (wi (wi u 64 3 t0) 64 44 0)) [pm_o (.aload_n 0), pm_oi (.iconst 0) 0, pm_of (.putfield 256) 12 44 0, pm_o (.aload_n 0), pm_of (.getfield 253) 12 4 0, pm_o .ineg] (by decide +kernel) rfl ?_
      have h9 := Option.some.inj h
      subst h9
      exact pm_reti rfl (by decide +kernel) rfl rfl rfl
def F_Md_compile (N : Nat) (g : pm_s) (u : pm_J) : Option (Int32 × pm_J) := (F_Md_scan N g (wi (wi (wi (wi u 64 2 0) 64 4 0) 64 5 (-1)) 64 44 0)).bind fun q1 => if q1.1 = 0 then K_Md_compile_54 N g 0 q1.2 else (F_Md_readAll N g q1.2).bind fun q6 => if q6.1 = 0 then K_Md_compile_54 N g 0 q6.2 else (F_Md_names N g q6.2).bind fun q8 => if q8.1 = 0 then K_Md_compile_54 N g 0 q8.2 else (F_Md_typeAll N g q8.2).bind fun q10 => if q10.1 = 0 then K_Md_compile_54 N g 0 q10.2 else K_Md_compile_54 N g 1 q10.2
set_option maxHeartbeats 4000000 in
set_option maxRecDepth 100000 in
theorem c_Md_compile (l : Launch) (h0 : Nat) (D : pm_D) {g : pm_s} {u : pm_J} (hT : sh_T g) {N : Nat} {out : Int32 × pm_J} (h : F_Md_compile N g u = some out) : pm_C l h0 D m_Md_compile (10) [.ref 64] (sm g u) (some (.int out.1)) (sm g out.2) := by
  unfold F_Md_compile at h
  refine pm_met (by decide +kernel) (Nat.le_of_ble_eq_true rfl) (Nat.le_refl _) (Nat.le_refl _) ?_
  intro p e R s m args below meth c
  refine pm_blk (pc' := 22) (L' := [(0, .ref 64)]) (S' := [.ref 64, .ref 64]) (M' := sm g (wi (wi (wi (wi u 64 2 0) 64 4 0) 64 5 (-1)) 64 44 0)) [pm_o (.aload_n 0), pm_oi (.iconst 0) 0, pm_of (.putfield 246) 12 2 0, pm_o (.aload_n 0), pm_oi (.iconst 0) 0, pm_of (.putfield 253) 12 4 0, pm_o (.aload_n 0), pm_oi (.iconst (-1)) (-1), pm_of (.putfield 13) 12 5 0, pm_o (.aload_n 0), pm_oi (.iconst 0) 0, pm_of (.putfield 256) 12 44 0, pm_o (.aload_n 0), pm_o (.aload_n 0)] (by decide +kernel) rfl ?_
  obtain ⟨q1, hq1, h⟩ := pm_bd h
  refine pm_cV (idx := 496) m_Md_scan (c_Md_scan l h0 D hT hq1) (As := []) (S0 := [.ref 64]) rfl (by decide +kernel) k_Md_scan l_Md_496 (Nat.le_of_ble_eq_true rfl) (Nat.le_of_ble_eq_true rfl) (Nat.le_refl _) (Nat.le_refl _) ?_
  refine pm_blk (pc' := 25) (L' := [(0, .ref 64)]) (S' := [.int q1.1, .ref 64]) (M' := sm g q1.2) [] (by decide +kernel) rfl ?_
  refine pm_if_eq (off := 28) 53 (by decide +kernel) (by decide) (fun hc2 => ?_) (fun hc2 => ?_)
  · rw [if_pos hc2] at h
    refine pm_blk (pc' := 54) (L' := [(0, .ref 64)]) (S' := [.int 0, .ref 64]) (M' := sm g q1.2) [pm_oi (.iconst 0) 0] (by decide +kernel) rfl ?_
    refine pm_loc [0] rfl ?_
    exact w_Md_compile_54 l h0 D hT 0 q1.2 h
  · rw [if_neg hc2] at h
    refine pm_blk (pc' := 29) (L' := [(0, .ref 64)]) (S' := [.ref 64, .ref 64]) (M' := sm g q1.2) [pm_o (.aload_n 0)] (by decide +kernel) rfl ?_
    obtain ⟨q6, hq6, h⟩ := pm_bd h
    refine pm_cV (idx := 500) m_Md_readAll (c_Md_readAll l h0 D hT hq6) (As := []) (S0 := [.ref 64]) rfl (by decide +kernel) k_Md_readAll l_Md_500 (Nat.le_of_ble_eq_true rfl) (Nat.le_of_ble_eq_true rfl) (Nat.le_refl _) (Nat.le_refl _) ?_
    refine pm_blk (pc' := 32) (L' := [(0, .ref 64)]) (S' := [.int q6.1, .ref 64]) (M' := sm g q6.2) [] (by decide +kernel) rfl ?_
    refine pm_if_eq (off := 21) 53 (by decide +kernel) (by decide) (fun hc7 => ?_) (fun hc7 => ?_)
    · rw [if_pos hc7] at h
      refine pm_blk (pc' := 54) (L' := [(0, .ref 64)]) (S' := [.int 0, .ref 64]) (M' := sm g q6.2) [pm_oi (.iconst 0) 0] (by decide +kernel) rfl ?_
      refine pm_loc [0] rfl ?_
      exact w_Md_compile_54 l h0 D hT 0 q6.2 h
    · rw [if_neg hc7] at h
      refine pm_blk (pc' := 36) (L' := [(0, .ref 64)]) (S' := [.ref 64, .ref 64]) (M' := sm g q6.2) [pm_o (.aload_n 0)] (by decide +kernel) rfl ?_
      obtain ⟨q8, hq8, h⟩ := pm_bd h
      refine pm_cV (idx := 503) m_Md_names (c_Md_names l h0 D hT hq8) (As := []) (S0 := [.ref 64]) rfl (by decide +kernel) k_Md_names l_Md_503 (Nat.le_of_ble_eq_true rfl) (Nat.le_of_ble_eq_true rfl) (Nat.le_refl _) (Nat.le_refl _) ?_
      refine pm_blk (pc' := 39) (L' := [(0, .ref 64)]) (S' := [.int q8.1, .ref 64]) (M' := sm g q8.2) [] (by decide +kernel) rfl ?_
      refine pm_if_eq (off := 14) 53 (by decide +kernel) (by decide) (fun hc9 => ?_) (fun hc9 => ?_)
      · rw [if_pos hc9] at h
        refine pm_blk (pc' := 54) (L' := [(0, .ref 64)]) (S' := [.int 0, .ref 64]) (M' := sm g q8.2) [pm_oi (.iconst 0) 0] (by decide +kernel) rfl ?_
        refine pm_loc [0] rfl ?_
        exact w_Md_compile_54 l h0 D hT 0 q8.2 h
      · rw [if_neg hc9] at h
        refine pm_blk (pc' := 43) (L' := [(0, .ref 64)]) (S' := [.ref 64, .ref 64]) (M' := sm g q8.2) [pm_o (.aload_n 0)] (by decide +kernel) rfl ?_
        obtain ⟨q10, hq10, h⟩ := pm_bd h
        refine pm_cV (idx := 506) m_Md_typeAll (c_Md_typeAll l h0 D hT hq10) (As := []) (S0 := [.ref 64]) rfl (by decide +kernel) k_Md_typeAll l_Md_506 (Nat.le_of_ble_eq_true rfl) (Nat.le_of_ble_eq_true rfl) (Nat.le_refl _) (Nat.le_refl _) ?_
        refine pm_blk (pc' := 46) (L' := [(0, .ref 64)]) (S' := [.int q10.1, .ref 64]) (M' := sm g q10.2) [] (by decide +kernel) rfl ?_
        refine pm_if_eq (off := 7) 53 (by decide +kernel) (by decide) (fun hc11 => ?_) (fun hc11 => ?_)
        · rw [if_pos hc11] at h
          refine pm_blk (pc' := 54) (L' := [(0, .ref 64)]) (S' := [.int 0, .ref 64]) (M' := sm g q10.2) [pm_oi (.iconst 0) 0] (by decide +kernel) rfl ?_
          refine pm_loc [0] rfl ?_
          exact w_Md_compile_54 l h0 D hT 0 q10.2 h
        · rw [if_neg hc11] at h
          refine pm_blk (pc' := 50) (L' := [(0, .ref 64)]) (S' := [.int 1, .ref 64]) (M' := sm g q10.2) [pm_oi (.iconst 1) 1] (by decide +kernel) rfl ?_
          refine pm_goto (off := 4) 54 (by decide +kernel) (by decide) ?_
          refine pm_loc [0] rfl ?_
          exact w_Md_compile_54 l h0 D hT 1 q10.2 h
def F_Md_place (g : pm_s) (u : pm_J) : Option (Int32 × pm_J) := some (u.1 64 5, (wi u 64 2 0))
set_option maxHeartbeats 4000000 in
set_option maxRecDepth 100000 in
theorem c_Md_place (l : Launch) (h0 : Nat) (D : pm_D) {g : pm_s} {u : pm_J} (hT : sh_T g) {out : Int32 × pm_J} (h : F_Md_place g u = some out) : pm_C l h0 D m_Md_place (0) [.ref 64] (sm g u) (some (.int out.1)) (sm g out.2) := by
  unfold F_Md_place at h
  refine pm_met (by decide +kernel) (Nat.le_of_ble_eq_true rfl) (Nat.le_refl _) (Nat.le_refl _) ?_
  intro p e R s m args below meth c
  refine pm_blk (pc' := 9) (L' := [(0, .ref 64)]) (S' := [.int (u.1 64 5)]) (M' := sm g (wi u 64 2 0)) [pm_o (.aload_n 0), pm_oi (.iconst 0) 0, pm_of (.putfield 246) 12 2 0, pm_o (.aload_n 0), pm_of (.getfield 13) 12 5 0] (by decide +kernel) rfl ?_
  have h9 := Option.some.inj h
  subst h9
  exact pm_reti rfl (by decide +kernel) rfl rfl rfl
def F_Md_defs (g : pm_s) (u : pm_J) : Option (Int32 × pm_J) := some (u.1 64 44, (wi u 64 2 0))
set_option maxHeartbeats 4000000 in
set_option maxRecDepth 100000 in
theorem c_Md_defs (l : Launch) (h0 : Nat) (D : pm_D) {g : pm_s} {u : pm_J} (hT : sh_T g) {out : Int32 × pm_J} (h : F_Md_defs g u = some out) : pm_C l h0 D m_Md_defs (0) [.ref 64] (sm g u) (some (.int out.1)) (sm g out.2) := by
  unfold F_Md_defs at h
  refine pm_met (by decide +kernel) (Nat.le_of_ble_eq_true rfl) (Nat.le_refl _) (Nat.le_refl _) ?_
  intro p e R s m args below meth c
  refine pm_blk (pc' := 9) (L' := [(0, .ref 64)]) (S' := [.int (u.1 64 44)]) (M' := sm g (wi u 64 2 0)) [pm_o (.aload_n 0), pm_oi (.iconst 0) 0, pm_of (.putfield 246) 12 2 0, pm_o (.aload_n 0), pm_of (.getfield 256) 12 44 0] (by decide +kernel) rfl ?_
  have h9 := Option.some.inj h
  subst h9
  exact pm_reti rfl (by decide +kernel) rfl rfl rfl
def F_Md_noDef (a1 : Int32) (g : pm_s) (u : pm_J) : Option (Int32) := if a1 < 0 then some 1 else if a1 < (u.1 64 44) then some 0 else some 1
set_option maxHeartbeats 4000000 in
set_option maxRecDepth 100000 in
theorem c_Md_noDef (l : Launch) (h0 : Nat) (D : pm_D) {g : pm_s} {u : pm_J} (hT : sh_T g) {a1 : Int32} {out : Int32} (h : F_Md_noDef a1 g u = some out) : pm_C l h0 D m_Md_noDef (0) [.ref 64, .int a1] (sm g u) (some (.int out)) (sm g u) := by
  unfold F_Md_noDef at h
  refine pm_met (by decide +kernel) (Nat.le_of_ble_eq_true rfl) (Nat.le_refl _) (Nat.le_refl _) ?_
  intro p e R s m args below meth c
  refine pm_blk (pc' := 1) (L' := [(0, .ref 64), (1, .int a1)]) (S' := [.int a1]) (M' := sm g u) [pm_o (.iload_n 1)] (by decide +kernel) rfl ?_
  refine pm_if_lt (off := 11) 12 (by decide +kernel) (by decide) (fun hc1 => ?_) (fun hc1 => ?_)
  · rw [if_pos hc1] at h
    refine pm_blk (pc' := 13) (L' := [(0, .ref 64), (1, .int a1)]) (S' := [.int 1]) (M' := sm g u) [pm_oi (.iconst 1) 1] (by decide +kernel) rfl ?_
    refine pm_goto (off := 4) 17 (by decide +kernel) (by decide) ?_
    have h9 := Option.some.inj h
    subst h9
    exact pm_retz rfl (by decide +kernel) rfl rfl rfl rfl
  · rw [if_neg hc1] at h
    refine pm_blk (pc' := 9) (L' := [(0, .ref 64), (1, .int a1)]) (S' := [.int (u.1 64 44), .int a1]) (M' := sm g u) [pm_o (.iload_n 1), pm_o (.aload_n 0), pm_of (.getfield 256) 12 44 0] (by decide +kernel) rfl ?_
    refine pm_ic_lt (off := 7) 16 (by decide +kernel) (by decide) (fun hc2 => ?_) (fun hc2 => ?_)
    · rw [if_pos hc2] at h
      refine pm_blk (pc' := 17) (L' := [(0, .ref 64), (1, .int a1)]) (S' := [.int 0]) (M' := sm g u) [pm_oi (.iconst 0) 0] (by decide +kernel) rfl ?_
      have h9 := Option.some.inj h
      subst h9
      exact pm_retz rfl (by decide +kernel) rfl rfl rfl rfl
    · rw [if_neg hc2] at h
      refine pm_blk (pc' := 13) (L' := [(0, .ref 64), (1, .int a1)]) (S' := [.int 1]) (M' := sm g u) [pm_oi (.iconst 1) 1] (by decide +kernel) rfl ?_
      refine pm_goto (off := 4) 17 (by decide +kernel) (by decide) ?_
      have h9 := Option.some.inj h
      subst h9
      exact pm_retz rfl (by decide +kernel) rfl rfl rfl rfl
def F_Md_bits (a1 : Int32) (g : pm_s) (u : pm_J) : Option (Int32) := some ((((a1 &&& 1) + ((a1 >>> ((1 : Int32) &&& 31)) &&& 1)) + ((a1 >>> ((2 : Int32) &&& 31)) &&& 1)) + ((a1 >>> ((3 : Int32) &&& 31)) &&& 1))
set_option maxHeartbeats 4000000 in
set_option maxRecDepth 100000 in
theorem c_Md_bits (l : Launch) (h0 : Nat) (D : pm_D) {g : pm_s} {u : pm_J} (hT : sh_T g) {a1 : Int32} {out : Int32} (h : F_Md_bits a1 g u = some out) : pm_C l h0 D m_Md_bits (0) [.int a1] (sm g u) (some (.int out)) (sm g u) := by
  unfold F_Md_bits at h
  refine pm_met (by decide +kernel) (Nat.le_of_ble_eq_true rfl) (Nat.le_refl _) (Nat.le_refl _) ?_
  intro p e R s m args below meth c
  refine pm_blk (pc' := 21) (L' := [(0, .int a1)]) (S' := [.int ((((a1 &&& 1) + ((a1 >>> ((1 : Int32) &&& 31)) &&& 1)) + ((a1 >>> ((2 : Int32) &&& 31)) &&& 1)) + ((a1 >>> ((3 : Int32) &&& 31)) &&& 1))]) (M' := sm g u) [pm_o (.iload_n 0), pm_oi (.iconst 1) 1, pm_o .iand, pm_o (.iload_n 0), pm_oi (.iconst 1) 1, pm_o .ishr, pm_oi (.iconst 1) 1, pm_o .iand, pm_o .iadd, pm_o (.iload_n 0), pm_oi (.iconst 2) 2, pm_o .ishr, pm_oi (.iconst 1) 1, pm_o .iand, pm_o .iadd, pm_o (.iload_n 0), pm_oi (.iconst 3) 3, pm_o .ishr, pm_oi (.iconst 1) 1, pm_o .iand, pm_o .iadd] (by decide +kernel) rfl ?_
  have h9 := Option.some.inj h
  subst h9
  exact pm_reti rfl (by decide +kernel) rfl rfl rfl
def K_Md_def_348 (N : Nat) (g : pm_s) (k278 : Int32 → Int32 → Int32 → Int32 → Int32 → Int32 → Int32 → Int32 → Int32 → Int32 → Int32 → pm_J → Option (Int32 × pm_J)) (x1 : Int32) (x2 : Int32) (x3 : Int32) (x4 : Int32) (x6 : Int32) (x7 : Int32) (x8 : Int32) (x10 : Int32) (x11 : Int32) (x12 : Int32) (t0 : Int32) (t1 : Int32) (u : pm_J) : Option (Int32 × pm_J) := if pm_ok x11 2400 = true then k278 x1 x2 x3 x4 (t1 + t0) x6 x7 x8 x10 (u.1 83 x11.toNatClampNeg) (x12 + 1) u else none
set_option maxHeartbeats 4000000 in
set_option maxRecDepth 100000 in
theorem w_Md_def_348 (l : Launch) (h0 : Nat) (D : pm_D) {g : pm_s} (hT : sh_T g) {N : Nat} {u0 : pm_J} {out : Int32 × pm_J} {p : Program} {e : Env} {R : Room} {s : State} {m : MethodId} {args : Array Value} {below : List Frame} {meth : Method} {c : Code} {k278 : Int32 → Int32 → Int32 → Int32 → Int32 → Int32 → Int32 → Int32 → Int32 → Int32 → Int32 → pm_J → Option (Int32 × pm_J)} (hk278 : ∀ (x1 : Int32) (x2 : Int32) (x3 : Int32) (x4 : Int32) (x5 : Int32) (x6 : Int32) (x7 : Int32) (x8 : Int32) (x10 : Int32) (x11 : Int32) (x12 : Int32) (u : pm_J), k278 x1 x2 x3 x4 x5 x6 x7 x8 x10 x11 x12 u = some out → pm_V (p, l, e, R, s, m, args, below, meth, c) m_Md_def h0 D (g.1, g.2.1, g.1, g.2.1, 1) (pm_E (p, l, e, R, s, m, args, below, meth, c) h0 D (sm g u0) (some (.int out.1)) (sm g out.2)) 278 [(0, .ref 64), (1, .int x1), (2, .int x2), (3, .int x3), (4, .int x4), (5, .int x5), (6, .int x6), (7, .int x7), (8, .int x8), (10, .int x10), (11, .int x11), (12, .int x12)] [] (sm g u)) : ∀ (x1 : Int32) (x2 : Int32) (x3 : Int32) (x4 : Int32) (x6 : Int32) (x7 : Int32) (x8 : Int32) (x10 : Int32) (x11 : Int32) (x12 : Int32) (t0 : Int32) (t1 : Int32) (u : pm_J), K_Md_def_348 N g k278 x1 x2 x3 x4 x6 x7 x8 x10 x11 x12 t0 t1 u = some out → pm_V (p, l, e, R, s, m, args, below, meth, c) m_Md_def h0 D (g.1, g.2.1, g.1, g.2.1, 1) (pm_E (p, l, e, R, s, m, args, below, meth, c) h0 D (sm g u0) (some (.int out.1)) (sm g out.2)) 348 [(0, .ref 64), (1, .int x1), (2, .int x2), (3, .int x3), (4, .int x4), (6, .int x6), (7, .int x7), (8, .int x8), (10, .int x10), (11, .int x11), (12, .int x12)] [.int t0, .int t1] (sm g u) := by
    intro x1 x2 x3 x4 x6 x7 x8 x10 x11 x12 t0 t1 u h
    unfold K_Md_def_348 at h
    refine pm_blk (pc' := 357) (L' := [(5, .int (t1 + t0)), (0, .ref 64), (1, .int x1), (2, .int x2), (3, .int x3), (4, .int x4), (6, .int x6), (7, .int x7), (8, .int x8), (10, .int x10), (11, .int x11), (12, .int x12)]) (S' := [.int x11, .ref 83]) (M' := sm g u) [pm_o .iadd, pm_o (.istore 5), pm_o (.aload_n 0), pm_of (.getfield 71) 12 25 2, pm_o (.iload 11)] (by decide +kernel) rfl ?_
    obtain ⟨ho34, h⟩ := pm_ifs h
    refine pm_iald (by decide +kernel) rfl (pm_ok_in ho34) ?_
    refine pm_blk (pc' := 363) (L' := [(12, .int (x12 + 1)), (11, .int (u.1 83 x11.toNatClampNeg)), (5, .int (t1 + t0)), (0, .ref 64), (1, .int x1), (2, .int x2), (3, .int x3), (4, .int x4), (6, .int x6), (7, .int x7), (8, .int x8), (10, .int x10)]) (S' := []) (M' := sm g u) [pm_o (.istore 11), pm_oi (.iinc 12 1) 1] (by decide +kernel) rfl ?_
    refine pm_goto (off := -85) 278 (by decide +kernel) (by decide) ?_
    refine pm_loc [3, 4, 5, 6, 7, 2, 8, 9, 10, 11, 1, 0] rfl ?_
    exact hk278 x1 x2 x3 x4 (t1 + t0) x6 x7 x8 x10 (u.1 83 x11.toNatClampNeg) (x12 + 1) u h
def K_Md_def_307 (N : Nat) (g : pm_s) (k278 : Int32 → Int32 → Int32 → Int32 → Int32 → Int32 → Int32 → Int32 → Int32 → Int32 → Int32 → pm_J → Option (Int32 × pm_J)) (x1 : Int32) (x2 : Int32) (x3 : Int32) (x4 : Int32) (x5 : Int32) (x6 : Int32) (x8 : Int32) (x10 : Int32) (x11 : Int32) (x12 : Int32) (t0 : Int32) (t1 : Int32) (u : pm_J) : Option (Int32 × pm_J) := if pm_ok ((6 * x10) + x12) 180 = true then if pm_ok (u.1 99 (((6 * x10) + x12).toNatClampNeg)) 100000 = true then if (u.1 73 ((u.1 99 (((6 * x10) + x12).toNatClampNeg)).toNatClampNeg)) = 0 then K_Md_def_348 N g k278 x1 x2 x3 x4 x6 (t1 + t0) x8 x10 x11 x12 0 x5 u else if pm_ok x11 2400 = true then if (u.1 89 x11.toNatClampNeg) = 0 then K_Md_def_348 N g k278 x1 x2 x3 x4 x6 (t1 + t0) x8 x10 x11 x12 1 x5 u else K_Md_def_348 N g k278 x1 x2 x3 x4 x6 (t1 + t0) x8 x10 x11 x12 0 x5 u else none else none else none
set_option maxHeartbeats 4000000 in
set_option maxRecDepth 100000 in
theorem w_Md_def_307 (l : Launch) (h0 : Nat) (D : pm_D) {g : pm_s} (hT : sh_T g) {N : Nat} {u0 : pm_J} {out : Int32 × pm_J} {p : Program} {e : Env} {R : Room} {s : State} {m : MethodId} {args : Array Value} {below : List Frame} {meth : Method} {c : Code} {k278 : Int32 → Int32 → Int32 → Int32 → Int32 → Int32 → Int32 → Int32 → Int32 → Int32 → Int32 → pm_J → Option (Int32 × pm_J)} (hk278 : ∀ (x1 : Int32) (x2 : Int32) (x3 : Int32) (x4 : Int32) (x5 : Int32) (x6 : Int32) (x7 : Int32) (x8 : Int32) (x10 : Int32) (x11 : Int32) (x12 : Int32) (u : pm_J), k278 x1 x2 x3 x4 x5 x6 x7 x8 x10 x11 x12 u = some out → pm_V (p, l, e, R, s, m, args, below, meth, c) m_Md_def h0 D (g.1, g.2.1, g.1, g.2.1, 1) (pm_E (p, l, e, R, s, m, args, below, meth, c) h0 D (sm g u0) (some (.int out.1)) (sm g out.2)) 278 [(0, .ref 64), (1, .int x1), (2, .int x2), (3, .int x3), (4, .int x4), (5, .int x5), (6, .int x6), (7, .int x7), (8, .int x8), (10, .int x10), (11, .int x11), (12, .int x12)] [] (sm g u)) : ∀ (x1 : Int32) (x2 : Int32) (x3 : Int32) (x4 : Int32) (x5 : Int32) (x6 : Int32) (x8 : Int32) (x10 : Int32) (x11 : Int32) (x12 : Int32) (t0 : Int32) (t1 : Int32) (u : pm_J), K_Md_def_307 N g k278 x1 x2 x3 x4 x5 x6 x8 x10 x11 x12 t0 t1 u = some out → pm_V (p, l, e, R, s, m, args, below, meth, c) m_Md_def h0 D (g.1, g.2.1, g.1, g.2.1, 1) (pm_E (p, l, e, R, s, m, args, below, meth, c) h0 D (sm g u0) (some (.int out.1)) (sm g out.2)) 307 [(0, .ref 64), (1, .int x1), (2, .int x2), (3, .int x3), (4, .int x4), (5, .int x5), (6, .int x6), (8, .int x8), (10, .int x10), (11, .int x11), (12, .int x12)] [.int t0, .int t1] (sm g u) := by
    intro x1 x2 x3 x4 x5 x6 x8 x10 x11 x12 t0 t1 u h
    unfold K_Md_def_307 at h
    refine pm_blk (pc' := 328) (L' := [(7, .int (t1 + t0)), (0, .ref 64), (1, .int x1), (2, .int x2), (3, .int x3), (4, .int x4), (5, .int x5), (6, .int x6), (8, .int x8), (10, .int x10), (11, .int x11), (12, .int x12)]) (S' := [.int ((6 * x10) + x12), .ref 99, .ref 73, .int x5]) (M' := sm g u) [pm_o .iadd, pm_o (.istore 7), pm_o (.iload 5), pm_o (.aload_n 0), pm_of (.getfield 41) 12 14 2, pm_o (.aload_n 0), pm_of (.getfield 119) 12 42 2, pm_oi (.bipush 6) 6, pm_o (.iload 10), pm_o .imul, pm_o (.iload 12), pm_o .iadd] (by decide +kernel) rfl ?_
    obtain ⟨ho31, h⟩ := pm_ifs h
    refine pm_iald (by decide +kernel) rfl (pm_ok_in ho31) ?_
    refine pm_blk (pc' := 329) (L' := [(7, .int (t1 + t0)), (0, .ref 64), (1, .int x1), (2, .int x2), (3, .int x3), (4, .int x4), (5, .int x5), (6, .int x6), (8, .int x8), (10, .int x10), (11, .int x11), (12, .int x12)]) (S' := [.int (u.1 99 (((6 * x10) + x12).toNatClampNeg)), .ref 73, .int x5]) (M' := sm g u) [] (by decide +kernel) rfl ?_
    obtain ⟨ho32, h⟩ := pm_ifs h
    refine pm_iald (by decide +kernel) rfl (pm_ok_in ho32) ?_
    refine pm_blk (pc' := 330) (L' := [(7, .int (t1 + t0)), (0, .ref 64), (1, .int x1), (2, .int x2), (3, .int x3), (4, .int x4), (5, .int x5), (6, .int x6), (8, .int x8), (10, .int x10), (11, .int x11), (12, .int x12)]) (S' := [.int (u.1 73 ((u.1 99 (((6 * x10) + x12).toNatClampNeg)).toNatClampNeg)), .int x5]) (M' := sm g u) [] (by decide +kernel) rfl ?_
    refine pm_if_eq (off := 17) 347 (by decide +kernel) (by decide) (fun hc33 => ?_) (fun hc33 => ?_)
    · rw [if_pos hc33] at h
      refine pm_blk (pc' := 348) (L' := [(7, .int (t1 + t0)), (0, .ref 64), (1, .int x1), (2, .int x2), (3, .int x3), (4, .int x4), (5, .int x5), (6, .int x6), (8, .int x8), (10, .int x10), (11, .int x11), (12, .int x12)]) (S' := [.int 0, .int x5]) (M' := sm g u) [pm_oi (.iconst 0) 0] (by decide +kernel) rfl ?_
      refine pm_loc [1, 2, 3, 4, 5, 7, 0, 8, 9, 10, 11] rfl ?_
      exact w_Md_def_348 l h0 D hT hk278 x1 x2 x3 x4 x6 (t1 + t0) x8 x10 x11 x12 0 x5 u h
    · rw [if_neg hc33] at h
      refine pm_blk (pc' := 339) (L' := [(7, .int (t1 + t0)), (0, .ref 64), (1, .int x1), (2, .int x2), (3, .int x3), (4, .int x4), (5, .int x5), (6, .int x6), (8, .int x8), (10, .int x10), (11, .int x11), (12, .int x12)]) (S' := [.int x11, .ref 89, .int x5]) (M' := sm g u) [pm_o (.aload_n 0), pm_of (.getfield 89) 12 31 2, pm_o (.iload 11)] (by decide +kernel) rfl ?_
      obtain ⟨ho35, h⟩ := pm_ifs h
      refine pm_zald (by decide +kernel) rfl (pm_ok_in ho35) ?_
      refine pm_blk (pc' := 340) (L' := [(7, .int (t1 + t0)), (0, .ref 64), (1, .int x1), (2, .int x2), (3, .int x3), (4, .int x4), (5, .int x5), (6, .int x6), (8, .int x8), (10, .int x10), (11, .int x11), (12, .int x12)]) (S' := [.int (u.1 89 x11.toNatClampNeg), .int x5]) (M' := sm g u) [] (by decide +kernel) rfl ?_
      refine pm_if_ne (off := 7) 347 (by decide +kernel) (by decide) (fun hc36 => ?_) (fun hc36 => ?_)
      · rw [if_neg hc36] at h
        refine pm_blk (pc' := 348) (L' := [(7, .int (t1 + t0)), (0, .ref 64), (1, .int x1), (2, .int x2), (3, .int x3), (4, .int x4), (5, .int x5), (6, .int x6), (8, .int x8), (10, .int x10), (11, .int x11), (12, .int x12)]) (S' := [.int 0, .int x5]) (M' := sm g u) [pm_oi (.iconst 0) 0] (by decide +kernel) rfl ?_
        refine pm_loc [1, 2, 3, 4, 5, 7, 0, 8, 9, 10, 11] rfl ?_
        exact w_Md_def_348 l h0 D hT hk278 x1 x2 x3 x4 x6 (t1 + t0) x8 x10 x11 x12 0 x5 u h
      · rw [if_pos hc36] at h
        refine pm_blk (pc' := 344) (L' := [(7, .int (t1 + t0)), (0, .ref 64), (1, .int x1), (2, .int x2), (3, .int x3), (4, .int x4), (5, .int x5), (6, .int x6), (8, .int x8), (10, .int x10), (11, .int x11), (12, .int x12)]) (S' := [.int 1, .int x5]) (M' := sm g u) [pm_oi (.iconst 1) 1] (by decide +kernel) rfl ?_
        refine pm_goto (off := 4) 348 (by decide +kernel) (by decide) ?_
        refine pm_loc [1, 2, 3, 4, 5, 7, 0, 8, 9, 10, 11] rfl ?_
        exact w_Md_def_348 l h0 D hT hk278 x1 x2 x3 x4 x6 (t1 + t0) x8 x10 x11 x12 1 x5 u h
def K_Md_def_278 (N : Nat) (g : pm_s) (k107 : Int32 → Int32 → Int32 → Int32 → Int32 → Int32 → Int32 → Int32 → pm_J → Option (Int32 × pm_J)) : Nat → Int32 → Int32 → Int32 → Int32 → Int32 → Int32 → Int32 → Int32 → Int32 → Int32 → Int32 → pm_J → Option (Int32 × pm_J)
  | 0, _, _, _, _, _, _, _, _, _, _, _, _ => none
  | n + 1, x1, x2, x3, x4, x5, x6, x7, x8, x10, x11, x12, u => if pm_ok x10 30 = true then if (u.1 92 x10.toNatClampNeg) ≤ x12 then k107 x1 x2 x3 x4 x5 x6 x7 (x8 + 1) u else if pm_ok x11 2400 = true then if (u.1 89 x11.toNatClampNeg) = 0 then K_Md_def_307 N g (K_Md_def_278 N g k107 n) x1 x2 x3 x4 x5 x6 x8 x10 x11 x12 0 x7 u else K_Md_def_307 N g (K_Md_def_278 N g k107 n) x1 x2 x3 x4 x5 x6 x8 x10 x11 x12 1 x7 u else none else none
set_option maxHeartbeats 4000000 in
set_option maxRecDepth 100000 in
theorem w_Md_def_278 (l : Launch) (h0 : Nat) (D : pm_D) {g : pm_s} (hT : sh_T g) {N : Nat} {u0 : pm_J} {out : Int32 × pm_J} {p : Program} {e : Env} {R : Room} {s : State} {m : MethodId} {args : Array Value} {below : List Frame} {meth : Method} {c : Code} {k107 : Int32 → Int32 → Int32 → Int32 → Int32 → Int32 → Int32 → Int32 → pm_J → Option (Int32 × pm_J)} (hk107 : ∀ (x1 : Int32) (x2 : Int32) (x3 : Int32) (x4 : Int32) (x5 : Int32) (x6 : Int32) (x7 : Int32) (x8 : Int32) (u : pm_J), k107 x1 x2 x3 x4 x5 x6 x7 x8 u = some out → pm_V (p, l, e, R, s, m, args, below, meth, c) m_Md_def h0 D (g.1, g.2.1, g.1, g.2.1, 1) (pm_E (p, l, e, R, s, m, args, below, meth, c) h0 D (sm g u0) (some (.int out.1)) (sm g out.2)) 107 [(0, .ref 64), (1, .int x1), (2, .int x2), (3, .int x3), (4, .int x4), (5, .int x5), (6, .int x6), (7, .int x7), (8, .int x8)] [] (sm g u)) : ∀ (n : Nat) (x1 : Int32) (x2 : Int32) (x3 : Int32) (x4 : Int32) (x5 : Int32) (x6 : Int32) (x7 : Int32) (x8 : Int32) (x10 : Int32) (x11 : Int32) (x12 : Int32) (u : pm_J), K_Md_def_278 N g k107 n x1 x2 x3 x4 x5 x6 x7 x8 x10 x11 x12 u = some out → pm_V (p, l, e, R, s, m, args, below, meth, c) m_Md_def h0 D (g.1, g.2.1, g.1, g.2.1, 1) (pm_E (p, l, e, R, s, m, args, below, meth, c) h0 D (sm g u0) (some (.int out.1)) (sm g out.2)) 278 [(0, .ref 64), (1, .int x1), (2, .int x2), (3, .int x3), (4, .int x4), (5, .int x5), (6, .int x6), (7, .int x7), (8, .int x8), (10, .int x10), (11, .int x11), (12, .int x12)] [] (sm g u) := by
  intro n
  induction n with
  | zero => intro x1 x2 x3 x4 x5 x6 x7 x8 x10 x11 x12 u h; cases h
  | succ n ih =>
    intro x1 x2 x3 x4 x5 x6 x7 x8 x10 x11 x12 u h
    rw [K_Md_def_278] at h
    refine pm_blk (pc' := 286) (L' := [(0, .ref 64), (1, .int x1), (2, .int x2), (3, .int x3), (4, .int x4), (5, .int x5), (6, .int x6), (7, .int x7), (8, .int x8), (10, .int x10), (11, .int x11), (12, .int x12)]) (S' := [.int x10, .ref 92, .int x12]) (M' := sm g u) [pm_o (.iload 12), pm_o (.aload_n 0), pm_of (.getfield 98) 12 35 2, pm_o (.iload 10)] (by decide +kernel) rfl ?_
    obtain ⟨ho27, h⟩ := pm_ifs h
    refine pm_iald (by decide +kernel) rfl (pm_ok_in ho27) ?_
    refine pm_blk (pc' := 287) (L' := [(0, .ref 64), (1, .int x1), (2, .int x2), (3, .int x3), (4, .int x4), (5, .int x5), (6, .int x6), (7, .int x7), (8, .int x8), (10, .int x10), (11, .int x11), (12, .int x12)]) (S' := [.int (u.1 92 x10.toNatClampNeg), .int x12]) (M' := sm g u) [] (by decide +kernel) rfl ?_
    refine pm_ic_ge (off := 79) 366 (by decide +kernel) (by decide) (fun hc28 => ?_) (fun hc28 => ?_)
    · rw [if_pos hc28] at h
      refine pm_blk (pc' := 369) (L' := [(8, .int (x8 + 1)), (0, .ref 64), (1, .int x1), (2, .int x2), (3, .int x3), (4, .int x4), (5, .int x5), (6, .int x6), (7, .int x7), (10, .int x10), (11, .int x11), (12, .int x12)]) (S' := []) (M' := sm g u) [pm_oi (.iinc 8 1) 1] (by decide +kernel) rfl ?_
      refine pm_goto (off := -262) 107 (by decide +kernel) (by decide) ?_
      refine pm_loc [1, 2, 3, 4, 5, 6, 7, 8, 0] rfl ?_
      exact hk107 x1 x2 x3 x4 x5 x6 x7 (x8 + 1) u h
    · rw [if_neg hc28] at h
      refine pm_blk (pc' := 298) (L' := [(0, .ref 64), (1, .int x1), (2, .int x2), (3, .int x3), (4, .int x4), (5, .int x5), (6, .int x6), (7, .int x7), (8, .int x8), (10, .int x10), (11, .int x11), (12, .int x12)]) (S' := [.int x11, .ref 89, .int x7]) (M' := sm g u) [pm_o (.iload 7), pm_o (.aload_n 0), pm_of (.getfield 89) 12 31 2, pm_o (.iload 11)] (by decide +kernel) rfl ?_
      obtain ⟨ho29, h⟩ := pm_ifs h
      refine pm_zald (by decide +kernel) rfl (pm_ok_in ho29) ?_
      refine pm_blk (pc' := 299) (L' := [(0, .ref 64), (1, .int x1), (2, .int x2), (3, .int x3), (4, .int x4), (5, .int x5), (6, .int x6), (7, .int x7), (8, .int x8), (10, .int x10), (11, .int x11), (12, .int x12)]) (S' := [.int (u.1 89 x11.toNatClampNeg), .int x7]) (M' := sm g u) [] (by decide +kernel) rfl ?_
      refine pm_if_eq (off := 7) 306 (by decide +kernel) (by decide) (fun hc30 => ?_) (fun hc30 => ?_)
      · rw [if_pos hc30] at h
        refine pm_blk (pc' := 307) (L' := [(0, .ref 64), (1, .int x1), (2, .int x2), (3, .int x3), (4, .int x4), (5, .int x5), (6, .int x6), (7, .int x7), (8, .int x8), (10, .int x10), (11, .int x11), (12, .int x12)]) (S' := [.int 0, .int x7]) (M' := sm g u) [pm_oi (.iconst 0) 0] (by decide +kernel) rfl ?_
        refine pm_loc [0, 1, 2, 3, 4, 5, 6, 8, 9, 10, 11] rfl ?_
        exact w_Md_def_307 l h0 D hT ih x1 x2 x3 x4 x5 x6 x8 x10 x11 x12 0 x7 u h
      · rw [if_neg hc30] at h
        refine pm_blk (pc' := 303) (L' := [(0, .ref 64), (1, .int x1), (2, .int x2), (3, .int x3), (4, .int x4), (5, .int x5), (6, .int x6), (7, .int x7), (8, .int x8), (10, .int x10), (11, .int x11), (12, .int x12)]) (S' := [.int 1, .int x7]) (M' := sm g u) [pm_oi (.iconst 1) 1] (by decide +kernel) rfl ?_
        refine pm_goto (off := 4) 307 (by decide +kernel) (by decide) ?_
        refine pm_loc [0, 1, 2, 3, 4, 5, 6, 8, 9, 10, 11] rfl ?_
        exact w_Md_def_307 l h0 D hT ih x1 x2 x3 x4 x5 x6 x8 x10 x11 x12 1 x7 u h
def K_Md_def_247 (N : Nat) (g : pm_s) (k107 : Int32 → Int32 → Int32 → Int32 → Int32 → Int32 → Int32 → Int32 → pm_J → Option (Int32 × pm_J)) (x1 : Int32) (x2 : Int32) (x3 : Int32) (x4 : Int32) (x5 : Int32) (x7 : Int32) (x8 : Int32) (x10 : Int32) (t0 : Int32) (t1 : Int32) (u : pm_J) : Option (Int32 × pm_J) := if pm_ok x8 2400 = true then if (u.1 77 x8.toNatClampNeg) = 30 then if pm_ok x8 2400 = true then K_Md_def_278 N g k107 N x1 x2 x3 x4 x5 (t1 + t0) x7 x8 x10 (u.1 80 x8.toNatClampNeg) 0 u else none else K_Md_def_278 N g k107 N x1 x2 x3 x4 x5 (t1 + t0) x7 x8 x10 (-1) 0 u else none
set_option maxHeartbeats 4000000 in
set_option maxRecDepth 100000 in
theorem w_Md_def_247 (l : Launch) (h0 : Nat) (D : pm_D) {g : pm_s} (hT : sh_T g) {N : Nat} {u0 : pm_J} {out : Int32 × pm_J} {p : Program} {e : Env} {R : Room} {s : State} {m : MethodId} {args : Array Value} {below : List Frame} {meth : Method} {c : Code} {k107 : Int32 → Int32 → Int32 → Int32 → Int32 → Int32 → Int32 → Int32 → pm_J → Option (Int32 × pm_J)} (hk107 : ∀ (x1 : Int32) (x2 : Int32) (x3 : Int32) (x4 : Int32) (x5 : Int32) (x6 : Int32) (x7 : Int32) (x8 : Int32) (u : pm_J), k107 x1 x2 x3 x4 x5 x6 x7 x8 u = some out → pm_V (p, l, e, R, s, m, args, below, meth, c) m_Md_def h0 D (g.1, g.2.1, g.1, g.2.1, 1) (pm_E (p, l, e, R, s, m, args, below, meth, c) h0 D (sm g u0) (some (.int out.1)) (sm g out.2)) 107 [(0, .ref 64), (1, .int x1), (2, .int x2), (3, .int x3), (4, .int x4), (5, .int x5), (6, .int x6), (7, .int x7), (8, .int x8)] [] (sm g u)) : ∀ (x1 : Int32) (x2 : Int32) (x3 : Int32) (x4 : Int32) (x5 : Int32) (x7 : Int32) (x8 : Int32) (x10 : Int32) (t0 : Int32) (t1 : Int32) (u : pm_J), K_Md_def_247 N g k107 x1 x2 x3 x4 x5 x7 x8 x10 t0 t1 u = some out → pm_V (p, l, e, R, s, m, args, below, meth, c) m_Md_def h0 D (g.1, g.2.1, g.1, g.2.1, 1) (pm_E (p, l, e, R, s, m, args, below, meth, c) h0 D (sm g u0) (some (.int out.1)) (sm g out.2)) 247 [(0, .ref 64), (1, .int x1), (2, .int x2), (3, .int x3), (4, .int x4), (5, .int x5), (7, .int x7), (8, .int x8), (10, .int x10)] [.int t0, .int t1] (sm g u) := by
    intro x1 x2 x3 x4 x5 x7 x8 x10 t0 t1 u h
    unfold K_Md_def_247 at h
    refine pm_blk (pc' := 256) (L' := [(6, .int (t1 + t0)), (0, .ref 64), (1, .int x1), (2, .int x2), (3, .int x3), (4, .int x4), (5, .int x5), (7, .int x7), (8, .int x8), (10, .int x10)]) (S' := [.int x8, .ref 77]) (M' := sm g u) [pm_o .iadd, pm_o (.istore 6), pm_o (.aload_n 0), pm_of (.getfield 53) 12 19 2, pm_o (.iload 8)] (by decide +kernel) rfl ?_
    obtain ⟨ho25, h⟩ := pm_ifs h
    refine pm_iald (by decide +kernel) rfl (pm_ok_in ho25) ?_
    refine pm_blk (pc' := 259) (L' := [(6, .int (t1 + t0)), (0, .ref 64), (1, .int x1), (2, .int x2), (3, .int x3), (4, .int x4), (5, .int x5), (7, .int x7), (8, .int x8), (10, .int x10)]) (S' := [.int 30, .int (u.1 77 x8.toNatClampNeg)]) (M' := sm g u) [pm_oi (.bipush 30) 30] (by decide +kernel) rfl ?_
    refine pm_ic_ne (off := 13) 272 (by decide +kernel) (by decide) (fun hc26 => ?_) (fun hc26 => ?_)
    · rw [if_neg hc26] at h
      refine pm_blk (pc' := 278) (L' := [(12, .int 0), (11, .int (-1)), (6, .int (t1 + t0)), (0, .ref 64), (1, .int x1), (2, .int x2), (3, .int x3), (4, .int x4), (5, .int x5), (7, .int x7), (8, .int x8), (10, .int x10)]) (S' := []) (M' := sm g u) [pm_oi (.iconst (-1)) (-1), pm_o (.istore 11), pm_oi (.iconst 0) 0, pm_o (.istore 12)] (by decide +kernel) rfl ?_
      refine pm_loc [3, 4, 5, 6, 7, 8, 2, 9, 10, 11, 1, 0] rfl ?_
      exact w_Md_def_278 l h0 D hT hk107 N x1 x2 x3 x4 x5 (t1 + t0) x7 x8 x10 (-1) 0 u h
    · rw [if_pos hc26] at h
      refine pm_blk (pc' := 268) (L' := [(6, .int (t1 + t0)), (0, .ref 64), (1, .int x1), (2, .int x2), (3, .int x3), (4, .int x4), (5, .int x5), (7, .int x7), (8, .int x8), (10, .int x10)]) (S' := [.int x8, .ref 80]) (M' := sm g u) [pm_o (.aload_n 0), pm_of (.getfield 62) 12 22 2, pm_o (.iload 8)] (by decide +kernel) rfl ?_
      obtain ⟨ho37, h⟩ := pm_ifs h
      refine pm_iald (by decide +kernel) rfl (pm_ok_in ho37) ?_
      refine pm_blk (pc' := 269) (L' := [(6, .int (t1 + t0)), (0, .ref 64), (1, .int x1), (2, .int x2), (3, .int x3), (4, .int x4), (5, .int x5), (7, .int x7), (8, .int x8), (10, .int x10)]) (S' := [.int (u.1 80 x8.toNatClampNeg)]) (M' := sm g u) [] (by decide +kernel) rfl ?_
      refine pm_goto (off := 4) 273 (by decide +kernel) (by decide) ?_
      refine pm_blk (pc' := 278) (L' := [(12, .int 0), (11, .int (u.1 80 x8.toNatClampNeg)), (6, .int (t1 + t0)), (0, .ref 64), (1, .int x1), (2, .int x2), (3, .int x3), (4, .int x4), (5, .int x5), (7, .int x7), (8, .int x8), (10, .int x10)]) (S' := []) (M' := sm g u) [pm_o (.istore 11), pm_oi (.iconst 0) 0, pm_o (.istore 12)] (by decide +kernel) rfl ?_
      refine pm_loc [3, 4, 5, 6, 7, 8, 2, 9, 10, 11, 1, 0] rfl ?_
      exact w_Md_def_278 l h0 D hT hk107 N x1 x2 x3 x4 x5 (t1 + t0) x7 x8 x10 (u.1 80 x8.toNatClampNeg) 0 u h
def K_Md_def_203 (N : Nat) (g : pm_s) (k107 : Int32 → Int32 → Int32 → Int32 → Int32 → Int32 → Int32 → Int32 → pm_J → Option (Int32 × pm_J)) (x1 : Int32) (x2 : Int32) (x3 : Int32) (x4 : Int32) (x5 : Int32) (x6 : Int32) (x7 : Int32) (x8 : Int32) (u : pm_J) : Option (Int32 × pm_J) := if pm_ok x8 2400 = true then if pm_ok (u.1 88 x8.toNatClampNeg) 30 = true then if pm_ok (u.1 93 ((u.1 88 x8.toNatClampNeg).toNatClampNeg)) 100000 = true then if (u.1 73 ((u.1 93 ((u.1 88 x8.toNatClampNeg).toNatClampNeg)).toNatClampNeg)) = 0 then K_Md_def_247 N g k107 x1 x2 x3 (x4 + 1) x5 x7 x8 (u.1 88 x8.toNatClampNeg) 0 x6 u else if pm_ok x8 2400 = true then if (u.1 89 x8.toNatClampNeg) = 0 then K_Md_def_247 N g k107 x1 x2 x3 (x4 + 1) x5 x7 x8 (u.1 88 x8.toNatClampNeg) 1 x6 u else K_Md_def_247 N g k107 x1 x2 x3 (x4 + 1) x5 x7 x8 (u.1 88 x8.toNatClampNeg) 0 x6 u else none else none else none else none
set_option maxHeartbeats 4000000 in
set_option maxRecDepth 100000 in
theorem w_Md_def_203 (l : Launch) (h0 : Nat) (D : pm_D) {g : pm_s} (hT : sh_T g) {N : Nat} {u0 : pm_J} {out : Int32 × pm_J} {p : Program} {e : Env} {R : Room} {s : State} {m : MethodId} {args : Array Value} {below : List Frame} {meth : Method} {c : Code} {k107 : Int32 → Int32 → Int32 → Int32 → Int32 → Int32 → Int32 → Int32 → pm_J → Option (Int32 × pm_J)} (hk107 : ∀ (x1 : Int32) (x2 : Int32) (x3 : Int32) (x4 : Int32) (x5 : Int32) (x6 : Int32) (x7 : Int32) (x8 : Int32) (u : pm_J), k107 x1 x2 x3 x4 x5 x6 x7 x8 u = some out → pm_V (p, l, e, R, s, m, args, below, meth, c) m_Md_def h0 D (g.1, g.2.1, g.1, g.2.1, 1) (pm_E (p, l, e, R, s, m, args, below, meth, c) h0 D (sm g u0) (some (.int out.1)) (sm g out.2)) 107 [(0, .ref 64), (1, .int x1), (2, .int x2), (3, .int x3), (4, .int x4), (5, .int x5), (6, .int x6), (7, .int x7), (8, .int x8)] [] (sm g u)) : ∀ (x1 : Int32) (x2 : Int32) (x3 : Int32) (x4 : Int32) (x5 : Int32) (x6 : Int32) (x7 : Int32) (x8 : Int32) (u : pm_J), K_Md_def_203 N g k107 x1 x2 x3 x4 x5 x6 x7 x8 u = some out → pm_V (p, l, e, R, s, m, args, below, meth, c) m_Md_def h0 D (g.1, g.2.1, g.1, g.2.1, 1) (pm_E (p, l, e, R, s, m, args, below, meth, c) h0 D (sm g u0) (some (.int out.1)) (sm g out.2)) 203 [(0, .ref 64), (1, .int x1), (2, .int x2), (3, .int x3), (4, .int x4), (5, .int x5), (6, .int x6), (7, .int x7), (8, .int x8)] [] (sm g u) := by
    intro x1 x2 x3 x4 x5 x6 x7 x8 u h
    unfold K_Md_def_203 at h
    refine pm_blk (pc' := 209) (L' := [(0, .ref 64), (1, .int x1), (2, .int x2), (3, .int x3), (4, .int x4), (5, .int x5), (6, .int x6), (7, .int x7), (8, .int x8)]) (S' := [.int x8, .ref 88]) (M' := sm g u) [pm_o (.aload_n 0), pm_of (.getfield 86) 12 30 2, pm_o (.iload 8)] (by decide +kernel) rfl ?_
    obtain ⟨ho21, h⟩ := pm_ifs h
    refine pm_iald (by decide +kernel) rfl (pm_ok_in ho21) ?_
    refine pm_blk (pc' := 227) (L' := [(4, .int (x4 + 1)), (10, .int (u.1 88 x8.toNatClampNeg)), (0, .ref 64), (1, .int x1), (2, .int x2), (3, .int x3), (5, .int x5), (6, .int x6), (7, .int x7), (8, .int x8)]) (S' := [.int (u.1 88 x8.toNatClampNeg), .ref 93, .ref 73, .int x6]) (M' := sm g u) [pm_o (.istore 10), pm_oi (.iinc 4 1) 1, pm_o (.iload 6), pm_o (.aload_n 0), pm_of (.getfield 41) 12 14 2, pm_o (.aload_n 0), pm_of (.getfield 101) 12 36 2, pm_o (.iload 10)] (by decide +kernel) rfl ?_
    obtain ⟨ho22, h⟩ := pm_ifs h
    refine pm_iald (by decide +kernel) rfl (pm_ok_in ho22) ?_
    refine pm_blk (pc' := 228) (L' := [(4, .int (x4 + 1)), (10, .int (u.1 88 x8.toNatClampNeg)), (0, .ref 64), (1, .int x1), (2, .int x2), (3, .int x3), (5, .int x5), (6, .int x6), (7, .int x7), (8, .int x8)]) (S' := [.int (u.1 93 ((u.1 88 x8.toNatClampNeg).toNatClampNeg)), .ref 73, .int x6]) (M' := sm g u) [] (by decide +kernel) rfl ?_
    obtain ⟨ho23, h⟩ := pm_ifs h
    refine pm_iald (by decide +kernel) rfl (pm_ok_in ho23) ?_
    refine pm_blk (pc' := 229) (L' := [(4, .int (x4 + 1)), (10, .int (u.1 88 x8.toNatClampNeg)), (0, .ref 64), (1, .int x1), (2, .int x2), (3, .int x3), (5, .int x5), (6, .int x6), (7, .int x7), (8, .int x8)]) (S' := [.int (u.1 73 ((u.1 93 ((u.1 88 x8.toNatClampNeg).toNatClampNeg)).toNatClampNeg)), .int x6]) (M' := sm g u) [] (by decide +kernel) rfl ?_
    refine pm_if_eq (off := 17) 246 (by decide +kernel) (by decide) (fun hc24 => ?_) (fun hc24 => ?_)
    · rw [if_pos hc24] at h
      refine pm_blk (pc' := 247) (L' := [(4, .int (x4 + 1)), (10, .int (u.1 88 x8.toNatClampNeg)), (0, .ref 64), (1, .int x1), (2, .int x2), (3, .int x3), (5, .int x5), (6, .int x6), (7, .int x7), (8, .int x8)]) (S' := [.int 0, .int x6]) (M' := sm g u) [pm_oi (.iconst 0) 0] (by decide +kernel) rfl ?_
      refine pm_loc [2, 3, 4, 5, 0, 6, 8, 9, 1] rfl ?_
      exact w_Md_def_247 l h0 D hT hk107 x1 x2 x3 (x4 + 1) x5 x7 x8 (u.1 88 x8.toNatClampNeg) 0 x6 u h
    · rw [if_neg hc24] at h
      refine pm_blk (pc' := 238) (L' := [(4, .int (x4 + 1)), (10, .int (u.1 88 x8.toNatClampNeg)), (0, .ref 64), (1, .int x1), (2, .int x2), (3, .int x3), (5, .int x5), (6, .int x6), (7, .int x7), (8, .int x8)]) (S' := [.int x8, .ref 89, .int x6]) (M' := sm g u) [pm_o (.aload_n 0), pm_of (.getfield 89) 12 31 2, pm_o (.iload 8)] (by decide +kernel) rfl ?_
      obtain ⟨ho38, h⟩ := pm_ifs h
      refine pm_zald (by decide +kernel) rfl (pm_ok_in ho38) ?_
      refine pm_blk (pc' := 239) (L' := [(4, .int (x4 + 1)), (10, .int (u.1 88 x8.toNatClampNeg)), (0, .ref 64), (1, .int x1), (2, .int x2), (3, .int x3), (5, .int x5), (6, .int x6), (7, .int x7), (8, .int x8)]) (S' := [.int (u.1 89 x8.toNatClampNeg), .int x6]) (M' := sm g u) [] (by decide +kernel) rfl ?_
      refine pm_if_ne (off := 7) 246 (by decide +kernel) (by decide) (fun hc39 => ?_) (fun hc39 => ?_)
      · rw [if_neg hc39] at h
        refine pm_blk (pc' := 247) (L' := [(4, .int (x4 + 1)), (10, .int (u.1 88 x8.toNatClampNeg)), (0, .ref 64), (1, .int x1), (2, .int x2), (3, .int x3), (5, .int x5), (6, .int x6), (7, .int x7), (8, .int x8)]) (S' := [.int 0, .int x6]) (M' := sm g u) [pm_oi (.iconst 0) 0] (by decide +kernel) rfl ?_
        refine pm_loc [2, 3, 4, 5, 0, 6, 8, 9, 1] rfl ?_
        exact w_Md_def_247 l h0 D hT hk107 x1 x2 x3 (x4 + 1) x5 x7 x8 (u.1 88 x8.toNatClampNeg) 0 x6 u h
      · rw [if_pos hc39] at h
        refine pm_blk (pc' := 243) (L' := [(4, .int (x4 + 1)), (10, .int (u.1 88 x8.toNatClampNeg)), (0, .ref 64), (1, .int x1), (2, .int x2), (3, .int x3), (5, .int x5), (6, .int x6), (7, .int x7), (8, .int x8)]) (S' := [.int 1, .int x6]) (M' := sm g u) [pm_oi (.iconst 1) 1] (by decide +kernel) rfl ?_
        refine pm_goto (off := 4) 247 (by decide +kernel) (by decide) ?_
        refine pm_loc [2, 3, 4, 5, 0, 6, 8, 9, 1] rfl ?_
        exact w_Md_def_247 l h0 D hT hk107 x1 x2 x3 (x4 + 1) x5 x7 x8 (u.1 88 x8.toNatClampNeg) 1 x6 u h
def K_Md_def_159 (N : Nat) (g : pm_s) (k107 : Int32 → Int32 → Int32 → Int32 → Int32 → Int32 → Int32 → Int32 → pm_J → Option (Int32 × pm_J)) (x1 : Int32) (x2 : Int32) (x3 : Int32) (x4 : Int32) (x5 : Int32) (x6 : Int32) (x7 : Int32) (x8 : Int32) (t0 : Int32) (u : pm_J) : Option (Int32 × pm_J) := if t0 = 0 then if pm_ok x8 2400 = true then if (u.1 77 x8.toNatClampNeg) = 30 then if pm_ok x8 2400 = true then if (u.1 88 x8.toNatClampNeg) < 0 then k107 x1 x2 x3 x4 x5 x6 x7 (x8 + 1) u else if pm_ok x8 2400 = true then if pm_ok (u.1 88 x8.toNatClampNeg) 30 = true then if (u.1 92 ((u.1 88 x8.toNatClampNeg).toNatClampNeg)) ≤ 0 then k107 x1 x2 x3 x4 x5 x6 x7 (x8 + 1) u else K_Md_def_203 N g k107 x1 x2 x3 x4 x5 x6 x7 x8 u else none else none else none else k107 x1 x2 x3 x4 x5 x6 x7 (x8 + 1) u else none else K_Md_def_203 N g k107 x1 x2 x3 x4 x5 x6 x7 x8 u
set_option maxHeartbeats 4000000 in
set_option maxRecDepth 100000 in
theorem w_Md_def_159 (l : Launch) (h0 : Nat) (D : pm_D) {g : pm_s} (hT : sh_T g) {N : Nat} {u0 : pm_J} {out : Int32 × pm_J} {p : Program} {e : Env} {R : Room} {s : State} {m : MethodId} {args : Array Value} {below : List Frame} {meth : Method} {c : Code} {k107 : Int32 → Int32 → Int32 → Int32 → Int32 → Int32 → Int32 → Int32 → pm_J → Option (Int32 × pm_J)} (hk107 : ∀ (x1 : Int32) (x2 : Int32) (x3 : Int32) (x4 : Int32) (x5 : Int32) (x6 : Int32) (x7 : Int32) (x8 : Int32) (u : pm_J), k107 x1 x2 x3 x4 x5 x6 x7 x8 u = some out → pm_V (p, l, e, R, s, m, args, below, meth, c) m_Md_def h0 D (g.1, g.2.1, g.1, g.2.1, 1) (pm_E (p, l, e, R, s, m, args, below, meth, c) h0 D (sm g u0) (some (.int out.1)) (sm g out.2)) 107 [(0, .ref 64), (1, .int x1), (2, .int x2), (3, .int x3), (4, .int x4), (5, .int x5), (6, .int x6), (7, .int x7), (8, .int x8)] [] (sm g u)) : ∀ (x1 : Int32) (x2 : Int32) (x3 : Int32) (x4 : Int32) (x5 : Int32) (x6 : Int32) (x7 : Int32) (x8 : Int32) (t0 : Int32) (u : pm_J), K_Md_def_159 N g k107 x1 x2 x3 x4 x5 x6 x7 x8 t0 u = some out → pm_V (p, l, e, R, s, m, args, below, meth, c) m_Md_def h0 D (g.1, g.2.1, g.1, g.2.1, 1) (pm_E (p, l, e, R, s, m, args, below, meth, c) h0 D (sm g u0) (some (.int out.1)) (sm g out.2)) 159 [(0, .ref 64), (1, .int x1), (2, .int x2), (3, .int x3), (4, .int x4), (5, .int x5), (6, .int x6), (7, .int x7), (8, .int x8)] [.int t0] (sm g u) := by
    intro x1 x2 x3 x4 x5 x6 x7 x8 t0 u h
    unfold K_Md_def_159 at h
    refine pm_blk (pc' := 163) (L' := [(9, .int t0), (0, .ref 64), (1, .int x1), (2, .int x2), (3, .int x3), (4, .int x4), (5, .int x5), (6, .int x6), (7, .int x7), (8, .int x8)]) (S' := [.int t0]) (M' := sm g u) [pm_o (.istore 9), pm_o (.iload 9)] (by decide +kernel) rfl ?_
    refine pm_if_ne (off := 40) 203 (by decide +kernel) (by decide) (fun hc20 => ?_) (fun hc20 => ?_)
    · rw [if_neg hc20] at h
      refine pm_loc [1, 2, 3, 4, 5, 6, 7, 8, 9] rfl ?_
      exact w_Md_def_203 l h0 D hT hk107 x1 x2 x3 x4 x5 x6 x7 x8 u h
    · rw [if_pos hc20] at h
      refine pm_blk (pc' := 172) (L' := [(9, .int t0), (0, .ref 64), (1, .int x1), (2, .int x2), (3, .int x3), (4, .int x4), (5, .int x5), (6, .int x6), (7, .int x7), (8, .int x8)]) (S' := [.int x8, .ref 77]) (M' := sm g u) [pm_o (.aload_n 0), pm_of (.getfield 53) 12 19 2, pm_o (.iload 8)] (by decide +kernel) rfl ?_
      obtain ⟨ho40, h⟩ := pm_ifs h
      refine pm_iald (by decide +kernel) rfl (pm_ok_in ho40) ?_
      refine pm_blk (pc' := 175) (L' := [(9, .int t0), (0, .ref 64), (1, .int x1), (2, .int x2), (3, .int x3), (4, .int x4), (5, .int x5), (6, .int x6), (7, .int x7), (8, .int x8)]) (S' := [.int 30, .int (u.1 77 x8.toNatClampNeg)]) (M' := sm g u) [pm_oi (.bipush 30) 30] (by decide +kernel) rfl ?_
      refine pm_ic_ne (off := 191) 366 (by decide +kernel) (by decide) (fun hc41 => ?_) (fun hc41 => ?_)
      · rw [if_neg hc41] at h
        refine pm_blk (pc' := 369) (L' := [(8, .int (x8 + 1)), (9, .int t0), (0, .ref 64), (1, .int x1), (2, .int x2), (3, .int x3), (4, .int x4), (5, .int x5), (6, .int x6), (7, .int x7)]) (S' := []) (M' := sm g u) [pm_oi (.iinc 8 1) 1] (by decide +kernel) rfl ?_
        refine pm_goto (off := -262) 107 (by decide +kernel) (by decide) ?_
        refine pm_loc [2, 3, 4, 5, 6, 7, 8, 9, 0] rfl ?_
        exact hk107 x1 x2 x3 x4 x5 x6 x7 (x8 + 1) u h
      · rw [if_pos hc41] at h
        refine pm_blk (pc' := 184) (L' := [(9, .int t0), (0, .ref 64), (1, .int x1), (2, .int x2), (3, .int x3), (4, .int x4), (5, .int x5), (6, .int x6), (7, .int x7), (8, .int x8)]) (S' := [.int x8, .ref 88]) (M' := sm g u) [pm_o (.aload_n 0), pm_of (.getfield 86) 12 30 2, pm_o (.iload 8)] (by decide +kernel) rfl ?_
        obtain ⟨ho42, h⟩ := pm_ifs h
        refine pm_iald (by decide +kernel) rfl (pm_ok_in ho42) ?_
        refine pm_blk (pc' := 185) (L' := [(9, .int t0), (0, .ref 64), (1, .int x1), (2, .int x2), (3, .int x3), (4, .int x4), (5, .int x5), (6, .int x6), (7, .int x7), (8, .int x8)]) (S' := [.int (u.1 88 x8.toNatClampNeg)]) (M' := sm g u) [] (by decide +kernel) rfl ?_
        refine pm_if_lt (off := 181) 366 (by decide +kernel) (by decide) (fun hc43 => ?_) (fun hc43 => ?_)
        · rw [if_pos hc43] at h
          refine pm_blk (pc' := 369) (L' := [(8, .int (x8 + 1)), (9, .int t0), (0, .ref 64), (1, .int x1), (2, .int x2), (3, .int x3), (4, .int x4), (5, .int x5), (6, .int x6), (7, .int x7)]) (S' := []) (M' := sm g u) [pm_oi (.iinc 8 1) 1] (by decide +kernel) rfl ?_
          refine pm_goto (off := -262) 107 (by decide +kernel) (by decide) ?_
          refine pm_loc [2, 3, 4, 5, 6, 7, 8, 9, 0] rfl ?_
          exact hk107 x1 x2 x3 x4 x5 x6 x7 (x8 + 1) u h
        · rw [if_neg hc43] at h
          refine pm_blk (pc' := 198) (L' := [(9, .int t0), (0, .ref 64), (1, .int x1), (2, .int x2), (3, .int x3), (4, .int x4), (5, .int x5), (6, .int x6), (7, .int x7), (8, .int x8)]) (S' := [.int x8, .ref 88, .ref 92]) (M' := sm g u) [pm_o (.aload_n 0), pm_of (.getfield 98) 12 35 2, pm_o (.aload_n 0), pm_of (.getfield 86) 12 30 2, pm_o (.iload 8)] (by decide +kernel) rfl ?_
          obtain ⟨ho44, h⟩ := pm_ifs h
          refine pm_iald (by decide +kernel) rfl (pm_ok_in ho44) ?_
          refine pm_blk (pc' := 199) (L' := [(9, .int t0), (0, .ref 64), (1, .int x1), (2, .int x2), (3, .int x3), (4, .int x4), (5, .int x5), (6, .int x6), (7, .int x7), (8, .int x8)]) (S' := [.int (u.1 88 x8.toNatClampNeg), .ref 92]) (M' := sm g u) [] (by decide +kernel) rfl ?_
          obtain ⟨ho45, h⟩ := pm_ifs h
          refine pm_iald (by decide +kernel) rfl (pm_ok_in ho45) ?_
          refine pm_blk (pc' := 200) (L' := [(9, .int t0), (0, .ref 64), (1, .int x1), (2, .int x2), (3, .int x3), (4, .int x4), (5, .int x5), (6, .int x6), (7, .int x7), (8, .int x8)]) (S' := [.int (u.1 92 ((u.1 88 x8.toNatClampNeg).toNatClampNeg))]) (M' := sm g u) [] (by decide +kernel) rfl ?_
          refine pm_if_le (off := 166) 366 (by decide +kernel) (by decide) (fun hc46 => ?_) (fun hc46 => ?_)
          · rw [if_pos hc46] at h
            refine pm_blk (pc' := 369) (L' := [(8, .int (x8 + 1)), (9, .int t0), (0, .ref 64), (1, .int x1), (2, .int x2), (3, .int x3), (4, .int x4), (5, .int x5), (6, .int x6), (7, .int x7)]) (S' := []) (M' := sm g u) [pm_oi (.iinc 8 1) 1] (by decide +kernel) rfl ?_
            refine pm_goto (off := -262) 107 (by decide +kernel) (by decide) ?_
            refine pm_loc [2, 3, 4, 5, 6, 7, 8, 9, 0] rfl ?_
            exact hk107 x1 x2 x3 x4 x5 x6 x7 (x8 + 1) u h
          · rw [if_neg hc46] at h
            refine pm_loc [1, 2, 3, 4, 5, 6, 7, 8, 9] rfl ?_
            exact w_Md_def_203 l h0 D hT hk107 x1 x2 x3 x4 x5 x6 x7 x8 u h
def K_Md_def_107 (N : Nat) (g : pm_s) : Nat → Int32 → Int32 → Int32 → Int32 → Int32 → Int32 → Int32 → Int32 → pm_J → Option (Int32 × pm_J)
  | 0, _, _, _, _, _, _, _, _, _ => none
  | n + 1, x1, x2, x3, x4, x5, x6, x7, x8, u => if pm_ok x1 30 = true then if (u.1 96 x1.toNatClampNeg) < x8 then if x2 = 0 then if pm_ok x1 30 = true then some (u.1 92 x1.toNatClampNeg, u) else none else if x2 = 1 then (F_Md_bits x3 g u).bind fun q16 => some (q16, u) else if x2 = 2 then some (x4, u) else if x2 = 3 then some (x5, u) else if x2 = 4 then some (x6, u) else some (x7, u) else if pm_ok x8 2400 = true then if (u.1 77 x8.toNatClampNeg) = 1 then if pm_ok x8 2400 = true then if (u.1 88 x8.toNatClampNeg) < 0 then K_Md_def_159 N g (K_Md_def_107 N g  n) x1 x2 x3 x4 x5 x6 x7 x8 0 u else if pm_ok x8 2400 = true then if pm_ok (u.1 88 x8.toNatClampNeg) 30 = true then if (u.1 92 ((u.1 88 x8.toNatClampNeg).toNatClampNeg)) = 0 then K_Md_def_159 N g (K_Md_def_107 N g  n) x1 x2 x3 x4 x5 x6 x7 x8 1 u else K_Md_def_159 N g (K_Md_def_107 N g  n) x1 x2 x3 x4 x5 x6 x7 x8 0 u else none else none else none else K_Md_def_159 N g (K_Md_def_107 N g  n) x1 x2 x3 x4 x5 x6 x7 x8 0 u else none else none
set_option maxHeartbeats 4000000 in
set_option maxRecDepth 100000 in
theorem w_Md_def_107 (l : Launch) (h0 : Nat) (D : pm_D) {g : pm_s} (hT : sh_T g) {N : Nat} {u0 : pm_J} {out : Int32 × pm_J} {p : Program} {e : Env} {R : Room} {s : State} {m : MethodId} {args : Array Value} {below : List Frame} {meth : Method} {c : Code} : ∀ (n : Nat) (x1 : Int32) (x2 : Int32) (x3 : Int32) (x4 : Int32) (x5 : Int32) (x6 : Int32) (x7 : Int32) (x8 : Int32) (u : pm_J), K_Md_def_107 N g n x1 x2 x3 x4 x5 x6 x7 x8 u = some out → pm_V (p, l, e, R, s, m, args, below, meth, c) m_Md_def h0 D (g.1, g.2.1, g.1, g.2.1, 1) (pm_E (p, l, e, R, s, m, args, below, meth, c) h0 D (sm g u0) (some (.int out.1)) (sm g out.2)) 107 [(0, .ref 64), (1, .int x1), (2, .int x2), (3, .int x3), (4, .int x4), (5, .int x5), (6, .int x6), (7, .int x7), (8, .int x8)] [] (sm g u) := by
  intro n
  induction n with
  | zero => intro x1 x2 x3 x4 x5 x6 x7 x8 u h; cases h
  | succ n ih =>
    intro x1 x2 x3 x4 x5 x6 x7 x8 u h
    rw [K_Md_def_107] at h
    refine pm_blk (pc' := 114) (L' := [(0, .ref 64), (1, .int x1), (2, .int x2), (3, .int x3), (4, .int x4), (5, .int x5), (6, .int x6), (7, .int x7), (8, .int x8)]) (S' := [.int x1, .ref 96, .int x8]) (M' := sm g u) [pm_o (.iload 8), pm_o (.aload_n 0), pm_of (.getfield 110) 12 39 2, pm_o (.iload_n 1)] (by decide +kernel) rfl ?_
    obtain ⟨ho9, h⟩ := pm_ifs h
    refine pm_iald (by decide +kernel) rfl (pm_ok_in ho9) ?_
    refine pm_blk (pc' := 115) (L' := [(0, .ref 64), (1, .int x1), (2, .int x2), (3, .int x3), (4, .int x4), (5, .int x5), (6, .int x6), (7, .int x7), (8, .int x8)]) (S' := [.int (u.1 96 x1.toNatClampNeg), .int x8]) (M' := sm g u) [] (by decide +kernel) rfl ?_
    refine pm_ic_gt (off := 257) 372 (by decide +kernel) (by decide) (fun hc10 => ?_) (fun hc10 => ?_)
    · rw [if_pos hc10] at h
      refine pm_blk (pc' := 373) (L' := [(0, .ref 64), (1, .int x1), (2, .int x2), (3, .int x3), (4, .int x4), (5, .int x5), (6, .int x6), (7, .int x7), (8, .int x8)]) (S' := [.int x2]) (M' := sm g u) [pm_o (.iload_n 2)] (by decide +kernel) rfl ?_
      refine pm_if_ne (off := 12) 385 (by decide +kernel) (by decide) (fun hc11 => ?_) (fun hc11 => ?_)
      · rw [if_neg hc11] at h
        refine pm_blk (pc' := 387) (L' := [(0, .ref 64), (1, .int x1), (2, .int x2), (3, .int x3), (4, .int x4), (5, .int x5), (6, .int x6), (7, .int x7), (8, .int x8)]) (S' := [.int 1, .int x2]) (M' := sm g u) [pm_o (.iload_n 2), pm_oi (.iconst 1) 1] (by decide +kernel) rfl ?_
        refine pm_ic_ne (off := 10) 397 (by decide +kernel) (by decide) (fun hc12 => ?_) (fun hc12 => ?_)
        · rw [if_neg hc12] at h
          refine pm_blk (pc' := 399) (L' := [(0, .ref 64), (1, .int x1), (2, .int x2), (3, .int x3), (4, .int x4), (5, .int x5), (6, .int x6), (7, .int x7), (8, .int x8)]) (S' := [.int 2, .int x2]) (M' := sm g u) [pm_o (.iload_n 2), pm_oi (.iconst 2) 2] (by decide +kernel) rfl ?_
          refine pm_ic_ne (off := 8) 407 (by decide +kernel) (by decide) (fun hc13 => ?_) (fun hc13 => ?_)
          · rw [if_neg hc13] at h
            refine pm_blk (pc' := 409) (L' := [(0, .ref 64), (1, .int x1), (2, .int x2), (3, .int x3), (4, .int x4), (5, .int x5), (6, .int x6), (7, .int x7), (8, .int x8)]) (S' := [.int 3, .int x2]) (M' := sm g u) [pm_o (.iload_n 2), pm_oi (.iconst 3) 3] (by decide +kernel) rfl ?_
            refine pm_ic_ne (off := 8) 417 (by decide +kernel) (by decide) (fun hc14 => ?_) (fun hc14 => ?_)
            · rw [if_neg hc14] at h
              refine pm_blk (pc' := 419) (L' := [(0, .ref 64), (1, .int x1), (2, .int x2), (3, .int x3), (4, .int x4), (5, .int x5), (6, .int x6), (7, .int x7), (8, .int x8)]) (S' := [.int 4, .int x2]) (M' := sm g u) [pm_o (.iload_n 2), pm_oi (.iconst 4) 4] (by decide +kernel) rfl ?_
              refine pm_ic_ne (off := 8) 427 (by decide +kernel) (by decide) (fun hc15 => ?_) (fun hc15 => ?_)
              · rw [if_neg hc15] at h
                refine pm_blk (pc' := 429) (L' := [(0, .ref 64), (1, .int x1), (2, .int x2), (3, .int x3), (4, .int x4), (5, .int x5), (6, .int x6), (7, .int x7), (8, .int x8)]) (S' := [.int x7]) (M' := sm g u) [pm_o (.iload 7)] (by decide +kernel) rfl ?_
                have h9 := Option.some.inj h
                subst h9
                exact pm_reti rfl (by decide +kernel) rfl rfl rfl
              · rw [if_pos hc15] at h
                refine pm_blk (pc' := 424) (L' := [(0, .ref 64), (1, .int x1), (2, .int x2), (3, .int x3), (4, .int x4), (5, .int x5), (6, .int x6), (7, .int x7), (8, .int x8)]) (S' := [.int x6]) (M' := sm g u) [pm_o (.iload 6)] (by decide +kernel) rfl ?_
                refine pm_goto (off := 5) 429 (by decide +kernel) (by decide) ?_
                have h9 := Option.some.inj h
                subst h9
                exact pm_reti rfl (by decide +kernel) rfl rfl rfl
            · rw [if_pos hc14] at h
              refine pm_blk (pc' := 414) (L' := [(0, .ref 64), (1, .int x1), (2, .int x2), (3, .int x3), (4, .int x4), (5, .int x5), (6, .int x6), (7, .int x7), (8, .int x8)]) (S' := [.int x5]) (M' := sm g u) [pm_o (.iload 5)] (by decide +kernel) rfl ?_
              refine pm_goto (off := 15) 429 (by decide +kernel) (by decide) ?_
              have h9 := Option.some.inj h
              subst h9
              exact pm_reti rfl (by decide +kernel) rfl rfl rfl
          · rw [if_pos hc13] at h
            refine pm_blk (pc' := 404) (L' := [(0, .ref 64), (1, .int x1), (2, .int x2), (3, .int x3), (4, .int x4), (5, .int x5), (6, .int x6), (7, .int x7), (8, .int x8)]) (S' := [.int x4]) (M' := sm g u) [pm_o (.iload 4)] (by decide +kernel) rfl ?_
            refine pm_goto (off := 25) 429 (by decide +kernel) (by decide) ?_
            have h9 := Option.some.inj h
            subst h9
            exact pm_reti rfl (by decide +kernel) rfl rfl rfl
        · rw [if_pos hc12] at h
          refine pm_blk (pc' := 391) (L' := [(0, .ref 64), (1, .int x1), (2, .int x2), (3, .int x3), (4, .int x4), (5, .int x5), (6, .int x6), (7, .int x7), (8, .int x8)]) (S' := [.int x3]) (M' := sm g u) [pm_o (.iload_n 3)] (by decide +kernel) rfl ?_
          obtain ⟨q16, hq16, h⟩ := pm_bd h
          refine pm_cS (idx := 515) m_Md_bits (c_Md_bits l h0 D hT hq16) (As := [.int x3]) (S0 := []) rfl (by decide +kernel) k_Md_bits l_Md_515 (Nat.le_of_ble_eq_true rfl) (Nat.le_of_ble_eq_true rfl) (Nat.le_refl _) (Nat.le_refl _) ?_
          refine pm_blk (pc' := 394) (L' := [(0, .ref 64), (1, .int x1), (2, .int x2), (3, .int x3), (4, .int x4), (5, .int x5), (6, .int x6), (7, .int x7), (8, .int x8)]) (S' := [.int q16]) (M' := sm g u) [] (by decide +kernel) rfl ?_
          refine pm_goto (off := 35) 429 (by decide +kernel) (by decide) ?_
          have h9 := Option.some.inj h
          subst h9
          exact pm_reti rfl (by decide +kernel) rfl rfl rfl
      · rw [if_pos hc11] at h
        refine pm_blk (pc' := 381) (L' := [(0, .ref 64), (1, .int x1), (2, .int x2), (3, .int x3), (4, .int x4), (5, .int x5), (6, .int x6), (7, .int x7), (8, .int x8)]) (S' := [.int x1, .ref 92]) (M' := sm g u) [pm_o (.aload_n 0), pm_of (.getfield 98) 12 35 2, pm_o (.iload_n 1)] (by decide +kernel) rfl ?_
        obtain ⟨ho17, h⟩ := pm_ifs h
        refine pm_iald (by decide +kernel) rfl (pm_ok_in ho17) ?_
        refine pm_blk (pc' := 382) (L' := [(0, .ref 64), (1, .int x1), (2, .int x2), (3, .int x3), (4, .int x4), (5, .int x5), (6, .int x6), (7, .int x7), (8, .int x8)]) (S' := [.int (u.1 92 x1.toNatClampNeg)]) (M' := sm g u) [] (by decide +kernel) rfl ?_
        refine pm_goto (off := 47) 429 (by decide +kernel) (by decide) ?_
        have h9 := Option.some.inj h
        subst h9
        exact pm_reti rfl (by decide +kernel) rfl rfl rfl
    · rw [if_neg hc10] at h
      refine pm_blk (pc' := 124) (L' := [(0, .ref 64), (1, .int x1), (2, .int x2), (3, .int x3), (4, .int x4), (5, .int x5), (6, .int x6), (7, .int x7), (8, .int x8)]) (S' := [.int x8, .ref 77]) (M' := sm g u) [pm_o (.aload_n 0), pm_of (.getfield 53) 12 19 2, pm_o (.iload 8)] (by decide +kernel) rfl ?_
      obtain ⟨ho18, h⟩ := pm_ifs h
      refine pm_iald (by decide +kernel) rfl (pm_ok_in ho18) ?_
      refine pm_blk (pc' := 126) (L' := [(0, .ref 64), (1, .int x1), (2, .int x2), (3, .int x3), (4, .int x4), (5, .int x5), (6, .int x6), (7, .int x7), (8, .int x8)]) (S' := [.int 1, .int (u.1 77 x8.toNatClampNeg)]) (M' := sm g u) [pm_oi (.iconst 1) 1] (by decide +kernel) rfl ?_
      refine pm_ic_ne (off := 32) 158 (by decide +kernel) (by decide) (fun hc19 => ?_) (fun hc19 => ?_)
      · rw [if_neg hc19] at h
        refine pm_blk (pc' := 159) (L' := [(0, .ref 64), (1, .int x1), (2, .int x2), (3, .int x3), (4, .int x4), (5, .int x5), (6, .int x6), (7, .int x7), (8, .int x8)]) (S' := [.int 0]) (M' := sm g u) [pm_oi (.iconst 0) 0] (by decide +kernel) rfl ?_
        refine pm_loc [0, 1, 2, 3, 4, 5, 6, 7, 8] rfl ?_
        exact w_Md_def_159 l h0 D hT ih x1 x2 x3 x4 x5 x6 x7 x8 0 u h
      · rw [if_pos hc19] at h
        refine pm_blk (pc' := 135) (L' := [(0, .ref 64), (1, .int x1), (2, .int x2), (3, .int x3), (4, .int x4), (5, .int x5), (6, .int x6), (7, .int x7), (8, .int x8)]) (S' := [.int x8, .ref 88]) (M' := sm g u) [pm_o (.aload_n 0), pm_of (.getfield 86) 12 30 2, pm_o (.iload 8)] (by decide +kernel) rfl ?_
        obtain ⟨ho47, h⟩ := pm_ifs h
        refine pm_iald (by decide +kernel) rfl (pm_ok_in ho47) ?_
        refine pm_blk (pc' := 136) (L' := [(0, .ref 64), (1, .int x1), (2, .int x2), (3, .int x3), (4, .int x4), (5, .int x5), (6, .int x6), (7, .int x7), (8, .int x8)]) (S' := [.int (u.1 88 x8.toNatClampNeg)]) (M' := sm g u) [] (by decide +kernel) rfl ?_
        refine pm_if_lt (off := 22) 158 (by decide +kernel) (by decide) (fun hc48 => ?_) (fun hc48 => ?_)
        · rw [if_pos hc48] at h
          refine pm_blk (pc' := 159) (L' := [(0, .ref 64), (1, .int x1), (2, .int x2), (3, .int x3), (4, .int x4), (5, .int x5), (6, .int x6), (7, .int x7), (8, .int x8)]) (S' := [.int 0]) (M' := sm g u) [pm_oi (.iconst 0) 0] (by decide +kernel) rfl ?_
          refine pm_loc [0, 1, 2, 3, 4, 5, 6, 7, 8] rfl ?_
          exact w_Md_def_159 l h0 D hT ih x1 x2 x3 x4 x5 x6 x7 x8 0 u h
        · rw [if_neg hc48] at h
          refine pm_blk (pc' := 149) (L' := [(0, .ref 64), (1, .int x1), (2, .int x2), (3, .int x3), (4, .int x4), (5, .int x5), (6, .int x6), (7, .int x7), (8, .int x8)]) (S' := [.int x8, .ref 88, .ref 92]) (M' := sm g u) [pm_o (.aload_n 0), pm_of (.getfield 98) 12 35 2, pm_o (.aload_n 0), pm_of (.getfield 86) 12 30 2, pm_o (.iload 8)] (by decide +kernel) rfl ?_
          obtain ⟨ho49, h⟩ := pm_ifs h
          refine pm_iald (by decide +kernel) rfl (pm_ok_in ho49) ?_
          refine pm_blk (pc' := 150) (L' := [(0, .ref 64), (1, .int x1), (2, .int x2), (3, .int x3), (4, .int x4), (5, .int x5), (6, .int x6), (7, .int x7), (8, .int x8)]) (S' := [.int (u.1 88 x8.toNatClampNeg), .ref 92]) (M' := sm g u) [] (by decide +kernel) rfl ?_
          obtain ⟨ho50, h⟩ := pm_ifs h
          refine pm_iald (by decide +kernel) rfl (pm_ok_in ho50) ?_
          refine pm_blk (pc' := 151) (L' := [(0, .ref 64), (1, .int x1), (2, .int x2), (3, .int x3), (4, .int x4), (5, .int x5), (6, .int x6), (7, .int x7), (8, .int x8)]) (S' := [.int (u.1 92 ((u.1 88 x8.toNatClampNeg).toNatClampNeg))]) (M' := sm g u) [] (by decide +kernel) rfl ?_
          refine pm_if_ne (off := 7) 158 (by decide +kernel) (by decide) (fun hc51 => ?_) (fun hc51 => ?_)
          · rw [if_neg hc51] at h
            refine pm_blk (pc' := 159) (L' := [(0, .ref 64), (1, .int x1), (2, .int x2), (3, .int x3), (4, .int x4), (5, .int x5), (6, .int x6), (7, .int x7), (8, .int x8)]) (S' := [.int 0]) (M' := sm g u) [pm_oi (.iconst 0) 0] (by decide +kernel) rfl ?_
            refine pm_loc [0, 1, 2, 3, 4, 5, 6, 7, 8] rfl ?_
            exact w_Md_def_159 l h0 D hT ih x1 x2 x3 x4 x5 x6 x7 x8 0 u h
          · rw [if_pos hc51] at h
            refine pm_blk (pc' := 155) (L' := [(0, .ref 64), (1, .int x1), (2, .int x2), (3, .int x3), (4, .int x4), (5, .int x5), (6, .int x6), (7, .int x7), (8, .int x8)]) (S' := [.int 1]) (M' := sm g u) [pm_oi (.iconst 1) 1] (by decide +kernel) rfl ?_
            refine pm_goto (off := 4) 159 (by decide +kernel) (by decide) ?_
            refine pm_loc [0, 1, 2, 3, 4, 5, 6, 7, 8] rfl ?_
            exact w_Md_def_159 l h0 D hT ih x1 x2 x3 x4 x5 x6 x7 x8 1 u h
def K_Md_def_50 (N : Nat) (g : pm_s) : Nat → Int32 → Int32 → Int32 → Int32 → pm_J → Option (Int32 × pm_J)
  | 0, _, _, _, _, _ => none
  | n + 1, x1, x2, x3, x4, u => if pm_ok x1 30 = true then if (u.1 92 x1.toNatClampNeg) ≤ x4 then if pm_ok x1 30 = true then K_Md_def_107 N g N x1 x2 x3 0 0 0 0 (u.1 95 x1.toNatClampNeg) u else none else if pm_ok ((6 * x1) + x4) 180 = true then if pm_ok (u.1 99 (((6 * x1) + x4).toNatClampNeg)) 100000 = true then K_Md_def_50 N g  n x1 x2 (x3 ||| (u.1 73 ((u.1 99 (((6 * x1) + x4).toNatClampNeg)).toNatClampNeg))) (x4 + 1) u else none else none else none
set_option maxHeartbeats 4000000 in
set_option maxRecDepth 100000 in
theorem w_Md_def_50 (l : Launch) (h0 : Nat) (D : pm_D) {g : pm_s} (hT : sh_T g) {N : Nat} {u0 : pm_J} {out : Int32 × pm_J} {p : Program} {e : Env} {R : Room} {s : State} {m : MethodId} {args : Array Value} {below : List Frame} {meth : Method} {c : Code} : ∀ (n : Nat) (x1 : Int32) (x2 : Int32) (x3 : Int32) (x4 : Int32) (u : pm_J), K_Md_def_50 N g n x1 x2 x3 x4 u = some out → pm_V (p, l, e, R, s, m, args, below, meth, c) m_Md_def h0 D (g.1, g.2.1, g.1, g.2.1, 1) (pm_E (p, l, e, R, s, m, args, below, meth, c) h0 D (sm g u0) (some (.int out.1)) (sm g out.2)) 50 [(0, .ref 64), (1, .int x1), (2, .int x2), (3, .int x3), (4, .int x4)] [] (sm g u) := by
  intro n
  induction n with
  | zero => intro x1 x2 x3 x4 u h; cases h
  | succ n ih =>
    intro x1 x2 x3 x4 u h
    rw [K_Md_def_50] at h
    refine pm_blk (pc' := 57) (L' := [(0, .ref 64), (1, .int x1), (2, .int x2), (3, .int x3), (4, .int x4)]) (S' := [.int x1, .ref 92, .int x4]) (M' := sm g u) [pm_o (.iload 4), pm_o (.aload_n 0), pm_of (.getfield 98) 12 35 2, pm_o (.iload_n 1)] (by decide +kernel) rfl ?_
    obtain ⟨ho6, h⟩ := pm_ifs h
    refine pm_iald (by decide +kernel) rfl (pm_ok_in ho6) ?_
    refine pm_blk (pc' := 58) (L' := [(0, .ref 64), (1, .int x1), (2, .int x2), (3, .int x3), (4, .int x4)]) (S' := [.int (u.1 92 x1.toNatClampNeg), .int x4]) (M' := sm g u) [] (by decide +kernel) rfl ?_
    refine pm_ic_ge (off := 29) 87 (by decide +kernel) (by decide) (fun hc7 => ?_) (fun hc7 => ?_)
    · rw [if_pos hc7] at h
      refine pm_blk (pc' := 104) (L' := [(7, .int 0), (6, .int 0), (5, .int 0), (4, .int 0), (0, .ref 64), (1, .int x1), (2, .int x2), (3, .int x3)]) (S' := [.int x1, .ref 95]) (M' := sm g u) [pm_oi (.iconst 0) 0, pm_o (.istore 4), pm_oi (.iconst 0) 0, pm_o (.istore 5), pm_oi (.iconst 0) 0, pm_o (.istore 6), pm_oi (.iconst 0) 0, pm_o (.istore 7), pm_o (.aload_n 0), pm_of (.getfield 107) 12 38 2, pm_o (.iload_n 1)] (by decide +kernel) rfl ?_
      obtain ⟨ho8, h⟩ := pm_ifs h
      refine pm_iald (by decide +kernel) rfl (pm_ok_in ho8) ?_
      refine pm_blk (pc' := 107) (L' := [(8, .int (u.1 95 x1.toNatClampNeg)), (7, .int 0), (6, .int 0), (5, .int 0), (4, .int 0), (0, .ref 64), (1, .int x1), (2, .int x2), (3, .int x3)]) (S' := []) (M' := sm g u) [pm_o (.istore 8)] (by decide +kernel) rfl ?_
      refine pm_loc [5, 6, 7, 8, 4, 3, 2, 1, 0] rfl ?_
      exact w_Md_def_107 l h0 D hT N x1 x2 x3 0 0 0 0 (u.1 95 x1.toNatClampNeg) u h
    · rw [if_neg hc7] at h
      refine pm_blk (pc' := 77) (L' := [(0, .ref 64), (1, .int x1), (2, .int x2), (3, .int x3), (4, .int x4)]) (S' := [.int ((6 * x1) + x4), .ref 99, .ref 73, .int x3]) (M' := sm g u) [pm_o (.iload_n 3), pm_o (.aload_n 0), pm_of (.getfield 41) 12 14 2, pm_o (.aload_n 0), pm_of (.getfield 119) 12 42 2, pm_oi (.bipush 6) 6, pm_o (.iload_n 1), pm_o .imul, pm_o (.iload 4), pm_o .iadd] (by decide +kernel) rfl ?_
      obtain ⟨ho52, h⟩ := pm_ifs h
      refine pm_iald (by decide +kernel) rfl (pm_ok_in ho52) ?_
      refine pm_blk (pc' := 78) (L' := [(0, .ref 64), (1, .int x1), (2, .int x2), (3, .int x3), (4, .int x4)]) (S' := [.int (u.1 99 (((6 * x1) + x4).toNatClampNeg)), .ref 73, .int x3]) (M' := sm g u) [] (by decide +kernel) rfl ?_
      obtain ⟨ho53, h⟩ := pm_ifs h
      refine pm_iald (by decide +kernel) rfl (pm_ok_in ho53) ?_
      refine pm_blk (pc' := 84) (L' := [(4, .int (x4 + 1)), (3, .int (x3 ||| (u.1 73 ((u.1 99 (((6 * x1) + x4).toNatClampNeg)).toNatClampNeg)))), (0, .ref 64), (1, .int x1), (2, .int x2)]) (S' := []) (M' := sm g u) [pm_o .ior, pm_o (.istore_n 3), pm_oi (.iinc 4 1) 1] (by decide +kernel) rfl ?_
      refine pm_goto (off := -34) 50 (by decide +kernel) (by decide) ?_
      refine pm_loc [2, 3, 4, 1, 0] rfl ?_
      exact ih x1 x2 (x3 ||| (u.1 73 ((u.1 99 (((6 * x1) + x4).toNatClampNeg)).toNatClampNeg))) (x4 + 1) u h
def K_Md_def_23 (N : Nat) (g : pm_s) (x1 : Int32) (x2 : Int32) (t0 : Int32) (u : pm_J) : Option (Int32 × pm_J) := if t0 ≤ 0 then if pm_ok x1 30 = true then if pm_ok (u.1 93 x1.toNatClampNeg) 100000 = true then K_Md_def_50 N g N x1 x2 (u.1 73 ((u.1 93 x1.toNatClampNeg).toNatClampNeg)) 0 (wi u 64 2 t0) else none else none else some (0, (wi u 64 2 t0))
set_option maxHeartbeats 4000000 in
set_option maxRecDepth 100000 in
theorem w_Md_def_23 (l : Launch) (h0 : Nat) (D : pm_D) {g : pm_s} (hT : sh_T g) {N : Nat} {u0 : pm_J} {out : Int32 × pm_J} {p : Program} {e : Env} {R : Room} {s : State} {m : MethodId} {args : Array Value} {below : List Frame} {meth : Method} {c : Code} : ∀ (x1 : Int32) (x2 : Int32) (t0 : Int32) (u : pm_J), K_Md_def_23 N g x1 x2 t0 u = some out → pm_V (p, l, e, R, s, m, args, below, meth, c) m_Md_def h0 D (g.1, g.2.1, g.1, g.2.1, 1) (pm_E (p, l, e, R, s, m, args, below, meth, c) h0 D (sm g u0) (some (.int out.1)) (sm g out.2)) 23 [(0, .ref 64), (1, .int x1), (2, .int x2)] [.int t0, .ref 64] (sm g u) := by
    intro x1 x2 t0 u h
    unfold K_Md_def_23 at h
    refine pm_blk (pc' := 30) (L' := [(0, .ref 64), (1, .int x1), (2, .int x2)]) (S' := [.int t0]) (M' := sm g (wi u 64 2 t0)) [pm_of (.putfield 246) 12 2 0, pm_o (.aload_n 0), pm_of (.getfield 246) 12 2 0] (by decide +kernel) rfl ?_
    refine pm_if_le (off := 5) 35 (by decide +kernel) (by decide) (fun hc3 => ?_) (fun hc3 => ?_)
    · rw [if_pos hc3] at h
      refine pm_blk (pc' := 44) (L' := [(0, .ref 64), (1, .int x1), (2, .int x2)]) (S' := [.int x1, .ref 93, .ref 73]) (M' := sm g (wi u 64 2 t0)) [pm_o (.aload_n 0), pm_of (.getfield 41) 12 14 2, pm_o (.aload_n 0), pm_of (.getfield 101) 12 36 2, pm_o (.iload_n 1)] (by decide +kernel) rfl ?_
      obtain ⟨ho4, h⟩ := pm_ifs h
      refine pm_iald (by decide +kernel) rfl (pm_ok_in ho4) ?_
      refine pm_blk (pc' := 45) (L' := [(0, .ref 64), (1, .int x1), (2, .int x2)]) (S' := [.int (u.1 93 x1.toNatClampNeg), .ref 73]) (M' := sm g (wi u 64 2 t0)) [] (by decide +kernel) rfl ?_
      obtain ⟨ho5, h⟩ := pm_ifs h
      refine pm_iald (by decide +kernel) rfl (pm_ok_in ho5) ?_
      refine pm_blk (pc' := 50) (L' := [(4, .int 0), (3, .int (u.1 73 ((u.1 93 x1.toNatClampNeg).toNatClampNeg))), (0, .ref 64), (1, .int x1), (2, .int x2)]) (S' := []) (M' := sm g (wi u 64 2 t0)) [pm_o (.istore_n 3), pm_oi (.iconst 0) 0, pm_o (.istore 4)] (by decide +kernel) rfl ?_
      refine pm_loc [2, 3, 4, 1, 0] rfl ?_
      exact w_Md_def_50 l h0 D hT N x1 x2 (u.1 73 ((u.1 93 x1.toNatClampNeg).toNatClampNeg)) 0 (wi u 64 2 t0) h
    · rw [if_neg hc3] at h
      refine pm_blk (pc' := 34) (L' := [(0, .ref 64), (1, .int x1), (2, .int x2)]) (S' := [.int 0]) (M' := sm g (wi u 64 2 t0)) [pm_oi (.iconst 0) 0] (by decide +kernel) rfl ?_
      have h9 := Option.some.inj h
      subst h9
      exact pm_reti rfl (by decide +kernel) rfl rfl rfl
def F_Md_def (N : Nat) (a1 : Int32) (a2 : Int32) (g : pm_s) (u : pm_J) : Option (Int32 × pm_J) := (F_Md_noDef a1 g u).bind fun q1 => if q1 = 0 then if a2 < 0 then K_Md_def_23 N g a1 a2 1 u else if a2 ≤ 5 then K_Md_def_23 N g a1 a2 0 u else K_Md_def_23 N g a1 a2 1 u else K_Md_def_23 N g a1 a2 1 u
set_option maxHeartbeats 4000000 in
set_option maxRecDepth 100000 in
theorem c_Md_def (l : Launch) (h0 : Nat) (D : pm_D) {g : pm_s} {u : pm_J} (hT : sh_T g) {N : Nat} {a1 : Int32} {a2 : Int32} {out : Int32 × pm_J} (h : F_Md_def N a1 a2 g u = some out) : pm_C l h0 D m_Md_def (1) [.ref 64, .int a1, .int a2] (sm g u) (some (.int out.1)) (sm g out.2) := by
  unfold F_Md_def at h
  refine pm_met (by decide +kernel) (Nat.le_of_ble_eq_true rfl) (Nat.le_refl _) (Nat.le_refl _) ?_
  intro p e R s m args below meth c
  refine pm_blk (pc' := 3) (L' := [(0, .ref 64), (1, .int a1), (2, .int a2)]) (S' := [.int a1, .ref 64, .ref 64]) (M' := sm g u) [pm_o (.aload_n 0), pm_o (.aload_n 0), pm_o (.iload_n 1)] (by decide +kernel) rfl ?_
  obtain ⟨q1, hq1, h⟩ := pm_bd h
  refine pm_cV (idx := 512) m_Md_noDef (c_Md_noDef l h0 D hT hq1) (As := [.int a1]) (S0 := [.ref 64]) rfl (by decide +kernel) k_Md_noDef l_Md_512 (Nat.le_of_ble_eq_true rfl) (Nat.le_of_ble_eq_true rfl) (Nat.le_refl _) (Nat.le_refl _) ?_
  refine pm_blk (pc' := 6) (L' := [(0, .ref 64), (1, .int a1), (2, .int a2)]) (S' := [.int q1, .ref 64]) (M' := sm g u) [] (by decide +kernel) rfl ?_
  refine pm_if_ne (off := 12) 18 (by decide +kernel) (by decide) (fun hc2 => ?_) (fun hc2 => ?_)
  · rw [if_neg hc2] at h
    refine pm_blk (pc' := 19) (L' := [(0, .ref 64), (1, .int a1), (2, .int a2)]) (S' := [.int 1, .ref 64]) (M' := sm g u) [pm_oi (.iconst 1) 1] (by decide +kernel) rfl ?_
    refine pm_goto (off := 4) 23 (by decide +kernel) (by decide) ?_
    refine pm_loc [0, 1, 2] rfl ?_
    exact w_Md_def_23 l h0 D hT a1 a2 1 u h
  · rw [if_pos hc2] at h
    refine pm_blk (pc' := 10) (L' := [(0, .ref 64), (1, .int a1), (2, .int a2)]) (S' := [.int a2, .ref 64]) (M' := sm g u) [pm_o (.iload_n 2)] (by decide +kernel) rfl ?_
    refine pm_if_lt (off := 8) 18 (by decide +kernel) (by decide) (fun hc54 => ?_) (fun hc54 => ?_)
    · rw [if_pos hc54] at h
      refine pm_blk (pc' := 19) (L' := [(0, .ref 64), (1, .int a1), (2, .int a2)]) (S' := [.int 1, .ref 64]) (M' := sm g u) [pm_oi (.iconst 1) 1] (by decide +kernel) rfl ?_
      refine pm_goto (off := 4) 23 (by decide +kernel) (by decide) ?_
      refine pm_loc [0, 1, 2] rfl ?_
      exact w_Md_def_23 l h0 D hT a1 a2 1 u h
    · rw [if_neg hc54] at h
      refine pm_blk (pc' := 15) (L' := [(0, .ref 64), (1, .int a1), (2, .int a2)]) (S' := [.int 5, .int a2, .ref 64]) (M' := sm g u) [pm_o (.iload_n 2), pm_oi (.iconst 5) 5] (by decide +kernel) rfl ?_
      refine pm_ic_le (off := 7) 22 (by decide +kernel) (by decide) (fun hc55 => ?_) (fun hc55 => ?_)
      · rw [if_pos hc55] at h
        refine pm_blk (pc' := 23) (L' := [(0, .ref 64), (1, .int a1), (2, .int a2)]) (S' := [.int 0, .ref 64]) (M' := sm g u) [pm_oi (.iconst 0) 0] (by decide +kernel) rfl ?_
        refine pm_loc [0, 1, 2] rfl ?_
        exact w_Md_def_23 l h0 D hT a1 a2 0 u h
      · rw [if_neg hc55] at h
        refine pm_blk (pc' := 19) (L' := [(0, .ref 64), (1, .int a1), (2, .int a2)]) (S' := [.int 1, .ref 64]) (M' := sm g u) [pm_oi (.iconst 1) 1] (by decide +kernel) rfl ?_
        refine pm_goto (off := 4) 23 (by decide +kernel) (by decide) ?_
        refine pm_loc [0, 1, 2] rfl ?_
        exact w_Md_def_23 l h0 D hT a1 a2 1 u h
def F_Md_make (g : pm_s) (u : pm_J) : Option (Int32 × pm_J) := if (u.1 64 81) = 4000 then some (0, (wi u 64 96 4)) else some (((u.1 64 81) + 1) - 1, (wi u 64 81 ((u.1 64 81) + 1)))
set_option maxHeartbeats 4000000 in
set_option maxRecDepth 100000 in
theorem c_Md_make (l : Launch) (h0 : Nat) (D : pm_D) {g : pm_s} {u : pm_J} (hT : sh_T g) {out : Int32 × pm_J} (h : F_Md_make g u = some out) : pm_C l h0 D m_Md_make (2) [.ref 64] (sm g u) (some (.int out.1)) (sm g out.2) := by
  unfold F_Md_make at h
  refine pm_met (by decide +kernel) (Nat.le_of_ble_eq_true rfl) (Nat.le_refl _) (Nat.le_refl _) ?_
  intro p e R s m args below meth c
  refine pm_blk (pc' := 7) (L' := [(0, .ref 64)]) (S' := [.int 4000, .int (u.1 64 81)]) (M' := sm g u) [pm_o (.aload_n 0), pm_of (.getfield 521) 12 81 0, pm_oi (.sipush 4000) 4000] (by decide +kernel) rfl ?_
  refine pm_ic_ne (off := 10) 17 (by decide +kernel) (by decide) (fun hc1 => ?_) (fun hc1 => ?_)
  · rw [if_neg hc1] at h
    refine pm_blk (pc' := 33) (L' := [(0, .ref 64)]) (S' := [.int (((u.1 64 81) + 1) - 1)]) (M' := sm g (wi u 64 81 ((u.1 64 81) + 1))) [pm_o (.aload_n 0), pm_o .dup, pm_of (.getfield 521) 12 81 0, pm_oi (.iconst 1) 1, pm_o .iadd, pm_of (.putfield 521) 12 81 0, pm_o (.aload_n 0), pm_of (.getfield 521) 12 81 0, pm_oi (.iconst 1) 1, pm_o .isub] (by decide +kernel) rfl ?_
    have h9 := Option.some.inj h
    subst h9
    exact pm_reti rfl (by decide +kernel) rfl rfl rfl
  · rw [if_pos hc1] at h
    refine pm_blk (pc' := 16) (L' := [(0, .ref 64)]) (S' := [.int 0]) (M' := sm g (wi u 64 96 4)) [pm_o (.aload_n 0), pm_oi (.iconst 4) 4, pm_of (.putfield 533) 12 96 0, pm_oi (.iconst 0) 0] (by decide +kernel) rfl ?_
    have h9 := Option.some.inj h
    subst h9
    exact pm_reti rfl (by decide +kernel) rfl rfl rfl
def F_Md_makePair (a1 : Int32) (a2 : Int64) (a3 : Int32) (a4 : Int64) (g : pm_s) (u : pm_J) : Option (pm_J) := (F_Md_make g u).bind fun q1 => if (q1.2.1 64 96) = 0 then if pm_ok q1.1 4000 = true then if pm_ok q1.1 4000 = true then if pm_ok q1.1 4000 = true then if pm_ok q1.1 4000 = true then some (wj (wi (wi (wj (wi (wj (wi q1.2 119 q1.1.toNatClampNeg a1) 120 q1.1.toNatClampNeg a2) 121 q1.1.toNatClampNeg a3) 122 q1.1.toNatClampNeg a4) 64 102 ((q1.2.1 64 102) + 1)) 64 108 2) 64 109 q1.1.toInt64) else none else none else none else none else some q1.2
set_option maxHeartbeats 4000000 in
set_option maxRecDepth 100000 in
theorem c_Md_makePair (l : Launch) (h0 : Nat) (D : pm_D) {g : pm_s} {u : pm_J} (hT : sh_T g) {a1 : Int32} {a2 : Int64} {a3 : Int32} {a4 : Int64} {out : pm_J} (h : F_Md_makePair a1 a2 a3 a4 g u = some out) : pm_C l h0 D m_Md_makePair (3) [.ref 64, .int a1, .long a2, .int a3, .long a4] (sm g u) none (sm g out) := by
  unfold F_Md_makePair at h
  refine pm_met (by decide +kernel) (Nat.le_of_ble_eq_true rfl) (Nat.le_refl _) (Nat.le_refl _) ?_
  intro p e R s m args below meth c
  refine pm_blk (pc' := 1) (L' := [(0, .ref 64), (1, .int a1), (2, .long a2), (4, .int a3), (5, .long a4)]) (S' := [.ref 64]) (M' := sm g u) [pm_o (.aload_n 0)] (by decide +kernel) rfl ?_
  obtain ⟨q1, hq1, h⟩ := pm_bd h
  refine pm_cV (idx := 560) m_Md_make (c_Md_make l h0 D hT hq1) (As := []) (S0 := []) rfl (by decide +kernel) k_Md_make l_Md_560 (Nat.le_of_ble_eq_true rfl) (Nat.le_of_ble_eq_true rfl) (Nat.le_refl _) (Nat.le_refl _) ?_
  refine pm_blk (pc' := 10) (L' := [(7, .int q1.1), (0, .ref 64), (1, .int a1), (2, .long a2), (4, .int a3), (5, .long a4)]) (S' := [.int (q1.2.1 64 96)]) (M' := sm g q1.2) [pm_o (.istore 7), pm_o (.aload_n 0), pm_of (.getfield 533) 12 96 0] (by decide +kernel) rfl ?_
  refine pm_if_ne (off := 59) 69 (by decide +kernel) (by decide) (fun hc2 => ?_) (fun hc2 => ?_)
  · rw [if_neg hc2] at h
    have h9 := Option.some.inj h
    subst h9
    exact pm_retv rfl (by decide +kernel) rfl rfl
  · rw [if_pos hc2] at h
    refine pm_blk (pc' := 20) (L' := [(7, .int q1.1), (0, .ref 64), (1, .int a1), (2, .long a2), (4, .int a3), (5, .long a4)]) (S' := [.int a1, .int q1.1, .ref 119]) (M' := sm g q1.2) [pm_o (.aload_n 0), pm_of (.getfield 180) 12 77 2, pm_o (.iload 7), pm_o (.iload_n 1)] (by decide +kernel) rfl ?_
    obtain ⟨ho3, h⟩ := pm_ifs h
    refine pm_iast (by decide +kernel) rfl  (pm_ok_in ho3) ?_
    refine pm_blk (pc' := 28) (L' := [(7, .int q1.1), (0, .ref 64), (1, .int a1), (2, .long a2), (4, .int a3), (5, .long a4)]) (S' := [.long a2, .int q1.1, .ref 120]) (M' := sm g (wi q1.2 119 q1.1.toNatClampNeg a1)) [pm_o (.aload_n 0), pm_of (.getfield 183) 12 78 2, pm_o (.iload 7), pm_o (.lload_n 2)] (by decide +kernel) rfl ?_
    obtain ⟨ho4, h⟩ := pm_ifs h
    refine pm_last (by decide +kernel) rfl  (pm_ok_in ho4) ?_
    refine pm_blk (pc' := 37) (L' := [(7, .int q1.1), (0, .ref 64), (1, .int a1), (2, .long a2), (4, .int a3), (5, .long a4)]) (S' := [.int a3, .int q1.1, .ref 121]) (M' := sm g (wj (wi q1.2 119 q1.1.toNatClampNeg a1) 120 q1.1.toNatClampNeg a2)) [pm_o (.aload_n 0), pm_of (.getfield 186) 12 79 2, pm_o (.iload 7), pm_o (.iload 4)] (by decide +kernel) rfl ?_
    obtain ⟨ho5, h⟩ := pm_ifs h
    refine pm_iast (by decide +kernel) rfl  (pm_ok_in ho5) ?_
    refine pm_blk (pc' := 46) (L' := [(7, .int q1.1), (0, .ref 64), (1, .int a1), (2, .long a2), (4, .int a3), (5, .long a4)]) (S' := [.long a4, .int q1.1, .ref 122]) (M' := sm g (wi (wj (wi q1.2 119 q1.1.toNatClampNeg a1) 120 q1.1.toNatClampNeg a2) 121 q1.1.toNatClampNeg a3)) [pm_o (.aload_n 0), pm_of (.getfield 189) 12 80 2, pm_o (.iload 7), pm_o (.lload 5)] (by decide +kernel) rfl ?_
    obtain ⟨ho6, h⟩ := pm_ifs h
    refine pm_last (by decide +kernel) rfl  (pm_ok_in ho6) ?_
    refine pm_blk (pc' := 69) (L' := [(7, .int q1.1), (0, .ref 64), (1, .int a1), (2, .long a2), (4, .int a3), (5, .long a4)]) (S' := []) (M' := sm g (wj (wi (wi (wj (wi (wj (wi q1.2 119 q1.1.toNatClampNeg a1) 120 q1.1.toNatClampNeg a2) 121 q1.1.toNatClampNeg a3) 122 q1.1.toNatClampNeg a4) 64 102 ((q1.2.1 64 102) + 1)) 64 108 2) 64 109 q1.1.toInt64)) [pm_o (.aload_n 0), pm_o .dup, pm_of (.getfield 548) 12 102 0, pm_oi (.iconst 1) 1, pm_o .iadd, pm_of (.putfield 548) 12 102 0, pm_o (.aload_n 0), pm_oi (.iconst 2) 2, pm_of (.putfield 563) 12 108 0, pm_o (.aload_n 0), pm_o (.iload 7), pm_o .i2l, pm_of (.putfield 566) 12 109 1] (by decide +kernel) rfl ?_
    have h9 := Option.some.inj h
    subst h9
    exact pm_retv rfl (by decide +kernel) rfl rfl
def F_Md_ask (a1 : Int32) (a2 : Int32) (a3 : Int32) (a4 : Int32) (a5 : Int64) (g : pm_s) (u : pm_J) : Option (pm_J) := if pm_ok (u.1 64 115) 9000 = true then if pm_ok (u.1 64 115) 9000 = true then if pm_ok (u.1 64 115) 9000 = true then if pm_ok (u.1 64 115) 9000 = true then if pm_ok (u.1 64 115) 9000 = true then some (wi (wj (wi (wi (wi (wi u 132 ((u.1 64 115).toNatClampNeg) a1) 133 ((u.1 64 115).toNatClampNeg) a2) 134 ((u.1 64 115).toNatClampNeg) a3) 135 ((u.1 64 115).toNatClampNeg) a4) 136 ((u.1 64 115).toNatClampNeg) a5) 64 115 ((u.1 64 115) + 1)) else none else none else none else none else none
set_option maxHeartbeats 4000000 in
set_option maxRecDepth 100000 in
theorem c_Md_ask (l : Launch) (h0 : Nat) (D : pm_D) {g : pm_s} {u : pm_J} (hT : sh_T g) {a1 : Int32} {a2 : Int32} {a3 : Int32} {a4 : Int32} {a5 : Int64} {out : pm_J} (h : F_Md_ask a1 a2 a3 a4 a5 g u = some out) : pm_C l h0 D m_Md_ask (0) [.ref 64, .int a1, .int a2, .int a3, .int a4, .long a5] (sm g u) none (sm g out) := by
  unfold F_Md_ask at h
  refine pm_met (by decide +kernel) (Nat.le_of_ble_eq_true rfl) (Nat.le_refl _) (Nat.le_refl _) ?_
  intro p e R s m args below meth c
  refine pm_blk (pc' := 9) (L' := [(0, .ref 64), (1, .int a1), (2, .int a2), (3, .int a3), (4, .int a4), (5, .long a5)]) (S' := [.int a1, .int (u.1 64 115), .ref 132]) (M' := sm g u) [pm_o (.aload_n 0), pm_of (.getfield 219) 12 110 2, pm_o (.aload_n 0), pm_of (.getfield 569) 12 115 0, pm_o (.iload_n 1)] (by decide +kernel) rfl ?_
  obtain ⟨ho1, h⟩ := pm_ifs h
  refine pm_iast (by decide +kernel) rfl  (pm_ok_in ho1) ?_
  refine pm_blk (pc' := 19) (L' := [(0, .ref 64), (1, .int a1), (2, .int a2), (3, .int a3), (4, .int a4), (5, .long a5)]) (S' := [.int a2, .int (u.1 64 115), .ref 133]) (M' := sm g (wi u 132 ((u.1 64 115).toNatClampNeg) a1)) [pm_o (.aload_n 0), pm_of (.getfield 222) 12 111 2, pm_o (.aload_n 0), pm_of (.getfield 569) 12 115 0, pm_o (.iload_n 2)] (by decide +kernel) rfl ?_
  obtain ⟨ho2, h⟩ := pm_ifs h
  refine pm_iast (by decide +kernel) rfl  (pm_ok_in ho2) ?_
  refine pm_blk (pc' := 29) (L' := [(0, .ref 64), (1, .int a1), (2, .int a2), (3, .int a3), (4, .int a4), (5, .long a5)]) (S' := [.int a3, .int (u.1 64 115), .ref 134]) (M' := sm g (wi (wi u 132 ((u.1 64 115).toNatClampNeg) a1) 133 ((u.1 64 115).toNatClampNeg) a2)) [pm_o (.aload_n 0), pm_of (.getfield 225) 12 112 2, pm_o (.aload_n 0), pm_of (.getfield 569) 12 115 0, pm_o (.iload_n 3)] (by decide +kernel) rfl ?_
  obtain ⟨ho3, h⟩ := pm_ifs h
  refine pm_iast (by decide +kernel) rfl  (pm_ok_in ho3) ?_
  refine pm_blk (pc' := 40) (L' := [(0, .ref 64), (1, .int a1), (2, .int a2), (3, .int a3), (4, .int a4), (5, .long a5)]) (S' := [.int a4, .int (u.1 64 115), .ref 135]) (M' := sm g (wi (wi (wi u 132 ((u.1 64 115).toNatClampNeg) a1) 133 ((u.1 64 115).toNatClampNeg) a2) 134 ((u.1 64 115).toNatClampNeg) a3)) [pm_o (.aload_n 0), pm_of (.getfield 228) 12 113 2, pm_o (.aload_n 0), pm_of (.getfield 569) 12 115 0, pm_o (.iload 4)] (by decide +kernel) rfl ?_
  obtain ⟨ho4, h⟩ := pm_ifs h
  refine pm_iast (by decide +kernel) rfl  (pm_ok_in ho4) ?_
  refine pm_blk (pc' := 51) (L' := [(0, .ref 64), (1, .int a1), (2, .int a2), (3, .int a3), (4, .int a4), (5, .long a5)]) (S' := [.long a5, .int (u.1 64 115), .ref 136]) (M' := sm g (wi (wi (wi (wi u 132 ((u.1 64 115).toNatClampNeg) a1) 133 ((u.1 64 115).toNatClampNeg) a2) 134 ((u.1 64 115).toNatClampNeg) a3) 135 ((u.1 64 115).toNatClampNeg) a4)) [pm_o (.aload_n 0), pm_of (.getfield 231) 12 114 2, pm_o (.aload_n 0), pm_of (.getfield 569) 12 115 0, pm_o (.lload 5)] (by decide +kernel) rfl ?_
  obtain ⟨ho5, h⟩ := pm_ifs h
  refine pm_last (by decide +kernel) rfl  (pm_ok_in ho5) ?_
  refine pm_blk (pc' := 62) (L' := [(0, .ref 64), (1, .int a1), (2, .int a2), (3, .int a3), (4, .int a4), (5, .long a5)]) (S' := []) (M' := sm g (wi (wj (wi (wi (wi (wi u 132 ((u.1 64 115).toNatClampNeg) a1) 133 ((u.1 64 115).toNatClampNeg) a2) 134 ((u.1 64 115).toNatClampNeg) a3) 135 ((u.1 64 115).toNatClampNeg) a4) 136 ((u.1 64 115).toNatClampNeg) a5) 64 115 ((u.1 64 115) + 1))) [pm_o (.aload_n 0), pm_o .dup, pm_of (.getfield 569) 12 115 0, pm_oi (.iconst 1) 1, pm_o .iadd, pm_of (.putfield 569) 12 115 0] (by decide +kernel) rfl ?_
  have h9 := Option.some.inj h
  subst h9
  exact pm_retv rfl (by decide +kernel) rfl rfl
def F_Md_answer (a1 : Int32) (a2 : Int64) (g : pm_s) (u : pm_J) : Option (pm_J) := if pm_ok (u.1 64 118) 9000 = true then if pm_ok (u.1 64 118) 9000 = true then some (wi (wj (wi u 137 ((u.1 64 118).toNatClampNeg) a1) 138 ((u.1 64 118).toNatClampNeg) a2) 64 118 ((u.1 64 118) + 1)) else none else none
set_option maxHeartbeats 4000000 in
set_option maxRecDepth 100000 in
theorem c_Md_answer (l : Launch) (h0 : Nat) (D : pm_D) {g : pm_s} {u : pm_J} (hT : sh_T g) {a1 : Int32} {a2 : Int64} {out : pm_J} (h : F_Md_answer a1 a2 g u = some out) : pm_C l h0 D m_Md_answer (0) [.ref 64, .int a1, .long a2] (sm g u) none (sm g out) := by
  unfold F_Md_answer at h
  refine pm_met (by decide +kernel) (Nat.le_of_ble_eq_true rfl) (Nat.le_refl _) (Nat.le_refl _) ?_
  intro p e R s m args below meth c
  refine pm_blk (pc' := 9) (L' := [(0, .ref 64), (1, .int a1), (2, .long a2)]) (S' := [.int a1, .int (u.1 64 118), .ref 137]) (M' := sm g u) [pm_o (.aload_n 0), pm_of (.getfield 234) 12 116 2, pm_o (.aload_n 0), pm_of (.getfield 572) 12 118 0, pm_o (.iload_n 1)] (by decide +kernel) rfl ?_
  obtain ⟨ho1, h⟩ := pm_ifs h
  refine pm_iast (by decide +kernel) rfl  (pm_ok_in ho1) ?_
  refine pm_blk (pc' := 19) (L' := [(0, .ref 64), (1, .int a1), (2, .long a2)]) (S' := [.long a2, .int (u.1 64 118), .ref 138]) (M' := sm g (wi u 137 ((u.1 64 118).toNatClampNeg) a1)) [pm_o (.aload_n 0), pm_of (.getfield 237) 12 117 2, pm_o (.aload_n 0), pm_of (.getfield 572) 12 118 0, pm_o (.lload_n 2)] (by decide +kernel) rfl ?_
  obtain ⟨ho2, h⟩ := pm_ifs h
  refine pm_last (by decide +kernel) rfl  (pm_ok_in ho2) ?_
  refine pm_blk (pc' := 30) (L' := [(0, .ref 64), (1, .int a1), (2, .long a2)]) (S' := []) (M' := sm g (wi (wj (wi u 137 ((u.1 64 118).toNatClampNeg) a1) 138 ((u.1 64 118).toNatClampNeg) a2) 64 118 ((u.1 64 118) + 1))) [pm_o (.aload_n 0), pm_o .dup, pm_of (.getfield 572) 12 118 0, pm_oi (.iconst 1) 1, pm_o .iadd, pm_of (.putfield 572) 12 118 0] (by decide +kernel) rfl ?_
  have h9 := Option.some.inj h
  subst h9
  exact pm_retv rfl (by decide +kernel) rfl rfl
def F_Md_coverOf (a1 : Int32) (a2 : Int32) (a3 : Int32) (a4 : Int32) (a5 : Int64) (g : pm_s) (u : pm_J) : Option (pm_J) := (F_Md_make g u).bind fun q1 => if (q1.2.1 64 96) = 0 then if pm_ok q1.1 4000 = true then if pm_ok q1.1 4000 = true then if pm_ok q1.1 4000 = true then if pm_ok q1.1 4000 = true then if pm_ok q1.1 4000 = true then if pm_ok q1.1 4000 = true then (F_Md_answer 3 q1.1.toInt64 g (wi (wj (wi (wi (wi (wi (wi q1.2 115 q1.1.toNatClampNeg 1) 116 q1.1.toNatClampNeg a1) 117 q1.1.toNatClampNeg a2) 118 q1.1.toNatClampNeg a3) 119 q1.1.toNatClampNeg a4) 120 q1.1.toNatClampNeg a5) 64 101 ((q1.2.1 64 101) + 1))).bind fun q9 => some q9 else none else none else none else none else none else none else some q1.2
set_option maxHeartbeats 4000000 in
set_option maxRecDepth 100000 in
theorem c_Md_coverOf (l : Launch) (h0 : Nat) (D : pm_D) {g : pm_s} {u : pm_J} (hT : sh_T g) {a1 : Int32} {a2 : Int32} {a3 : Int32} {a4 : Int32} {a5 : Int64} {out : pm_J} (h : F_Md_coverOf a1 a2 a3 a4 a5 g u = some out) : pm_C l h0 D m_Md_coverOf (3) [.ref 64, .int a1, .int a2, .int a3, .int a4, .long a5] (sm g u) none (sm g out) := by
  unfold F_Md_coverOf at h
  refine pm_met (by decide +kernel) (Nat.le_of_ble_eq_true rfl) (Nat.le_refl _) (Nat.le_refl _) ?_
  intro p e R s m args below meth c
  refine pm_blk (pc' := 1) (L' := [(0, .ref 64), (1, .int a1), (2, .int a2), (3, .int a3), (4, .int a4), (5, .long a5)]) (S' := [.ref 64]) (M' := sm g u) [pm_o (.aload_n 0)] (by decide +kernel) rfl ?_
  obtain ⟨q1, hq1, h⟩ := pm_bd h
  refine pm_cV (idx := 560) m_Md_make (c_Md_make l h0 D hT hq1) (As := []) (S0 := []) rfl (by decide +kernel) k_Md_make l_Md_560 (Nat.le_of_ble_eq_true rfl) (Nat.le_of_ble_eq_true rfl) (Nat.le_refl _) (Nat.le_refl _) ?_
  refine pm_blk (pc' := 10) (L' := [(7, .int q1.1), (0, .ref 64), (1, .int a1), (2, .int a2), (3, .int a3), (4, .int a4), (5, .long a5)]) (S' := [.int (q1.2.1 64 96)]) (M' := sm g q1.2) [pm_o (.istore 7), pm_o (.aload_n 0), pm_of (.getfield 533) 12 96 0] (by decide +kernel) rfl ?_
  refine pm_if_ne (off := 71) 81 (by decide +kernel) (by decide) (fun hc2 => ?_) (fun hc2 => ?_)
  · rw [if_neg hc2] at h
    have h9 := Option.some.inj h
    subst h9
    exact pm_retv rfl (by decide +kernel) rfl rfl
  · rw [if_pos hc2] at h
    refine pm_blk (pc' := 20) (L' := [(7, .int q1.1), (0, .ref 64), (1, .int a1), (2, .int a2), (3, .int a3), (4, .int a4), (5, .long a5)]) (S' := [.int 1, .int q1.1, .ref 115]) (M' := sm g q1.2) [pm_o (.aload_n 0), pm_of (.getfield 168) 12 73 2, pm_o (.iload 7), pm_oi (.iconst 1) 1] (by decide +kernel) rfl ?_
    obtain ⟨ho3, h⟩ := pm_ifs h
    refine pm_zast (by decide +kernel) rfl rfl (pm_ok_in ho3) ?_
    refine pm_blk (pc' := 28) (L' := [(7, .int q1.1), (0, .ref 64), (1, .int a1), (2, .int a2), (3, .int a3), (4, .int a4), (5, .long a5)]) (S' := [.int a1, .int q1.1, .ref 116]) (M' := sm g (wi q1.2 115 q1.1.toNatClampNeg 1)) [pm_o (.aload_n 0), pm_of (.getfield 171) 12 74 2, pm_o (.iload 7), pm_o (.iload_n 1)] (by decide +kernel) rfl ?_
    obtain ⟨ho4, h⟩ := pm_ifs h
    refine pm_iast (by decide +kernel) rfl  (pm_ok_in ho4) ?_
    refine pm_blk (pc' := 36) (L' := [(7, .int q1.1), (0, .ref 64), (1, .int a1), (2, .int a2), (3, .int a3), (4, .int a4), (5, .long a5)]) (S' := [.int a2, .int q1.1, .ref 117]) (M' := sm g (wi (wi q1.2 115 q1.1.toNatClampNeg 1) 116 q1.1.toNatClampNeg a1)) [pm_o (.aload_n 0), pm_of (.getfield 174) 12 75 2, pm_o (.iload 7), pm_o (.iload_n 2)] (by decide +kernel) rfl ?_
    obtain ⟨ho5, h⟩ := pm_ifs h
    refine pm_iast (by decide +kernel) rfl  (pm_ok_in ho5) ?_
    refine pm_blk (pc' := 44) (L' := [(7, .int q1.1), (0, .ref 64), (1, .int a1), (2, .int a2), (3, .int a3), (4, .int a4), (5, .long a5)]) (S' := [.int a3, .int q1.1, .ref 118]) (M' := sm g (wi (wi (wi q1.2 115 q1.1.toNatClampNeg 1) 116 q1.1.toNatClampNeg a1) 117 q1.1.toNatClampNeg a2)) [pm_o (.aload_n 0), pm_of (.getfield 177) 12 76 2, pm_o (.iload 7), pm_o (.iload_n 3)] (by decide +kernel) rfl ?_
    obtain ⟨ho6, h⟩ := pm_ifs h
    refine pm_iast (by decide +kernel) rfl  (pm_ok_in ho6) ?_
    refine pm_blk (pc' := 53) (L' := [(7, .int q1.1), (0, .ref 64), (1, .int a1), (2, .int a2), (3, .int a3), (4, .int a4), (5, .long a5)]) (S' := [.int a4, .int q1.1, .ref 119]) (M' := sm g (wi (wi (wi (wi q1.2 115 q1.1.toNatClampNeg 1) 116 q1.1.toNatClampNeg a1) 117 q1.1.toNatClampNeg a2) 118 q1.1.toNatClampNeg a3)) [pm_o (.aload_n 0), pm_of (.getfield 180) 12 77 2, pm_o (.iload 7), pm_o (.iload 4)] (by decide +kernel) rfl ?_
    obtain ⟨ho7, h⟩ := pm_ifs h
    refine pm_iast (by decide +kernel) rfl  (pm_ok_in ho7) ?_
    refine pm_blk (pc' := 62) (L' := [(7, .int q1.1), (0, .ref 64), (1, .int a1), (2, .int a2), (3, .int a3), (4, .int a4), (5, .long a5)]) (S' := [.long a5, .int q1.1, .ref 120]) (M' := sm g (wi (wi (wi (wi (wi q1.2 115 q1.1.toNatClampNeg 1) 116 q1.1.toNatClampNeg a1) 117 q1.1.toNatClampNeg a2) 118 q1.1.toNatClampNeg a3) 119 q1.1.toNatClampNeg a4)) [pm_o (.aload_n 0), pm_of (.getfield 183) 12 78 2, pm_o (.iload 7), pm_o (.lload 5)] (by decide +kernel) rfl ?_
    obtain ⟨ho8, h⟩ := pm_ifs h
    refine pm_last (by decide +kernel) rfl  (pm_ok_in ho8) ?_
    refine pm_blk (pc' := 78) (L' := [(7, .int q1.1), (0, .ref 64), (1, .int a1), (2, .int a2), (3, .int a3), (4, .int a4), (5, .long a5)]) (S' := [.long q1.1.toInt64, .int 3, .ref 64]) (M' := sm g (wi (wj (wi (wi (wi (wi (wi q1.2 115 q1.1.toNatClampNeg 1) 116 q1.1.toNatClampNeg a1) 117 q1.1.toNatClampNeg a2) 118 q1.1.toNatClampNeg a3) 119 q1.1.toNatClampNeg a4) 120 q1.1.toNatClampNeg a5) 64 101 ((q1.2.1 64 101) + 1))) [pm_o (.aload_n 0), pm_o .dup, pm_of (.getfield 545) 12 101 0, pm_oi (.iconst 1) 1, pm_o .iadd, pm_of (.putfield 545) 12 101 0, pm_o (.aload_n 0), pm_oi (.iconst 3) 3, pm_o (.iload 7), pm_o .i2l] (by decide +kernel) rfl ?_
    obtain ⟨q9, hq9, h⟩ := pm_bd h
    refine pm_cV (idx := 575) m_Md_answer (c_Md_answer l h0 D hT hq9) (As := [.int 3, .long q1.1.toInt64]) (S0 := []) rfl (by decide +kernel) k_Md_answer l_Md_575 (Nat.le_of_ble_eq_true rfl) (Nat.le_of_ble_eq_true rfl) (Nat.le_refl _) (Nat.le_refl _) ?_
    refine pm_blk (pc' := 81) (L' := [(7, .int q1.1), (0, .ref 64), (1, .int a1), (2, .int a2), (3, .int a3), (4, .int a4), (5, .long a5)]) (S' := []) (M' := sm g q9) [] (by decide +kernel) rfl ?_
    have h9 := Option.some.inj h
    subst h9
    exact pm_retv rfl (by decide +kernel) rfl rfl
def F_Md_boxOne (a1 : Int32) (a2 : Int32) (a3 : Int64) (g : pm_s) (u : pm_J) : Option (pm_J) := if a1 = 0 then if pm_ok a3.toInt32 4000 = true then if pm_ok a3.toInt32 4000 = true then (F_Md_answer (u.1 119 a3.toInt32.toNatClampNeg) (u.2 120 a3.toInt32.toNatClampNeg) g (wi u 64 100 ((u.1 64 100) + 1))).bind fun q9 => some q9 else none else none else (F_Md_make g u).bind fun q2 => if (q2.2.1 64 96) = 0 then if pm_ok q2.1 4000 = true then if pm_ok q2.1 4000 = true then (F_Md_answer 4 q2.1.toInt64 g (wi (wj (wi q2.2 119 q2.1.toNatClampNeg a2) 120 q2.1.toNatClampNeg a3) 64 99 ((q2.2.1 64 99) + 1))).bind fun q6 => some q6 else none else none else some q2.2
set_option maxHeartbeats 4000000 in
set_option maxRecDepth 100000 in
theorem c_Md_boxOne (l : Launch) (h0 : Nat) (D : pm_D) {g : pm_s} {u : pm_J} (hT : sh_T g) {a1 : Int32} {a2 : Int32} {a3 : Int64} {out : pm_J} (h : F_Md_boxOne a1 a2 a3 g u = some out) : pm_C l h0 D m_Md_boxOne (3) [.ref 64, .int a1, .int a2, .long a3] (sm g u) none (sm g out) := by
  unfold F_Md_boxOne at h
  refine pm_met (by decide +kernel) (Nat.le_of_ble_eq_true rfl) (Nat.le_refl _) (Nat.le_refl _) ?_
  intro p e R s m args below meth c
  refine pm_blk (pc' := 1) (L' := [(0, .ref 64), (1, .int a1), (2, .int a2), (3, .long a3)]) (S' := [.int a1]) (M' := sm g u) [pm_o (.iload_n 1)] (by decide +kernel) rfl ?_
  refine pm_if_ne (off := 32) 33 (by decide +kernel) (by decide) (fun hc1 => ?_) (fun hc1 => ?_)
  · rw [if_neg hc1] at h
    refine pm_blk (pc' := 34) (L' := [(0, .ref 64), (1, .int a1), (2, .int a2), (3, .long a3)]) (S' := [.ref 64]) (M' := sm g u) [pm_o (.aload_n 0)] (by decide +kernel) rfl ?_
    obtain ⟨q2, hq2, h⟩ := pm_bd h
    refine pm_cV (idx := 560) m_Md_make (c_Md_make l h0 D hT hq2) (As := []) (S0 := []) rfl (by decide +kernel) k_Md_make l_Md_560 (Nat.le_of_ble_eq_true rfl) (Nat.le_of_ble_eq_true rfl) (Nat.le_refl _) (Nat.le_refl _) ?_
    refine pm_blk (pc' := 43) (L' := [(5, .int q2.1), (0, .ref 64), (1, .int a1), (2, .int a2), (3, .long a3)]) (S' := [.int (q2.2.1 64 96)]) (M' := sm g q2.2) [pm_o (.istore 5), pm_o (.aload_n 0), pm_of (.getfield 533) 12 96 0] (by decide +kernel) rfl ?_
    refine pm_if_ne (off := 37) 80 (by decide +kernel) (by decide) (fun hc3 => ?_) (fun hc3 => ?_)
    · rw [if_neg hc3] at h
      have h9 := Option.some.inj h
      subst h9
      exact pm_retv rfl (by decide +kernel) rfl rfl
    · rw [if_pos hc3] at h
      refine pm_blk (pc' := 53) (L' := [(5, .int q2.1), (0, .ref 64), (1, .int a1), (2, .int a2), (3, .long a3)]) (S' := [.int a2, .int q2.1, .ref 119]) (M' := sm g q2.2) [pm_o (.aload_n 0), pm_of (.getfield 180) 12 77 2, pm_o (.iload 5), pm_o (.iload_n 2)] (by decide +kernel) rfl ?_
      obtain ⟨ho4, h⟩ := pm_ifs h
      refine pm_iast (by decide +kernel) rfl  (pm_ok_in ho4) ?_
      refine pm_blk (pc' := 61) (L' := [(5, .int q2.1), (0, .ref 64), (1, .int a1), (2, .int a2), (3, .long a3)]) (S' := [.long a3, .int q2.1, .ref 120]) (M' := sm g (wi q2.2 119 q2.1.toNatClampNeg a2)) [pm_o (.aload_n 0), pm_of (.getfield 183) 12 78 2, pm_o (.iload 5), pm_o (.lload_n 3)] (by decide +kernel) rfl ?_
      obtain ⟨ho5, h⟩ := pm_ifs h
      refine pm_last (by decide +kernel) rfl  (pm_ok_in ho5) ?_
      refine pm_blk (pc' := 77) (L' := [(5, .int q2.1), (0, .ref 64), (1, .int a1), (2, .int a2), (3, .long a3)]) (S' := [.long q2.1.toInt64, .int 4, .ref 64]) (M' := sm g (wi (wj (wi q2.2 119 q2.1.toNatClampNeg a2) 120 q2.1.toNatClampNeg a3) 64 99 ((q2.2.1 64 99) + 1))) [pm_o (.aload_n 0), pm_o .dup, pm_of (.getfield 539) 12 99 0, pm_oi (.iconst 1) 1, pm_o .iadd, pm_of (.putfield 539) 12 99 0, pm_o (.aload_n 0), pm_oi (.iconst 4) 4, pm_o (.iload 5), pm_o .i2l] (by decide +kernel) rfl ?_
      obtain ⟨q6, hq6, h⟩ := pm_bd h
      refine pm_cV (idx := 575) m_Md_answer (c_Md_answer l h0 D hT hq6) (As := [.int 4, .long q2.1.toInt64]) (S0 := []) rfl (by decide +kernel) k_Md_answer l_Md_575 (Nat.le_of_ble_eq_true rfl) (Nat.le_of_ble_eq_true rfl) (Nat.le_refl _) (Nat.le_refl _) ?_
      refine pm_blk (pc' := 80) (L' := [(5, .int q2.1), (0, .ref 64), (1, .int a1), (2, .int a2), (3, .long a3)]) (S' := []) (M' := sm g q6) [] (by decide +kernel) rfl ?_
      have h9 := Option.some.inj h
      subst h9
      exact pm_retv rfl (by decide +kernel) rfl rfl
  · rw [if_pos hc1] at h
    refine pm_blk (pc' := 21) (L' := [(0, .ref 64), (1, .int a1), (2, .int a2), (3, .long a3)]) (S' := [.int a3.toInt32, .ref 119, .ref 64]) (M' := sm g (wi u 64 100 ((u.1 64 100) + 1))) [pm_o (.aload_n 0), pm_o .dup, pm_of (.getfield 542) 12 100 0, pm_oi (.iconst 1) 1, pm_o .iadd, pm_of (.putfield 542) 12 100 0, pm_o (.aload_n 0), pm_o (.aload_n 0), pm_of (.getfield 180) 12 77 2, pm_o (.lload_n 3), pm_o .l2i] (by decide +kernel) rfl ?_
    obtain ⟨ho7, h⟩ := pm_ifs h
    refine pm_iald (by decide +kernel) rfl (pm_ok_in ho7) ?_
    refine pm_blk (pc' := 28) (L' := [(0, .ref 64), (1, .int a1), (2, .int a2), (3, .long a3)]) (S' := [.int a3.toInt32, .ref 120, .int (u.1 119 a3.toInt32.toNatClampNeg), .ref 64]) (M' := sm g (wi u 64 100 ((u.1 64 100) + 1))) [pm_o (.aload_n 0), pm_of (.getfield 183) 12 78 2, pm_o (.lload_n 3), pm_o .l2i] (by decide +kernel) rfl ?_
    obtain ⟨ho8, h⟩ := pm_ifs h
    refine pm_lald (by decide +kernel) rfl (pm_ok_in ho8) ?_
    refine pm_blk (pc' := 29) (L' := [(0, .ref 64), (1, .int a1), (2, .int a2), (3, .long a3)]) (S' := [.long (u.2 120 a3.toInt32.toNatClampNeg), .int (u.1 119 a3.toInt32.toNatClampNeg), .ref 64]) (M' := sm g (wi u 64 100 ((u.1 64 100) + 1))) [] (by decide +kernel) rfl ?_
    obtain ⟨q9, hq9, h⟩ := pm_bd h
    refine pm_cV (idx := 575) m_Md_answer (c_Md_answer l h0 D hT hq9) (As := [.int (u.1 119 a3.toInt32.toNatClampNeg), .long (u.2 120 a3.toInt32.toNatClampNeg)]) (S0 := []) rfl (by decide +kernel) k_Md_answer l_Md_575 (Nat.le_of_ble_eq_true rfl) (Nat.le_of_ble_eq_true rfl) (Nat.le_refl _) (Nat.le_refl _) ?_
    refine pm_blk (pc' := 32) (L' := [(0, .ref 64), (1, .int a1), (2, .int a2), (3, .long a3)]) (S' := []) (M' := sm g q9) [] (by decide +kernel) rfl ?_
    have h9 := Option.some.inj h
    subst h9
    exact pm_retv rfl (by decide +kernel) rfl rfl
def K_Md_convertOne_89 (N : Nat) (g : pm_s) (x2 : Int32) (x3 : Int32) (x4 : Int32) (y5 : Int64) (t0 : Int32) (u : pm_J) : Option (pm_J) := if pm_ok (((4 * x3) + x2) - 2) 9600 = true then (F_Md_ask t0 (u.1 90 ((((4 * x3) + x2) - 2).toNatClampNeg)) (-1) x4 y5 g u).bind fun q21 => some q21 else none
set_option maxHeartbeats 4000000 in
set_option maxRecDepth 100000 in
theorem w_Md_convertOne_89 (l : Launch) (h0 : Nat) (D : pm_D) {g : pm_s} (hT : sh_T g) {N : Nat} {u0 : pm_J} {out : pm_J} {p : Program} {e : Env} {R : Room} {s : State} {m : MethodId} {args : Array Value} {below : List Frame} {meth : Method} {c : Code} : ∀ (x2 : Int32) (x3 : Int32) (x4 : Int32) (y5 : Int64) (t0 : Int32) (u : pm_J), K_Md_convertOne_89 N g x2 x3 x4 y5 t0 u = some out → pm_V (p, l, e, R, s, m, args, below, meth, c) m_Md_convertOne h0 D (g.1, g.2.1, g.1, g.2.1, 4) (pm_E (p, l, e, R, s, m, args, below, meth, c) h0 D (sm g u0) none (sm g out)) 89 [(0, .ref 64), (2, .int x2), (3, .int x3), (4, .int x4), (5, .long y5)] [.int t0, .ref 64] (sm g u) := by
    intro x2 x3 x4 y5 t0 u h
    unfold K_Md_convertOne_89 at h
    refine pm_blk (pc' := 100) (L' := [(0, .ref 64), (2, .int x2), (3, .int x3), (4, .int x4), (5, .long y5)]) (S' := [.int (((4 * x3) + x2) - 2), .ref 90, .int t0, .ref 64]) (M' := sm g u) [pm_o (.aload_n 0), pm_of (.getfield 92) 12 32 2, pm_oi (.iconst 4) 4, pm_o (.iload_n 3), pm_o .imul, pm_o (.iload_n 2), pm_o .iadd, pm_oi (.iconst 2) 2, pm_o .isub] (by decide +kernel) rfl ?_
    obtain ⟨ho20, h⟩ := pm_ifs h
    refine pm_iald (by decide +kernel) rfl (pm_ok_in ho20) ?_
    refine pm_blk (pc' := 106) (L' := [(0, .ref 64), (2, .int x2), (3, .int x3), (4, .int x4), (5, .long y5)]) (S' := [.long y5, .int x4, .int (-1), .int (u.1 90 ((((4 * x3) + x2) - 2).toNatClampNeg)), .int t0, .ref 64]) (M' := sm g u) [pm_oi (.iconst (-1)) (-1), pm_o (.iload 4), pm_o (.lload 5)] (by decide +kernel) rfl ?_
    obtain ⟨q21, hq21, h⟩ := pm_bd h
    refine pm_cV (idx := 583) m_Md_ask (c_Md_ask l h0 D hT hq21) (As := [.int t0, .int (u.1 90 ((((4 * x3) + x2) - 2).toNatClampNeg)), .int (-1), .int x4, .long y5]) (S0 := []) rfl (by decide +kernel) k_Md_ask l_Md_583 (Nat.le_of_ble_eq_true rfl) (Nat.le_of_ble_eq_true rfl) (Nat.le_refl _) (Nat.le_refl _) ?_
    refine pm_blk (pc' := 109) (L' := [(0, .ref 64), (2, .int x2), (3, .int x3), (4, .int x4), (5, .long y5)]) (S' := []) (M' := sm g q21) [] (by decide +kernel) rfl ?_
    refine pm_goto (off := 104) 213 (by decide +kernel) (by decide) ?_
    have h9 := Option.some.inj h
    subst h9
    exact pm_retv rfl (by decide +kernel) rfl rfl
def K_Md_convertOne_42 (N : Nat) (g : pm_s) (x1 : Int32) (x2 : Int32) (x3 : Int32) (x4 : Int32) (y5 : Int64) (x7 : Int32) (u : pm_J) : Option (pm_J) := if 2 ≤ x2 then if 6 ≤ x2 then if pm_ok x2 100000 = true then if (u.1 70 x2.toNatClampNeg) = 0 then (F_Md_ask 9 0 0 0 0 g u).bind fun q7 => if pm_ok x2 100000 = true then if pm_ok y5.toInt32 4000 = true then if pm_ok y5.toInt32 4000 = true then (F_Md_ask x1 (q7.1 72 x2.toNatClampNeg) x3 (q7.1 121 y5.toInt32.toNatClampNeg) (q7.2 122 y5.toInt32.toNatClampNeg) g q7).bind fun q11 => if pm_ok x2 100000 = true then if pm_ok y5.toInt32 4000 = true then if pm_ok y5.toInt32 4000 = true then (F_Md_ask x1 (q11.1 71 x2.toNatClampNeg) x3 (q11.1 119 y5.toInt32.toNatClampNeg) (q11.2 120 y5.toInt32.toNatClampNeg) g q11).bind fun q15 => some q15 else none else none else none else none else none else none else (F_Md_coverOf x1 x2 x3 x4 y5 g u).bind fun q16 => some q16 else none else if x7 = 0 then (F_Md_answer x4 y5 g u).bind fun q18 => some q18 else if x1 = 2 then K_Md_convertOne_89 N g x2 x3 x4 y5 0 u else K_Md_convertOne_89 N g x2 x3 x4 y5 1 u else if x1 = 0 then (F_Md_boxOne 1 x4 y5 g u).bind fun q24 => some q24 else (F_Md_boxOne 0 x4 y5 g u).bind fun q23 => some q23
set_option maxHeartbeats 4000000 in
set_option maxRecDepth 100000 in
theorem w_Md_convertOne_42 (l : Launch) (h0 : Nat) (D : pm_D) {g : pm_s} (hT : sh_T g) {N : Nat} {u0 : pm_J} {out : pm_J} {p : Program} {e : Env} {R : Room} {s : State} {m : MethodId} {args : Array Value} {below : List Frame} {meth : Method} {c : Code} : ∀ (x1 : Int32) (x2 : Int32) (x3 : Int32) (x4 : Int32) (y5 : Int64) (x7 : Int32) (u : pm_J), K_Md_convertOne_42 N g x1 x2 x3 x4 y5 x7 u = some out → pm_V (p, l, e, R, s, m, args, below, meth, c) m_Md_convertOne h0 D (g.1, g.2.1, g.1, g.2.1, 4) (pm_E (p, l, e, R, s, m, args, below, meth, c) h0 D (sm g u0) none (sm g out)) 42 [(0, .ref 64), (1, .int x1), (2, .int x2), (3, .int x3), (4, .int x4), (5, .long y5), (7, .int x7)] [] (sm g u) := by
    intro x1 x2 x3 x4 y5 x7 u h
    unfold K_Md_convertOne_42 at h
    refine pm_blk (pc' := 44) (L' := [(0, .ref 64), (1, .int x1), (2, .int x2), (3, .int x3), (4, .int x4), (5, .long y5), (7, .int x7)]) (S' := [.int 2, .int x2]) (M' := sm g u) [pm_o (.iload_n 2), pm_oi (.iconst 2) 2] (by decide +kernel) rfl ?_
    refine pm_ic_ge (off := 23) 67 (by decide +kernel) (by decide) (fun hc3 => ?_) (fun hc3 => ?_)
    · rw [if_pos hc3] at h
      refine pm_blk (pc' := 70) (L' := [(0, .ref 64), (1, .int x1), (2, .int x2), (3, .int x3), (4, .int x4), (5, .long y5), (7, .int x7)]) (S' := [.int 6, .int x2]) (M' := sm g u) [pm_o (.iload_n 2), pm_oi (.bipush 6) 6] (by decide +kernel) rfl ?_
      refine pm_ic_ge (off := 53) 123 (by decide +kernel) (by decide) (fun hc4 => ?_) (fun hc4 => ?_)
      · rw [if_pos hc4] at h
        refine pm_blk (pc' := 128) (L' := [(0, .ref 64), (1, .int x1), (2, .int x2), (3, .int x3), (4, .int x4), (5, .long y5), (7, .int x7)]) (S' := [.int x2, .ref 70]) (M' := sm g u) [pm_o (.aload_n 0), pm_of (.getfield 31) 12 11 2, pm_o (.iload_n 2)] (by decide +kernel) rfl ?_
        obtain ⟨ho5, h⟩ := pm_ifs h
        refine pm_zald (by decide +kernel) rfl (pm_ok_in ho5) ?_
        refine pm_blk (pc' := 129) (L' := [(0, .ref 64), (1, .int x1), (2, .int x2), (3, .int x3), (4, .int x4), (5, .long y5), (7, .int x7)]) (S' := [.int (u.1 70 x2.toNatClampNeg)]) (M' := sm g u) [] (by decide +kernel) rfl ?_
        refine pm_if_eq (off := 17) 146 (by decide +kernel) (by decide) (fun hc6 => ?_) (fun hc6 => ?_)
        · rw [if_pos hc6] at h
          refine pm_blk (pc' := 158) (L' := [(8, .int y5.toInt32), (0, .ref 64), (1, .int x1), (2, .int x2), (3, .int x3), (4, .int x4), (5, .long y5), (7, .int x7)]) (S' := [.long 0, .int 0, .int 0, .int 0, .int 9, .ref 64]) (M' := sm g u) [pm_o (.lload 5), pm_o .l2i, pm_o (.istore 8), pm_o (.aload_n 0), pm_oi (.bipush 9) 9, pm_oi (.iconst 0) 0, pm_oi (.iconst 0) 0, pm_oi (.iconst 0) 0, pm_ol (.lconst 0) 0] (by decide +kernel) rfl ?_
          obtain ⟨q7, hq7, h⟩ := pm_bd h
          refine pm_cV (idx := 583) m_Md_ask (c_Md_ask l h0 D hT hq7) (As := [.int 9, .int 0, .int 0, .int 0, .long 0]) (S0 := []) rfl (by decide +kernel) k_Md_ask l_Md_583 (Nat.le_of_ble_eq_true rfl) (Nat.le_of_ble_eq_true rfl) (Nat.le_refl _) (Nat.le_refl _) ?_
          refine pm_blk (pc' := 168) (L' := [(8, .int y5.toInt32), (0, .ref 64), (1, .int x1), (2, .int x2), (3, .int x3), (4, .int x4), (5, .long y5), (7, .int x7)]) (S' := [.int x2, .ref 72, .int x1, .ref 64]) (M' := sm g q7) [pm_o (.aload_n 0), pm_o (.iload_n 1), pm_o (.aload_n 0), pm_of (.getfield 38) 12 13 2, pm_o (.iload_n 2)] (by decide +kernel) rfl ?_
          obtain ⟨ho8, h⟩ := pm_ifs h
          refine pm_iald (by decide +kernel) rfl (pm_ok_in ho8) ?_
          refine pm_blk (pc' := 176) (L' := [(8, .int y5.toInt32), (0, .ref 64), (1, .int x1), (2, .int x2), (3, .int x3), (4, .int x4), (5, .long y5), (7, .int x7)]) (S' := [.int y5.toInt32, .ref 121, .int x3, .int (q7.1 72 x2.toNatClampNeg), .int x1, .ref 64]) (M' := sm g q7) [pm_o (.iload_n 3), pm_o (.aload_n 0), pm_of (.getfield 186) 12 79 2, pm_o (.iload 8)] (by decide +kernel) rfl ?_
          obtain ⟨ho9, h⟩ := pm_ifs h
          refine pm_iald (by decide +kernel) rfl (pm_ok_in ho9) ?_
          refine pm_blk (pc' := 183) (L' := [(8, .int y5.toInt32), (0, .ref 64), (1, .int x1), (2, .int x2), (3, .int x3), (4, .int x4), (5, .long y5), (7, .int x7)]) (S' := [.int y5.toInt32, .ref 122, .int (q7.1 121 y5.toInt32.toNatClampNeg), .int x3, .int (q7.1 72 x2.toNatClampNeg), .int x1, .ref 64]) (M' := sm g q7) [pm_o (.aload_n 0), pm_of (.getfield 189) 12 80 2, pm_o (.iload 8)] (by decide +kernel) rfl ?_
          obtain ⟨ho10, h⟩ := pm_ifs h
          refine pm_lald (by decide +kernel) rfl (pm_ok_in ho10) ?_
          refine pm_blk (pc' := 184) (L' := [(8, .int y5.toInt32), (0, .ref 64), (1, .int x1), (2, .int x2), (3, .int x3), (4, .int x4), (5, .long y5), (7, .int x7)]) (S' := [.long (q7.2 122 y5.toInt32.toNatClampNeg), .int (q7.1 121 y5.toInt32.toNatClampNeg), .int x3, .int (q7.1 72 x2.toNatClampNeg), .int x1, .ref 64]) (M' := sm g q7) [] (by decide +kernel) rfl ?_
          obtain ⟨q11, hq11, h⟩ := pm_bd h
          refine pm_cV (idx := 583) m_Md_ask (c_Md_ask l h0 D hT hq11) (As := [.int x1, .int (q7.1 72 x2.toNatClampNeg), .int x3, .int (q7.1 121 y5.toInt32.toNatClampNeg), .long (q7.2 122 y5.toInt32.toNatClampNeg)]) (S0 := []) rfl (by decide +kernel) k_Md_ask l_Md_583 (Nat.le_of_ble_eq_true rfl) (Nat.le_of_ble_eq_true rfl) (Nat.le_refl _) (Nat.le_refl _) ?_
          refine pm_blk (pc' := 194) (L' := [(8, .int y5.toInt32), (0, .ref 64), (1, .int x1), (2, .int x2), (3, .int x3), (4, .int x4), (5, .long y5), (7, .int x7)]) (S' := [.int x2, .ref 71, .int x1, .ref 64]) (M' := sm g q11) [pm_o (.aload_n 0), pm_o (.iload_n 1), pm_o (.aload_n 0), pm_of (.getfield 35) 12 12 2, pm_o (.iload_n 2)] (by decide +kernel) rfl ?_
          obtain ⟨ho12, h⟩ := pm_ifs h
          refine pm_iald (by decide +kernel) rfl (pm_ok_in ho12) ?_
          refine pm_blk (pc' := 202) (L' := [(8, .int y5.toInt32), (0, .ref 64), (1, .int x1), (2, .int x2), (3, .int x3), (4, .int x4), (5, .long y5), (7, .int x7)]) (S' := [.int y5.toInt32, .ref 119, .int x3, .int (q11.1 71 x2.toNatClampNeg), .int x1, .ref 64]) (M' := sm g q11) [pm_o (.iload_n 3), pm_o (.aload_n 0), pm_of (.getfield 180) 12 77 2, pm_o (.iload 8)] (by decide +kernel) rfl ?_
          obtain ⟨ho13, h⟩ := pm_ifs h
          refine pm_iald (by decide +kernel) rfl (pm_ok_in ho13) ?_
          refine pm_blk (pc' := 209) (L' := [(8, .int y5.toInt32), (0, .ref 64), (1, .int x1), (2, .int x2), (3, .int x3), (4, .int x4), (5, .long y5), (7, .int x7)]) (S' := [.int y5.toInt32, .ref 120, .int (q11.1 119 y5.toInt32.toNatClampNeg), .int x3, .int (q11.1 71 x2.toNatClampNeg), .int x1, .ref 64]) (M' := sm g q11) [pm_o (.aload_n 0), pm_of (.getfield 183) 12 78 2, pm_o (.iload 8)] (by decide +kernel) rfl ?_
          obtain ⟨ho14, h⟩ := pm_ifs h
          refine pm_lald (by decide +kernel) rfl (pm_ok_in ho14) ?_
          refine pm_blk (pc' := 210) (L' := [(8, .int y5.toInt32), (0, .ref 64), (1, .int x1), (2, .int x2), (3, .int x3), (4, .int x4), (5, .long y5), (7, .int x7)]) (S' := [.long (q11.2 120 y5.toInt32.toNatClampNeg), .int (q11.1 119 y5.toInt32.toNatClampNeg), .int x3, .int (q11.1 71 x2.toNatClampNeg), .int x1, .ref 64]) (M' := sm g q11) [] (by decide +kernel) rfl ?_
          obtain ⟨q15, hq15, h⟩ := pm_bd h
          refine pm_cV (idx := 583) m_Md_ask (c_Md_ask l h0 D hT hq15) (As := [.int x1, .int (q11.1 71 x2.toNatClampNeg), .int x3, .int (q11.1 119 y5.toInt32.toNatClampNeg), .long (q11.2 120 y5.toInt32.toNatClampNeg)]) (S0 := []) rfl (by decide +kernel) k_Md_ask l_Md_583 (Nat.le_of_ble_eq_true rfl) (Nat.le_of_ble_eq_true rfl) (Nat.le_refl _) (Nat.le_refl _) ?_
          refine pm_blk (pc' := 213) (L' := [(8, .int y5.toInt32), (0, .ref 64), (1, .int x1), (2, .int x2), (3, .int x3), (4, .int x4), (5, .long y5), (7, .int x7)]) (S' := []) (M' := sm g q15) [] (by decide +kernel) rfl ?_
          have h9 := Option.some.inj h
          subst h9
          exact pm_retv rfl (by decide +kernel) rfl rfl
        · rw [if_neg hc6] at h
          refine pm_blk (pc' := 140) (L' := [(0, .ref 64), (1, .int x1), (2, .int x2), (3, .int x3), (4, .int x4), (5, .long y5), (7, .int x7)]) (S' := [.long y5, .int x4, .int x3, .int x2, .int x1, .ref 64]) (M' := sm g u) [pm_o (.aload_n 0), pm_o (.iload_n 1), pm_o (.iload_n 2), pm_o (.iload_n 3), pm_o (.iload 4), pm_o (.lload 5)] (by decide +kernel) rfl ?_
          obtain ⟨q16, hq16, h⟩ := pm_bd h
          refine pm_cV (idx := 587) m_Md_coverOf (c_Md_coverOf l h0 D hT hq16) (As := [.int x1, .int x2, .int x3, .int x4, .long y5]) (S0 := []) rfl (by decide +kernel) k_Md_coverOf l_Md_587 (Nat.le_of_ble_eq_true rfl) (Nat.le_of_ble_eq_true rfl) (Nat.le_refl _) (Nat.le_refl _) ?_
          refine pm_blk (pc' := 143) (L' := [(0, .ref 64), (1, .int x1), (2, .int x2), (3, .int x3), (4, .int x4), (5, .long y5), (7, .int x7)]) (S' := []) (M' := sm g q16) [] (by decide +kernel) rfl ?_
          refine pm_goto (off := 70) 213 (by decide +kernel) (by decide) ?_
          have h9 := Option.some.inj h
          subst h9
          exact pm_retv rfl (by decide +kernel) rfl rfl
      · rw [if_neg hc4] at h
        refine pm_blk (pc' := 75) (L' := [(0, .ref 64), (1, .int x1), (2, .int x2), (3, .int x3), (4, .int x4), (5, .long y5), (7, .int x7)]) (S' := [.int x7]) (M' := sm g u) [pm_o (.iload 7)] (by decide +kernel) rfl ?_
        refine pm_if_eq (off := 37) 112 (by decide +kernel) (by decide) (fun hc17 => ?_) (fun hc17 => ?_)
        · rw [if_pos hc17] at h
          refine pm_blk (pc' := 117) (L' := [(0, .ref 64), (1, .int x1), (2, .int x2), (3, .int x3), (4, .int x4), (5, .long y5), (7, .int x7)]) (S' := [.long y5, .int x4, .ref 64]) (M' := sm g u) [pm_o (.aload_n 0), pm_o (.iload 4), pm_o (.lload 5)] (by decide +kernel) rfl ?_
          obtain ⟨q18, hq18, h⟩ := pm_bd h
          refine pm_cV (idx := 575) m_Md_answer (c_Md_answer l h0 D hT hq18) (As := [.int x4, .long y5]) (S0 := []) rfl (by decide +kernel) k_Md_answer l_Md_575 (Nat.le_of_ble_eq_true rfl) (Nat.le_of_ble_eq_true rfl) (Nat.le_refl _) (Nat.le_refl _) ?_
          refine pm_blk (pc' := 120) (L' := [(0, .ref 64), (1, .int x1), (2, .int x2), (3, .int x3), (4, .int x4), (5, .long y5), (7, .int x7)]) (S' := []) (M' := sm g q18) [] (by decide +kernel) rfl ?_
          refine pm_goto (off := 93) 213 (by decide +kernel) (by decide) ?_
          have h9 := Option.some.inj h
          subst h9
          exact pm_retv rfl (by decide +kernel) rfl rfl
        · rw [if_neg hc17] at h
          refine pm_blk (pc' := 81) (L' := [(0, .ref 64), (1, .int x1), (2, .int x2), (3, .int x3), (4, .int x4), (5, .long y5), (7, .int x7)]) (S' := [.int 2, .int x1, .ref 64]) (M' := sm g u) [pm_o (.aload_n 0), pm_o (.iload_n 1), pm_oi (.iconst 2) 2] (by decide +kernel) rfl ?_
          refine pm_ic_ne (off := 7) 88 (by decide +kernel) (by decide) (fun hc19 => ?_) (fun hc19 => ?_)
          · rw [if_neg hc19] at h
            refine pm_blk (pc' := 89) (L' := [(0, .ref 64), (1, .int x1), (2, .int x2), (3, .int x3), (4, .int x4), (5, .long y5), (7, .int x7)]) (S' := [.int 1, .ref 64]) (M' := sm g u) [pm_oi (.iconst 1) 1] (by decide +kernel) rfl ?_
            refine pm_loc [0, 2, 3, 4, 5] rfl ?_
            exact w_Md_convertOne_89 l h0 D hT x2 x3 x4 y5 1 u h
          · rw [if_pos hc19] at h
            refine pm_blk (pc' := 85) (L' := [(0, .ref 64), (1, .int x1), (2, .int x2), (3, .int x3), (4, .int x4), (5, .long y5), (7, .int x7)]) (S' := [.int 0, .ref 64]) (M' := sm g u) [pm_oi (.iconst 0) 0] (by decide +kernel) rfl ?_
            refine pm_goto (off := 4) 89 (by decide +kernel) (by decide) ?_
            refine pm_loc [0, 2, 3, 4, 5] rfl ?_
            exact w_Md_convertOne_89 l h0 D hT x2 x3 x4 y5 0 u h
    · rw [if_neg hc3] at h
      refine pm_blk (pc' := 49) (L' := [(0, .ref 64), (1, .int x1), (2, .int x2), (3, .int x3), (4, .int x4), (5, .long y5), (7, .int x7)]) (S' := [.int x1, .ref 64]) (M' := sm g u) [pm_o (.aload_n 0), pm_o (.iload_n 1)] (by decide +kernel) rfl ?_
      refine pm_if_ne (off := 7) 56 (by decide +kernel) (by decide) (fun hc22 => ?_) (fun hc22 => ?_)
      · rw [if_neg hc22] at h
        refine pm_blk (pc' := 61) (L' := [(0, .ref 64), (1, .int x1), (2, .int x2), (3, .int x3), (4, .int x4), (5, .long y5), (7, .int x7)]) (S' := [.long y5, .int x4, .int 0, .ref 64]) (M' := sm g u) [pm_oi (.iconst 0) 0, pm_o (.iload 4), pm_o (.lload 5)] (by decide +kernel) rfl ?_
        obtain ⟨q23, hq23, h⟩ := pm_bd h
        refine pm_cV (idx := 579) m_Md_boxOne (c_Md_boxOne l h0 D hT hq23) (As := [.int 0, .int x4, .long y5]) (S0 := []) rfl (by decide +kernel) k_Md_boxOne l_Md_579 (Nat.le_of_ble_eq_true rfl) (Nat.le_of_ble_eq_true rfl) (Nat.le_refl _) (Nat.le_refl _) ?_
        refine pm_blk (pc' := 64) (L' := [(0, .ref 64), (1, .int x1), (2, .int x2), (3, .int x3), (4, .int x4), (5, .long y5), (7, .int x7)]) (S' := []) (M' := sm g q23) [] (by decide +kernel) rfl ?_
        refine pm_goto (off := 149) 213 (by decide +kernel) (by decide) ?_
        have h9 := Option.some.inj h
        subst h9
        exact pm_retv rfl (by decide +kernel) rfl rfl
      · rw [if_pos hc22] at h
        refine pm_blk (pc' := 53) (L' := [(0, .ref 64), (1, .int x1), (2, .int x2), (3, .int x3), (4, .int x4), (5, .long y5), (7, .int x7)]) (S' := [.int 1, .ref 64]) (M' := sm g u) [pm_oi (.iconst 1) 1] (by decide +kernel) rfl ?_
        refine pm_goto (off := 4) 57 (by decide +kernel) (by decide) ?_
        refine pm_blk (pc' := 61) (L' := [(0, .ref 64), (1, .int x1), (2, .int x2), (3, .int x3), (4, .int x4), (5, .long y5), (7, .int x7)]) (S' := [.long y5, .int x4, .int 1, .ref 64]) (M' := sm g u) [pm_o (.iload 4), pm_o (.lload 5)] (by decide +kernel) rfl ?_
        obtain ⟨q24, hq24, h⟩ := pm_bd h
        refine pm_cV (idx := 579) m_Md_boxOne (c_Md_boxOne l h0 D hT hq24) (As := [.int 1, .int x4, .long y5]) (S0 := []) rfl (by decide +kernel) k_Md_boxOne l_Md_579 (Nat.le_of_ble_eq_true rfl) (Nat.le_of_ble_eq_true rfl) (Nat.le_refl _) (Nat.le_refl _) ?_
        refine pm_blk (pc' := 64) (L' := [(0, .ref 64), (1, .int x1), (2, .int x2), (3, .int x3), (4, .int x4), (5, .long y5), (7, .int x7)]) (S' := []) (M' := sm g q24) [] (by decide +kernel) rfl ?_
        refine pm_goto (off := 149) 213 (by decide +kernel) (by decide) ?_
        have h9 := Option.some.inj h
        subst h9
        exact pm_retv rfl (by decide +kernel) rfl rfl
def K_Md_convertOne_15 (N : Nat) (g : pm_s) (x1 : Int32) (x2 : Int32) (x3 : Int32) (x4 : Int32) (y5 : Int64) (t0 : Int32) (u : pm_J) : Option (pm_J) := if t0 = 0 then K_Md_convertOne_42 N g x1 x2 x3 x4 y5 t0 u else if pm_ok x2 100000 = true then if (u.1 73 x2.toNatClampNeg) = 0 then (F_Md_answer x4 y5 g u).bind fun q27 => some q27 else K_Md_convertOne_42 N g x1 x2 x3 x4 y5 t0 u else none
set_option maxHeartbeats 4000000 in
set_option maxRecDepth 100000 in
theorem w_Md_convertOne_15 (l : Launch) (h0 : Nat) (D : pm_D) {g : pm_s} (hT : sh_T g) {N : Nat} {u0 : pm_J} {out : pm_J} {p : Program} {e : Env} {R : Room} {s : State} {m : MethodId} {args : Array Value} {below : List Frame} {meth : Method} {c : Code} : ∀ (x1 : Int32) (x2 : Int32) (x3 : Int32) (x4 : Int32) (y5 : Int64) (t0 : Int32) (u : pm_J), K_Md_convertOne_15 N g x1 x2 x3 x4 y5 t0 u = some out → pm_V (p, l, e, R, s, m, args, below, meth, c) m_Md_convertOne h0 D (g.1, g.2.1, g.1, g.2.1, 4) (pm_E (p, l, e, R, s, m, args, below, meth, c) h0 D (sm g u0) none (sm g out)) 15 [(0, .ref 64), (1, .int x1), (2, .int x2), (3, .int x3), (4, .int x4), (5, .long y5)] [.int t0] (sm g u) := by
    intro x1 x2 x3 x4 y5 t0 u h
    unfold K_Md_convertOne_15 at h
    refine pm_blk (pc' := 19) (L' := [(7, .int t0), (0, .ref 64), (1, .int x1), (2, .int x2), (3, .int x3), (4, .int x4), (5, .long y5)]) (S' := [.int t0]) (M' := sm g u) [pm_o (.istore 7), pm_o (.iload 7)] (by decide +kernel) rfl ?_
    refine pm_if_eq (off := 23) 42 (by decide +kernel) (by decide) (fun hc2 => ?_) (fun hc2 => ?_)
    · rw [if_pos hc2] at h
      refine pm_loc [1, 2, 3, 4, 5, 6, 0] rfl ?_
      exact w_Md_convertOne_42 l h0 D hT x1 x2 x3 x4 y5 t0 u h
    · rw [if_neg hc2] at h
      refine pm_blk (pc' := 27) (L' := [(7, .int t0), (0, .ref 64), (1, .int x1), (2, .int x2), (3, .int x3), (4, .int x4), (5, .long y5)]) (S' := [.int x2, .ref 73]) (M' := sm g u) [pm_o (.aload_n 0), pm_of (.getfield 41) 12 14 2, pm_o (.iload_n 2)] (by decide +kernel) rfl ?_
      obtain ⟨ho25, h⟩ := pm_ifs h
      refine pm_iald (by decide +kernel) rfl (pm_ok_in ho25) ?_
      refine pm_blk (pc' := 28) (L' := [(7, .int t0), (0, .ref 64), (1, .int x1), (2, .int x2), (3, .int x3), (4, .int x4), (5, .long y5)]) (S' := [.int (u.1 73 x2.toNatClampNeg)]) (M' := sm g u) [] (by decide +kernel) rfl ?_
      refine pm_if_ne (off := 14) 42 (by decide +kernel) (by decide) (fun hc26 => ?_) (fun hc26 => ?_)
      · rw [if_neg hc26] at h
        refine pm_loc [1, 2, 3, 4, 5, 6, 0] rfl ?_
        exact w_Md_convertOne_42 l h0 D hT x1 x2 x3 x4 y5 t0 u h
      · rw [if_pos hc26] at h
        refine pm_blk (pc' := 36) (L' := [(7, .int t0), (0, .ref 64), (1, .int x1), (2, .int x2), (3, .int x3), (4, .int x4), (5, .long y5)]) (S' := [.long y5, .int x4, .ref 64]) (M' := sm g u) [pm_o (.aload_n 0), pm_o (.iload 4), pm_o (.lload 5)] (by decide +kernel) rfl ?_
        obtain ⟨q27, hq27, h⟩ := pm_bd h
        refine pm_cV (idx := 575) m_Md_answer (c_Md_answer l h0 D hT hq27) (As := [.int x4, .long y5]) (S0 := []) rfl (by decide +kernel) k_Md_answer l_Md_575 (Nat.le_of_ble_eq_true rfl) (Nat.le_of_ble_eq_true rfl) (Nat.le_refl _) (Nat.le_refl _) ?_
        refine pm_blk (pc' := 39) (L' := [(7, .int t0), (0, .ref 64), (1, .int x1), (2, .int x2), (3, .int x3), (4, .int x4), (5, .long y5)]) (S' := []) (M' := sm g q27) [] (by decide +kernel) rfl ?_
        refine pm_goto (off := 174) 213 (by decide +kernel) (by decide) ?_
        have h9 := Option.some.inj h
        subst h9
        exact pm_retv rfl (by decide +kernel) rfl rfl
def F_Md_convertOne (N : Nat) (a1 : Int32) (a2 : Int32) (a3 : Int32) (a4 : Int32) (a5 : Int64) (g : pm_s) (u : pm_J) : Option (pm_J) := if a1 = 2 then K_Md_convertOne_15 N g a1 a2 a3 a4 a5 1 u else if a1 = 3 then K_Md_convertOne_15 N g a1 a2 a3 a4 a5 1 u else K_Md_convertOne_15 N g a1 a2 a3 a4 a5 0 u
set_option maxHeartbeats 4000000 in
set_option maxRecDepth 100000 in
theorem c_Md_convertOne (l : Launch) (h0 : Nat) (D : pm_D) {g : pm_s} {u : pm_J} (hT : sh_T g) {N : Nat} {a1 : Int32} {a2 : Int32} {a3 : Int32} {a4 : Int32} {a5 : Int64} {out : pm_J} (h : F_Md_convertOne N a1 a2 a3 a4 a5 g u = some out) : pm_C l h0 D m_Md_convertOne (4) [.ref 64, .int a1, .int a2, .int a3, .int a4, .long a5] (sm g u) none (sm g out) := by
  unfold F_Md_convertOne at h
  refine pm_met (by decide +kernel) (Nat.le_of_ble_eq_true rfl) (Nat.le_refl _) (Nat.le_refl _) ?_
  intro p e R s m args below meth c
  refine pm_blk (pc' := 2) (L' := [(0, .ref 64), (1, .int a1), (2, .int a2), (3, .int a3), (4, .int a4), (5, .long a5)]) (S' := [.int 2, .int a1]) (M' := sm g u) [pm_o (.iload_n 1), pm_oi (.iconst 2) 2] (by decide +kernel) rfl ?_
  refine pm_ic_eq (off := 8) 10 (by decide +kernel) (by decide) (fun hc1 => ?_) (fun hc1 => ?_)
  · rw [if_pos hc1] at h
    refine pm_blk (pc' := 11) (L' := [(0, .ref 64), (1, .int a1), (2, .int a2), (3, .int a3), (4, .int a4), (5, .long a5)]) (S' := [.int 1]) (M' := sm g u) [pm_oi (.iconst 1) 1] (by decide +kernel) rfl ?_
    refine pm_goto (off := 4) 15 (by decide +kernel) (by decide) ?_
    refine pm_loc [0, 1, 2, 3, 4, 5] rfl ?_
    exact w_Md_convertOne_15 l h0 D hT a1 a2 a3 a4 a5 1 u h
  · rw [if_neg hc1] at h
    refine pm_blk (pc' := 7) (L' := [(0, .ref 64), (1, .int a1), (2, .int a2), (3, .int a3), (4, .int a4), (5, .long a5)]) (S' := [.int 3, .int a1]) (M' := sm g u) [pm_o (.iload_n 1), pm_oi (.iconst 3) 3] (by decide +kernel) rfl ?_
    refine pm_ic_ne (off := 7) 14 (by decide +kernel) (by decide) (fun hc28 => ?_) (fun hc28 => ?_)
    · rw [if_neg hc28] at h
      refine pm_blk (pc' := 15) (L' := [(0, .ref 64), (1, .int a1), (2, .int a2), (3, .int a3), (4, .int a4), (5, .long a5)]) (S' := [.int 0]) (M' := sm g u) [pm_oi (.iconst 0) 0] (by decide +kernel) rfl ?_
      refine pm_loc [0, 1, 2, 3, 4, 5] rfl ?_
      exact w_Md_convertOne_15 l h0 D hT a1 a2 a3 a4 a5 0 u h
    · rw [if_pos hc28] at h
      refine pm_blk (pc' := 11) (L' := [(0, .ref 64), (1, .int a1), (2, .int a2), (3, .int a3), (4, .int a4), (5, .long a5)]) (S' := [.int 1]) (M' := sm g u) [pm_oi (.iconst 1) 1] (by decide +kernel) rfl ?_
      refine pm_goto (off := 4) 15 (by decide +kernel) (by decide) ?_
      refine pm_loc [0, 1, 2, 3, 4, 5] rfl ?_
      exact w_Md_convertOne_15 l h0 D hT a1 a2 a3 a4 a5 1 u h
def K_Md_convert_184 (N : Nat) (g : pm_s) (u : pm_J) : Option (pm_J) := if (u.1 64 96) = 0 then if pm_ok 0 9000 = true then if pm_ok 0 9000 = true then some (wj (wi u 64 108 (u.1 137 0)) 64 109 (u.2 138 0)) else none else none else some u
set_option maxHeartbeats 4000000 in
set_option maxRecDepth 100000 in
theorem w_Md_convert_184 (l : Launch) (h0 : Nat) (D : pm_D) {g : pm_s} (hT : sh_T g) {N : Nat} {u0 : pm_J} {out : pm_J} {p : Program} {e : Env} {R : Room} {s : State} {m : MethodId} {args : Array Value} {below : List Frame} {meth : Method} {c : Code} : ∀  (u : pm_J), K_Md_convert_184 N g u = some out → pm_V (p, l, e, R, s, m, args, below, meth, c) m_Md_convert h0 D (g.1, g.2.1, g.1, g.2.1, 5) (pm_E (p, l, e, R, s, m, args, below, meth, c) h0 D (sm g u0) none (sm g out)) 184 [(0, .ref 64)] [] (sm g u) := by
    intro u h
    unfold K_Md_convert_184 at h
    refine pm_blk (pc' := 188) (L' := [(0, .ref 64)]) (S' := [.int (u.1 64 96)]) (M' := sm g u) [pm_o (.aload_n 0), pm_of (.getfield 533) 12 96 0] (by decide +kernel) rfl ?_
    refine pm_if_ne (off := 23) 211 (by decide +kernel) (by decide) (fun hc3 => ?_) (fun hc3 => ?_)
    · rw [if_neg hc3] at h
      have h9 := Option.some.inj h
      subst h9
      exact pm_retv rfl (by decide +kernel) rfl rfl
    · rw [if_pos hc3] at h
      refine pm_blk (pc' := 197) (L' := [(0, .ref 64)]) (S' := [.int 0, .ref 137, .ref 64]) (M' := sm g u) [pm_o (.aload_n 0), pm_o (.aload_n 0), pm_of (.getfield 234) 12 116 2, pm_oi (.iconst 0) 0] (by decide +kernel) rfl ?_
      obtain ⟨ho4, h⟩ := pm_ifs h
      refine pm_iald (by decide +kernel) rfl (pm_ok_in ho4) ?_
      refine pm_blk (pc' := 207) (L' := [(0, .ref 64)]) (S' := [.int 0, .ref 138, .ref 64]) (M' := sm g (wi u 64 108 (u.1 137 0))) [pm_of (.putfield 563) 12 108 0, pm_o (.aload_n 0), pm_o (.aload_n 0), pm_of (.getfield 237) 12 117 2, pm_oi (.iconst 0) 0] (by decide +kernel) rfl ?_
      obtain ⟨ho5, h⟩ := pm_ifs h
      refine pm_lald (by decide +kernel) rfl (pm_ok_in ho5) ?_
      refine pm_blk (pc' := 211) (L' := [(0, .ref 64)]) (S' := []) (M' := sm g (wj (wi u 64 108 (u.1 137 0)) 64 109 (u.2 138 0))) [pm_of (.putfield 566) 12 109 1] (by decide +kernel) rfl ?_
      have h9 := Option.some.inj h
      subst h9
      exact pm_retv rfl (by decide +kernel) rfl rfl
def K_Md_convert_25 (N : Nat) (g : pm_s) : Nat → pm_J → Option (pm_J)
  | 0, _ => none
  | n + 1, u => if (u.1 64 115) ≤ 0 then K_Md_convert_184 N g  u else if (u.1 64 96) = 0 then if pm_ok ((u.1 64 115) - 1) 9000 = true then if (u.1 132 (((u.1 64 115) - 1).toNatClampNeg)) = 9 then if pm_ok ((u.1 64 118) - 2) 9000 = true then if pm_ok ((u.1 64 118) - 2) 9000 = true then if pm_ok (((u.1 64 118) - 2) + 1) 9000 = true then if pm_ok (((u.1 64 118) - 2) + 1) 9000 = true then (F_Md_makePair (u.1 137 (((u.1 64 118) - 2).toNatClampNeg)) (u.2 138 (((u.1 64 118) - 2).toNatClampNeg)) (u.1 137 ((((u.1 64 118) - 2) + 1).toNatClampNeg)) (u.2 138 ((((u.1 64 118) - 2) + 1).toNatClampNeg)) g (wi (wi u 64 115 ((u.1 64 115) - 1)) 64 118 ((u.1 64 118) - 2))).bind fun q19 => (F_Md_answer (q19.1 64 108) (q19.2 64 109) g q19).bind fun q20 => K_Md_convert_25 N g  n  q20 else none else none else none else none else if pm_ok ((u.1 64 115) - 1) 9000 = true then if pm_ok ((u.1 64 115) - 1) 9000 = true then if pm_ok ((u.1 64 115) - 1) 9000 = true then if pm_ok ((u.1 64 115) - 1) 9000 = true then if pm_ok ((u.1 64 115) - 1) 9000 = true then (F_Md_convertOne N (u.1 132 (((u.1 64 115) - 1).toNatClampNeg)) (u.1 133 (((u.1 64 115) - 1).toNatClampNeg)) (u.1 134 (((u.1 64 115) - 1).toNatClampNeg)) (u.1 135 (((u.1 64 115) - 1).toNatClampNeg)) (u.2 136 (((u.1 64 115) - 1).toNatClampNeg)) g (wi u 64 115 ((u.1 64 115) - 1))).bind fun q14 => K_Md_convert_25 N g  n  q14 else none else none else none else none else none else none else K_Md_convert_184 N g  u
set_option maxHeartbeats 4000000 in
set_option maxRecDepth 100000 in
theorem w_Md_convert_25 (l : Launch) (h0 : Nat) (D : pm_D) {g : pm_s} (hT : sh_T g) {N : Nat} {u0 : pm_J} {out : pm_J} {p : Program} {e : Env} {R : Room} {s : State} {m : MethodId} {args : Array Value} {below : List Frame} {meth : Method} {c : Code} : ∀ (n : Nat)  (u : pm_J), K_Md_convert_25 N g n u = some out → pm_V (p, l, e, R, s, m, args, below, meth, c) m_Md_convert h0 D (g.1, g.2.1, g.1, g.2.1, 5) (pm_E (p, l, e, R, s, m, args, below, meth, c) h0 D (sm g u0) none (sm g out)) 25 [(0, .ref 64)] [] (sm g u) := by
  intro n
  induction n with
  | zero => intro u h; cases h
  | succ n ih =>
    intro u h
    rw [K_Md_convert_25] at h
    refine pm_blk (pc' := 29) (L' := [(0, .ref 64)]) (S' := [.int (u.1 64 115)]) (M' := sm g u) [pm_o (.aload_n 0), pm_of (.getfield 569) 12 115 0] (by decide +kernel) rfl ?_
    refine pm_if_le (off := 155) 184 (by decide +kernel) (by decide) (fun hc2 => ?_) (fun hc2 => ?_)
    · rw [if_pos hc2] at h
      refine pm_loc [0] rfl ?_
      exact w_Md_convert_184 l h0 D hT  u h
    · rw [if_neg hc2] at h
      refine pm_blk (pc' := 36) (L' := [(0, .ref 64)]) (S' := [.int (u.1 64 96)]) (M' := sm g u) [pm_o (.aload_n 0), pm_of (.getfield 533) 12 96 0] (by decide +kernel) rfl ?_
      refine pm_if_ne (off := 148) 184 (by decide +kernel) (by decide) (fun hc6 => ?_) (fun hc6 => ?_)
      · rw [if_neg hc6] at h
        refine pm_loc [0] rfl ?_
        exact w_Md_convert_184 l h0 D hT  u h
      · rw [if_pos hc6] at h
        refine pm_blk (pc' := 57) (L' := [(0, .ref 64)]) (S' := [.int ((u.1 64 115) - 1), .ref 132]) (M' := sm g (wi u 64 115 ((u.1 64 115) - 1))) [pm_o (.aload_n 0), pm_o .dup, pm_of (.getfield 569) 12 115 0, pm_oi (.iconst 1) 1, pm_o .isub, pm_of (.putfield 569) 12 115 0, pm_o (.aload_n 0), pm_of (.getfield 219) 12 110 2, pm_o (.aload_n 0), pm_of (.getfield 569) 12 115 0] (by decide +kernel) rfl ?_
        obtain ⟨ho7, h⟩ := pm_ifs h
        refine pm_iald (by decide +kernel) rfl (pm_ok_in ho7) ?_
        refine pm_blk (pc' := 60) (L' := [(0, .ref 64)]) (S' := [.int 9, .int (u.1 132 (((u.1 64 115) - 1).toNatClampNeg))]) (M' := sm g (wi u 64 115 ((u.1 64 115) - 1))) [pm_oi (.bipush 9) 9] (by decide +kernel) rfl ?_
        refine pm_ic_ne (off := 72) 132 (by decide +kernel) (by decide) (fun hc8 => ?_) (fun hc8 => ?_)
        · rw [if_neg hc8] at h
          refine pm_blk (pc' := 141) (L' := [(0, .ref 64)]) (S' := [.int ((u.1 64 115) - 1), .ref 132, .ref 64]) (M' := sm g (wi u 64 115 ((u.1 64 115) - 1))) [pm_o (.aload_n 0), pm_o (.aload_n 0), pm_of (.getfield 219) 12 110 2, pm_o (.aload_n 0), pm_of (.getfield 569) 12 115 0] (by decide +kernel) rfl ?_
          obtain ⟨ho9, h⟩ := pm_ifs h
          refine pm_iald (by decide +kernel) rfl (pm_ok_in ho9) ?_
          refine pm_blk (pc' := 150) (L' := [(0, .ref 64)]) (S' := [.int ((u.1 64 115) - 1), .ref 133, .int (u.1 132 (((u.1 64 115) - 1).toNatClampNeg)), .ref 64]) (M' := sm g (wi u 64 115 ((u.1 64 115) - 1))) [pm_o (.aload_n 0), pm_of (.getfield 222) 12 111 2, pm_o (.aload_n 0), pm_of (.getfield 569) 12 115 0] (by decide +kernel) rfl ?_
          obtain ⟨ho10, h⟩ := pm_ifs h
          refine pm_iald (by decide +kernel) rfl (pm_ok_in ho10) ?_
          refine pm_blk (pc' := 159) (L' := [(0, .ref 64)]) (S' := [.int ((u.1 64 115) - 1), .ref 134, .int (u.1 133 (((u.1 64 115) - 1).toNatClampNeg)), .int (u.1 132 (((u.1 64 115) - 1).toNatClampNeg)), .ref 64]) (M' := sm g (wi u 64 115 ((u.1 64 115) - 1))) [pm_o (.aload_n 0), pm_of (.getfield 225) 12 112 2, pm_o (.aload_n 0), pm_of (.getfield 569) 12 115 0] (by decide +kernel) rfl ?_
          obtain ⟨ho11, h⟩ := pm_ifs h
          refine pm_iald (by decide +kernel) rfl (pm_ok_in ho11) ?_
          refine pm_blk (pc' := 168) (L' := [(0, .ref 64)]) (S' := [.int ((u.1 64 115) - 1), .ref 135, .int (u.1 134 (((u.1 64 115) - 1).toNatClampNeg)), .int (u.1 133 (((u.1 64 115) - 1).toNatClampNeg)), .int (u.1 132 (((u.1 64 115) - 1).toNatClampNeg)), .ref 64]) (M' := sm g (wi u 64 115 ((u.1 64 115) - 1))) [pm_o (.aload_n 0), pm_of (.getfield 228) 12 113 2, pm_o (.aload_n 0), pm_of (.getfield 569) 12 115 0] (by decide +kernel) rfl ?_
          obtain ⟨ho12, h⟩ := pm_ifs h
          refine pm_iald (by decide +kernel) rfl (pm_ok_in ho12) ?_
          refine pm_blk (pc' := 177) (L' := [(0, .ref 64)]) (S' := [.int ((u.1 64 115) - 1), .ref 136, .int (u.1 135 (((u.1 64 115) - 1).toNatClampNeg)), .int (u.1 134 (((u.1 64 115) - 1).toNatClampNeg)), .int (u.1 133 (((u.1 64 115) - 1).toNatClampNeg)), .int (u.1 132 (((u.1 64 115) - 1).toNatClampNeg)), .ref 64]) (M' := sm g (wi u 64 115 ((u.1 64 115) - 1))) [pm_o (.aload_n 0), pm_of (.getfield 231) 12 114 2, pm_o (.aload_n 0), pm_of (.getfield 569) 12 115 0] (by decide +kernel) rfl ?_
          obtain ⟨ho13, h⟩ := pm_ifs h
          refine pm_lald (by decide +kernel) rfl (pm_ok_in ho13) ?_
          refine pm_blk (pc' := 178) (L' := [(0, .ref 64)]) (S' := [.long (u.2 136 (((u.1 64 115) - 1).toNatClampNeg)), .int (u.1 135 (((u.1 64 115) - 1).toNatClampNeg)), .int (u.1 134 (((u.1 64 115) - 1).toNatClampNeg)), .int (u.1 133 (((u.1 64 115) - 1).toNatClampNeg)), .int (u.1 132 (((u.1 64 115) - 1).toNatClampNeg)), .ref 64]) (M' := sm g (wi u 64 115 ((u.1 64 115) - 1))) [] (by decide +kernel) rfl ?_
          obtain ⟨q14, hq14, h⟩ := pm_bd h
          refine pm_cV (idx := 594) m_Md_convertOne (c_Md_convertOne l h0 D hT hq14) (As := [.int (u.1 132 (((u.1 64 115) - 1).toNatClampNeg)), .int (u.1 133 (((u.1 64 115) - 1).toNatClampNeg)), .int (u.1 134 (((u.1 64 115) - 1).toNatClampNeg)), .int (u.1 135 (((u.1 64 115) - 1).toNatClampNeg)), .long (u.2 136 (((u.1 64 115) - 1).toNatClampNeg))]) (S0 := []) rfl (by decide +kernel) k_Md_convertOne l_Md_594 (Nat.le_of_ble_eq_true rfl) (Nat.le_of_ble_eq_true rfl) (Nat.le_refl _) (Nat.le_refl _) ?_
          refine pm_blk (pc' := 181) (L' := [(0, .ref 64)]) (S' := []) (M' := sm g q14) [] (by decide +kernel) rfl ?_
          refine pm_goto (off := -156) 25 (by decide +kernel) (by decide) ?_
          refine pm_loc [0] rfl ?_
          exact ih  q14 h
        · rw [if_pos hc8] at h
          refine pm_blk (pc' := 82) (L' := [(0, .ref 64)]) (S' := [.int ((u.1 64 118) - 2), .ref 137, .ref 64]) (M' := sm g (wi (wi u 64 115 ((u.1 64 115) - 1)) 64 118 ((u.1 64 118) - 2))) [pm_o (.aload_n 0), pm_o .dup, pm_of (.getfield 572) 12 118 0, pm_oi (.iconst 2) 2, pm_o .isub, pm_of (.putfield 572) 12 118 0, pm_o (.aload_n 0), pm_o (.aload_n 0), pm_of (.getfield 234) 12 116 2, pm_o (.aload_n 0), pm_of (.getfield 572) 12 118 0] (by decide +kernel) rfl ?_
          obtain ⟨ho15, h⟩ := pm_ifs h
          refine pm_iald (by decide +kernel) rfl (pm_ok_in ho15) ?_
          refine pm_blk (pc' := 91) (L' := [(0, .ref 64)]) (S' := [.int ((u.1 64 118) - 2), .ref 138, .int (u.1 137 (((u.1 64 118) - 2).toNatClampNeg)), .ref 64]) (M' := sm g (wi (wi u 64 115 ((u.1 64 115) - 1)) 64 118 ((u.1 64 118) - 2))) [pm_o (.aload_n 0), pm_of (.getfield 237) 12 117 2, pm_o (.aload_n 0), pm_of (.getfield 572) 12 118 0] (by decide +kernel) rfl ?_
          obtain ⟨ho16, h⟩ := pm_ifs h
          refine pm_lald (by decide +kernel) rfl (pm_ok_in ho16) ?_
          refine pm_blk (pc' := 102) (L' := [(0, .ref 64)]) (S' := [.int (((u.1 64 118) - 2) + 1), .ref 137, .long (u.2 138 (((u.1 64 118) - 2).toNatClampNeg)), .int (u.1 137 (((u.1 64 118) - 2).toNatClampNeg)), .ref 64]) (M' := sm g (wi (wi u 64 115 ((u.1 64 115) - 1)) 64 118 ((u.1 64 118) - 2))) [pm_o (.aload_n 0), pm_of (.getfield 234) 12 116 2, pm_o (.aload_n 0), pm_of (.getfield 572) 12 118 0, pm_oi (.iconst 1) 1, pm_o .iadd] (by decide +kernel) rfl ?_
          obtain ⟨ho17, h⟩ := pm_ifs h
          refine pm_iald (by decide +kernel) rfl (pm_ok_in ho17) ?_
          refine pm_blk (pc' := 113) (L' := [(0, .ref 64)]) (S' := [.int (((u.1 64 118) - 2) + 1), .ref 138, .int (u.1 137 ((((u.1 64 118) - 2) + 1).toNatClampNeg)), .long (u.2 138 (((u.1 64 118) - 2).toNatClampNeg)), .int (u.1 137 (((u.1 64 118) - 2).toNatClampNeg)), .ref 64]) (M' := sm g (wi (wi u 64 115 ((u.1 64 115) - 1)) 64 118 ((u.1 64 118) - 2))) [pm_o (.aload_n 0), pm_of (.getfield 237) 12 117 2, pm_o (.aload_n 0), pm_of (.getfield 572) 12 118 0, pm_oi (.iconst 1) 1, pm_o .iadd] (by decide +kernel) rfl ?_
          obtain ⟨ho18, h⟩ := pm_ifs h
          refine pm_lald (by decide +kernel) rfl (pm_ok_in ho18) ?_
          refine pm_blk (pc' := 114) (L' := [(0, .ref 64)]) (S' := [.long (u.2 138 ((((u.1 64 118) - 2) + 1).toNatClampNeg)), .int (u.1 137 ((((u.1 64 118) - 2) + 1).toNatClampNeg)), .long (u.2 138 (((u.1 64 118) - 2).toNatClampNeg)), .int (u.1 137 (((u.1 64 118) - 2).toNatClampNeg)), .ref 64]) (M' := sm g (wi (wi u 64 115 ((u.1 64 115) - 1)) 64 118 ((u.1 64 118) - 2))) [] (by decide +kernel) rfl ?_
          obtain ⟨q19, hq19, h⟩ := pm_bd h
          refine pm_cV (idx := 590) m_Md_makePair (c_Md_makePair l h0 D hT hq19) (As := [.int (u.1 137 (((u.1 64 118) - 2).toNatClampNeg)), .long (u.2 138 (((u.1 64 118) - 2).toNatClampNeg)), .int (u.1 137 ((((u.1 64 118) - 2) + 1).toNatClampNeg)), .long (u.2 138 ((((u.1 64 118) - 2) + 1).toNatClampNeg))]) (S0 := []) rfl (by decide +kernel) k_Md_makePair l_Md_590 (Nat.le_of_ble_eq_true rfl) (Nat.le_of_ble_eq_true rfl) (Nat.le_refl _) (Nat.le_refl _) ?_
          refine pm_blk (pc' := 126) (L' := [(0, .ref 64)]) (S' := [.long (q19.2 64 109), .int (q19.1 64 108), .ref 64]) (M' := sm g q19) [pm_o (.aload_n 0), pm_o (.aload_n 0), pm_of (.getfield 563) 12 108 0, pm_o (.aload_n 0), pm_of (.getfield 566) 12 109 1] (by decide +kernel) rfl ?_
          obtain ⟨q20, hq20, h⟩ := pm_bd h
          refine pm_cV (idx := 575) m_Md_answer (c_Md_answer l h0 D hT hq20) (As := [.int (q19.1 64 108), .long (q19.2 64 109)]) (S0 := []) rfl (by decide +kernel) k_Md_answer l_Md_575 (Nat.le_of_ble_eq_true rfl) (Nat.le_of_ble_eq_true rfl) (Nat.le_refl _) (Nat.le_refl _) ?_
          refine pm_blk (pc' := 129) (L' := [(0, .ref 64)]) (S' := []) (M' := sm g q20) [] (by decide +kernel) rfl ?_
          refine pm_goto (off := -104) 25 (by decide +kernel) (by decide) ?_
          refine pm_loc [0] rfl ?_
          exact ih  q20 h
def F_Md_convert (N : Nat) (a1 : Int32) (a2 : Int32) (a3 : Int32) (g : pm_s) (u : pm_J) : Option (pm_J) := (F_Md_ask a1 a2 a3 (u.1 64 108) (u.2 64 109) g (wi (wi u 64 115 0) 64 118 0)).bind fun q1 => K_Md_convert_25 N g N  q1
set_option maxHeartbeats 4000000 in
set_option maxRecDepth 100000 in
theorem c_Md_convert (l : Launch) (h0 : Nat) (D : pm_D) {g : pm_s} {u : pm_J} (hT : sh_T g) {N : Nat} {a1 : Int32} {a2 : Int32} {a3 : Int32} {out : pm_J} (h : F_Md_convert N a1 a2 a3 g u = some out) : pm_C l h0 D m_Md_convert (5) [.ref 64, .int a1, .int a2, .int a3] (sm g u) none (sm g out) := by
  unfold F_Md_convert at h
  refine pm_met (by decide +kernel) (Nat.le_of_ble_eq_true rfl) (Nat.le_refl _) (Nat.le_refl _) ?_
  intro p e R s m args below meth c
  refine pm_blk (pc' := 22) (L' := [(0, .ref 64), (1, .int a1), (2, .int a2), (3, .int a3)]) (S' := [.long (u.2 64 109), .int (u.1 64 108), .int a3, .int a2, .int a1, .ref 64]) (M' := sm g (wi (wi u 64 115 0) 64 118 0)) [pm_o (.aload_n 0), pm_oi (.iconst 0) 0, pm_of (.putfield 569) 12 115 0, pm_o (.aload_n 0), pm_oi (.iconst 0) 0, pm_of (.putfield 572) 12 118 0, pm_o (.aload_n 0), pm_o (.iload_n 1), pm_o (.iload_n 2), pm_o (.iload_n 3), pm_o (.aload_n 0), pm_of (.getfield 563) 12 108 0, pm_o (.aload_n 0), pm_of (.getfield 566) 12 109 1] (by decide +kernel) rfl ?_
  obtain ⟨q1, hq1, h⟩ := pm_bd h
  refine pm_cV (idx := 583) m_Md_ask (c_Md_ask l h0 D hT hq1) (As := [.int a1, .int a2, .int a3, .int (u.1 64 108), .long (u.2 64 109)]) (S0 := []) rfl (by decide +kernel) k_Md_ask l_Md_583 (Nat.le_of_ble_eq_true rfl) (Nat.le_of_ble_eq_true rfl) (Nat.le_refl _) (Nat.le_refl _) ?_
  refine pm_blk (pc' := 25) (L' := [(0, .ref 64), (1, .int a1), (2, .int a2), (3, .int a3)]) (S' := []) (M' := sm g q1) [] (by decide +kernel) rfl ?_
  refine pm_loc [0] rfl ?_
  exact w_Md_convert_25 l h0 D hT N  q1 h
def F_Md_mayDeep (g : pm_s) (u : pm_J) : Option (Int32 × pm_J) := if (u.1 64 88) = 150 then some (0, (wi u 64 96 3)) else some (1, u)
set_option maxHeartbeats 4000000 in
set_option maxRecDepth 100000 in
theorem c_Md_mayDeep (l : Launch) (h0 : Nat) (D : pm_D) {g : pm_s} {u : pm_J} (hT : sh_T g) {out : Int32 × pm_J} (h : F_Md_mayDeep g u = some out) : pm_C l h0 D m_Md_mayDeep (0) [.ref 64] (sm g u) (some (.int out.1)) (sm g out.2) := by
  unfold F_Md_mayDeep at h
  refine pm_met (by decide +kernel) (Nat.le_of_ble_eq_true rfl) (Nat.le_refl _) (Nat.le_refl _) ?_
  intro p e R s m args below meth c
  refine pm_blk (pc' := 7) (L' := [(0, .ref 64)]) (S' := [.int 150, .int (u.1 64 88)]) (M' := sm g u) [pm_o (.aload_n 0), pm_of (.getfield 524) 12 88 0, pm_oi (.sipush 150) 150] (by decide +kernel) rfl ?_
  refine pm_ic_ne (off := 10) 17 (by decide +kernel) (by decide) (fun hc1 => ?_) (fun hc1 => ?_)
  · rw [if_neg hc1] at h
    refine pm_blk (pc' := 18) (L' := [(0, .ref 64)]) (S' := [.int 1]) (M' := sm g u) [pm_oi (.iconst 1) 1] (by decide +kernel) rfl ?_
    have h9 := Option.some.inj h
    subst h9
    exact pm_retz rfl (by decide +kernel) rfl rfl rfl rfl
  · rw [if_pos hc1] at h
    refine pm_blk (pc' := 16) (L' := [(0, .ref 64)]) (S' := [.int 0]) (M' := sm g (wi u 64 96 3)) [pm_o (.aload_n 0), pm_oi (.iconst 3) 3, pm_of (.putfield 533) 12 96 0, pm_oi (.iconst 0) 0] (by decide +kernel) rfl ?_
    have h9 := Option.some.inj h
    subst h9
    exact pm_retz rfl (by decide +kernel) rfl rfl rfl rfl
def F_Md_push (a1 : Int32) (a2 : Int32) (a3 : Int32) (g : pm_s) (u : pm_J) : Option (pm_J) := if (a1 == 0 || a1 == 1) = true then if pm_ok (u.1 64 88) 150 = true then if pm_ok (u.1 64 88) 150 = true then if pm_ok (u.1 64 88) 150 = true then if pm_ok (u.1 64 88) 150 = true then if ((u.1 64 88) + 1) ≤ (u.1 64 89) then some (wi (wi (wi (wi (wi (wi u 123 ((u.1 64 88).toNatClampNeg) a1) 124 ((u.1 64 88).toNatClampNeg) a2) 125 ((u.1 64 88).toNatClampNeg) a3) 126 ((u.1 64 88).toNatClampNeg) 0) 64 88 ((u.1 64 88) + 1)) 64 89 (u.1 64 89)) else some (wi (wi (wi (wi (wi (wi u 123 ((u.1 64 88).toNatClampNeg) a1) 124 ((u.1 64 88).toNatClampNeg) a2) 125 ((u.1 64 88).toNatClampNeg) a3) 126 ((u.1 64 88).toNatClampNeg) 0) 64 88 ((u.1 64 88) + 1)) 64 89 ((u.1 64 88) + 1)) else none else none else none else none else none
set_option maxHeartbeats 4000000 in
set_option maxRecDepth 100000 in
theorem c_Md_push (l : Launch) (h0 : Nat) (D : pm_D) {g : pm_s} {u : pm_J} (hT : sh_T g) {a1 : Int32} {a2 : Int32} {a3 : Int32} {out : pm_J} (h : F_Md_push a1 a2 a3 g u = some out) : pm_C l h0 D m_Md_push (0) [.ref 64, .int a1, .int a2, .int a3] (sm g u) none (sm g out) := by
  unfold F_Md_push at h
  refine pm_met (by decide +kernel) (Nat.le_of_ble_eq_true rfl) (Nat.le_refl _) (Nat.le_refl _) ?_
  intro p e R s m args below meth c
  refine pm_blk (pc' := 9) (L' := [(0, .ref 64), (1, .int a1), (2, .int a2), (3, .int a3)]) (S' := [.int a1, .int (u.1 64 88), .ref 123]) (M' := sm g u) [pm_o (.aload_n 0), pm_of (.getfield 192) 12 82 2, pm_o (.aload_n 0), pm_of (.getfield 524) 12 88 0, pm_o (.iload_n 1)] (by decide +kernel) rfl ?_
  obtain ⟨hz1, h⟩ := pm_ifs h
  obtain ⟨ho2, h⟩ := pm_ifs h
  refine pm_zast (by decide +kernel) rfl hz1 (pm_ok_in ho2) ?_
  refine pm_blk (pc' := 19) (L' := [(0, .ref 64), (1, .int a1), (2, .int a2), (3, .int a3)]) (S' := [.int a2, .int (u.1 64 88), .ref 124]) (M' := sm g (wi u 123 ((u.1 64 88).toNatClampNeg) a1)) [pm_o (.aload_n 0), pm_of (.getfield 195) 12 83 2, pm_o (.aload_n 0), pm_of (.getfield 524) 12 88 0, pm_o (.iload_n 2)] (by decide +kernel) rfl ?_
  obtain ⟨ho3, h⟩ := pm_ifs h
  refine pm_iast (by decide +kernel) rfl  (pm_ok_in ho3) ?_
  refine pm_blk (pc' := 29) (L' := [(0, .ref 64), (1, .int a1), (2, .int a2), (3, .int a3)]) (S' := [.int a3, .int (u.1 64 88), .ref 125]) (M' := sm g (wi (wi u 123 ((u.1 64 88).toNatClampNeg) a1) 124 ((u.1 64 88).toNatClampNeg) a2)) [pm_o (.aload_n 0), pm_of (.getfield 198) 12 84 2, pm_o (.aload_n 0), pm_of (.getfield 524) 12 88 0, pm_o (.iload_n 3)] (by decide +kernel) rfl ?_
  obtain ⟨ho4, h⟩ := pm_ifs h
  refine pm_iast (by decide +kernel) rfl  (pm_ok_in ho4) ?_
  refine pm_blk (pc' := 39) (L' := [(0, .ref 64), (1, .int a1), (2, .int a2), (3, .int a3)]) (S' := [.int 0, .int (u.1 64 88), .ref 126]) (M' := sm g (wi (wi (wi u 123 ((u.1 64 88).toNatClampNeg) a1) 124 ((u.1 64 88).toNatClampNeg) a2) 125 ((u.1 64 88).toNatClampNeg) a3)) [pm_o (.aload_n 0), pm_of (.getfield 201) 12 85 2, pm_o (.aload_n 0), pm_of (.getfield 524) 12 88 0, pm_oi (.iconst 0) 0] (by decide +kernel) rfl ?_
  obtain ⟨ho5, h⟩ := pm_ifs h
  refine pm_iast (by decide +kernel) rfl  (pm_ok_in ho5) ?_
  refine pm_blk (pc' := 59) (L' := [(0, .ref 64), (1, .int a1), (2, .int a2), (3, .int a3)]) (S' := [.int (u.1 64 89), .int ((u.1 64 88) + 1), .ref 64]) (M' := sm g (wi (wi (wi (wi (wi u 123 ((u.1 64 88).toNatClampNeg) a1) 124 ((u.1 64 88).toNatClampNeg) a2) 125 ((u.1 64 88).toNatClampNeg) a3) 126 ((u.1 64 88).toNatClampNeg) 0) 64 88 ((u.1 64 88) + 1))) [pm_o (.aload_n 0), pm_o .dup, pm_of (.getfield 524) 12 88 0, pm_oi (.iconst 1) 1, pm_o .iadd, pm_of (.putfield 524) 12 88 0, pm_o (.aload_n 0), pm_o (.aload_n 0), pm_of (.getfield 524) 12 88 0, pm_o (.aload_n 0), pm_of (.getfield 527) 12 89 0] (by decide +kernel) rfl ?_
  refine pm_ic_le (off := 10) 69 (by decide +kernel) (by decide) (fun hc6 => ?_) (fun hc6 => ?_)
  · rw [if_pos hc6] at h
    refine pm_blk (pc' := 76) (L' := [(0, .ref 64), (1, .int a1), (2, .int a2), (3, .int a3)]) (S' := []) (M' := sm g (wi (wi (wi (wi (wi (wi u 123 ((u.1 64 88).toNatClampNeg) a1) 124 ((u.1 64 88).toNatClampNeg) a2) 125 ((u.1 64 88).toNatClampNeg) a3) 126 ((u.1 64 88).toNatClampNeg) 0) 64 88 ((u.1 64 88) + 1)) 64 89 (u.1 64 89))) [pm_o (.aload_n 0), pm_of (.getfield 527) 12 89 0, pm_of (.putfield 527) 12 89 0] (by decide +kernel) rfl ?_
    have h9 := Option.some.inj h
    subst h9
    exact pm_retv rfl (by decide +kernel) rfl rfl
  · rw [if_neg hc6] at h
    refine pm_blk (pc' := 66) (L' := [(0, .ref 64), (1, .int a1), (2, .int a2), (3, .int a3)]) (S' := [.int ((u.1 64 88) + 1), .ref 64]) (M' := sm g (wi (wi (wi (wi (wi u 123 ((u.1 64 88).toNatClampNeg) a1) 124 ((u.1 64 88).toNatClampNeg) a2) 125 ((u.1 64 88).toNatClampNeg) a3) 126 ((u.1 64 88).toNatClampNeg) 0) 64 88 ((u.1 64 88) + 1))) [pm_o (.aload_n 0), pm_of (.getfield 524) 12 88 0] (by decide +kernel) rfl ?_
    refine pm_goto (off := 7) 73 (by decide +kernel) (by decide) ?_
    refine pm_blk (pc' := 76) (L' := [(0, .ref 64), (1, .int a1), (2, .int a2), (3, .int a3)]) (S' := []) (M' := sm g (wi (wi (wi (wi (wi (wi u 123 ((u.1 64 88).toNatClampNeg) a1) 124 ((u.1 64 88).toNatClampNeg) a2) 125 ((u.1 64 88).toNatClampNeg) a3) 126 ((u.1 64 88).toNatClampNeg) 0) 64 88 ((u.1 64 88) + 1)) 64 89 ((u.1 64 88) + 1))) [pm_of (.putfield 527) 12 89 0] (by decide +kernel) rfl ?_
    have h9 := Option.some.inj h
    subst h9
    exact pm_retv rfl (by decide +kernel) rfl rfl
def F_Md_begin (a1 : Int32) (a2 : Int32) (g : pm_s) (u : pm_J) : Option (pm_J) := (F_Md_mayDeep g u).bind fun q1 => if q1.1 = 0 then some q1.2 else if (q1.2.1 64 97) = (q1.2.1 64 98) then some (wi q1.2 64 96 2) else (F_Md_push 0 a1 a2 g (wi q1.2 64 97 ((q1.2.1 64 97) + 1))).bind fun q4 => some q4
set_option maxHeartbeats 4000000 in
set_option maxRecDepth 100000 in
theorem c_Md_begin (l : Launch) (h0 : Nat) (D : pm_D) {g : pm_s} {u : pm_J} (hT : sh_T g) {a1 : Int32} {a2 : Int32} {out : pm_J} (h : F_Md_begin a1 a2 g u = some out) : pm_C l h0 D m_Md_begin (1) [.ref 64, .int a1, .int a2] (sm g u) none (sm g out) := by
  unfold F_Md_begin at h
  refine pm_met (by decide +kernel) (Nat.le_of_ble_eq_true rfl) (Nat.le_refl _) (Nat.le_refl _) ?_
  intro p e R s m args below meth c
  refine pm_blk (pc' := 1) (L' := [(0, .ref 64), (1, .int a1), (2, .int a2)]) (S' := [.ref 64]) (M' := sm g u) [pm_o (.aload_n 0)] (by decide +kernel) rfl ?_
  obtain ⟨q1, hq1, h⟩ := pm_bd h
  refine pm_cV (idx := 597) m_Md_mayDeep (c_Md_mayDeep l h0 D hT hq1) (As := []) (S0 := []) rfl (by decide +kernel) k_Md_mayDeep l_Md_597 (Nat.le_of_ble_eq_true rfl) (Nat.le_of_ble_eq_true rfl) (Nat.le_refl _) (Nat.le_refl _) ?_
  refine pm_blk (pc' := 4) (L' := [(0, .ref 64), (1, .int a1), (2, .int a2)]) (S' := [.int q1.1]) (M' := sm g q1.2) [] (by decide +kernel) rfl ?_
  refine pm_if_eq (off := 39) 43 (by decide +kernel) (by decide) (fun hc2 => ?_) (fun hc2 => ?_)
  · rw [if_pos hc2] at h
    have h9 := Option.some.inj h
    subst h9
    exact pm_retv rfl (by decide +kernel) rfl rfl
  · rw [if_neg hc2] at h
    refine pm_blk (pc' := 15) (L' := [(0, .ref 64), (1, .int a1), (2, .int a2)]) (S' := [.int (q1.2.1 64 98), .int (q1.2.1 64 97)]) (M' := sm g q1.2) [pm_o (.aload_n 0), pm_of (.getfield 536) 12 97 0, pm_o (.aload_n 0), pm_of (.getfield 600) 12 98 0] (by decide +kernel) rfl ?_
    refine pm_ic_ne (off := 11) 26 (by decide +kernel) (by decide) (fun hc3 => ?_) (fun hc3 => ?_)
    · rw [if_neg hc3] at h
      refine pm_blk (pc' := 40) (L' := [(0, .ref 64), (1, .int a1), (2, .int a2)]) (S' := [.int a2, .int a1, .int 0, .ref 64]) (M' := sm g (wi q1.2 64 97 ((q1.2.1 64 97) + 1))) [pm_o (.aload_n 0), pm_o .dup, pm_of (.getfield 536) 12 97 0, pm_oi (.iconst 1) 1, pm_o .iadd, pm_of (.putfield 536) 12 97 0, pm_o (.aload_n 0), pm_oi (.iconst 0) 0, pm_o (.iload_n 1), pm_o (.iload_n 2)] (by decide +kernel) rfl ?_
      obtain ⟨q4, hq4, h⟩ := pm_bd h
      refine pm_cV (idx := 603) m_Md_push (c_Md_push l h0 D hT hq4) (As := [.int 0, .int a1, .int a2]) (S0 := []) rfl (by decide +kernel) k_Md_push l_Md_603 (Nat.le_of_ble_eq_true rfl) (Nat.le_of_ble_eq_true rfl) (Nat.le_refl _) (Nat.le_refl _) ?_
      refine pm_blk (pc' := 43) (L' := [(0, .ref 64), (1, .int a1), (2, .int a2)]) (S' := []) (M' := sm g q4) [] (by decide +kernel) rfl ?_
      have h9 := Option.some.inj h
      subst h9
      exact pm_retv rfl (by decide +kernel) rfl rfl
    · rw [if_pos hc3] at h
      refine pm_blk (pc' := 23) (L' := [(0, .ref 64), (1, .int a1), (2, .int a2)]) (S' := []) (M' := sm g (wi q1.2 64 96 2)) [pm_o (.aload_n 0), pm_oi (.iconst 2) 2, pm_of (.putfield 533) 12 96 0] (by decide +kernel) rfl ?_
      refine pm_goto (off := 20) 43 (by decide +kernel) (by decide) ?_
      have h9 := Option.some.inj h
      subst h9
      exact pm_retv rfl (by decide +kernel) rfl rfl
def F_Md_finish (a1 : Int32) (a2 : Int64) (g : pm_s) (u : pm_J) : Option (pm_J) := some (wj (wi (wi u 64 88 ((u.1 64 88) - 1)) 64 93 a1) 64 94 a2)
set_option maxHeartbeats 4000000 in
set_option maxRecDepth 100000 in
theorem c_Md_finish (l : Launch) (h0 : Nat) (D : pm_D) {g : pm_s} {u : pm_J} (hT : sh_T g) {a1 : Int32} {a2 : Int64} {out : pm_J} (h : F_Md_finish a1 a2 g u = some out) : pm_C l h0 D m_Md_finish (0) [.ref 64, .int a1, .long a2] (sm g u) none (sm g out) := by
  unfold F_Md_finish at h
  refine pm_met (by decide +kernel) (Nat.le_of_ble_eq_true rfl) (Nat.le_refl _) (Nat.le_refl _) ?_
  intro p e R s m args below meth c
  refine pm_blk (pc' := 20) (L' := [(0, .ref 64), (1, .int a1), (2, .long a2)]) (S' := []) (M' := sm g (wj (wi (wi u 64 88 ((u.1 64 88) - 1)) 64 93 a1) 64 94 a2)) [pm_o (.aload_n 0), pm_o .dup, pm_of (.getfield 524) 12 88 0, pm_oi (.iconst 1) 1, pm_o .isub, pm_of (.putfield 524) 12 88 0, pm_o (.aload_n 0), pm_o (.iload_n 1), pm_of (.putfield 607) 12 93 0, pm_o (.aload_n 0), pm_o (.lload_n 2), pm_of (.putfield 610) 12 94 1] (by decide +kernel) rfl ?_
  have h9 := Option.some.inj h
  subst h9
  exact pm_retv rfl (by decide +kernel) rfl rfl
def F_Md_locals0 (a1 : Int32) (g : pm_s) (u : pm_J) : Option (Int32 × pm_J) := if pm_ok a1 30 = true then if ((u.1 64 72) + (u.1 94 a1.toNatClampNeg)) ≤ 60000 then if pm_ok a1 30 = true then some (u.1 64 72, (wi u 64 72 ((u.1 64 72) + (u.1 94 a1.toNatClampNeg)))) else none else some (0, (wi u 64 96 4)) else none
set_option maxHeartbeats 4000000 in
set_option maxRecDepth 100000 in
theorem c_Md_locals0 (l : Launch) (h0 : Nat) (D : pm_D) {g : pm_s} {u : pm_J} (hT : sh_T g) {a1 : Int32} {out : Int32 × pm_J} (h : F_Md_locals0 a1 g u = some out) : pm_C l h0 D m_Md_locals0 (0) [.ref 64, .int a1] (sm g u) (some (.int out.1)) (sm g out.2) := by
  unfold F_Md_locals0 at h
  refine pm_met (by decide +kernel) (Nat.le_of_ble_eq_true rfl) (Nat.le_refl _) (Nat.le_refl _) ?_
  intro p e R s m args below meth c
  refine pm_blk (pc' := 9) (L' := [(0, .ref 64), (1, .int a1)]) (S' := [.int a1, .ref 94, .int (u.1 64 72)]) (M' := sm g u) [pm_o (.aload_n 0), pm_of (.getfield 518) 12 72 0, pm_o (.aload_n 0), pm_of (.getfield 104) 12 37 2, pm_o (.iload_n 1)] (by decide +kernel) rfl ?_
  obtain ⟨ho1, h⟩ := pm_ifs h
  refine pm_iald (by decide +kernel) rfl (pm_ok_in ho1) ?_
  refine pm_blk (pc' := 13) (L' := [(0, .ref 64), (1, .int a1)]) (S' := [.int 60000, .int ((u.1 64 72) + (u.1 94 a1.toNatClampNeg))]) (M' := sm g u) [pm_o .iadd, pm_oi (.ldc 161) 60000] (by decide +kernel) rfl ?_
  refine pm_ic_le (off := 10) 23 (by decide +kernel) (by decide) (fun hc2 => ?_) (fun hc2 => ?_)
  · rw [if_pos hc2] at h
    refine pm_blk (pc' := 38) (L' := [(2, .int (u.1 64 72)), (0, .ref 64), (1, .int a1)]) (S' := [.int a1, .ref 94, .int (u.1 64 72), .ref 64]) (M' := sm g u) [pm_o (.aload_n 0), pm_of (.getfield 518) 12 72 0, pm_o (.istore_n 2), pm_o (.aload_n 0), pm_o .dup, pm_of (.getfield 518) 12 72 0, pm_o (.aload_n 0), pm_of (.getfield 104) 12 37 2, pm_o (.iload_n 1)] (by decide +kernel) rfl ?_
    obtain ⟨ho3, h⟩ := pm_ifs h
    refine pm_iald (by decide +kernel) rfl (pm_ok_in ho3) ?_
    refine pm_blk (pc' := 44) (L' := [(2, .int (u.1 64 72)), (0, .ref 64), (1, .int a1)]) (S' := [.int (u.1 64 72)]) (M' := sm g (wi u 64 72 ((u.1 64 72) + (u.1 94 a1.toNatClampNeg)))) [pm_o .iadd, pm_of (.putfield 518) 12 72 0, pm_o (.iload_n 2)] (by decide +kernel) rfl ?_
    have h9 := Option.some.inj h
    subst h9
    exact pm_reti rfl (by decide +kernel) rfl rfl rfl
  · rw [if_neg hc2] at h
    refine pm_blk (pc' := 22) (L' := [(0, .ref 64), (1, .int a1)]) (S' := [.int 0]) (M' := sm g (wi u 64 96 4)) [pm_o (.aload_n 0), pm_oi (.iconst 4) 4, pm_of (.putfield 533) 12 96 0, pm_oi (.iconst 0) 0] (by decide +kernel) rfl ?_
    have h9 := Option.some.inj h
    subst h9
    exact pm_reti rfl (by decide +kernel) rfl rfl rfl
