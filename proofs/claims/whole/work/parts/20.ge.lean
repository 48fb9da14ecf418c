def K_Md_homeOf_2 (N : Nat) (g : pm_s) (u : pm_J) : Nat → Int32 → Int32 → Option (Int32)
  | 0, _, _ => none
  | n + 1, x1, x2 => if pm_ok x2 30 = true then if x1 ≤ (u.1 96 x2.toNatClampNeg) then some x2 else K_Md_homeOf_2 N g u  n x1 (x2 + 1) else none
set_option maxHeartbeats 4000000 in
set_option maxRecDepth 100000 in
theorem w_Md_homeOf_2 (l : Launch) (h0 : Nat) (D : pm_D) {g : pm_s} (hT : sh_T g) {N : Nat} {u : pm_J} {out : Int32} {p : Program} {e : Env} {R : Room} {s : State} {m : MethodId} {args : Array Value} {below : List Frame} {meth : Method} {c : Code} : ∀ (n : Nat) (x1 : Int32) (x2 : Int32), K_Md_homeOf_2 N g u n x1 x2 = some out → pm_V (p, l, e, R, s, m, args, below, meth, c) m_Md_homeOf h0 D (g.1, g.2.1, g.1, g.2.1, 0) (pm_E (p, l, e, R, s, m, args, below, meth, c) h0 D (sm g u) (some (.int out)) (sm g u)) 2 [(0, .ref 64), (1, .int x1), (2, .int x2)] [] (sm g u) := by
  intro n
  induction n with
  | zero => intro x1 x2 h; cases h
  | succ n ih =>
    intro x1 x2 h
    rw [K_Md_homeOf_2] at h
    refine pm_blk (pc' := 8) (L' := [(0, .ref 64), (1, .int x1), (2, .int x2)]) (S' := [.int x2, .ref 96, .int x1]) (M' := sm g u) [pm_o (.iload_n 1), pm_o (.aload_n 0), pm_of (.getfield 110) 12 39 2, pm_o (.iload_n 2)] (by decide +kernel) rfl ?_
    obtain ⟨ho1, h⟩ := pm_ifs h
    refine pm_iald (by decide +kernel) rfl (pm_ok_in ho1) ?_
    refine pm_blk (pc' := 9) (L' := [(0, .ref 64), (1, .int x1), (2, .int x2)]) (S' := [.int (u.1 96 x2.toNatClampNeg), .int x1]) (M' := sm g u) [] (by decide +kernel) rfl ?_
    refine pm_ic_le (off := 9) 18 (by decide +kernel) (by decide) (fun hc2 => ?_) (fun hc2 => ?_)
    · rw [if_pos hc2] at h
      refine pm_blk (pc' := 19) (L' := [(0, .ref 64), (1, .int x1), (2, .int x2)]) (S' := [.int x2]) (M' := sm g u) [pm_o (.iload_n 2)] (by decide +kernel) rfl ?_
      have h9 := Option.some.inj h
      subst h9
      exact pm_reti rfl (by decide +kernel) rfl rfl rfl
    · rw [if_neg hc2] at h
      refine pm_blk (pc' := 15) (L' := [(2, .int (x2 + 1)), (0, .ref 64), (1, .int x1)]) (S' := []) (M' := sm g u) [pm_oi (.iinc 2 1) 1] (by decide +kernel) rfl ?_
      refine pm_goto (off := -13) 2 (by decide +kernel) (by decide) ?_
      refine pm_loc [1, 2, 0] rfl ?_
      exact ih x1 (x2 + 1) h
def F_Md_homeOf (N : Nat) (a1 : Int32) (g : pm_s) (u : pm_J) : Option (Int32) := K_Md_homeOf_2 N g u N a1 0
set_option maxHeartbeats 4000000 in
set_option maxRecDepth 100000 in
theorem c_Md_homeOf (l : Launch) (h0 : Nat) (D : pm_D) {g : pm_s} {u : pm_J} (hT : sh_T g) {N : Nat} {a1 : Int32} {out : Int32} (h : F_Md_homeOf N a1 g u = some out) : pm_C l h0 D m_Md_homeOf (0) [.ref 64, .int a1] (sm g u) (some (.int out)) (sm g u) := by
  unfold F_Md_homeOf at h
  refine pm_met (by decide +kernel) (Nat.le_of_ble_eq_true rfl) (Nat.le_refl _) (Nat.le_refl _) ?_
  intro p e R s m args below meth c
  refine pm_blk (pc' := 2) (L' := [(2, .int 0), (0, .ref 64), (1, .int a1)]) (S' := []) (M' := sm g u) [pm_oi (.iconst 0) 0, pm_o (.istore_n 2)] (by decide +kernel) rfl ?_
  refine pm_loc [1, 2, 0] rfl ?_
  exact w_Md_homeOf_2 l h0 D hT N a1 0 h
def K_Md_callFunction_105 (N : Nat) (g : pm_s) : Nat → Int32 → Int32 → Int32 → Int32 → Int32 → pm_J → Option (pm_J)
  | 0, _, _, _, _, _, _ => none
  | n + 1, x2, x3, x4, x5, x6, u => if pm_ok x4 30 = true then if (u.1 94 x4.toNatClampNeg) ≤ x6 then if pm_ok x2 2400 = true then if pm_ok (x5 + (u.1 82 x2.toNatClampNeg)) 60000 = true then if pm_ok x2 2400 = true then if pm_ok (x5 + (u.1 82 x2.toNatClampNeg)) 60000 = true then if pm_ok x2 2400 = true then (F_Md_begin (u.1 79 x2.toNatClampNeg) x5 g (wj (wi u 113 ((x5 + (u.1 82 x2.toNatClampNeg)).toNatClampNeg) (u.1 64 108)) 114 ((x5 + (u.1 82 x2.toNatClampNeg)).toNatClampNeg) (u.2 64 109))).bind fun q15 => some q15 else none else none else none else none else none else if pm_ok (x3 + x6) 60000 = true then if pm_ok (x5 + x6) 60000 = true then if pm_ok (x3 + x6) 60000 = true then if pm_ok (x5 + x6) 60000 = true then K_Md_callFunction_105 N g  n x2 x3 x4 x5 (x6 + 1) (wj (wi u 113 ((x5 + x6).toNatClampNeg) (u.1 113 ((x3 + x6).toNatClampNeg))) 114 ((x5 + x6).toNatClampNeg) (u.2 114 ((x3 + x6).toNatClampNeg))) else none else none else none else none else none
set_option maxHeartbeats 4000000 in
set_option maxRecDepth 100000 in
theorem w_Md_callFunction_105 (l : Launch) (h0 : Nat) (D : pm_D) {g : pm_s} (hT : sh_T g) {N : Nat} {u0 : pm_J} {out : pm_J} {p : Program} {e : Env} {R : Room} {s : State} {m : MethodId} {args : Array Value} {below : List Frame} {meth : Method} {c : Code} : ∀ (n : Nat) (x2 : Int32) (x3 : Int32) (x4 : Int32) (x5 : Int32) (x6 : Int32) (u : pm_J), K_Md_callFunction_105 N g n x2 x3 x4 x5 x6 u = some out → pm_V (p, l, e, R, s, m, args, below, meth, c) m_Md_callFunction h0 D (g.1, g.2.1, g.1, g.2.1, 2) (pm_E (p, l, e, R, s, m, args, below, meth, c) h0 D (sm g u0) none (sm g out)) 105 [(0, .ref 64), (2, .int x2), (3, .int x3), (4, .int x4), (5, .int x5), (6, .int x6)] [] (sm g u) := by
  intro n
  induction n with
  | zero => intro x2 x3 x4 x5 x6 u h; cases h
  | succ n ih =>
    intro x2 x3 x4 x5 x6 u h
    rw [K_Md_callFunction_105] at h
    refine pm_blk (pc' := 113) (L' := [(0, .ref 64), (2, .int x2), (3, .int x3), (4, .int x4), (5, .int x5), (6, .int x6)]) (S' := [.int x4, .ref 94, .int x6]) (M' := sm g u) [pm_o (.iload 6), pm_o (.aload_n 0), pm_of (.getfield 104) 12 37 2, pm_o (.iload 4)] (by decide +kernel) rfl ?_
    obtain ⟨ho8, h⟩ := pm_ifs h
    refine pm_iald (by decide +kernel) rfl (pm_ok_in ho8) ?_
    refine pm_blk (pc' := 114) (L' := [(0, .ref 64), (2, .int x2), (3, .int x3), (4, .int x4), (5, .int x5), (6, .int x6)]) (S' := [.int (u.1 94 x4.toNatClampNeg), .int x6]) (M' := sm g u) [] (by decide +kernel) rfl ?_
    refine pm_ic_ge (off := 47) 161 (by decide +kernel) (by decide) (fun hc9 => ?_) (fun hc9 => ?_)
    · rw [if_pos hc9] at h
      refine pm_blk (pc' := 172) (L' := [(0, .ref 64), (2, .int x2), (3, .int x3), (4, .int x4), (5, .int x5), (6, .int x6)]) (S' := [.int x2, .ref 82, .int x5, .ref 113]) (M' := sm g u) [pm_o (.aload_n 0), pm_of (.getfield 162) 12 70 2, pm_o (.iload 5), pm_o (.aload_n 0), pm_of (.getfield 68) 12 24 2, pm_o (.iload_n 2)] (by decide +kernel) rfl ?_
      obtain ⟨ho10, h⟩ := pm_ifs h
      refine pm_iald (by decide +kernel) rfl (pm_ok_in ho10) ?_
      refine pm_blk (pc' := 178) (L' := [(0, .ref 64), (2, .int x2), (3, .int x3), (4, .int x4), (5, .int x5), (6, .int x6)]) (S' := [.int (u.1 64 108), .int (x5 + (u.1 82 x2.toNatClampNeg)), .ref 113]) (M' := sm g u) [pm_o .iadd, pm_o (.aload_n 0), pm_of (.getfield 563) 12 108 0] (by decide +kernel) rfl ?_
      obtain ⟨ho11, h⟩ := pm_ifs h
      refine pm_iast (by decide +kernel) rfl  (pm_ok_in ho11) ?_
      refine pm_blk (pc' := 190) (L' := [(0, .ref 64), (2, .int x2), (3, .int x3), (4, .int x4), (5, .int x5), (6, .int x6)]) (S' := [.int x2, .ref 82, .int x5, .ref 114]) (M' := sm g (wi u 113 ((x5 + (u.1 82 x2.toNatClampNeg)).toNatClampNeg) (u.1 64 108))) [pm_o (.aload_n 0), pm_of (.getfield 165) 12 71 2, pm_o (.iload 5), pm_o (.aload_n 0), pm_of (.getfield 68) 12 24 2, pm_o (.iload_n 2)] (by decide +kernel) rfl ?_
      obtain ⟨ho12, h⟩ := pm_ifs h
      refine pm_iald (by decide +kernel) rfl (pm_ok_in ho12) ?_
      refine pm_blk (pc' := 196) (L' := [(0, .ref 64), (2, .int x2), (3, .int x3), (4, .int x4), (5, .int x5), (6, .int x6)]) (S' := [.long (u.2 64 109), .int (x5 + (u.1 82 x2.toNatClampNeg)), .ref 114]) (M' := sm g (wi u 113 ((x5 + (u.1 82 x2.toNatClampNeg)).toNatClampNeg) (u.1 64 108))) [pm_o .iadd, pm_o (.aload_n 0), pm_of (.getfield 566) 12 109 1] (by decide +kernel) rfl ?_
      obtain ⟨ho13, h⟩ := pm_ifs h
      refine pm_last (by decide +kernel) rfl  (pm_ok_in ho13) ?_
      refine pm_blk (pc' := 203) (L' := [(0, .ref 64), (2, .int x2), (3, .int x3), (4, .int x4), (5, .int x5), (6, .int x6)]) (S' := [.int x2, .ref 79, .ref 64]) (M' := sm g (wj (wi u 113 ((x5 + (u.1 82 x2.toNatClampNeg)).toNatClampNeg) (u.1 64 108)) 114 ((x5 + (u.1 82 x2.toNatClampNeg)).toNatClampNeg) (u.2 64 109))) [pm_o (.aload_n 0), pm_o (.aload_n 0), pm_of (.getfield 59) 12 21 2, pm_o (.iload_n 2)] (by decide +kernel) rfl ?_
      obtain ⟨ho14, h⟩ := pm_ifs h
      refine pm_iald (by decide +kernel) rfl (pm_ok_in ho14) ?_
      refine pm_blk (pc' := 206) (L' := [(0, .ref 64), (2, .int x2), (3, .int x3), (4, .int x4), (5, .int x5), (6, .int x6)]) (S' := [.int x5, .int (u.1 79 x2.toNatClampNeg), .ref 64]) (M' := sm g (wj (wi u 113 ((x5 + (u.1 82 x2.toNatClampNeg)).toNatClampNeg) (u.1 64 108)) 114 ((x5 + (u.1 82 x2.toNatClampNeg)).toNatClampNeg) (u.2 64 109))) [pm_o (.iload 5)] (by decide +kernel) rfl ?_
      obtain ⟨q15, hq15, h⟩ := pm_bd h
      refine pm_cV (idx := 619) m_Md_begin (c_Md_begin l h0 D hT hq15) (As := [.int (u.1 79 x2.toNatClampNeg), .int x5]) (S0 := []) rfl (by decide +kernel) k_Md_begin l_Md_619 (Nat.le_of_ble_eq_true rfl) (Nat.le_of_ble_eq_true rfl) (Nat.le_refl _) (Nat.le_refl _) ?_
      refine pm_blk (pc' := 209) (L' := [(0, .ref 64), (2, .int x2), (3, .int x3), (4, .int x4), (5, .int x5), (6, .int x6)]) (S' := []) (M' := sm g q15) [] (by decide +kernel) rfl ?_
      have h9 := Option.some.inj h
      subst h9
      exact pm_retv rfl (by decide +kernel) rfl rfl
    · rw [if_neg hc9] at h
      refine pm_blk (pc' := 134) (L' := [(0, .ref 64), (2, .int x2), (3, .int x3), (4, .int x4), (5, .int x5), (6, .int x6)]) (S' := [.int (x3 + x6), .ref 113, .int (x5 + x6), .ref 113]) (M' := sm g u) [pm_o (.aload_n 0), pm_of (.getfield 162) 12 70 2, pm_o (.iload 5), pm_o (.iload 6), pm_o .iadd, pm_o (.aload_n 0), pm_of (.getfield 162) 12 70 2, pm_o (.iload_n 3), pm_o (.iload 6), pm_o .iadd] (by decide +kernel) rfl ?_
      obtain ⟨ho16, h⟩ := pm_ifs h
      refine pm_iald (by decide +kernel) rfl (pm_ok_in ho16) ?_
      refine pm_blk (pc' := 135) (L' := [(0, .ref 64), (2, .int x2), (3, .int x3), (4, .int x4), (5, .int x5), (6, .int x6)]) (S' := [.int (u.1 113 ((x3 + x6).toNatClampNeg)), .int (x5 + x6), .ref 113]) (M' := sm g u) [] (by decide +kernel) rfl ?_
      obtain ⟨ho17, h⟩ := pm_ifs h
      refine pm_iast (by decide +kernel) rfl  (pm_ok_in ho17) ?_
      refine pm_blk (pc' := 153) (L' := [(0, .ref 64), (2, .int x2), (3, .int x3), (4, .int x4), (5, .int x5), (6, .int x6)]) (S' := [.int (x3 + x6), .ref 114, .int (x5 + x6), .ref 114]) (M' := sm g (wi u 113 ((x5 + x6).toNatClampNeg) (u.1 113 ((x3 + x6).toNatClampNeg)))) [pm_o (.aload_n 0), pm_of (.getfield 165) 12 71 2, pm_o (.iload 5), pm_o (.iload 6), pm_o .iadd, pm_o (.aload_n 0), pm_of (.getfield 165) 12 71 2, pm_o (.iload_n 3), pm_o (.iload 6), pm_o .iadd] (by decide +kernel) rfl ?_
      obtain ⟨ho18, h⟩ := pm_ifs h
      refine pm_lald (by decide +kernel) rfl (pm_ok_in ho18) ?_
      refine pm_blk (pc' := 154) (L' := [(0, .ref 64), (2, .int x2), (3, .int x3), (4, .int x4), (5, .int x5), (6, .int x6)]) (S' := [.long (u.2 114 ((x3 + x6).toNatClampNeg)), .int (x5 + x6), .ref 114]) (M' := sm g (wi u 113 ((x5 + x6).toNatClampNeg) (u.1 113 ((x3 + x6).toNatClampNeg)))) [] (by decide +kernel) rfl ?_
      obtain ⟨ho19, h⟩ := pm_ifs h
      refine pm_last (by decide +kernel) rfl  (pm_ok_in ho19) ?_
      refine pm_blk (pc' := 158) (L' := [(6, .int (x6 + 1)), (0, .ref 64), (2, .int x2), (3, .int x3), (4, .int x4), (5, .int x5)]) (S' := []) (M' := sm g (wj (wi u 113 ((x5 + x6).toNatClampNeg) (u.1 113 ((x3 + x6).toNatClampNeg))) 114 ((x5 + x6).toNatClampNeg) (u.2 114 ((x3 + x6).toNatClampNeg)))) [pm_oi (.iinc 6 1) 1] (by decide +kernel) rfl ?_
      refine pm_goto (off := -53) 105 (by decide +kernel) (by decide) ?_
      refine pm_loc [1, 2, 3, 4, 5, 0] rfl ?_
      exact ih x2 x3 x4 x5 (x6 + 1) (wj (wi u 113 ((x5 + x6).toNatClampNeg) (u.1 113 ((x3 + x6).toNatClampNeg))) 114 ((x5 + x6).toNatClampNeg) (u.2 114 ((x3 + x6).toNatClampNeg))) h
def F_Md_callFunction (N : Nat) (a1 : Int32) (g : pm_s) (u : pm_J) : Option (pm_J) := if pm_ok a1 4000 = true then if (u.1 115 a1.toNatClampNeg) = 0 then if pm_ok a1 4000 = true then if pm_ok a1 4000 = true then (F_Md_homeOf N ((u.2 120 a1.toNatClampNeg).toInt32) g u).bind fun q5 => (F_Md_locals0 q5 g u).bind fun q6 => if (q6.2.1 64 96) = 0 then K_Md_callFunction_105 N g N ((u.2 120 a1.toNatClampNeg).toInt32) ((u.2 122 a1.toNatClampNeg).toInt32) q5 q6.1 0 q6.2 else some q6.2 else none else none else (F_Md_mayDeep g u).bind fun q20 => if q20.1 = 0 then some q20.2 else (F_Md_push 1 a1 0 g (wi q20.2 64 104 ((q20.2.1 64 104) + 1))).bind fun q22 => if pm_ok ((q22.1 64 88) - 1) 150 = true then if pm_ok ((q22.1 64 88) - 1) 150 = true then some (wj (wi q22 127 (((q22.1 64 88) - 1).toNatClampNeg) (q22.1 64 108)) 128 (((q22.1 64 88) - 1).toNatClampNeg) (q22.2 64 109)) else none else none else none
set_option maxHeartbeats 4000000 in
set_option maxRecDepth 100000 in
theorem c_Md_callFunction (l : Launch) (h0 : Nat) (D : pm_D) {g : pm_s} {u : pm_J} (hT : sh_T g) {N : Nat} {a1 : Int32} {out : pm_J} (h : F_Md_callFunction N a1 g u = some out) : pm_C l h0 D m_Md_callFunction (2) [.ref 64, .int a1] (sm g u) none (sm g out) := by
  unfold F_Md_callFunction at h
  refine pm_met (by decide +kernel) (Nat.le_of_ble_eq_true rfl) (Nat.le_refl _) (Nat.le_refl _) ?_
  intro p e R s m args below meth c
  refine pm_blk (pc' := 5) (L' := [(0, .ref 64), (1, .int a1)]) (S' := [.int a1, .ref 115]) (M' := sm g u) [pm_o (.aload_n 0), pm_of (.getfield 168) 12 73 2, pm_o (.iload_n 1)] (by decide +kernel) rfl ?_
  obtain ⟨ho1, h⟩ := pm_ifs h
  refine pm_zald (by decide +kernel) rfl (pm_ok_in ho1) ?_
  refine pm_blk (pc' := 6) (L' := [(0, .ref 64), (1, .int a1)]) (S' := [.int (u.1 115 a1.toNatClampNeg)]) (M' := sm g u) [] (by decide +kernel) rfl ?_
  refine pm_if_eq (off := 58) 64 (by decide +kernel) (by decide) (fun hc2 => ?_) (fun hc2 => ?_)
  · rw [if_pos hc2] at h
    refine pm_blk (pc' := 69) (L' := [(0, .ref 64), (1, .int a1)]) (S' := [.int a1, .ref 120]) (M' := sm g u) [pm_o (.aload_n 0), pm_of (.getfield 183) 12 78 2, pm_o (.iload_n 1)] (by decide +kernel) rfl ?_
    obtain ⟨ho3, h⟩ := pm_ifs h
    refine pm_lald (by decide +kernel) rfl (pm_ok_in ho3) ?_
    refine pm_blk (pc' := 77) (L' := [(2, .int ((u.2 120 a1.toNatClampNeg).toInt32)), (0, .ref 64), (1, .int a1)]) (S' := [.int a1, .ref 122]) (M' := sm g u) [pm_o .l2i, pm_o (.istore_n 2), pm_o (.aload_n 0), pm_of (.getfield 189) 12 80 2, pm_o (.iload_n 1)] (by decide +kernel) rfl ?_
    obtain ⟨ho4, h⟩ := pm_ifs h
    refine pm_lald (by decide +kernel) rfl (pm_ok_in ho4) ?_
    refine pm_blk (pc' := 82) (L' := [(3, .int ((u.2 122 a1.toNatClampNeg).toInt32)), (2, .int ((u.2 120 a1.toNatClampNeg).toInt32)), (0, .ref 64), (1, .int a1)]) (S' := [.int ((u.2 120 a1.toNatClampNeg).toInt32), .ref 64]) (M' := sm g u) [pm_o .l2i, pm_o (.istore_n 3), pm_o (.aload_n 0), pm_o (.iload_n 2)] (by decide +kernel) rfl ?_
    obtain ⟨q5, hq5, h⟩ := pm_bd h
    refine pm_cV (idx := 613) m_Md_homeOf (c_Md_homeOf l h0 D hT hq5) (As := [.int ((u.2 120 a1.toNatClampNeg).toInt32)]) (S0 := []) rfl (by decide +kernel) k_Md_homeOf l_Md_613 (Nat.le_of_ble_eq_true rfl) (Nat.le_of_ble_eq_true rfl) (Nat.le_refl _) (Nat.le_refl _) ?_
    refine pm_blk (pc' := 90) (L' := [(4, .int q5), (3, .int ((u.2 122 a1.toNatClampNeg).toInt32)), (2, .int ((u.2 120 a1.toNatClampNeg).toInt32)), (0, .ref 64), (1, .int a1)]) (S' := [.int q5, .ref 64]) (M' := sm g u) [pm_o (.istore 4), pm_o (.aload_n 0), pm_o (.iload 4)] (by decide +kernel) rfl ?_
    obtain ⟨q6, hq6, h⟩ := pm_bd h
    refine pm_cV (idx := 616) m_Md_locals0 (c_Md_locals0 l h0 D hT hq6) (As := [.int q5]) (S0 := []) rfl (by decide +kernel) k_Md_locals0 l_Md_616 (Nat.le_of_ble_eq_true rfl) (Nat.le_of_ble_eq_true rfl) (Nat.le_refl _) (Nat.le_refl _) ?_
    refine pm_blk (pc' := 99) (L' := [(5, .int q6.1), (4, .int q5), (3, .int ((u.2 122 a1.toNatClampNeg).toInt32)), (2, .int ((u.2 120 a1.toNatClampNeg).toInt32)), (0, .ref 64), (1, .int a1)]) (S' := [.int (q6.2.1 64 96)]) (M' := sm g q6.2) [pm_o (.istore 5), pm_o (.aload_n 0), pm_of (.getfield 533) 12 96 0] (by decide +kernel) rfl ?_
    refine pm_if_ne (off := 110) 209 (by decide +kernel) (by decide) (fun hc7 => ?_) (fun hc7 => ?_)
    · rw [if_neg hc7] at h
      have h9 := Option.some.inj h
      subst h9
      exact pm_retv rfl (by decide +kernel) rfl rfl
    · rw [if_pos hc7] at h
      refine pm_blk (pc' := 105) (L' := [(6, .int 0), (5, .int q6.1), (4, .int q5), (3, .int ((u.2 122 a1.toNatClampNeg).toInt32)), (2, .int ((u.2 120 a1.toNatClampNeg).toInt32)), (0, .ref 64), (1, .int a1)]) (S' := []) (M' := sm g q6.2) [pm_oi (.iconst 0) 0, pm_o (.istore 6)] (by decide +kernel) rfl ?_
      refine pm_loc [5, 4, 3, 2, 1, 0] rfl ?_
      exact w_Md_callFunction_105 l h0 D hT N ((u.2 120 a1.toNatClampNeg).toInt32) ((u.2 122 a1.toNatClampNeg).toInt32) q5 q6.1 0 q6.2 h
  · rw [if_neg hc2] at h
    refine pm_blk (pc' := 10) (L' := [(0, .ref 64), (1, .int a1)]) (S' := [.ref 64]) (M' := sm g u) [pm_o (.aload_n 0)] (by decide +kernel) rfl ?_
    obtain ⟨q20, hq20, h⟩ := pm_bd h
    refine pm_cV (idx := 597) m_Md_mayDeep (c_Md_mayDeep l h0 D hT hq20) (As := []) (S0 := []) rfl (by decide +kernel) k_Md_mayDeep l_Md_597 (Nat.le_of_ble_eq_true rfl) (Nat.le_of_ble_eq_true rfl) (Nat.le_refl _) (Nat.le_refl _) ?_
    refine pm_blk (pc' := 13) (L' := [(0, .ref 64), (1, .int a1)]) (S' := [.int q20.1]) (M' := sm g q20.2) [] (by decide +kernel) rfl ?_
    refine pm_if_eq (off := 50) 63 (by decide +kernel) (by decide) (fun hc21 => ?_) (fun hc21 => ?_)
    · rw [if_pos hc21] at h
      have h9 := Option.some.inj h
      subst h9
      exact pm_retv rfl (by decide +kernel) rfl rfl
    · rw [if_neg hc21] at h
      refine pm_blk (pc' := 30) (L' := [(0, .ref 64), (1, .int a1)]) (S' := [.int 0, .int a1, .int 1, .ref 64]) (M' := sm g (wi q20.2 64 104 ((q20.2.1 64 104) + 1))) [pm_o (.aload_n 0), pm_o .dup, pm_of (.getfield 554) 12 104 0, pm_oi (.iconst 1) 1, pm_o .iadd, pm_of (.putfield 554) 12 104 0, pm_o (.aload_n 0), pm_oi (.iconst 1) 1, pm_o (.iload_n 1), pm_oi (.iconst 0) 0] (by decide +kernel) rfl ?_
      obtain ⟨q22, hq22, h⟩ := pm_bd h
      refine pm_cV (idx := 603) m_Md_push (c_Md_push l h0 D hT hq22) (As := [.int 1, .int a1, .int 0]) (S0 := []) rfl (by decide +kernel) k_Md_push l_Md_603 (Nat.le_of_ble_eq_true rfl) (Nat.le_of_ble_eq_true rfl) (Nat.le_refl _) (Nat.le_refl _) ?_
      refine pm_blk (pc' := 47) (L' := [(0, .ref 64), (1, .int a1)]) (S' := [.int (q22.1 64 108), .int ((q22.1 64 88) - 1), .ref 127]) (M' := sm g q22) [pm_o (.aload_n 0), pm_of (.getfield 204) 12 86 2, pm_o (.aload_n 0), pm_of (.getfield 524) 12 88 0, pm_oi (.iconst 1) 1, pm_o .isub, pm_o (.aload_n 0), pm_of (.getfield 563) 12 108 0] (by decide +kernel) rfl ?_
      obtain ⟨ho23, h⟩ := pm_ifs h
      refine pm_iast (by decide +kernel) rfl  (pm_ok_in ho23) ?_
      refine pm_blk (pc' := 62) (L' := [(0, .ref 64), (1, .int a1)]) (S' := [.long (q22.2 64 109), .int ((q22.1 64 88) - 1), .ref 128]) (M' := sm g (wi q22 127 (((q22.1 64 88) - 1).toNatClampNeg) (q22.1 64 108))) [pm_o (.aload_n 0), pm_of (.getfield 207) 12 87 2, pm_o (.aload_n 0), pm_of (.getfield 524) 12 88 0, pm_oi (.iconst 1) 1, pm_o .isub, pm_o (.aload_n 0), pm_of (.getfield 566) 12 109 1] (by decide +kernel) rfl ?_
      obtain ⟨ho24, h⟩ := pm_ifs h
      refine pm_last (by decide +kernel) rfl  (pm_ok_in ho24) ?_
      refine pm_blk (pc' := 63) (L' := [(0, .ref 64), (1, .int a1)]) (S' := []) (M' := sm g (wj (wi q22 127 (((q22.1 64 88) - 1).toNatClampNeg) (q22.1 64 108)) 128 (((q22.1 64 88) - 1).toNatClampNeg) (q22.2 64 109))) [] (by decide +kernel) rfl ?_
      have h9 := Option.some.inj h
      subst h9
      exact pm_retv rfl (by decide +kernel) rfl rfl
def F_Md_otherWay (a1 : Int32) (g : pm_s) (u : pm_J) : Option (Int32) := if a1 = 0 then some 1 else if a1 = 1 then some 0 else if a1 = 2 then some 3 else some 2
set_option maxHeartbeats 4000000 in
set_option maxRecDepth 100000 in
theorem c_Md_otherWay (l : Launch) (h0 : Nat) (D : pm_D) {g : pm_s} {u : pm_J} (hT : sh_T g) {a1 : Int32} {out : Int32} (h : F_Md_otherWay a1 g u = some out) : pm_C l h0 D m_Md_otherWay (0) [.int a1] (sm g u) (some (.int out)) (sm g u) := by
  unfold F_Md_otherWay at h
  refine pm_met (by decide +kernel) (Nat.le_of_ble_eq_true rfl) (Nat.le_refl _) (Nat.le_refl _) ?_
  intro p e R s m args below meth c
  refine pm_blk (pc' := 1) (L' := [(0, .int a1)]) (S' := [.int a1]) (M' := sm g u) [pm_o (.iload_n 0)] (by decide +kernel) rfl ?_
  refine pm_if_ne (off := 7) 8 (by decide +kernel) (by decide) (fun hc1 => ?_) (fun hc1 => ?_)
  · rw [if_neg hc1] at h
    refine pm_blk (pc' := 10) (L' := [(0, .int a1)]) (S' := [.int 1, .int a1]) (M' := sm g u) [pm_o (.iload_n 0), pm_oi (.iconst 1) 1] (by decide +kernel) rfl ?_
    refine pm_ic_ne (off := 7) 17 (by decide +kernel) (by decide) (fun hc2 => ?_) (fun hc2 => ?_)
    · rw [if_neg hc2] at h
      refine pm_blk (pc' := 19) (L' := [(0, .int a1)]) (S' := [.int 2, .int a1]) (M' := sm g u) [pm_o (.iload_n 0), pm_oi (.iconst 2) 2] (by decide +kernel) rfl ?_
      refine pm_ic_ne (off := 7) 26 (by decide +kernel) (by decide) (fun hc3 => ?_) (fun hc3 => ?_)
      · rw [if_neg hc3] at h
        refine pm_blk (pc' := 27) (L' := [(0, .int a1)]) (S' := [.int 2]) (M' := sm g u) [pm_oi (.iconst 2) 2] (by decide +kernel) rfl ?_
        have h9 := Option.some.inj h
        subst h9
        exact pm_reti rfl (by decide +kernel) rfl rfl rfl
      · rw [if_pos hc3] at h
        refine pm_blk (pc' := 23) (L' := [(0, .int a1)]) (S' := [.int 3]) (M' := sm g u) [pm_oi (.iconst 3) 3] (by decide +kernel) rfl ?_
        refine pm_goto (off := 4) 27 (by decide +kernel) (by decide) ?_
        have h9 := Option.some.inj h
        subst h9
        exact pm_reti rfl (by decide +kernel) rfl rfl rfl
    · rw [if_pos hc2] at h
      refine pm_blk (pc' := 14) (L' := [(0, .int a1)]) (S' := [.int 0]) (M' := sm g u) [pm_oi (.iconst 0) 0] (by decide +kernel) rfl ?_
      refine pm_goto (off := 13) 27 (by decide +kernel) (by decide) ?_
      have h9 := Option.some.inj h
      subst h9
      exact pm_reti rfl (by decide +kernel) rfl rfl rfl
  · rw [if_pos hc1] at h
    refine pm_blk (pc' := 5) (L' := [(0, .int a1)]) (S' := [.int 1]) (M' := sm g u) [pm_oi (.iconst 1) 1] (by decide +kernel) rfl ?_
    refine pm_goto (off := 22) 27 (by decide +kernel) (by decide) ?_
    have h9 := Option.some.inj h
    subst h9
    exact pm_reti rfl (by decide +kernel) rfl rfl rfl
def F_Md_workCover (N : Nat) (a1 : Int32) (g : pm_s) (u : pm_J) : Option (pm_J) := if pm_ok a1 150 = true then if pm_ok a1 150 = true then if (u.1 126 a1.toNatClampNeg) = 0 then if pm_ok a1 150 = true then if pm_ok a1 150 = true then if pm_ok a1 150 = true then if pm_ok (u.1 124 a1.toNatClampNeg) 4000 = true then (F_Md_otherWay (u.1 116 ((u.1 124 a1.toNatClampNeg).toNatClampNeg)) g (wj (wi (wi u 126 a1.toNatClampNeg 1) 64 108 (u.1 127 a1.toNatClampNeg)) 64 109 (u.2 128 a1.toNatClampNeg))).bind fun q15 => if pm_ok (u.1 124 a1.toNatClampNeg) 4000 = true then if pm_ok (u.1 117 ((u.1 124 a1.toNatClampNeg).toNatClampNeg)) 100000 = true then if pm_ok (u.1 124 a1.toNatClampNeg) 4000 = true then (F_Md_convert N q15 (u.1 71 ((u.1 117 ((u.1 124 a1.toNatClampNeg).toNatClampNeg)).toNatClampNeg)) (u.1 118 ((u.1 124 a1.toNatClampNeg).toNatClampNeg)) g (wj (wi (wi u 126 a1.toNatClampNeg 1) 64 108 (u.1 127 a1.toNatClampNeg)) 64 109 (u.2 128 a1.toNatClampNeg))).bind fun q19 => if (q19.1 64 96) = 0 then if pm_ok (u.1 124 a1.toNatClampNeg) 4000 = true then (F_Md_callFunction N ((q19.2 120 ((u.1 124 a1.toNatClampNeg).toNatClampNeg)).toInt32) g q19).bind fun q22 => some q22 else none else some q19 else none else none else none else none else none else none else none else if pm_ok (u.1 124 a1.toNatClampNeg) 4000 = true then if pm_ok (u.1 124 a1.toNatClampNeg) 4000 = true then if pm_ok (u.1 117 ((u.1 124 a1.toNatClampNeg).toNatClampNeg)) 100000 = true then if pm_ok (u.1 124 a1.toNatClampNeg) 4000 = true then (F_Md_convert N (u.1 116 ((u.1 124 a1.toNatClampNeg).toNatClampNeg)) (u.1 72 ((u.1 117 ((u.1 124 a1.toNatClampNeg).toNatClampNeg)).toNatClampNeg)) (u.1 118 ((u.1 124 a1.toNatClampNeg).toNatClampNeg)) g (wj (wi u 64 108 (u.1 64 93)) 64 109 (u.2 64 94))).bind fun q8 => if (q8.1 64 96) = 0 then (F_Md_finish (q8.1 64 108) (q8.2 64 109) g q8).bind fun q10 => some q10 else some q8 else none else none else none else none else none else none
set_option maxHeartbeats 4000000 in
set_option maxRecDepth 100000 in
theorem c_Md_workCover (l : Launch) (h0 : Nat) (D : pm_D) {g : pm_s} {u : pm_J} (hT : sh_T g) {N : Nat} {a1 : Int32} {out : pm_J} (h : F_Md_workCover N a1 g u = some out) : pm_C l h0 D m_Md_workCover (6) [.ref 64, .int a1] (sm g u) none (sm g out) := by
  unfold F_Md_workCover at h
  refine pm_met (by decide +kernel) (Nat.le_of_ble_eq_true rfl) (Nat.le_refl _) (Nat.le_refl _) ?_
  intro p e R s m args below meth c
  refine pm_blk (pc' := 5) (L' := [(0, .ref 64), (1, .int a1)]) (S' := [.int a1, .ref 124]) (M' := sm g u) [pm_o (.aload_n 0), pm_of (.getfield 195) 12 83 2, pm_o (.iload_n 1)] (by decide +kernel) rfl ?_
  obtain ⟨ho1, h⟩ := pm_ifs h
  refine pm_iald (by decide +kernel) rfl (pm_ok_in ho1) ?_
  refine pm_blk (pc' := 12) (L' := [(2, .int (u.1 124 a1.toNatClampNeg)), (0, .ref 64), (1, .int a1)]) (S' := [.int a1, .ref 126]) (M' := sm g u) [pm_o (.istore_n 2), pm_o (.aload_n 0), pm_of (.getfield 201) 12 85 2, pm_o (.iload_n 1)] (by decide +kernel) rfl ?_
  obtain ⟨ho2, h⟩ := pm_ifs h
  refine pm_iald (by decide +kernel) rfl (pm_ok_in ho2) ?_
  refine pm_blk (pc' := 13) (L' := [(2, .int (u.1 124 a1.toNatClampNeg)), (0, .ref 64), (1, .int a1)]) (S' := [.int (u.1 126 a1.toNatClampNeg)]) (M' := sm g u) [] (by decide +kernel) rfl ?_
  refine pm_if_ne (off := 81) 94 (by decide +kernel) (by decide) (fun hc3 => ?_) (fun hc3 => ?_)
  · rw [if_neg hc3] at h
    refine pm_blk (pc' := 116) (L' := [(2, .int (u.1 124 a1.toNatClampNeg)), (0, .ref 64), (1, .int a1)]) (S' := [.int (u.1 124 a1.toNatClampNeg), .ref 116, .ref 64]) (M' := sm g (wj (wi u 64 108 (u.1 64 93)) 64 109 (u.2 64 94))) [pm_o (.aload_n 0), pm_o (.aload_n 0), pm_of (.getfield 607) 12 93 0, pm_of (.putfield 563) 12 108 0, pm_o (.aload_n 0), pm_o (.aload_n 0), pm_of (.getfield 610) 12 94 1, pm_of (.putfield 566) 12 109 1, pm_o (.aload_n 0), pm_o (.aload_n 0), pm_of (.getfield 171) 12 74 2, pm_o (.iload_n 2)] (by decide +kernel) rfl ?_
    obtain ⟨ho4, h⟩ := pm_ifs h
    refine pm_iald (by decide +kernel) rfl (pm_ok_in ho4) ?_
    refine pm_blk (pc' := 126) (L' := [(2, .int (u.1 124 a1.toNatClampNeg)), (0, .ref 64), (1, .int a1)]) (S' := [.int (u.1 124 a1.toNatClampNeg), .ref 117, .ref 72, .int (u.1 116 ((u.1 124 a1.toNatClampNeg).toNatClampNeg)), .ref 64]) (M' := sm g (wj (wi u 64 108 (u.1 64 93)) 64 109 (u.2 64 94))) [pm_o (.aload_n 0), pm_of (.getfield 38) 12 13 2, pm_o (.aload_n 0), pm_of (.getfield 174) 12 75 2, pm_o (.iload_n 2)] (by decide +kernel) rfl ?_
    obtain ⟨ho5, h⟩ := pm_ifs h
    refine pm_iald (by decide +kernel) rfl (pm_ok_in ho5) ?_
    refine pm_blk (pc' := 127) (L' := [(2, .int (u.1 124 a1.toNatClampNeg)), (0, .ref 64), (1, .int a1)]) (S' := [.int (u.1 117 ((u.1 124 a1.toNatClampNeg).toNatClampNeg)), .ref 72, .int (u.1 116 ((u.1 124 a1.toNatClampNeg).toNatClampNeg)), .ref 64]) (M' := sm g (wj (wi u 64 108 (u.1 64 93)) 64 109 (u.2 64 94))) [] (by decide +kernel) rfl ?_
    obtain ⟨ho6, h⟩ := pm_ifs h
    refine pm_iald (by decide +kernel) rfl (pm_ok_in ho6) ?_
    refine pm_blk (pc' := 133) (L' := [(2, .int (u.1 124 a1.toNatClampNeg)), (0, .ref 64), (1, .int a1)]) (S' := [.int (u.1 124 a1.toNatClampNeg), .ref 118, .int (u.1 72 ((u.1 117 ((u.1 124 a1.toNatClampNeg).toNatClampNeg)).toNatClampNeg)), .int (u.1 116 ((u.1 124 a1.toNatClampNeg).toNatClampNeg)), .ref 64]) (M' := sm g (wj (wi u 64 108 (u.1 64 93)) 64 109 (u.2 64 94))) [pm_o (.aload_n 0), pm_of (.getfield 177) 12 76 2, pm_o (.iload_n 2)] (by decide +kernel) rfl ?_
    obtain ⟨ho7, h⟩ := pm_ifs h
    refine pm_iald (by decide +kernel) rfl (pm_ok_in ho7) ?_
    refine pm_blk (pc' := 134) (L' := [(2, .int (u.1 124 a1.toNatClampNeg)), (0, .ref 64), (1, .int a1)]) (S' := [.int (u.1 118 ((u.1 124 a1.toNatClampNeg).toNatClampNeg)), .int (u.1 72 ((u.1 117 ((u.1 124 a1.toNatClampNeg).toNatClampNeg)).toNatClampNeg)), .int (u.1 116 ((u.1 124 a1.toNatClampNeg).toNatClampNeg)), .ref 64]) (M' := sm g (wj (wi u 64 108 (u.1 64 93)) 64 109 (u.2 64 94))) [] (by decide +kernel) rfl ?_
    obtain ⟨q8, hq8, h⟩ := pm_bd h
    refine pm_cV (idx := 625) m_Md_convert (c_Md_convert l h0 D hT hq8) (As := [.int (u.1 116 ((u.1 124 a1.toNatClampNeg).toNatClampNeg)), .int (u.1 72 ((u.1 117 ((u.1 124 a1.toNatClampNeg).toNatClampNeg)).toNatClampNeg)), .int (u.1 118 ((u.1 124 a1.toNatClampNeg).toNatClampNeg))]) (S0 := []) rfl (by decide +kernel) k_Md_convert l_Md_625 (Nat.le_of_ble_eq_true rfl) (Nat.le_of_ble_eq_true rfl) (Nat.le_refl _) (Nat.le_refl _) ?_
    refine pm_blk (pc' := 141) (L' := [(2, .int (u.1 124 a1.toNatClampNeg)), (0, .ref 64), (1, .int a1)]) (S' := [.int (q8.1 64 96)]) (M' := sm g q8) [pm_o (.aload_n 0), pm_of (.getfield 533) 12 96 0] (by decide +kernel) rfl ?_
    refine pm_if_ne (off := 15) 156 (by decide +kernel) (by decide) (fun hc9 => ?_) (fun hc9 => ?_)
    · rw [if_neg hc9] at h
      have h9 := Option.some.inj h
      subst h9
      exact pm_retv rfl (by decide +kernel) rfl rfl
    · rw [if_pos hc9] at h
      refine pm_blk (pc' := 153) (L' := [(2, .int (u.1 124 a1.toNatClampNeg)), (0, .ref 64), (1, .int a1)]) (S' := [.long (q8.2 64 109), .int (q8.1 64 108), .ref 64]) (M' := sm g q8) [pm_o (.aload_n 0), pm_o (.aload_n 0), pm_of (.getfield 563) 12 108 0, pm_o (.aload_n 0), pm_of (.getfield 566) 12 109 1] (by decide +kernel) rfl ?_
      obtain ⟨q10, hq10, h⟩ := pm_bd h
      refine pm_cV (idx := 631) m_Md_finish (c_Md_finish l h0 D hT hq10) (As := [.int (q8.1 64 108), .long (q8.2 64 109)]) (S0 := []) rfl (by decide +kernel) k_Md_finish l_Md_631 (Nat.le_of_ble_eq_true rfl) (Nat.le_of_ble_eq_true rfl) (Nat.le_refl _) (Nat.le_refl _) ?_
      refine pm_blk (pc' := 156) (L' := [(2, .int (u.1 124 a1.toNatClampNeg)), (0, .ref 64), (1, .int a1)]) (S' := []) (M' := sm g q10) [] (by decide +kernel) rfl ?_
      have h9 := Option.some.inj h
      subst h9
      exact pm_retv rfl (by decide +kernel) rfl rfl
  · rw [if_pos hc3] at h
    refine pm_blk (pc' := 22) (L' := [(2, .int (u.1 124 a1.toNatClampNeg)), (0, .ref 64), (1, .int a1)]) (S' := [.int 1, .int a1, .ref 126]) (M' := sm g u) [pm_o (.aload_n 0), pm_of (.getfield 201) 12 85 2, pm_o (.iload_n 1), pm_oi (.iconst 1) 1] (by decide +kernel) rfl ?_
    obtain ⟨ho11, h⟩ := pm_ifs h
    refine pm_iast (by decide +kernel) rfl  (pm_ok_in ho11) ?_
    refine pm_blk (pc' := 29) (L' := [(2, .int (u.1 124 a1.toNatClampNeg)), (0, .ref 64), (1, .int a1)]) (S' := [.int a1, .ref 127, .ref 64]) (M' := sm g (wi u 126 a1.toNatClampNeg 1)) [pm_o (.aload_n 0), pm_o (.aload_n 0), pm_of (.getfield 204) 12 86 2, pm_o (.iload_n 1)] (by decide +kernel) rfl ?_
    obtain ⟨ho12, h⟩ := pm_ifs h
    refine pm_iald (by decide +kernel) rfl (pm_ok_in ho12) ?_
    refine pm_blk (pc' := 39) (L' := [(2, .int (u.1 124 a1.toNatClampNeg)), (0, .ref 64), (1, .int a1)]) (S' := [.int a1, .ref 128, .ref 64]) (M' := sm g (wi (wi u 126 a1.toNatClampNeg 1) 64 108 (u.1 127 a1.toNatClampNeg))) [pm_of (.putfield 563) 12 108 0, pm_o (.aload_n 0), pm_o (.aload_n 0), pm_of (.getfield 207) 12 87 2, pm_o (.iload_n 1)] (by decide +kernel) rfl ?_
    obtain ⟨ho13, h⟩ := pm_ifs h
    refine pm_lald (by decide +kernel) rfl (pm_ok_in ho13) ?_
    refine pm_blk (pc' := 49) (L' := [(2, .int (u.1 124 a1.toNatClampNeg)), (0, .ref 64), (1, .int a1)]) (S' := [.int (u.1 124 a1.toNatClampNeg), .ref 116, .ref 64]) (M' := sm g (wj (wi (wi u 126 a1.toNatClampNeg 1) 64 108 (u.1 127 a1.toNatClampNeg)) 64 109 (u.2 128 a1.toNatClampNeg))) [pm_of (.putfield 566) 12 109 1, pm_o (.aload_n 0), pm_o (.aload_n 0), pm_of (.getfield 171) 12 74 2, pm_o (.iload_n 2)] (by decide +kernel) rfl ?_
    obtain ⟨ho14, h⟩ := pm_ifs h
    refine pm_iald (by decide +kernel) rfl (pm_ok_in ho14) ?_
    refine pm_blk (pc' := 50) (L' := [(2, .int (u.1 124 a1.toNatClampNeg)), (0, .ref 64), (1, .int a1)]) (S' := [.int (u.1 116 ((u.1 124 a1.toNatClampNeg).toNatClampNeg)), .ref 64]) (M' := sm g (wj (wi (wi u 126 a1.toNatClampNeg 1) 64 108 (u.1 127 a1.toNatClampNeg)) 64 109 (u.2 128 a1.toNatClampNeg))) [] (by decide +kernel) rfl ?_
    obtain ⟨q15, hq15, h⟩ := pm_bd h
    refine pm_cS (idx := 622) m_Md_otherWay (c_Md_otherWay l h0 D hT hq15) (As := [.int (u.1 116 ((u.1 124 a1.toNatClampNeg).toNatClampNeg))]) (S0 := [.ref 64]) rfl (by decide +kernel) k_Md_otherWay l_Md_622 (Nat.le_of_ble_eq_true rfl) (Nat.le_of_ble_eq_true rfl) (Nat.le_refl _) (Nat.le_refl _) ?_
    refine pm_blk (pc' := 62) (L' := [(2, .int (u.1 124 a1.toNatClampNeg)), (0, .ref 64), (1, .int a1)]) (S' := [.int (u.1 124 a1.toNatClampNeg), .ref 117, .ref 71, .int q15, .ref 64]) (M' := sm g (wj (wi (wi u 126 a1.toNatClampNeg 1) 64 108 (u.1 127 a1.toNatClampNeg)) 64 109 (u.2 128 a1.toNatClampNeg))) [pm_o (.aload_n 0), pm_of (.getfield 35) 12 12 2, pm_o (.aload_n 0), pm_of (.getfield 174) 12 75 2, pm_o (.iload_n 2)] (by decide +kernel) rfl ?_
    obtain ⟨ho16, h⟩ := pm_ifs h
    refine pm_iald (by decide +kernel) rfl (pm_ok_in ho16) ?_
    refine pm_blk (pc' := 63) (L' := [(2, .int (u.1 124 a1.toNatClampNeg)), (0, .ref 64), (1, .int a1)]) (S' := [.int (u.1 117 ((u.1 124 a1.toNatClampNeg).toNatClampNeg)), .ref 71, .int q15, .ref 64]) (M' := sm g (wj (wi (wi u 126 a1.toNatClampNeg 1) 64 108 (u.1 127 a1.toNatClampNeg)) 64 109 (u.2 128 a1.toNatClampNeg))) [] (by decide +kernel) rfl ?_
    obtain ⟨ho17, h⟩ := pm_ifs h
    refine pm_iald (by decide +kernel) rfl (pm_ok_in ho17) ?_
    refine pm_blk (pc' := 69) (L' := [(2, .int (u.1 124 a1.toNatClampNeg)), (0, .ref 64), (1, .int a1)]) (S' := [.int (u.1 124 a1.toNatClampNeg), .ref 118, .int (u.1 71 ((u.1 117 ((u.1 124 a1.toNatClampNeg).toNatClampNeg)).toNatClampNeg)), .int q15, .ref 64]) (M' := sm g (wj (wi (wi u 126 a1.toNatClampNeg 1) 64 108 (u.1 127 a1.toNatClampNeg)) 64 109 (u.2 128 a1.toNatClampNeg))) [pm_o (.aload_n 0), pm_of (.getfield 177) 12 76 2, pm_o (.iload_n 2)] (by decide +kernel) rfl ?_
    obtain ⟨ho18, h⟩ := pm_ifs h
    refine pm_iald (by decide +kernel) rfl (pm_ok_in ho18) ?_
    refine pm_blk (pc' := 70) (L' := [(2, .int (u.1 124 a1.toNatClampNeg)), (0, .ref 64), (1, .int a1)]) (S' := [.int (u.1 118 ((u.1 124 a1.toNatClampNeg).toNatClampNeg)), .int (u.1 71 ((u.1 117 ((u.1 124 a1.toNatClampNeg).toNatClampNeg)).toNatClampNeg)), .int q15, .ref 64]) (M' := sm g (wj (wi (wi u 126 a1.toNatClampNeg 1) 64 108 (u.1 127 a1.toNatClampNeg)) 64 109 (u.2 128 a1.toNatClampNeg))) [] (by decide +kernel) rfl ?_
    obtain ⟨q19, hq19, h⟩ := pm_bd h
    refine pm_cV (idx := 625) m_Md_convert (c_Md_convert l h0 D hT hq19) (As := [.int q15, .int (u.1 71 ((u.1 117 ((u.1 124 a1.toNatClampNeg).toNatClampNeg)).toNatClampNeg)), .int (u.1 118 ((u.1 124 a1.toNatClampNeg).toNatClampNeg))]) (S0 := []) rfl (by decide +kernel) k_Md_convert l_Md_625 (Nat.le_of_ble_eq_true rfl) (Nat.le_of_ble_eq_true rfl) (Nat.le_refl _) (Nat.le_refl _) ?_
    refine pm_blk (pc' := 77) (L' := [(2, .int (u.1 124 a1.toNatClampNeg)), (0, .ref 64), (1, .int a1)]) (S' := [.int (q19.1 64 96)]) (M' := sm g q19) [pm_o (.aload_n 0), pm_of (.getfield 533) 12 96 0] (by decide +kernel) rfl ?_
    refine pm_if_ne (off := 79) 156 (by decide +kernel) (by decide) (fun hc20 => ?_) (fun hc20 => ?_)
    · rw [if_neg hc20] at h
      have h9 := Option.some.inj h
      subst h9
      exact pm_retv rfl (by decide +kernel) rfl rfl
    · rw [if_pos hc20] at h
      refine pm_blk (pc' := 86) (L' := [(2, .int (u.1 124 a1.toNatClampNeg)), (0, .ref 64), (1, .int a1)]) (S' := [.int (u.1 124 a1.toNatClampNeg), .ref 120, .ref 64]) (M' := sm g q19) [pm_o (.aload_n 0), pm_o (.aload_n 0), pm_of (.getfield 183) 12 78 2, pm_o (.iload_n 2)] (by decide +kernel) rfl ?_
      obtain ⟨ho21, h⟩ := pm_ifs h
      refine pm_lald (by decide +kernel) rfl (pm_ok_in ho21) ?_
      refine pm_blk (pc' := 88) (L' := [(2, .int (u.1 124 a1.toNatClampNeg)), (0, .ref 64), (1, .int a1)]) (S' := [.int ((q19.2 120 ((u.1 124 a1.toNatClampNeg).toNatClampNeg)).toInt32), .ref 64]) (M' := sm g q19) [pm_o .l2i] (by decide +kernel) rfl ?_
      obtain ⟨q22, hq22, h⟩ := pm_bd h
      refine pm_cV (idx := 628) m_Md_callFunction (c_Md_callFunction l h0 D hT hq22) (As := [.int ((q19.2 120 ((u.1 124 a1.toNatClampNeg).toNatClampNeg)).toInt32)]) (S0 := []) rfl (by decide +kernel) k_Md_callFunction l_Md_628 (Nat.le_of_ble_eq_true rfl) (Nat.le_of_ble_eq_true rfl) (Nat.le_refl _) (Nat.le_refl _) ?_
      refine pm_blk (pc' := 91) (L' := [(2, .int (u.1 124 a1.toNatClampNeg)), (0, .ref 64), (1, .int a1)]) (S' := []) (M' := sm g q22) [] (by decide +kernel) rfl ?_
      refine pm_goto (off := 65) 156 (by decide +kernel) (by decide) ?_
      have h9 := Option.some.inj h
      subst h9
      exact pm_retv rfl (by decide +kernel) rfl rfl
def K_Md_atomAt_10 (N : Nat) (g : pm_s) (u : pm_J) : Nat → Int32 → Int32 → Int32 → Option (Int32)
  | 0, _, _, _ => none
  | n + 1, x2, x3, x4 => if x2 ≤ x4 then some x3 else if pm_ok x3 2400 = true then K_Md_atomAt_10 N g u  n x2 (u.1 83 x3.toNatClampNeg) (x4 + 1) else none
set_option maxHeartbeats 4000000 in
set_option maxRecDepth 100000 in
theorem w_Md_atomAt_10 (l : Launch) (h0 : Nat) (D : pm_D) {g : pm_s} (hT : sh_T g) {N : Nat} {u : pm_J} {out : Int32} {p : Program} {e : Env} {R : Room} {s : State} {m : MethodId} {args : Array Value} {below : List Frame} {meth : Method} {c : Code} : ∀ (n : Nat) (x2 : Int32) (x3 : Int32) (x4 : Int32), K_Md_atomAt_10 N g u n x2 x3 x4 = some out → pm_V (p, l, e, R, s, m, args, below, meth, c) m_Md_atomAt h0 D (g.1, g.2.1, g.1, g.2.1, 0) (pm_E (p, l, e, R, s, m, args, below, meth, c) h0 D (sm g u) (some (.int out)) (sm g u)) 10 [(0, .ref 64), (2, .int x2), (3, .int x3), (4, .int x4)] [] (sm g u) := by
  intro n
  induction n with
  | zero => intro x2 x3 x4 h; cases h
  | succ n ih =>
    intro x2 x3 x4 h
    rw [K_Md_atomAt_10] at h
    refine pm_blk (pc' := 13) (L' := [(0, .ref 64), (2, .int x2), (3, .int x3), (4, .int x4)]) (S' := [.int x2, .int x4]) (M' := sm g u) [pm_o (.iload 4), pm_o (.iload_n 2)] (by decide +kernel) rfl ?_
    refine pm_ic_ge (off := 16) 29 (by decide +kernel) (by decide) (fun hc2 => ?_) (fun hc2 => ?_)
    · rw [if_pos hc2] at h
      refine pm_blk (pc' := 30) (L' := [(0, .ref 64), (2, .int x2), (3, .int x3), (4, .int x4)]) (S' := [.int x3]) (M' := sm g u) [pm_o (.iload_n 3)] (by decide +kernel) rfl ?_
      have h9 := Option.some.inj h
      subst h9
      exact pm_reti rfl (by decide +kernel) rfl rfl rfl
    · rw [if_neg hc2] at h
      refine pm_blk (pc' := 21) (L' := [(0, .ref 64), (2, .int x2), (3, .int x3), (4, .int x4)]) (S' := [.int x3, .ref 83]) (M' := sm g u) [pm_o (.aload_n 0), pm_of (.getfield 71) 12 25 2, pm_o (.iload_n 3)] (by decide +kernel) rfl ?_
      obtain ⟨ho3, h⟩ := pm_ifs h
      refine pm_iald (by decide +kernel) rfl (pm_ok_in ho3) ?_
      refine pm_blk (pc' := 26) (L' := [(4, .int (x4 + 1)), (3, .int (u.1 83 x3.toNatClampNeg)), (0, .ref 64), (2, .int x2)]) (S' := []) (M' := sm g u) [pm_o (.istore_n 3), pm_oi (.iinc 4 1) 1] (by decide +kernel) rfl ?_
      refine pm_goto (off := -16) 10 (by decide +kernel) (by decide) ?_
      refine pm_loc [2, 3, 1, 0] rfl ?_
      exact ih x2 (u.1 83 x3.toNatClampNeg) (x4 + 1) h
def F_Md_atomAt (N : Nat) (a1 : Int32) (a2 : Int32) (g : pm_s) (u : pm_J) : Option (Int32) := if pm_ok a1 2400 = true then K_Md_atomAt_10 N g u N a2 (u.1 80 a1.toNatClampNeg) 0 else none
set_option maxHeartbeats 4000000 in
set_option maxRecDepth 100000 in
theorem c_Md_atomAt (l : Launch) (h0 : Nat) (D : pm_D) {g : pm_s} {u : pm_J} (hT : sh_T g) {N : Nat} {a1 : Int32} {a2 : Int32} {out : Int32} (h : F_Md_atomAt N a1 a2 g u = some out) : pm_C l h0 D m_Md_atomAt (0) [.ref 64, .int a1, .int a2] (sm g u) (some (.int out)) (sm g u) := by
  unfold F_Md_atomAt at h
  refine pm_met (by decide +kernel) (Nat.le_of_ble_eq_true rfl) (Nat.le_refl _) (Nat.le_refl _) ?_
  intro p e R s m args below meth c
  refine pm_blk (pc' := 5) (L' := [(0, .ref 64), (1, .int a1), (2, .int a2)]) (S' := [.int a1, .ref 80]) (M' := sm g u) [pm_o (.aload_n 0), pm_of (.getfield 62) 12 22 2, pm_o (.iload_n 1)] (by decide +kernel) rfl ?_
  obtain ⟨ho1, h⟩ := pm_ifs h
  refine pm_iald (by decide +kernel) rfl (pm_ok_in ho1) ?_
  refine pm_blk (pc' := 10) (L' := [(4, .int 0), (3, .int (u.1 80 a1.toNatClampNeg)), (0, .ref 64), (1, .int a1), (2, .int a2)]) (S' := []) (M' := sm g u) [pm_o (.istore_n 3), pm_oi (.iconst 0) 0, pm_o (.istore 4)] (by decide +kernel) rfl ?_
  refine pm_loc [2, 4, 1, 0] rfl ?_
  exact w_Md_atomAt_10 l h0 D hT N a2 (u.1 80 a1.toNatClampNeg) 0 h
def K_Md_callDef_27 (N : Nat) (g : pm_s) : Nat → Int32 → Int32 → Int32 → Int32 → Int32 → pm_J → Option (pm_J)
  | 0, _, _, _, _, _, _ => none
  | n + 1, x1, x2, x3, x4, x5, u => if x3 ≤ x5 then if pm_ok x1 150 = true then if pm_ok x2 30 = true then (F_Md_begin (u.1 96 x2.toNatClampNeg) x4 g (wi u 126 x1.toNatClampNeg 1000)).bind fun q6 => some q6 else none else none else if pm_ok ((u.1 64 92) + x5) 1000 = true then if pm_ok (x4 + x5) 60000 = true then if pm_ok ((u.1 64 92) + x5) 1000 = true then if pm_ok (x4 + x5) 60000 = true then K_Md_callDef_27 N g  n x1 x2 x3 x4 (x5 + 1) (wj (wi u 113 ((x4 + x5).toNatClampNeg) (u.1 129 (((u.1 64 92) + x5).toNatClampNeg))) 114 ((x4 + x5).toNatClampNeg) (u.2 130 (((u.1 64 92) + x5).toNatClampNeg))) else none else none else none else none
set_option maxHeartbeats 4000000 in
set_option maxRecDepth 100000 in
theorem w_Md_callDef_27 (l : Launch) (h0 : Nat) (D : pm_D) {g : pm_s} (hT : sh_T g) {N : Nat} {u0 : pm_J} {out : pm_J} {p : Program} {e : Env} {R : Room} {s : State} {m : MethodId} {args : Array Value} {below : List Frame} {meth : Method} {c : Code} : ∀ (n : Nat) (x1 : Int32) (x2 : Int32) (x3 : Int32) (x4 : Int32) (x5 : Int32) (u : pm_J), K_Md_callDef_27 N g n x1 x2 x3 x4 x5 u = some out → pm_V (p, l, e, R, s, m, args, below, meth, c) m_Md_callDef h0 D (g.1, g.2.1, g.1, g.2.1, 2) (pm_E (p, l, e, R, s, m, args, below, meth, c) h0 D (sm g u0) none (sm g out)) 27 [(0, .ref 64), (1, .int x1), (2, .int x2), (3, .int x3), (4, .int x4), (5, .int x5)] [] (sm g u) := by
  intro n
  induction n with
  | zero => intro x1 x2 x3 x4 x5 u h; cases h
  | succ n ih =>
    intro x1 x2 x3 x4 x5 u h
    rw [K_Md_callDef_27] at h
    refine pm_blk (pc' := 30) (L' := [(0, .ref 64), (1, .int x1), (2, .int x2), (3, .int x3), (4, .int x4), (5, .int x5)]) (S' := [.int x3, .int x5]) (M' := sm g u) [pm_o (.iload 5), pm_o (.iload_n 3)] (by decide +kernel) rfl ?_
    refine pm_ic_ge (off := 53) 83 (by decide +kernel) (by decide) (fun hc3 => ?_) (fun hc3 => ?_)
    · rw [if_pos hc3] at h
      refine pm_blk (pc' := 91) (L' := [(0, .ref 64), (1, .int x1), (2, .int x2), (3, .int x3), (4, .int x4), (5, .int x5)]) (S' := [.int 1000, .int x1, .ref 126]) (M' := sm g u) [pm_o (.aload_n 0), pm_of (.getfield 201) 12 85 2, pm_o (.iload_n 1), pm_oi (.sipush 1000) 1000] (by decide +kernel) rfl ?_
      obtain ⟨ho4, h⟩ := pm_ifs h
      refine pm_iast (by decide +kernel) rfl  (pm_ok_in ho4) ?_
      refine pm_blk (pc' := 98) (L' := [(0, .ref 64), (1, .int x1), (2, .int x2), (3, .int x3), (4, .int x4), (5, .int x5)]) (S' := [.int x2, .ref 96, .ref 64]) (M' := sm g (wi u 126 x1.toNatClampNeg 1000)) [pm_o (.aload_n 0), pm_o (.aload_n 0), pm_of (.getfield 110) 12 39 2, pm_o (.iload_n 2)] (by decide +kernel) rfl ?_
      obtain ⟨ho5, h⟩ := pm_ifs h
      refine pm_iald (by decide +kernel) rfl (pm_ok_in ho5) ?_
      refine pm_blk (pc' := 101) (L' := [(0, .ref 64), (1, .int x1), (2, .int x2), (3, .int x3), (4, .int x4), (5, .int x5)]) (S' := [.int x4, .int (u.1 96 x2.toNatClampNeg), .ref 64]) (M' := sm g (wi u 126 x1.toNatClampNeg 1000)) [pm_o (.iload 4)] (by decide +kernel) rfl ?_
      obtain ⟨q6, hq6, h⟩ := pm_bd h
      refine pm_cV (idx := 619) m_Md_begin (c_Md_begin l h0 D hT hq6) (As := [.int (u.1 96 x2.toNatClampNeg), .int x4]) (S0 := []) rfl (by decide +kernel) k_Md_begin l_Md_619 (Nat.le_of_ble_eq_true rfl) (Nat.le_of_ble_eq_true rfl) (Nat.le_refl _) (Nat.le_refl _) ?_
      refine pm_blk (pc' := 104) (L' := [(0, .ref 64), (1, .int x1), (2, .int x2), (3, .int x3), (4, .int x4), (5, .int x5)]) (S' := []) (M' := sm g q6) [] (by decide +kernel) rfl ?_
      have h9 := Option.some.inj h
      subst h9
      exact pm_retv rfl (by decide +kernel) rfl rfl
    · rw [if_neg hc3] at h
      refine pm_blk (pc' := 53) (L' := [(0, .ref 64), (1, .int x1), (2, .int x2), (3, .int x3), (4, .int x4), (5, .int x5)]) (S' := [.int ((u.1 64 92) + x5), .ref 129, .int (x4 + x5), .ref 113]) (M' := sm g u) [pm_o (.aload_n 0), pm_of (.getfield 162) 12 70 2, pm_o (.iload 4), pm_o (.iload 5), pm_o .iadd, pm_o (.aload_n 0), pm_of (.getfield 210) 12 90 2, pm_o (.aload_n 0), pm_of (.getfield 530) 12 92 0, pm_o (.iload 5), pm_o .iadd] (by decide +kernel) rfl ?_
      obtain ⟨ho7, h⟩ := pm_ifs h
      refine pm_iald (by decide +kernel) rfl (pm_ok_in ho7) ?_
      refine pm_blk (pc' := 54) (L' := [(0, .ref 64), (1, .int x1), (2, .int x2), (3, .int x3), (4, .int x4), (5, .int x5)]) (S' := [.int (u.1 129 (((u.1 64 92) + x5).toNatClampNeg)), .int (x4 + x5), .ref 113]) (M' := sm g u) [] (by decide +kernel) rfl ?_
      obtain ⟨ho8, h⟩ := pm_ifs h
      refine pm_iast (by decide +kernel) rfl  (pm_ok_in ho8) ?_
      refine pm_blk (pc' := 75) (L' := [(0, .ref 64), (1, .int x1), (2, .int x2), (3, .int x3), (4, .int x4), (5, .int x5)]) (S' := [.int ((u.1 64 92) + x5), .ref 130, .int (x4 + x5), .ref 114]) (M' := sm g (wi u 113 ((x4 + x5).toNatClampNeg) (u.1 129 (((u.1 64 92) + x5).toNatClampNeg)))) [pm_o (.aload_n 0), pm_of (.getfield 165) 12 71 2, pm_o (.iload 4), pm_o (.iload 5), pm_o .iadd, pm_o (.aload_n 0), pm_of (.getfield 213) 12 91 2, pm_o (.aload_n 0), pm_of (.getfield 530) 12 92 0, pm_o (.iload 5), pm_o .iadd] (by decide +kernel) rfl ?_
      obtain ⟨ho9, h⟩ := pm_ifs h
      refine pm_lald (by decide +kernel) rfl (pm_ok_in ho9) ?_
      refine pm_blk (pc' := 76) (L' := [(0, .ref 64), (1, .int x1), (2, .int x2), (3, .int x3), (4, .int x4), (5, .int x5)]) (S' := [.long (u.2 130 (((u.1 64 92) + x5).toNatClampNeg)), .int (x4 + x5), .ref 114]) (M' := sm g (wi u 113 ((x4 + x5).toNatClampNeg) (u.1 129 (((u.1 64 92) + x5).toNatClampNeg)))) [] (by decide +kernel) rfl ?_
      obtain ⟨ho10, h⟩ := pm_ifs h
      refine pm_last (by decide +kernel) rfl  (pm_ok_in ho10) ?_
      refine pm_blk (pc' := 80) (L' := [(5, .int (x5 + 1)), (0, .ref 64), (1, .int x1), (2, .int x2), (3, .int x3), (4, .int x4)]) (S' := []) (M' := sm g (wj (wi u 113 ((x4 + x5).toNatClampNeg) (u.1 129 (((u.1 64 92) + x5).toNatClampNeg))) 114 ((x4 + x5).toNatClampNeg) (u.2 130 (((u.1 64 92) + x5).toNatClampNeg)))) [pm_oi (.iinc 5 1) 1] (by decide +kernel) rfl ?_
      refine pm_goto (off := -53) 27 (by decide +kernel) (by decide) ?_
      refine pm_loc [1, 2, 3, 4, 5, 0] rfl ?_
      exact ih x1 x2 x3 x4 (x5 + 1) (wj (wi u 113 ((x4 + x5).toNatClampNeg) (u.1 129 (((u.1 64 92) + x5).toNatClampNeg))) 114 ((x4 + x5).toNatClampNeg) (u.2 130 (((u.1 64 92) + x5).toNatClampNeg))) h
def F_Md_callDef (N : Nat) (a1 : Int32) (a2 : Int32) (a3 : Int32) (g : pm_s) (u : pm_J) : Option (pm_J) := (F_Md_locals0 a2 g u).bind fun q1 => if (q1.2.1 64 96) = 0 then K_Md_callDef_27 N g N a1 a2 a3 q1.1 0 (wi q1.2 64 92 ((q1.2.1 64 92) - a3)) else some q1.2
set_option maxHeartbeats 4000000 in
set_option maxRecDepth 100000 in
theorem c_Md_callDef (l : Launch) (h0 : Nat) (D : pm_D) {g : pm_s} {u : pm_J} (hT : sh_T g) {N : Nat} {a1 : Int32} {a2 : Int32} {a3 : Int32} {out : pm_J} (h : F_Md_callDef N a1 a2 a3 g u = some out) : pm_C l h0 D m_Md_callDef (2) [.ref 64, .int a1, .int a2, .int a3] (sm g u) none (sm g out) := by
  unfold F_Md_callDef at h
  refine pm_met (by decide +kernel) (Nat.le_of_ble_eq_true rfl) (Nat.le_refl _) (Nat.le_refl _) ?_
  intro p e R s m args below meth c
  refine pm_blk (pc' := 2) (L' := [(0, .ref 64), (1, .int a1), (2, .int a2), (3, .int a3)]) (S' := [.int a2, .ref 64]) (M' := sm g u) [pm_o (.aload_n 0), pm_o (.iload_n 2)] (by decide +kernel) rfl ?_
  obtain ⟨q1, hq1, h⟩ := pm_bd h
  refine pm_cV (idx := 616) m_Md_locals0 (c_Md_locals0 l h0 D hT hq1) (As := [.int a2]) (S0 := []) rfl (by decide +kernel) k_Md_locals0 l_Md_616 (Nat.le_of_ble_eq_true rfl) (Nat.le_of_ble_eq_true rfl) (Nat.le_refl _) (Nat.le_refl _) ?_
  refine pm_blk (pc' := 11) (L' := [(4, .int q1.1), (0, .ref 64), (1, .int a1), (2, .int a2), (3, .int a3)]) (S' := [.int (q1.2.1 64 96)]) (M' := sm g q1.2) [pm_o (.istore 4), pm_o (.aload_n 0), pm_of (.getfield 533) 12 96 0] (by decide +kernel) rfl ?_
  refine pm_if_ne (off := 93) 104 (by decide +kernel) (by decide) (fun hc2 => ?_) (fun hc2 => ?_)
  · rw [if_neg hc2] at h
    have h9 := Option.some.inj h
    subst h9
    exact pm_retv rfl (by decide +kernel) rfl rfl
  · rw [if_pos hc2] at h
    refine pm_blk (pc' := 27) (L' := [(5, .int 0), (4, .int q1.1), (0, .ref 64), (1, .int a1), (2, .int a2), (3, .int a3)]) (S' := []) (M' := sm g (wi q1.2 64 92 ((q1.2.1 64 92) - a3))) [pm_o (.aload_n 0), pm_o .dup, pm_of (.getfield 530) 12 92 0, pm_o (.iload_n 3), pm_o .isub, pm_of (.putfield 530) 12 92 0, pm_oi (.iconst 0) 0, pm_o (.istore 5)] (by decide +kernel) rfl ?_
    refine pm_loc [2, 3, 4, 5, 1, 0] rfl ?_
    exact w_Md_callDef_27 l h0 D hT N a1 a2 a3 q1.1 0 (wi q1.2 64 92 ((q1.2.1 64 92) - a3)) h
def K_Md_keepAtom_72 (N : Nat) (g : pm_s) (u : pm_J) : Option (pm_J) := if pm_ok (u.1 64 92) 1000 = true then if pm_ok (u.1 64 92) 1000 = true then some (wi (wj (wi u 129 ((u.1 64 92).toNatClampNeg) (u.1 64 108)) 130 ((u.1 64 92).toNatClampNeg) (u.2 64 109)) 64 92 ((u.1 64 92) + 1)) else none else none
set_option maxHeartbeats 4000000 in
set_option maxRecDepth 100000 in
theorem w_Md_keepAtom_72 (l : Launch) (h0 : Nat) (D : pm_D) {g : pm_s} (hT : sh_T g) {N : Nat} {u0 : pm_J} {out : pm_J} {p : Program} {e : Env} {R : Room} {s : State} {m : MethodId} {args : Array Value} {below : List Frame} {meth : Method} {c : Code} : ∀  (u : pm_J), K_Md_keepAtom_72 N g u = some out → pm_V (p, l, e, R, s, m, args, below, meth, c) m_Md_keepAtom h0 D (g.1, g.2.1, g.1, g.2.1, 6) (pm_E (p, l, e, R, s, m, args, below, meth, c) h0 D (sm g u0) none (sm g out)) 72 [(0, .ref 64)] [] (sm g u) := by
    intro u h
    unfold K_Md_keepAtom_72 at h
    refine pm_blk (pc' := 84) (L' := [(0, .ref 64)]) (S' := [.int (u.1 64 108), .int (u.1 64 92), .ref 129]) (M' := sm g u) [pm_o (.aload_n 0), pm_of (.getfield 210) 12 90 2, pm_o (.aload_n 0), pm_of (.getfield 530) 12 92 0, pm_o (.aload_n 0), pm_of (.getfield 563) 12 108 0] (by decide +kernel) rfl ?_
    obtain ⟨ho4, h⟩ := pm_ifs h
    refine pm_iast (by decide +kernel) rfl  (pm_ok_in ho4) ?_
    refine pm_blk (pc' := 97) (L' := [(0, .ref 64)]) (S' := [.long (u.2 64 109), .int (u.1 64 92), .ref 130]) (M' := sm g (wi u 129 ((u.1 64 92).toNatClampNeg) (u.1 64 108))) [pm_o (.aload_n 0), pm_of (.getfield 213) 12 91 2, pm_o (.aload_n 0), pm_of (.getfield 530) 12 92 0, pm_o (.aload_n 0), pm_of (.getfield 566) 12 109 1] (by decide +kernel) rfl ?_
    obtain ⟨ho5, h⟩ := pm_ifs h
    refine pm_last (by decide +kernel) rfl  (pm_ok_in ho5) ?_
    refine pm_blk (pc' := 108) (L' := [(0, .ref 64)]) (S' := []) (M' := sm g (wi (wj (wi u 129 ((u.1 64 92).toNatClampNeg) (u.1 64 108)) 130 ((u.1 64 92).toNatClampNeg) (u.2 64 109)) 64 92 ((u.1 64 92) + 1))) [pm_o (.aload_n 0), pm_o .dup, pm_of (.getfield 530) 12 92 0, pm_oi (.iconst 1) 1, pm_o .iadd, pm_of (.putfield 530) 12 92 0] (by decide +kernel) rfl ?_
    have h9 := Option.some.inj h
    subst h9
    exact pm_retv rfl (by decide +kernel) rfl rfl
def F_Md_keepAtom (N : Nat) (a1 : Int32) (a2 : Int32) (a3 : Int32) (g : pm_s) (u : pm_J) : Option (pm_J) := (F_Md_atomAt N a1 a3 g u).bind fun q1 => if pm_ok ((6 * a2) + a3) 180 = true then if (u.1 64 95) = 0 then K_Md_keepAtom_72 N g  (wj (wi u 64 108 (u.1 64 93)) 64 109 (u.2 64 94)) else if pm_ok (u.1 99 (((6 * a2) + a3).toNatClampNeg)) 100000 = true then if (u.1 73 ((u.1 99 (((6 * a2) + a3).toNatClampNeg)).toNatClampNeg)) = 0 then K_Md_keepAtom_72 N g  (wj (wi u 64 108 (u.1 64 93)) 64 109 (u.2 64 94)) else if pm_ok q1 2400 = true then if (u.1 89 q1.toNatClampNeg) = 0 then (F_Md_convert N 2 (u.1 99 (((6 * a2) + a3).toNatClampNeg)) a1 g (wj (wi u 64 108 (u.1 64 93)) 64 109 (u.2 64 94))).bind fun q10 => K_Md_keepAtom_72 N g  q10 else K_Md_keepAtom_72 N g  (wj (wi u 64 108 (u.1 64 93)) 64 109 (u.2 64 94)) else none else none else none
set_option maxHeartbeats 4000000 in
set_option maxRecDepth 100000 in
theorem c_Md_keepAtom (l : Launch) (h0 : Nat) (D : pm_D) {g : pm_s} {u : pm_J} (hT : sh_T g) {N : Nat} {a1 : Int32} {a2 : Int32} {a3 : Int32} {out : pm_J} (h : F_Md_keepAtom N a1 a2 a3 g u = some out) : pm_C l h0 D m_Md_keepAtom (6) [.ref 64, .int a1, .int a2, .int a3] (sm g u) none (sm g out) := by
  unfold F_Md_keepAtom at h
  refine pm_met (by decide +kernel) (Nat.le_of_ble_eq_true rfl) (Nat.le_refl _) (Nat.le_refl _) ?_
  intro p e R s m args below meth c
  refine pm_blk (pc' := 3) (L' := [(0, .ref 64), (1, .int a1), (2, .int a2), (3, .int a3)]) (S' := [.int a3, .int a1, .ref 64]) (M' := sm g u) [pm_o (.aload_n 0), pm_o (.iload_n 1), pm_o (.iload_n 3)] (by decide +kernel) rfl ?_
  obtain ⟨q1, hq1, h⟩ := pm_bd h
  refine pm_cV (idx := 634) m_Md_atomAt (c_Md_atomAt l h0 D hT hq1) (As := [.int a1, .int a3]) (S0 := []) rfl (by decide +kernel) k_Md_atomAt l_Md_634 (Nat.le_of_ble_eq_true rfl) (Nat.le_of_ble_eq_true rfl) (Nat.le_refl _) (Nat.le_refl _) ?_
  refine pm_blk (pc' := 18) (L' := [(4, .int q1), (0, .ref 64), (1, .int a1), (2, .int a2), (3, .int a3)]) (S' := [.int ((6 * a2) + a3), .ref 99]) (M' := sm g u) [pm_o (.istore 4), pm_o (.aload_n 0), pm_of (.getfield 119) 12 42 2, pm_oi (.bipush 6) 6, pm_o (.iload_n 2), pm_o .imul, pm_o (.iload_n 3), pm_o .iadd] (by decide +kernel) rfl ?_
  obtain ⟨ho2, h⟩ := pm_ifs h
  refine pm_iald (by decide +kernel) rfl (pm_ok_in ho2) ?_
  refine pm_blk (pc' := 41) (L' := [(5, .int (u.1 99 (((6 * a2) + a3).toNatClampNeg))), (4, .int q1), (0, .ref 64), (1, .int a1), (2, .int a2), (3, .int a3)]) (S' := [.int (u.1 64 95)]) (M' := sm g (wj (wi u 64 108 (u.1 64 93)) 64 109 (u.2 64 94))) [pm_o (.istore 5), pm_o (.aload_n 0), pm_o (.aload_n 0), pm_of (.getfield 607) 12 93 0, pm_of (.putfield 563) 12 108 0, pm_o (.aload_n 0), pm_o (.aload_n 0), pm_of (.getfield 610) 12 94 1, pm_of (.putfield 566) 12 109 1, pm_o (.aload_n 0), pm_of (.getfield 637) 12 95 3] (by decide +kernel) rfl ?_
  refine pm_if_eq (off := 31) 72 (by decide +kernel) (by decide) (fun hc3 => ?_) (fun hc3 => ?_)
  · rw [if_pos hc3] at h
    refine pm_loc [2] rfl ?_
    exact w_Md_keepAtom_72 l h0 D hT  (wj (wi u 64 108 (u.1 64 93)) 64 109 (u.2 64 94)) h
  · rw [if_neg hc3] at h
    refine pm_blk (pc' := 50) (L' := [(5, .int (u.1 99 (((6 * a2) + a3).toNatClampNeg))), (4, .int q1), (0, .ref 64), (1, .int a1), (2, .int a2), (3, .int a3)]) (S' := [.int (u.1 99 (((6 * a2) + a3).toNatClampNeg)), .ref 73]) (M' := sm g (wj (wi u 64 108 (u.1 64 93)) 64 109 (u.2 64 94))) [pm_o (.aload_n 0), pm_of (.getfield 41) 12 14 2, pm_o (.iload 5)] (by decide +kernel) rfl ?_
    obtain ⟨ho6, h⟩ := pm_ifs h
    refine pm_iald (by decide +kernel) rfl (pm_ok_in ho6) ?_
    refine pm_blk (pc' := 51) (L' := [(5, .int (u.1 99 (((6 * a2) + a3).toNatClampNeg))), (4, .int q1), (0, .ref 64), (1, .int a1), (2, .int a2), (3, .int a3)]) (S' := [.int (u.1 73 ((u.1 99 (((6 * a2) + a3).toNatClampNeg)).toNatClampNeg))]) (M' := sm g (wj (wi u 64 108 (u.1 64 93)) 64 109 (u.2 64 94))) [] (by decide +kernel) rfl ?_
    refine pm_if_eq (off := 21) 72 (by decide +kernel) (by decide) (fun hc7 => ?_) (fun hc7 => ?_)
    · rw [if_pos hc7] at h
      refine pm_loc [2] rfl ?_
      exact w_Md_keepAtom_72 l h0 D hT  (wj (wi u 64 108 (u.1 64 93)) 64 109 (u.2 64 94)) h
    · rw [if_neg hc7] at h
      refine pm_blk (pc' := 60) (L' := [(5, .int (u.1 99 (((6 * a2) + a3).toNatClampNeg))), (4, .int q1), (0, .ref 64), (1, .int a1), (2, .int a2), (3, .int a3)]) (S' := [.int q1, .ref 89]) (M' := sm g (wj (wi u 64 108 (u.1 64 93)) 64 109 (u.2 64 94))) [pm_o (.aload_n 0), pm_of (.getfield 89) 12 31 2, pm_o (.iload 4)] (by decide +kernel) rfl ?_
      obtain ⟨ho8, h⟩ := pm_ifs h
      refine pm_zald (by decide +kernel) rfl (pm_ok_in ho8) ?_
      refine pm_blk (pc' := 61) (L' := [(5, .int (u.1 99 (((6 * a2) + a3).toNatClampNeg))), (4, .int q1), (0, .ref 64), (1, .int a1), (2, .int a2), (3, .int a3)]) (S' := [.int (u.1 89 q1.toNatClampNeg)]) (M' := sm g (wj (wi u 64 108 (u.1 64 93)) 64 109 (u.2 64 94))) [] (by decide +kernel) rfl ?_
      refine pm_if_ne (off := 11) 72 (by decide +kernel) (by decide) (fun hc9 => ?_) (fun hc9 => ?_)
      · rw [if_neg hc9] at h
        refine pm_loc [2] rfl ?_
        exact w_Md_keepAtom_72 l h0 D hT  (wj (wi u 64 108 (u.1 64 93)) 64 109 (u.2 64 94)) h
      · rw [if_pos hc9] at h
        refine pm_blk (pc' := 69) (L' := [(5, .int (u.1 99 (((6 * a2) + a3).toNatClampNeg))), (4, .int q1), (0, .ref 64), (1, .int a1), (2, .int a2), (3, .int a3)]) (S' := [.int a1, .int (u.1 99 (((6 * a2) + a3).toNatClampNeg)), .int 2, .ref 64]) (M' := sm g (wj (wi u 64 108 (u.1 64 93)) 64 109 (u.2 64 94))) [pm_o (.aload_n 0), pm_oi (.iconst 2) 2, pm_o (.iload 5), pm_o (.iload_n 1)] (by decide +kernel) rfl ?_
        obtain ⟨q10, hq10, h⟩ := pm_bd h
        refine pm_cV (idx := 625) m_Md_convert (c_Md_convert l h0 D hT hq10) (As := [.int 2, .int (u.1 99 (((6 * a2) + a3).toNatClampNeg)), .int a1]) (S0 := []) rfl (by decide +kernel) k_Md_convert l_Md_625 (Nat.le_of_ble_eq_true rfl) (Nat.le_of_ble_eq_true rfl) (Nat.le_refl _) (Nat.le_refl _) ?_
        refine pm_blk (pc' := 72) (L' := [(5, .int (u.1 99 (((6 * a2) + a3).toNatClampNeg))), (4, .int q1), (0, .ref 64), (1, .int a1), (2, .int a2), (3, .int a3)]) (S' := []) (M' := sm g q10) [] (by decide +kernel) rfl ?_
        refine pm_loc [2] rfl ?_
        exact w_Md_keepAtom_72 l h0 D hT  q10 h
def F_Md_resultOf (N : Nat) (a1 : Int32) (a2 : Int32) (g : pm_s) (u : pm_J) : Option (pm_J) := if (u.1 64 95) = 0 then some (wj (wi u 64 108 (u.1 64 93)) 64 109 (u.2 64 94)) else if pm_ok a2 30 = true then if pm_ok (u.1 93 a2.toNatClampNeg) 100000 = true then if (u.1 73 ((u.1 93 a2.toNatClampNeg).toNatClampNeg)) = 0 then some (wj (wi u 64 108 (u.1 64 93)) 64 109 (u.2 64 94)) else if pm_ok a1 2400 = true then if (u.1 89 a1.toNatClampNeg) = 0 then if pm_ok a2 30 = true then (F_Md_convert N 3 (u.1 93 a2.toNatClampNeg) a1 g (wj (wi u 64 108 (u.1 64 93)) 64 109 (u.2 64 94))).bind fun q8 => some q8 else none else some (wj (wi u 64 108 (u.1 64 93)) 64 109 (u.2 64 94)) else none else none else none
set_option maxHeartbeats 4000000 in
set_option maxRecDepth 100000 in
theorem c_Md_resultOf (l : Launch) (h0 : Nat) (D : pm_D) {g : pm_s} {u : pm_J} (hT : sh_T g) {N : Nat} {a1 : Int32} {a2 : Int32} {out : pm_J} (h : F_Md_resultOf N a1 a2 g u = some out) : pm_C l h0 D m_Md_resultOf (6) [.ref 64, .int a1, .int a2] (sm g u) none (sm g out) := by
  unfold F_Md_resultOf at h
  refine pm_met (by decide +kernel) (Nat.le_of_ble_eq_true rfl) (Nat.le_refl _) (Nat.le_refl _) ?_
  intro p e R s m args below meth c
  refine pm_blk (pc' := 20) (L' := [(0, .ref 64), (1, .int a1), (2, .int a2)]) (S' := [.int (u.1 64 95)]) (M' := sm g (wj (wi u 64 108 (u.1 64 93)) 64 109 (u.2 64 94))) [pm_o (.aload_n 0), pm_o (.aload_n 0), pm_of (.getfield 607) 12 93 0, pm_of (.putfield 563) 12 108 0, pm_o (.aload_n 0), pm_o (.aload_n 0), pm_of (.getfield 610) 12 94 1, pm_of (.putfield 566) 12 109 1, pm_o (.aload_n 0), pm_of (.getfield 637) 12 95 3] (by decide +kernel) rfl ?_
  refine pm_if_eq (off := 38) 58 (by decide +kernel) (by decide) (fun hc1 => ?_) (fun hc1 => ?_)
  · rw [if_pos hc1] at h
    have h9 := Option.some.inj h
    subst h9
    exact pm_retv rfl (by decide +kernel) rfl rfl
  · rw [if_neg hc1] at h
    refine pm_blk (pc' := 32) (L' := [(0, .ref 64), (1, .int a1), (2, .int a2)]) (S' := [.int a2, .ref 93, .ref 73]) (M' := sm g (wj (wi u 64 108 (u.1 64 93)) 64 109 (u.2 64 94))) [pm_o (.aload_n 0), pm_of (.getfield 41) 12 14 2, pm_o (.aload_n 0), pm_of (.getfield 101) 12 36 2, pm_o (.iload_n 2)] (by decide +kernel) rfl ?_
    obtain ⟨ho2, h⟩ := pm_ifs h
    refine pm_iald (by decide +kernel) rfl (pm_ok_in ho2) ?_
    refine pm_blk (pc' := 33) (L' := [(0, .ref 64), (1, .int a1), (2, .int a2)]) (S' := [.int (u.1 93 a2.toNatClampNeg), .ref 73]) (M' := sm g (wj (wi u 64 108 (u.1 64 93)) 64 109 (u.2 64 94))) [] (by decide +kernel) rfl ?_
    obtain ⟨ho3, h⟩ := pm_ifs h
    refine pm_iald (by decide +kernel) rfl (pm_ok_in ho3) ?_
    refine pm_blk (pc' := 34) (L' := [(0, .ref 64), (1, .int a1), (2, .int a2)]) (S' := [.int (u.1 73 ((u.1 93 a2.toNatClampNeg).toNatClampNeg))]) (M' := sm g (wj (wi u 64 108 (u.1 64 93)) 64 109 (u.2 64 94))) [] (by decide +kernel) rfl ?_
    refine pm_if_eq (off := 24) 58 (by decide +kernel) (by decide) (fun hc4 => ?_) (fun hc4 => ?_)
    · rw [if_pos hc4] at h
      have h9 := Option.some.inj h
      subst h9
      exact pm_retv rfl (by decide +kernel) rfl rfl
    · rw [if_neg hc4] at h
      refine pm_blk (pc' := 42) (L' := [(0, .ref 64), (1, .int a1), (2, .int a2)]) (S' := [.int a1, .ref 89]) (M' := sm g (wj (wi u 64 108 (u.1 64 93)) 64 109 (u.2 64 94))) [pm_o (.aload_n 0), pm_of (.getfield 89) 12 31 2, pm_o (.iload_n 1)] (by decide +kernel) rfl ?_
      obtain ⟨ho5, h⟩ := pm_ifs h
      refine pm_zald (by decide +kernel) rfl (pm_ok_in ho5) ?_
      refine pm_blk (pc' := 43) (L' := [(0, .ref 64), (1, .int a1), (2, .int a2)]) (S' := [.int (u.1 89 a1.toNatClampNeg)]) (M' := sm g (wj (wi u 64 108 (u.1 64 93)) 64 109 (u.2 64 94))) [] (by decide +kernel) rfl ?_
      refine pm_if_ne (off := 15) 58 (by decide +kernel) (by decide) (fun hc6 => ?_) (fun hc6 => ?_)
      · rw [if_neg hc6] at h
        have h9 := Option.some.inj h
        subst h9
        exact pm_retv rfl (by decide +kernel) rfl rfl
      · rw [if_pos hc6] at h
        refine pm_blk (pc' := 53) (L' := [(0, .ref 64), (1, .int a1), (2, .int a2)]) (S' := [.int a2, .ref 93, .int 3, .ref 64]) (M' := sm g (wj (wi u 64 108 (u.1 64 93)) 64 109 (u.2 64 94))) [pm_o (.aload_n 0), pm_oi (.iconst 3) 3, pm_o (.aload_n 0), pm_of (.getfield 101) 12 36 2, pm_o (.iload_n 2)] (by decide +kernel) rfl ?_
        obtain ⟨ho7, h⟩ := pm_ifs h
        refine pm_iald (by decide +kernel) rfl (pm_ok_in ho7) ?_
        refine pm_blk (pc' := 55) (L' := [(0, .ref 64), (1, .int a1), (2, .int a2)]) (S' := [.int a1, .int (u.1 93 a2.toNatClampNeg), .int 3, .ref 64]) (M' := sm g (wj (wi u 64 108 (u.1 64 93)) 64 109 (u.2 64 94))) [pm_o (.iload_n 1)] (by decide +kernel) rfl ?_
        obtain ⟨q8, hq8, h⟩ := pm_bd h
        refine pm_cV (idx := 625) m_Md_convert (c_Md_convert l h0 D hT hq8) (As := [.int 3, .int (u.1 93 a2.toNatClampNeg), .int a1]) (S0 := []) rfl (by decide +kernel) k_Md_convert l_Md_625 (Nat.le_of_ble_eq_true rfl) (Nat.le_of_ble_eq_true rfl) (Nat.le_refl _) (Nat.le_refl _) ?_
        refine pm_blk (pc' := 58) (L' := [(0, .ref 64), (1, .int a1), (2, .int a2)]) (S' := []) (M' := sm g q8) [] (by decide +kernel) rfl ?_
        have h9 := Option.some.inj h
        subst h9
        exact pm_retv rfl (by decide +kernel) rfl rfl
def F_Md_goOn (N : Nat) (a1 : Int32) (a2 : Int32) (a3 : Int32) (g : pm_s) (u : pm_J) : Option (pm_J) := if pm_ok a1 150 = true then if pm_ok a1 150 = true then if pm_ok a2 2400 = true then if a3 = (u.1 84 a2.toNatClampNeg) then (F_Md_finish (u.1 64 108) (u.2 64 109) g (wj (wi u 127 a1.toNatClampNeg (u.1 64 108)) 128 a1.toNatClampNeg (u.2 64 109))).bind fun q9 => some q9 else if pm_ok a1 150 = true then (F_Md_atomAt N a2 a3 g (wi (wj (wi u 127 a1.toNatClampNeg (u.1 64 108)) 128 a1.toNatClampNeg (u.2 64 109)) 126 a1.toNatClampNeg (3000 + a3))).bind fun q6 => if pm_ok a1 150 = true then (F_Md_begin q6 (u.1 125 a1.toNatClampNeg) g (wi (wj (wi u 127 a1.toNatClampNeg (u.1 64 108)) 128 a1.toNatClampNeg (u.2 64 109)) 126 a1.toNatClampNeg (3000 + a3))).bind fun q8 => some q8 else none else none else none else none else none
set_option maxHeartbeats 4000000 in
set_option maxRecDepth 100000 in
theorem c_Md_goOn (l : Launch) (h0 : Nat) (D : pm_D) {g : pm_s} {u : pm_J} (hT : sh_T g) {N : Nat} {a1 : Int32} {a2 : Int32} {a3 : Int32} {out : pm_J} (h : F_Md_goOn N a1 a2 a3 g u = some out) : pm_C l h0 D m_Md_goOn (2) [.ref 64, .int a1, .int a2, .int a3] (sm g u) none (sm g out) := by
  unfold F_Md_goOn at h
  refine pm_met (by decide +kernel) (Nat.le_of_ble_eq_true rfl) (Nat.le_refl _) (Nat.le_refl _) ?_
  intro p e R s m args below meth c
  refine pm_blk (pc' := 9) (L' := [(0, .ref 64), (1, .int a1), (2, .int a2), (3, .int a3)]) (S' := [.int (u.1 64 108), .int a1, .ref 127]) (M' := sm g u) [pm_o (.aload_n 0), pm_of (.getfield 204) 12 86 2, pm_o (.iload_n 1), pm_o (.aload_n 0), pm_of (.getfield 563) 12 108 0] (by decide +kernel) rfl ?_
  obtain ⟨ho1, h⟩ := pm_ifs h
  refine pm_iast (by decide +kernel) rfl  (pm_ok_in ho1) ?_
  refine pm_blk (pc' := 19) (L' := [(0, .ref 64), (1, .int a1), (2, .int a2), (3, .int a3)]) (S' := [.long (u.2 64 109), .int a1, .ref 128]) (M' := sm g (wi u 127 a1.toNatClampNeg (u.1 64 108))) [pm_o (.aload_n 0), pm_of (.getfield 207) 12 87 2, pm_o (.iload_n 1), pm_o (.aload_n 0), pm_of (.getfield 566) 12 109 1] (by decide +kernel) rfl ?_
  obtain ⟨ho2, h⟩ := pm_ifs h
  refine pm_last (by decide +kernel) rfl  (pm_ok_in ho2) ?_
  refine pm_blk (pc' := 26) (L' := [(0, .ref 64), (1, .int a1), (2, .int a2), (3, .int a3)]) (S' := [.int a2, .ref 84, .int a3]) (M' := sm g (wj (wi u 127 a1.toNatClampNeg (u.1 64 108)) 128 a1.toNatClampNeg (u.2 64 109))) [pm_o (.iload_n 3), pm_o (.aload_n 0), pm_of (.getfield 74) 12 26 2, pm_o (.iload_n 2)] (by decide +kernel) rfl ?_
  obtain ⟨ho3, h⟩ := pm_ifs h
  refine pm_iald (by decide +kernel) rfl (pm_ok_in ho3) ?_
  refine pm_blk (pc' := 27) (L' := [(0, .ref 64), (1, .int a1), (2, .int a2), (3, .int a3)]) (S' := [.int (u.1 84 a2.toNatClampNeg), .int a3]) (M' := sm g (wj (wi u 127 a1.toNatClampNeg (u.1 64 108)) 128 a1.toNatClampNeg (u.2 64 109))) [] (by decide +kernel) rfl ?_
  refine pm_ic_ne (off := 18) 45 (by decide +kernel) (by decide) (fun hc4 => ?_) (fun hc4 => ?_)
  · rw [if_neg hc4] at h
    refine pm_blk (pc' := 55) (L' := [(0, .ref 64), (1, .int a1), (2, .int a2), (3, .int a3)]) (S' := [.int (3000 + a3), .int a1, .ref 126]) (M' := sm g (wj (wi u 127 a1.toNatClampNeg (u.1 64 108)) 128 a1.toNatClampNeg (u.2 64 109))) [pm_o (.aload_n 0), pm_of (.getfield 201) 12 85 2, pm_o (.iload_n 1), pm_oi (.sipush 3000) 3000, pm_o (.iload_n 3), pm_o .iadd] (by decide +kernel) rfl ?_
    obtain ⟨ho5, h⟩ := pm_ifs h
    refine pm_iast (by decide +kernel) rfl  (pm_ok_in ho5) ?_
    refine pm_blk (pc' := 60) (L' := [(0, .ref 64), (1, .int a1), (2, .int a2), (3, .int a3)]) (S' := [.int a3, .int a2, .ref 64, .ref 64]) (M' := sm g (wi (wj (wi u 127 a1.toNatClampNeg (u.1 64 108)) 128 a1.toNatClampNeg (u.2 64 109)) 126 a1.toNatClampNeg (3000 + a3))) [pm_o (.aload_n 0), pm_o (.aload_n 0), pm_o (.iload_n 2), pm_o (.iload_n 3)] (by decide +kernel) rfl ?_
    obtain ⟨q6, hq6, h⟩ := pm_bd h
    refine pm_cV (idx := 634) m_Md_atomAt (c_Md_atomAt l h0 D hT hq6) (As := [.int a2, .int a3]) (S0 := [.ref 64]) rfl (by decide +kernel) k_Md_atomAt l_Md_634 (Nat.le_of_ble_eq_true rfl) (Nat.le_of_ble_eq_true rfl) (Nat.le_refl _) (Nat.le_refl _) ?_
    refine pm_blk (pc' := 68) (L' := [(0, .ref 64), (1, .int a1), (2, .int a2), (3, .int a3)]) (S' := [.int a1, .ref 125, .int q6, .ref 64]) (M' := sm g (wi (wj (wi u 127 a1.toNatClampNeg (u.1 64 108)) 128 a1.toNatClampNeg (u.2 64 109)) 126 a1.toNatClampNeg (3000 + a3))) [pm_o (.aload_n 0), pm_of (.getfield 198) 12 84 2, pm_o (.iload_n 1)] (by decide +kernel) rfl ?_
    obtain ⟨ho7, h⟩ := pm_ifs h
    refine pm_iald (by decide +kernel) rfl (pm_ok_in ho7) ?_
    refine pm_blk (pc' := 69) (L' := [(0, .ref 64), (1, .int a1), (2, .int a2), (3, .int a3)]) (S' := [.int (u.1 125 a1.toNatClampNeg), .int q6, .ref 64]) (M' := sm g (wi (wj (wi u 127 a1.toNatClampNeg (u.1 64 108)) 128 a1.toNatClampNeg (u.2 64 109)) 126 a1.toNatClampNeg (3000 + a3))) [] (by decide +kernel) rfl ?_
    obtain ⟨q8, hq8, h⟩ := pm_bd h
    refine pm_cV (idx := 619) m_Md_begin (c_Md_begin l h0 D hT hq8) (As := [.int q6, .int (u.1 125 a1.toNatClampNeg)]) (S0 := []) rfl (by decide +kernel) k_Md_begin l_Md_619 (Nat.le_of_ble_eq_true rfl) (Nat.le_of_ble_eq_true rfl) (Nat.le_refl _) (Nat.le_refl _) ?_
    refine pm_blk (pc' := 72) (L' := [(0, .ref 64), (1, .int a1), (2, .int a2), (3, .int a3)]) (S' := []) (M' := sm g q8) [] (by decide +kernel) rfl ?_
    have h9 := Option.some.inj h
    subst h9
    exact pm_retv rfl (by decide +kernel) rfl rfl
  · rw [if_pos hc4] at h
    refine pm_blk (pc' := 39) (L' := [(0, .ref 64), (1, .int a1), (2, .int a2), (3, .int a3)]) (S' := [.long (u.2 64 109), .int (u.1 64 108), .ref 64]) (M' := sm g (wj (wi u 127 a1.toNatClampNeg (u.1 64 108)) 128 a1.toNatClampNeg (u.2 64 109))) [pm_o (.aload_n 0), pm_o (.aload_n 0), pm_of (.getfield 563) 12 108 0, pm_o (.aload_n 0), pm_of (.getfield 566) 12 109 1] (by decide +kernel) rfl ?_
    obtain ⟨q9, hq9, h⟩ := pm_bd h
    refine pm_cV (idx := 631) m_Md_finish (c_Md_finish l h0 D hT hq9) (As := [.int (u.1 64 108), .long (u.2 64 109)]) (S0 := []) rfl (by decide +kernel) k_Md_finish l_Md_631 (Nat.le_of_ble_eq_true rfl) (Nat.le_of_ble_eq_true rfl) (Nat.le_refl _) (Nat.le_refl _) ?_
    refine pm_blk (pc' := 42) (L' := [(0, .ref 64), (1, .int a1), (2, .int a2), (3, .int a3)]) (S' := []) (M' := sm g q9) [] (by decide +kernel) rfl ?_
    refine pm_goto (off := 30) 72 (by decide +kernel) (by decide) ?_
    have h9 := Option.some.inj h
    subst h9
    exact pm_retv rfl (by decide +kernel) rfl rfl
def K_Md_workRow_54 (N : Nat) (g : pm_s) (x1 : Int32) (x2 : Int32) (x4 : Int32) (t0 : Int32) (t1 : Int32) (u : pm_J) : Option (pm_J) := if pm_ok t1 150 = true then if x4 ≤ 0 then if pm_ok x2 2400 = true then if pm_ok x1 150 = true then (F_Md_begin (u.1 79 x2.toNatClampNeg) (u.1 125 x1.toNatClampNeg) g (wi u 126 t1.toNatClampNeg t0)).bind fun q30 => some q30 else none else none else if pm_ok x2 2400 = true then if pm_ok x1 150 = true then (F_Md_begin (u.1 80 x2.toNatClampNeg) (u.1 125 x1.toNatClampNeg) g (wi u 126 t1.toNatClampNeg t0)).bind fun q33 => some q33 else none else none else none
set_option maxHeartbeats 4000000 in
set_option maxRecDepth 100000 in
theorem w_Md_workRow_54 (l : Launch) (h0 : Nat) (D : pm_D) {g : pm_s} (hT : sh_T g) {N : Nat} {u0 : pm_J} {out : pm_J} {p : Program} {e : Env} {R : Room} {s : State} {m : MethodId} {args : Array Value} {below : List Frame} {meth : Method} {c : Code} : ∀ (x1 : Int32) (x2 : Int32) (x4 : Int32) (t0 : Int32) (t1 : Int32) (u : pm_J), K_Md_workRow_54 N g x1 x2 x4 t0 t1 u = some out → pm_V (p, l, e, R, s, m, args, below, meth, c) m_Md_workRow h0 D (g.1, g.2.1, g.1, g.2.1, 7) (pm_E (p, l, e, R, s, m, args, below, meth, c) h0 D (sm g u0) none (sm g out)) 54 [(0, .ref 64), (1, .int x1), (2, .int x2), (4, .int x4)] [.int t0, .int t1, .ref 126] (sm g u) := by
    intro x1 x2 x4 t0 t1 u h
    unfold K_Md_workRow_54 at h
    obtain ⟨ho26, h⟩ := pm_ifs h
    refine pm_iast (by decide +kernel) rfl  (pm_ok_in ho26) ?_
    refine pm_blk (pc' := 58) (L' := [(0, .ref 64), (1, .int x1), (2, .int x2), (4, .int x4)]) (S' := [.int x4, .ref 64]) (M' := sm g (wi u 126 t1.toNatClampNeg t0)) [pm_o (.aload_n 0), pm_o (.iload 4)] (by decide +kernel) rfl ?_
    refine pm_if_le (off := 12) 70 (by decide +kernel) (by decide) (fun hc27 => ?_) (fun hc27 => ?_)
    · rw [if_pos hc27] at h
      refine pm_blk (pc' := 75) (L' := [(0, .ref 64), (1, .int x1), (2, .int x2), (4, .int x4)]) (S' := [.int x2, .ref 79, .ref 64]) (M' := sm g (wi u 126 t1.toNatClampNeg t0)) [pm_o (.aload_n 0), pm_of (.getfield 59) 12 21 2, pm_o (.iload_n 2)] (by decide +kernel) rfl ?_
      obtain ⟨ho28, h⟩ := pm_ifs h
      refine pm_iald (by decide +kernel) rfl (pm_ok_in ho28) ?_
      refine pm_blk (pc' := 81) (L' := [(0, .ref 64), (1, .int x1), (2, .int x2), (4, .int x4)]) (S' := [.int x1, .ref 125, .int (u.1 79 x2.toNatClampNeg), .ref 64]) (M' := sm g (wi u 126 t1.toNatClampNeg t0)) [pm_o (.aload_n 0), pm_of (.getfield 198) 12 84 2, pm_o (.iload_n 1)] (by decide +kernel) rfl ?_
      obtain ⟨ho29, h⟩ := pm_ifs h
      refine pm_iald (by decide +kernel) rfl (pm_ok_in ho29) ?_
      refine pm_blk (pc' := 82) (L' := [(0, .ref 64), (1, .int x1), (2, .int x2), (4, .int x4)]) (S' := [.int (u.1 125 x1.toNatClampNeg), .int (u.1 79 x2.toNatClampNeg), .ref 64]) (M' := sm g (wi u 126 t1.toNatClampNeg t0)) [] (by decide +kernel) rfl ?_
      obtain ⟨q30, hq30, h⟩ := pm_bd h
      refine pm_cV (idx := 619) m_Md_begin (c_Md_begin l h0 D hT hq30) (As := [.int (u.1 79 x2.toNatClampNeg), .int (u.1 125 x1.toNatClampNeg)]) (S0 := []) rfl (by decide +kernel) k_Md_begin l_Md_619 (Nat.le_of_ble_eq_true rfl) (Nat.le_of_ble_eq_true rfl) (Nat.le_refl _) (Nat.le_refl _) ?_
      refine pm_blk (pc' := 85) (L' := [(0, .ref 64), (1, .int x1), (2, .int x2), (4, .int x4)]) (S' := []) (M' := sm g q30) [] (by decide +kernel) rfl ?_
      refine pm_goto (off := 231) 316 (by decide +kernel) (by decide) ?_
      have h9 := Option.some.inj h
      subst h9
      exact pm_retv rfl (by decide +kernel) rfl rfl
    · rw [if_neg hc27] at h
      refine pm_blk (pc' := 66) (L' := [(0, .ref 64), (1, .int x1), (2, .int x2), (4, .int x4)]) (S' := [.int x2, .ref 80, .ref 64]) (M' := sm g (wi u 126 t1.toNatClampNeg t0)) [pm_o (.aload_n 0), pm_of (.getfield 62) 12 22 2, pm_o (.iload_n 2)] (by decide +kernel) rfl ?_
      obtain ⟨ho31, h⟩ := pm_ifs h
      refine pm_iald (by decide +kernel) rfl (pm_ok_in ho31) ?_
      refine pm_blk (pc' := 67) (L' := [(0, .ref 64), (1, .int x1), (2, .int x2), (4, .int x4)]) (S' := [.int (u.1 80 x2.toNatClampNeg), .ref 64]) (M' := sm g (wi u 126 t1.toNatClampNeg t0)) [] (by decide +kernel) rfl ?_
      refine pm_goto (off := 9) 76 (by decide +kernel) (by decide) ?_
      refine pm_blk (pc' := 81) (L' := [(0, .ref 64), (1, .int x1), (2, .int x2), (4, .int x4)]) (S' := [.int x1, .ref 125, .int (u.1 80 x2.toNatClampNeg), .ref 64]) (M' := sm g (wi u 126 t1.toNatClampNeg t0)) [pm_o (.aload_n 0), pm_of (.getfield 198) 12 84 2, pm_o (.iload_n 1)] (by decide +kernel) rfl ?_
      obtain ⟨ho32, h⟩ := pm_ifs h
      refine pm_iald (by decide +kernel) rfl (pm_ok_in ho32) ?_
      refine pm_blk (pc' := 82) (L' := [(0, .ref 64), (1, .int x1), (2, .int x2), (4, .int x4)]) (S' := [.int (u.1 125 x1.toNatClampNeg), .int (u.1 80 x2.toNatClampNeg), .ref 64]) (M' := sm g (wi u 126 t1.toNatClampNeg t0)) [] (by decide +kernel) rfl ?_
      obtain ⟨q33, hq33, h⟩ := pm_bd h
      refine pm_cV (idx := 619) m_Md_begin (c_Md_begin l h0 D hT hq33) (As := [.int (u.1 80 x2.toNatClampNeg), .int (u.1 125 x1.toNatClampNeg)]) (S0 := []) rfl (by decide +kernel) k_Md_begin l_Md_619 (Nat.le_of_ble_eq_true rfl) (Nat.le_of_ble_eq_true rfl) (Nat.le_refl _) (Nat.le_refl _) ?_
      refine pm_blk (pc' := 85) (L' := [(0, .ref 64), (1, .int x1), (2, .int x2), (4, .int x4)]) (S' := []) (M' := sm g q33) [] (by decide +kernel) rfl ?_
      refine pm_goto (off := 231) 316 (by decide +kernel) (by decide) ?_
      have h9 := Option.some.inj h
      subst h9
      exact pm_retv rfl (by decide +kernel) rfl rfl
def K_Md_workRow_21 (N : Nat) (g : pm_s) (x1 : Int32) (x2 : Int32) (x3 : Int32) (t0 : Int32) (u : pm_J) : Option (pm_J) := if pm_ok x1 150 = true then if (u.1 126 x1.toNatClampNeg) = 0 then if t0 ≤ 0 then K_Md_workRow_54 N g x1 x2 t0 1001 x1 u else K_Md_workRow_54 N g x1 x2 t0 10 x1 u else if 1000 ≤ (u.1 126 x1.toNatClampNeg) then if (u.1 126 x1.toNatClampNeg) = 1000 then (F_Md_resultOf N x2 x3 g u).bind fun q14 => if (q14.1 64 96) = 0 then (F_Md_goOn N x1 x2 t0 g q14).bind fun q16 => some q16 else some q14 else if (u.1 126 x1.toNatClampNeg) = 1001 then (F_Md_goOn N x1 x2 0 g (wj (wi u 64 108 (u.1 64 93)) 64 109 (u.2 64 94))).bind fun q13 => some q13 else if (u.1 126 x1.toNatClampNeg) < 3000 then (F_Md_goOn N x1 x2 (((u.1 126 x1.toNatClampNeg) - 2000) + 1) g (wj (wi u 64 108 (u.1 64 93)) 64 109 (u.2 64 94))).bind fun q9 => some q9 else if pm_ok x1 150 = true then if pm_ok x1 150 = true then (F_Md_callFunction N ((u.2 128 x1.toNatClampNeg).toInt32) g (wj (wi (wi u 126 x1.toNatClampNeg ((u.1 126 x1.toNatClampNeg) - 1000)) 64 108 (u.1 64 93)) 64 109 (u.2 64 94))).bind fun q12 => some q12 else none else none else (F_Md_keepAtom N x2 x3 ((u.1 126 x1.toNatClampNeg) - 10) g u).bind fun q17 => if (q17.1 64 96) = 0 then if (((u.1 126 x1.toNatClampNeg) - 10) + 1) = t0 then (F_Md_callDef N x1 x3 t0 g q17).bind fun q24 => some q24 else if pm_ok x1 150 = true then (F_Md_atomAt N x2 (((u.1 126 x1.toNatClampNeg) - 10) + 1) g (wi q17 126 x1.toNatClampNeg ((u.1 126 x1.toNatClampNeg) + 1))).bind fun q21 => if pm_ok x1 150 = true then (F_Md_begin q21 (q17.1 125 x1.toNatClampNeg) g (wi q17 126 x1.toNatClampNeg ((u.1 126 x1.toNatClampNeg) + 1))).bind fun q23 => some q23 else none else none else some q17 else none
set_option maxHeartbeats 4000000 in
set_option maxRecDepth 100000 in
theorem w_Md_workRow_21 (l : Launch) (h0 : Nat) (D : pm_D) {g : pm_s} (hT : sh_T g) {N : Nat} {u0 : pm_J} {out : pm_J} {p : Program} {e : Env} {R : Room} {s : State} {m : MethodId} {args : Array Value} {below : List Frame} {meth : Method} {c : Code} : ∀ (x1 : Int32) (x2 : Int32) (x3 : Int32) (t0 : Int32) (u : pm_J), K_Md_workRow_21 N g x1 x2 x3 t0 u = some out → pm_V (p, l, e, R, s, m, args, below, meth, c) m_Md_workRow h0 D (g.1, g.2.1, g.1, g.2.1, 7) (pm_E (p, l, e, R, s, m, args, below, meth, c) h0 D (sm g u0) none (sm g out)) 21 [(0, .ref 64), (1, .int x1), (2, .int x2), (3, .int x3)] [.int t0] (sm g u) := by
    intro x1 x2 x3 t0 u h
    unfold K_Md_workRow_21 at h
    refine pm_blk (pc' := 28) (L' := [(4, .int t0), (0, .ref 64), (1, .int x1), (2, .int x2), (3, .int x3)]) (S' := [.int x1, .ref 126]) (M' := sm g u) [pm_o (.istore 4), pm_o (.aload_n 0), pm_of (.getfield 201) 12 85 2, pm_o (.iload_n 1)] (by decide +kernel) rfl ?_
    obtain ⟨ho3, h⟩ := pm_ifs h
    refine pm_iald (by decide +kernel) rfl (pm_ok_in ho3) ?_
    refine pm_blk (pc' := 33) (L' := [(5, .int (u.1 126 x1.toNatClampNeg)), (4, .int t0), (0, .ref 64), (1, .int x1), (2, .int x2), (3, .int x3)]) (S' := [.int (u.1 126 x1.toNatClampNeg)]) (M' := sm g u) [pm_o (.istore 5), pm_o (.iload 5)] (by decide +kernel) rfl ?_
    refine pm_if_ne (off := 55) 88 (by decide +kernel) (by decide) (fun hc4 => ?_) (fun hc4 => ?_)
    · rw [if_neg hc4] at h
      refine pm_blk (pc' := 93) (L' := [(5, .int (u.1 126 x1.toNatClampNeg)), (4, .int t0), (0, .ref 64), (1, .int x1), (2, .int x2), (3, .int x3)]) (S' := [.int 1000, .int (u.1 126 x1.toNatClampNeg)]) (M' := sm g u) [pm_o (.iload 5), pm_oi (.sipush 1000) 1000] (by decide +kernel) rfl ?_
      refine pm_ic_ge (off := 77) 170 (by decide +kernel) (by decide) (fun hc5 => ?_) (fun hc5 => ?_)
      · rw [if_pos hc5] at h
        refine pm_blk (pc' := 175) (L' := [(5, .int (u.1 126 x1.toNatClampNeg)), (4, .int t0), (0, .ref 64), (1, .int x1), (2, .int x2), (3, .int x3)]) (S' := [.int 1000, .int (u.1 126 x1.toNatClampNeg)]) (M' := sm g u) [pm_o (.iload 5), pm_oi (.sipush 1000) 1000] (by decide +kernel) rfl ?_
        refine pm_ic_ne (off := 27) 202 (by decide +kernel) (by decide) (fun hc6 => ?_) (fun hc6 => ?_)
        · rw [if_neg hc6] at h
          refine pm_blk (pc' := 207) (L' := [(5, .int (u.1 126 x1.toNatClampNeg)), (4, .int t0), (0, .ref 64), (1, .int x1), (2, .int x2), (3, .int x3)]) (S' := [.int 1001, .int (u.1 126 x1.toNatClampNeg)]) (M' := sm g u) [pm_o (.iload 5), pm_oi (.sipush 1001) 1001] (by decide +kernel) rfl ?_
          refine pm_ic_ne (off := 29) 236 (by decide +kernel) (by decide) (fun hc7 => ?_) (fun hc7 => ?_)
          · rw [if_neg hc7] at h
            refine pm_blk (pc' := 241) (L' := [(5, .int (u.1 126 x1.toNatClampNeg)), (4, .int t0), (0, .ref 64), (1, .int x1), (2, .int x2), (3, .int x3)]) (S' := [.int 3000, .int (u.1 126 x1.toNatClampNeg)]) (M' := sm g u) [pm_o (.iload 5), pm_oi (.sipush 3000) 3000] (by decide +kernel) rfl ?_
            refine pm_ic_lt (off := 45) 286 (by decide +kernel) (by decide) (fun hc8 => ?_) (fun hc8 => ?_)
            · rw [if_pos hc8] at h
              refine pm_blk (pc' := 313) (L' := [(5, .int (u.1 126 x1.toNatClampNeg)), (4, .int t0), (0, .ref 64), (1, .int x1), (2, .int x2), (3, .int x3)]) (S' := [.int (((u.1 126 x1.toNatClampNeg) - 2000) + 1), .int x2, .int x1, .ref 64]) (M' := sm g (wj (wi u 64 108 (u.1 64 93)) 64 109 (u.2 64 94))) [pm_o (.aload_n 0), pm_o (.aload_n 0), pm_of (.getfield 607) 12 93 0, pm_of (.putfield 563) 12 108 0, pm_o (.aload_n 0), pm_o (.aload_n 0), pm_of (.getfield 610) 12 94 1, pm_of (.putfield 566) 12 109 1, pm_o (.aload_n 0), pm_o (.iload_n 1), pm_o (.iload_n 2), pm_o (.iload 5), pm_oi (.sipush 2000) 2000, pm_o .isub, pm_oi (.iconst 1) 1, pm_o .iadd] (by decide +kernel) rfl ?_
              obtain ⟨q9, hq9, h⟩ := pm_bd h
              refine pm_cV (idx := 649) m_Md_goOn (c_Md_goOn l h0 D hT hq9) (As := [.int x1, .int x2, .int (((u.1 126 x1.toNatClampNeg) - 2000) + 1)]) (S0 := []) rfl (by decide +kernel) k_Md_goOn l_Md_649 (Nat.le_of_ble_eq_true rfl) (Nat.le_of_ble_eq_true rfl) (Nat.le_refl _) (Nat.le_refl _) ?_
              refine pm_blk (pc' := 316) (L' := [(5, .int (u.1 126 x1.toNatClampNeg)), (4, .int t0), (0, .ref 64), (1, .int x1), (2, .int x2), (3, .int x3)]) (S' := []) (M' := sm g q9) [] (by decide +kernel) rfl ?_
              have h9 := Option.some.inj h
              subst h9
              exact pm_retv rfl (by decide +kernel) rfl rfl
            · rw [if_neg hc8] at h
              refine pm_blk (pc' := 255) (L' := [(5, .int (u.1 126 x1.toNatClampNeg)), (4, .int t0), (0, .ref 64), (1, .int x1), (2, .int x2), (3, .int x3)]) (S' := [.int ((u.1 126 x1.toNatClampNeg) - 1000), .int x1, .ref 126]) (M' := sm g u) [pm_o (.aload_n 0), pm_of (.getfield 201) 12 85 2, pm_o (.iload_n 1), pm_o (.iload 5), pm_oi (.sipush 1000) 1000, pm_o .isub] (by decide +kernel) rfl ?_
              obtain ⟨ho10, h⟩ := pm_ifs h
              refine pm_iast (by decide +kernel) rfl  (pm_ok_in ho10) ?_
              refine pm_blk (pc' := 278) (L' := [(5, .int (u.1 126 x1.toNatClampNeg)), (4, .int t0), (0, .ref 64), (1, .int x1), (2, .int x2), (3, .int x3)]) (S' := [.int x1, .ref 128, .ref 64]) (M' := sm g (wj (wi (wi u 126 x1.toNatClampNeg ((u.1 126 x1.toNatClampNeg) - 1000)) 64 108 (u.1 64 93)) 64 109 (u.2 64 94))) [pm_o (.aload_n 0), pm_o (.aload_n 0), pm_of (.getfield 607) 12 93 0, pm_of (.putfield 563) 12 108 0, pm_o (.aload_n 0), pm_o (.aload_n 0), pm_of (.getfield 610) 12 94 1, pm_of (.putfield 566) 12 109 1, pm_o (.aload_n 0), pm_o (.aload_n 0), pm_of (.getfield 207) 12 87 2, pm_o (.iload_n 1)] (by decide +kernel) rfl ?_
              obtain ⟨ho11, h⟩ := pm_ifs h
              refine pm_lald (by decide +kernel) rfl (pm_ok_in ho11) ?_
              refine pm_blk (pc' := 280) (L' := [(5, .int (u.1 126 x1.toNatClampNeg)), (4, .int t0), (0, .ref 64), (1, .int x1), (2, .int x2), (3, .int x3)]) (S' := [.int ((u.2 128 x1.toNatClampNeg).toInt32), .ref 64]) (M' := sm g (wj (wi (wi u 126 x1.toNatClampNeg ((u.1 126 x1.toNatClampNeg) - 1000)) 64 108 (u.1 64 93)) 64 109 (u.2 64 94))) [pm_o .l2i] (by decide +kernel) rfl ?_
              obtain ⟨q12, hq12, h⟩ := pm_bd h
              refine pm_cV (idx := 628) m_Md_callFunction (c_Md_callFunction l h0 D hT hq12) (As := [.int ((u.2 128 x1.toNatClampNeg).toInt32)]) (S0 := []) rfl (by decide +kernel) k_Md_callFunction l_Md_628 (Nat.le_of_ble_eq_true rfl) (Nat.le_of_ble_eq_true rfl) (Nat.le_refl _) (Nat.le_refl _) ?_
              refine pm_blk (pc' := 283) (L' := [(5, .int (u.1 126 x1.toNatClampNeg)), (4, .int t0), (0, .ref 64), (1, .int x1), (2, .int x2), (3, .int x3)]) (S' := []) (M' := sm g q12) [] (by decide +kernel) rfl ?_
              refine pm_goto (off := 33) 316 (by decide +kernel) (by decide) ?_
              have h9 := Option.some.inj h
              subst h9
              exact pm_retv rfl (by decide +kernel) rfl rfl
          · rw [if_pos hc7] at h
            refine pm_blk (pc' := 230) (L' := [(5, .int (u.1 126 x1.toNatClampNeg)), (4, .int t0), (0, .ref 64), (1, .int x1), (2, .int x2), (3, .int x3)]) (S' := [.int 0, .int x2, .int x1, .ref 64]) (M' := sm g (wj (wi u 64 108 (u.1 64 93)) 64 109 (u.2 64 94))) [pm_o (.aload_n 0), pm_o (.aload_n 0), pm_of (.getfield 607) 12 93 0, pm_of (.putfield 563) 12 108 0, pm_o (.aload_n 0), pm_o (.aload_n 0), pm_of (.getfield 610) 12 94 1, pm_of (.putfield 566) 12 109 1, pm_o (.aload_n 0), pm_o (.iload_n 1), pm_o (.iload_n 2), pm_oi (.iconst 0) 0] (by decide +kernel) rfl ?_
            obtain ⟨q13, hq13, h⟩ := pm_bd h
            refine pm_cV (idx := 649) m_Md_goOn (c_Md_goOn l h0 D hT hq13) (As := [.int x1, .int x2, .int 0]) (S0 := []) rfl (by decide +kernel) k_Md_goOn l_Md_649 (Nat.le_of_ble_eq_true rfl) (Nat.le_of_ble_eq_true rfl) (Nat.le_refl _) (Nat.le_refl _) ?_
            refine pm_blk (pc' := 233) (L' := [(5, .int (u.1 126 x1.toNatClampNeg)), (4, .int t0), (0, .ref 64), (1, .int x1), (2, .int x2), (3, .int x3)]) (S' := []) (M' := sm g q13) [] (by decide +kernel) rfl ?_
            refine pm_goto (off := 83) 316 (by decide +kernel) (by decide) ?_
            have h9 := Option.some.inj h
            subst h9
            exact pm_retv rfl (by decide +kernel) rfl rfl
        · rw [if_pos hc6] at h
          refine pm_blk (pc' := 181) (L' := [(5, .int (u.1 126 x1.toNatClampNeg)), (4, .int t0), (0, .ref 64), (1, .int x1), (2, .int x2), (3, .int x3)]) (S' := [.int x3, .int x2, .ref 64]) (M' := sm g u) [pm_o (.aload_n 0), pm_o (.iload_n 2), pm_o (.iload_n 3)] (by decide +kernel) rfl ?_
          obtain ⟨q14, hq14, h⟩ := pm_bd h
          refine pm_cV (idx := 646) m_Md_resultOf (c_Md_resultOf l h0 D hT hq14) (As := [.int x2, .int x3]) (S0 := []) rfl (by decide +kernel) k_Md_resultOf l_Md_646 (Nat.le_of_ble_eq_true rfl) (Nat.le_of_ble_eq_true rfl) (Nat.le_refl _) (Nat.le_refl _) ?_
          refine pm_blk (pc' := 188) (L' := [(5, .int (u.1 126 x1.toNatClampNeg)), (4, .int t0), (0, .ref 64), (1, .int x1), (2, .int x2), (3, .int x3)]) (S' := [.int (q14.1 64 96)]) (M' := sm g q14) [pm_o (.aload_n 0), pm_of (.getfield 533) 12 96 0] (by decide +kernel) rfl ?_
          refine pm_if_ne (off := 128) 316 (by decide +kernel) (by decide) (fun hc15 => ?_) (fun hc15 => ?_)
          · rw [if_neg hc15] at h
            have h9 := Option.some.inj h
            subst h9
            exact pm_retv rfl (by decide +kernel) rfl rfl
          · rw [if_pos hc15] at h
            refine pm_blk (pc' := 196) (L' := [(5, .int (u.1 126 x1.toNatClampNeg)), (4, .int t0), (0, .ref 64), (1, .int x1), (2, .int x2), (3, .int x3)]) (S' := [.int t0, .int x2, .int x1, .ref 64]) (M' := sm g q14) [pm_o (.aload_n 0), pm_o (.iload_n 1), pm_o (.iload_n 2), pm_o (.iload 4)] (by decide +kernel) rfl ?_
            obtain ⟨q16, hq16, h⟩ := pm_bd h
            refine pm_cV (idx := 649) m_Md_goOn (c_Md_goOn l h0 D hT hq16) (As := [.int x1, .int x2, .int t0]) (S0 := []) rfl (by decide +kernel) k_Md_goOn l_Md_649 (Nat.le_of_ble_eq_true rfl) (Nat.le_of_ble_eq_true rfl) (Nat.le_refl _) (Nat.le_refl _) ?_
            refine pm_blk (pc' := 199) (L' := [(5, .int (u.1 126 x1.toNatClampNeg)), (4, .int t0), (0, .ref 64), (1, .int x1), (2, .int x2), (3, .int x3)]) (S' := []) (M' := sm g q16) [] (by decide +kernel) rfl ?_
            refine pm_goto (off := 117) 316 (by decide +kernel) (by decide) ?_
            have h9 := Option.some.inj h
            subst h9
            exact pm_retv rfl (by decide +kernel) rfl rfl
      · rw [if_neg hc5] at h
        refine pm_blk (pc' := 108) (L' := [(6, .int ((u.1 126 x1.toNatClampNeg) - 10)), (5, .int (u.1 126 x1.toNatClampNeg)), (4, .int t0), (0, .ref 64), (1, .int x1), (2, .int x2), (3, .int x3)]) (S' := [.int ((u.1 126 x1.toNatClampNeg) - 10), .int x3, .int x2, .ref 64]) (M' := sm g u) [pm_o (.iload 5), pm_oi (.bipush 10) 10, pm_o .isub, pm_o (.istore 6), pm_o (.aload_n 0), pm_o (.iload_n 2), pm_o (.iload_n 3), pm_o (.iload 6)] (by decide +kernel) rfl ?_
        obtain ⟨q17, hq17, h⟩ := pm_bd h
        refine pm_cV (idx := 640) m_Md_keepAtom (c_Md_keepAtom l h0 D hT hq17) (As := [.int x2, .int x3, .int ((u.1 126 x1.toNatClampNeg) - 10)]) (S0 := []) rfl (by decide +kernel) k_Md_keepAtom l_Md_640 (Nat.le_of_ble_eq_true rfl) (Nat.le_of_ble_eq_true rfl) (Nat.le_refl _) (Nat.le_refl _) ?_
        refine pm_blk (pc' := 115) (L' := [(6, .int ((u.1 126 x1.toNatClampNeg) - 10)), (5, .int (u.1 126 x1.toNatClampNeg)), (4, .int t0), (0, .ref 64), (1, .int x1), (2, .int x2), (3, .int x3)]) (S' := [.int (q17.1 64 96)]) (M' := sm g q17) [pm_o (.aload_n 0), pm_of (.getfield 533) 12 96 0] (by decide +kernel) rfl ?_
        refine pm_if_ne (off := 52) 167 (by decide +kernel) (by decide) (fun hc18 => ?_) (fun hc18 => ?_)
        · rw [if_neg hc18] at h
          refine pm_goto (off := 149) 316 (by decide +kernel) (by decide) ?_
          have h9 := Option.some.inj h
          subst h9
          exact pm_retv rfl (by decide +kernel) rfl rfl
        · rw [if_pos hc18] at h
          refine pm_blk (pc' := 124) (L' := [(6, .int ((u.1 126 x1.toNatClampNeg) - 10)), (5, .int (u.1 126 x1.toNatClampNeg)), (4, .int t0), (0, .ref 64), (1, .int x1), (2, .int x2), (3, .int x3)]) (S' := [.int t0, .int (((u.1 126 x1.toNatClampNeg) - 10) + 1)]) (M' := sm g q17) [pm_o (.iload 6), pm_oi (.iconst 1) 1, pm_o .iadd, pm_o (.iload 4)] (by decide +kernel) rfl ?_
          refine pm_ic_ne (off := 14) 138 (by decide +kernel) (by decide) (fun hc19 => ?_) (fun hc19 => ?_)
          · rw [if_neg hc19] at h
            refine pm_blk (pc' := 147) (L' := [(6, .int ((u.1 126 x1.toNatClampNeg) - 10)), (5, .int (u.1 126 x1.toNatClampNeg)), (4, .int t0), (0, .ref 64), (1, .int x1), (2, .int x2), (3, .int x3)]) (S' := [.int ((u.1 126 x1.toNatClampNeg) + 1), .int x1, .ref 126]) (M' := sm g q17) [pm_o (.aload_n 0), pm_of (.getfield 201) 12 85 2, pm_o (.iload_n 1), pm_o (.iload 5), pm_oi (.iconst 1) 1, pm_o .iadd] (by decide +kernel) rfl ?_
            obtain ⟨ho20, h⟩ := pm_ifs h
            refine pm_iast (by decide +kernel) rfl  (pm_ok_in ho20) ?_
            refine pm_blk (pc' := 155) (L' := [(6, .int ((u.1 126 x1.toNatClampNeg) - 10)), (5, .int (u.1 126 x1.toNatClampNeg)), (4, .int t0), (0, .ref 64), (1, .int x1), (2, .int x2), (3, .int x3)]) (S' := [.int (((u.1 126 x1.toNatClampNeg) - 10) + 1), .int x2, .ref 64, .ref 64]) (M' := sm g (wi q17 126 x1.toNatClampNeg ((u.1 126 x1.toNatClampNeg) + 1))) [pm_o (.aload_n 0), pm_o (.aload_n 0), pm_o (.iload_n 2), pm_o (.iload 6), pm_oi (.iconst 1) 1, pm_o .iadd] (by decide +kernel) rfl ?_
            obtain ⟨q21, hq21, h⟩ := pm_bd h
            refine pm_cV (idx := 634) m_Md_atomAt (c_Md_atomAt l h0 D hT hq21) (As := [.int x2, .int (((u.1 126 x1.toNatClampNeg) - 10) + 1)]) (S0 := [.ref 64]) rfl (by decide +kernel) k_Md_atomAt l_Md_634 (Nat.le_of_ble_eq_true rfl) (Nat.le_of_ble_eq_true rfl) (Nat.le_refl _) (Nat.le_refl _) ?_
            refine pm_blk (pc' := 163) (L' := [(6, .int ((u.1 126 x1.toNatClampNeg) - 10)), (5, .int (u.1 126 x1.toNatClampNeg)), (4, .int t0), (0, .ref 64), (1, .int x1), (2, .int x2), (3, .int x3)]) (S' := [.int x1, .ref 125, .int q21, .ref 64]) (M' := sm g (wi q17 126 x1.toNatClampNeg ((u.1 126 x1.toNatClampNeg) + 1))) [pm_o (.aload_n 0), pm_of (.getfield 198) 12 84 2, pm_o (.iload_n 1)] (by decide +kernel) rfl ?_
            obtain ⟨ho22, h⟩ := pm_ifs h
            refine pm_iald (by decide +kernel) rfl (pm_ok_in ho22) ?_
            refine pm_blk (pc' := 164) (L' := [(6, .int ((u.1 126 x1.toNatClampNeg) - 10)), (5, .int (u.1 126 x1.toNatClampNeg)), (4, .int t0), (0, .ref 64), (1, .int x1), (2, .int x2), (3, .int x3)]) (S' := [.int (q17.1 125 x1.toNatClampNeg), .int q21, .ref 64]) (M' := sm g (wi q17 126 x1.toNatClampNeg ((u.1 126 x1.toNatClampNeg) + 1))) [] (by decide +kernel) rfl ?_
            obtain ⟨q23, hq23, h⟩ := pm_bd h
            refine pm_cV (idx := 619) m_Md_begin (c_Md_begin l h0 D hT hq23) (As := [.int q21, .int (q17.1 125 x1.toNatClampNeg)]) (S0 := []) rfl (by decide +kernel) k_Md_begin l_Md_619 (Nat.le_of_ble_eq_true rfl) (Nat.le_of_ble_eq_true rfl) (Nat.le_refl _) (Nat.le_refl _) ?_
            refine pm_blk (pc' := 167) (L' := [(6, .int ((u.1 126 x1.toNatClampNeg) - 10)), (5, .int (u.1 126 x1.toNatClampNeg)), (4, .int t0), (0, .ref 64), (1, .int x1), (2, .int x2), (3, .int x3)]) (S' := []) (M' := sm g q23) [] (by decide +kernel) rfl ?_
            refine pm_goto (off := 149) 316 (by decide +kernel) (by decide) ?_
            have h9 := Option.some.inj h
            subst h9
            exact pm_retv rfl (by decide +kernel) rfl rfl
          · rw [if_pos hc19] at h
            refine pm_blk (pc' := 132) (L' := [(6, .int ((u.1 126 x1.toNatClampNeg) - 10)), (5, .int (u.1 126 x1.toNatClampNeg)), (4, .int t0), (0, .ref 64), (1, .int x1), (2, .int x2), (3, .int x3)]) (S' := [.int t0, .int x3, .int x1, .ref 64]) (M' := sm g q17) [pm_o (.aload_n 0), pm_o (.iload_n 1), pm_o (.iload_n 3), pm_o (.iload 4)] (by decide +kernel) rfl ?_
            obtain ⟨q24, hq24, h⟩ := pm_bd h
            refine pm_cV (idx := 643) m_Md_callDef (c_Md_callDef l h0 D hT hq24) (As := [.int x1, .int x3, .int t0]) (S0 := []) rfl (by decide +kernel) k_Md_callDef l_Md_643 (Nat.le_of_ble_eq_true rfl) (Nat.le_of_ble_eq_true rfl) (Nat.le_refl _) (Nat.le_refl _) ?_
            refine pm_blk (pc' := 135) (L' := [(6, .int ((u.1 126 x1.toNatClampNeg) - 10)), (5, .int (u.1 126 x1.toNatClampNeg)), (4, .int t0), (0, .ref 64), (1, .int x1), (2, .int x2), (3, .int x3)]) (S' := []) (M' := sm g q24) [] (by decide +kernel) rfl ?_
            refine pm_goto (off := 32) 167 (by decide +kernel) (by decide) ?_
            refine pm_goto (off := 149) 316 (by decide +kernel) (by decide) ?_
            have h9 := Option.some.inj h
            subst h9
            exact pm_retv rfl (by decide +kernel) rfl rfl
    · rw [if_pos hc4] at h
      refine pm_blk (pc' := 43) (L' := [(5, .int (u.1 126 x1.toNatClampNeg)), (4, .int t0), (0, .ref 64), (1, .int x1), (2, .int x2), (3, .int x3)]) (S' := [.int t0, .int x1, .ref 126]) (M' := sm g u) [pm_o (.aload_n 0), pm_of (.getfield 201) 12 85 2, pm_o (.iload_n 1), pm_o (.iload 4)] (by decide +kernel) rfl ?_
      refine pm_if_le (off := 8) 51 (by decide +kernel) (by decide) (fun hc25 => ?_) (fun hc25 => ?_)
      · rw [if_pos hc25] at h
        refine pm_blk (pc' := 54) (L' := [(5, .int (u.1 126 x1.toNatClampNeg)), (4, .int t0), (0, .ref 64), (1, .int x1), (2, .int x2), (3, .int x3)]) (S' := [.int 1001, .int x1, .ref 126]) (M' := sm g u) [pm_oi (.sipush 1001) 1001] (by decide +kernel) rfl ?_
        refine pm_loc [2, 3, 4, 1] rfl ?_
        exact w_Md_workRow_54 l h0 D hT x1 x2 t0 1001 x1 u h
      · rw [if_neg hc25] at h
        refine pm_blk (pc' := 48) (L' := [(5, .int (u.1 126 x1.toNatClampNeg)), (4, .int t0), (0, .ref 64), (1, .int x1), (2, .int x2), (3, .int x3)]) (S' := [.int 10, .int x1, .ref 126]) (M' := sm g u) [pm_oi (.bipush 10) 10] (by decide +kernel) rfl ?_
        refine pm_goto (off := 6) 54 (by decide +kernel) (by decide) ?_
        refine pm_loc [2, 3, 4, 1] rfl ?_
        exact w_Md_workRow_54 l h0 D hT x1 x2 t0 10 x1 u h
def F_Md_workRow (N : Nat) (a1 : Int32) (a2 : Int32) (g : pm_s) (u : pm_J) : Option (pm_J) := if pm_ok a2 2400 = true then if (u.1 88 a2.toNatClampNeg) < 0 then K_Md_workRow_21 N g a1 a2 (u.1 88 a2.toNatClampNeg) 0 u else if pm_ok (u.1 88 a2.toNatClampNeg) 30 = true then K_Md_workRow_21 N g a1 a2 (u.1 88 a2.toNatClampNeg) (u.1 92 ((u.1 88 a2.toNatClampNeg).toNatClampNeg)) u else none else none
set_option maxHeartbeats 4000000 in
set_option maxRecDepth 100000 in
theorem c_Md_workRow (l : Launch) (h0 : Nat) (D : pm_D) {g : pm_s} {u : pm_J} (hT : sh_T g) {N : Nat} {a1 : Int32} {a2 : Int32} {out : pm_J} (h : F_Md_workRow N a1 a2 g u = some out) : pm_C l h0 D m_Md_workRow (7) [.ref 64, .int a1, .int a2] (sm g u) none (sm g out) := by
  unfold F_Md_workRow at h
  refine pm_met (by decide +kernel) (Nat.le_of_ble_eq_true rfl) (Nat.le_refl _) (Nat.le_refl _) ?_
  intro p e R s m args below meth c
  refine pm_blk (pc' := 5) (L' := [(0, .ref 64), (1, .int a1), (2, .int a2)]) (S' := [.int a2, .ref 88]) (M' := sm g u) [pm_o (.aload_n 0), pm_of (.getfield 86) 12 30 2, pm_o (.iload_n 2)] (by decide +kernel) rfl ?_
  obtain ⟨ho1, h⟩ := pm_ifs h
  refine pm_iald (by decide +kernel) rfl (pm_ok_in ho1) ?_
  refine pm_blk (pc' := 8) (L' := [(3, .int (u.1 88 a2.toNatClampNeg)), (0, .ref 64), (1, .int a1), (2, .int a2)]) (S' := [.int (u.1 88 a2.toNatClampNeg)]) (M' := sm g u) [pm_o (.istore_n 3), pm_o (.iload_n 3)] (by decide +kernel) rfl ?_
  refine pm_if_lt (off := 12) 20 (by decide +kernel) (by decide) (fun hc2 => ?_) (fun hc2 => ?_)
  · rw [if_pos hc2] at h
    refine pm_blk (pc' := 21) (L' := [(3, .int (u.1 88 a2.toNatClampNeg)), (0, .ref 64), (1, .int a1), (2, .int a2)]) (S' := [.int 0]) (M' := sm g u) [pm_oi (.iconst 0) 0] (by decide +kernel) rfl ?_
    refine pm_loc [1, 2, 3, 0] rfl ?_
    exact w_Md_workRow_21 l h0 D hT a1 a2 (u.1 88 a2.toNatClampNeg) 0 u h
  · rw [if_neg hc2] at h
    refine pm_blk (pc' := 16) (L' := [(3, .int (u.1 88 a2.toNatClampNeg)), (0, .ref 64), (1, .int a1), (2, .int a2)]) (S' := [.int (u.1 88 a2.toNatClampNeg), .ref 92]) (M' := sm g u) [pm_o (.aload_n 0), pm_of (.getfield 98) 12 35 2, pm_o (.iload_n 3)] (by decide +kernel) rfl ?_
    obtain ⟨ho34, h⟩ := pm_ifs h
    refine pm_iald (by decide +kernel) rfl (pm_ok_in ho34) ?_
    refine pm_blk (pc' := 17) (L' := [(3, .int (u.1 88 a2.toNatClampNeg)), (0, .ref 64), (1, .int a1), (2, .int a2)]) (S' := [.int (u.1 92 ((u.1 88 a2.toNatClampNeg).toNatClampNeg))]) (M' := sm g u) [] (by decide +kernel) rfl ?_
    refine pm_goto (off := 4) 21 (by decide +kernel) (by decide) ?_
    refine pm_loc [1, 2, 3, 0] rfl ?_
    exact w_Md_workRow_21 l h0 D hT a1 a2 (u.1 88 a2.toNatClampNeg) (u.1 92 ((u.1 88 a2.toNatClampNeg).toNatClampNeg)) u h
def F_Md_workName (N : Nat) (a1 : Int32) (a2 : Int32) (g : pm_s) (u : pm_J) : Option (pm_J) := if pm_ok a2 2400 = true then if (u.1 82 a2.toNatClampNeg) < 0 then if pm_ok a1 150 = true then if (u.1 126 a1.toNatClampNeg) = 0 then if pm_ok a2 2400 = true then (F_Md_callDef N a1 (u.1 88 a2.toNatClampNeg) 0 g u).bind fun q7 => some q7 else none else (F_Md_finish (u.1 64 93) (u.2 64 94) g u).bind fun q5 => some q5 else none else if pm_ok a1 150 = true then if pm_ok a2 2400 = true then if pm_ok ((u.1 125 a1.toNatClampNeg) + (u.1 82 a2.toNatClampNeg)) 60000 = true then if pm_ok a1 150 = true then if pm_ok a2 2400 = true then if pm_ok ((u.1 125 a1.toNatClampNeg) + (u.1 82 a2.toNatClampNeg)) 60000 = true then (F_Md_finish (u.1 113 (((u.1 125 a1.toNatClampNeg) + (u.1 82 a2.toNatClampNeg)).toNatClampNeg)) (u.2 114 (((u.1 125 a1.toNatClampNeg) + (u.1 82 a2.toNatClampNeg)).toNatClampNeg)) g u).bind fun q14 => some q14 else none else none else none else none else none else none else none
set_option maxHeartbeats 4000000 in
set_option maxRecDepth 100000 in
theorem c_Md_workName (l : Launch) (h0 : Nat) (D : pm_D) {g : pm_s} {u : pm_J} (hT : sh_T g) {N : Nat} {a1 : Int32} {a2 : Int32} {out : pm_J} (h : F_Md_workName N a1 a2 g u = some out) : pm_C l h0 D m_Md_workName (3) [.ref 64, .int a1, .int a2] (sm g u) none (sm g out) := by
  unfold F_Md_workName at h
  refine pm_met (by decide +kernel) (Nat.le_of_ble_eq_true rfl) (Nat.le_refl _) (Nat.le_refl _) ?_
  intro p e R s m args below meth c
  refine pm_blk (pc' := 5) (L' := [(0, .ref 64), (1, .int a1), (2, .int a2)]) (S' := [.int a2, .ref 82]) (M' := sm g u) [pm_o (.aload_n 0), pm_of (.getfield 68) 12 24 2, pm_o (.iload_n 2)] (by decide +kernel) rfl ?_
  obtain ⟨ho1, h⟩ := pm_ifs h
  refine pm_iald (by decide +kernel) rfl (pm_ok_in ho1) ?_
  refine pm_blk (pc' := 6) (L' := [(0, .ref 64), (1, .int a1), (2, .int a2)]) (S' := [.int (u.1 82 a2.toNatClampNeg)]) (M' := sm g u) [] (by decide +kernel) rfl ?_
  refine pm_if_lt (off := 46) 52 (by decide +kernel) (by decide) (fun hc2 => ?_) (fun hc2 => ?_)
  · rw [if_pos hc2] at h
    refine pm_blk (pc' := 57) (L' := [(0, .ref 64), (1, .int a1), (2, .int a2)]) (S' := [.int a1, .ref 126]) (M' := sm g u) [pm_o (.aload_n 0), pm_of (.getfield 201) 12 85 2, pm_o (.iload_n 1)] (by decide +kernel) rfl ?_
    obtain ⟨ho3, h⟩ := pm_ifs h
    refine pm_iald (by decide +kernel) rfl (pm_ok_in ho3) ?_
    refine pm_blk (pc' := 58) (L' := [(0, .ref 64), (1, .int a1), (2, .int a2)]) (S' := [.int (u.1 126 a1.toNatClampNeg)]) (M' := sm g u) [] (by decide +kernel) rfl ?_
    refine pm_if_ne (off := 18) 76 (by decide +kernel) (by decide) (fun hc4 => ?_) (fun hc4 => ?_)
    · rw [if_neg hc4] at h
      refine pm_blk (pc' := 85) (L' := [(0, .ref 64), (1, .int a1), (2, .int a2)]) (S' := [.long (u.2 64 94), .int (u.1 64 93), .ref 64]) (M' := sm g u) [pm_o (.aload_n 0), pm_o (.aload_n 0), pm_of (.getfield 607) 12 93 0, pm_o (.aload_n 0), pm_of (.getfield 610) 12 94 1] (by decide +kernel) rfl ?_
      obtain ⟨q5, hq5, h⟩ := pm_bd h
      refine pm_cV (idx := 631) m_Md_finish (c_Md_finish l h0 D hT hq5) (As := [.int (u.1 64 93), .long (u.2 64 94)]) (S0 := []) rfl (by decide +kernel) k_Md_finish l_Md_631 (Nat.le_of_ble_eq_true rfl) (Nat.le_of_ble_eq_true rfl) (Nat.le_refl _) (Nat.le_refl _) ?_
      refine pm_blk (pc' := 88) (L' := [(0, .ref 64), (1, .int a1), (2, .int a2)]) (S' := []) (M' := sm g q5) [] (by decide +kernel) rfl ?_
      have h9 := Option.some.inj h
      subst h9
      exact pm_retv rfl (by decide +kernel) rfl rfl
    · rw [if_pos hc4] at h
      refine pm_blk (pc' := 68) (L' := [(0, .ref 64), (1, .int a1), (2, .int a2)]) (S' := [.int a2, .ref 88, .int a1, .ref 64]) (M' := sm g u) [pm_o (.aload_n 0), pm_o (.iload_n 1), pm_o (.aload_n 0), pm_of (.getfield 86) 12 30 2, pm_o (.iload_n 2)] (by decide +kernel) rfl ?_
      obtain ⟨ho6, h⟩ := pm_ifs h
      refine pm_iald (by decide +kernel) rfl (pm_ok_in ho6) ?_
      refine pm_blk (pc' := 70) (L' := [(0, .ref 64), (1, .int a1), (2, .int a2)]) (S' := [.int 0, .int (u.1 88 a2.toNatClampNeg), .int a1, .ref 64]) (M' := sm g u) [pm_oi (.iconst 0) 0] (by decide +kernel) rfl ?_
      obtain ⟨q7, hq7, h⟩ := pm_bd h
      refine pm_cV (idx := 643) m_Md_callDef (c_Md_callDef l h0 D hT hq7) (As := [.int a1, .int (u.1 88 a2.toNatClampNeg), .int 0]) (S0 := []) rfl (by decide +kernel) k_Md_callDef l_Md_643 (Nat.le_of_ble_eq_true rfl) (Nat.le_of_ble_eq_true rfl) (Nat.le_refl _) (Nat.le_refl _) ?_
      refine pm_blk (pc' := 73) (L' := [(0, .ref 64), (1, .int a1), (2, .int a2)]) (S' := []) (M' := sm g q7) [] (by decide +kernel) rfl ?_
      refine pm_goto (off := 15) 88 (by decide +kernel) (by decide) ?_
      have h9 := Option.some.inj h
      subst h9
      exact pm_retv rfl (by decide +kernel) rfl rfl
  · rw [if_neg hc2] at h
    refine pm_blk (pc' := 19) (L' := [(0, .ref 64), (1, .int a1), (2, .int a2)]) (S' := [.int a1, .ref 125, .ref 113, .ref 64]) (M' := sm g u) [pm_o (.aload_n 0), pm_o (.aload_n 0), pm_of (.getfield 162) 12 70 2, pm_o (.aload_n 0), pm_of (.getfield 198) 12 84 2, pm_o (.iload_n 1)] (by decide +kernel) rfl ?_
    obtain ⟨ho8, h⟩ := pm_ifs h
    refine pm_iald (by decide +kernel) rfl (pm_ok_in ho8) ?_
    refine pm_blk (pc' := 25) (L' := [(0, .ref 64), (1, .int a1), (2, .int a2)]) (S' := [.int a2, .ref 82, .int (u.1 125 a1.toNatClampNeg), .ref 113, .ref 64]) (M' := sm g u) [pm_o (.aload_n 0), pm_of (.getfield 68) 12 24 2, pm_o (.iload_n 2)] (by decide +kernel) rfl ?_
    obtain ⟨ho9, h⟩ := pm_ifs h
    refine pm_iald (by decide +kernel) rfl (pm_ok_in ho9) ?_
    refine pm_blk (pc' := 27) (L' := [(0, .ref 64), (1, .int a1), (2, .int a2)]) (S' := [.int ((u.1 125 a1.toNatClampNeg) + (u.1 82 a2.toNatClampNeg)), .ref 113, .ref 64]) (M' := sm g u) [pm_o .iadd] (by decide +kernel) rfl ?_
    obtain ⟨ho10, h⟩ := pm_ifs h
    refine pm_iald (by decide +kernel) rfl (pm_ok_in ho10) ?_
    refine pm_blk (pc' := 37) (L' := [(0, .ref 64), (1, .int a1), (2, .int a2)]) (S' := [.int a1, .ref 125, .ref 114, .int (u.1 113 (((u.1 125 a1.toNatClampNeg) + (u.1 82 a2.toNatClampNeg)).toNatClampNeg)), .ref 64]) (M' := sm g u) [pm_o (.aload_n 0), pm_of (.getfield 165) 12 71 2, pm_o (.aload_n 0), pm_of (.getfield 198) 12 84 2, pm_o (.iload_n 1)] (by decide +kernel) rfl ?_
    obtain ⟨ho11, h⟩ := pm_ifs h
    refine pm_iald (by decide +kernel) rfl (pm_ok_in ho11) ?_
    refine pm_blk (pc' := 43) (L' := [(0, .ref 64), (1, .int a1), (2, .int a2)]) (S' := [.int a2, .ref 82, .int (u.1 125 a1.toNatClampNeg), .ref 114, .int (u.1 113 (((u.1 125 a1.toNatClampNeg) + (u.1 82 a2.toNatClampNeg)).toNatClampNeg)), .ref 64]) (M' := sm g u) [pm_o (.aload_n 0), pm_of (.getfield 68) 12 24 2, pm_o (.iload_n 2)] (by decide +kernel) rfl ?_
    obtain ⟨ho12, h⟩ := pm_ifs h
    refine pm_iald (by decide +kernel) rfl (pm_ok_in ho12) ?_
    refine pm_blk (pc' := 45) (L' := [(0, .ref 64), (1, .int a1), (2, .int a2)]) (S' := [.int ((u.1 125 a1.toNatClampNeg) + (u.1 82 a2.toNatClampNeg)), .ref 114, .int (u.1 113 (((u.1 125 a1.toNatClampNeg) + (u.1 82 a2.toNatClampNeg)).toNatClampNeg)), .ref 64]) (M' := sm g u) [pm_o .iadd] (by decide +kernel) rfl ?_
    obtain ⟨ho13, h⟩ := pm_ifs h
    refine pm_lald (by decide +kernel) rfl (pm_ok_in ho13) ?_
    refine pm_blk (pc' := 46) (L' := [(0, .ref 64), (1, .int a1), (2, .int a2)]) (S' := [.long (u.2 114 (((u.1 125 a1.toNatClampNeg) + (u.1 82 a2.toNatClampNeg)).toNatClampNeg)), .int (u.1 113 (((u.1 125 a1.toNatClampNeg) + (u.1 82 a2.toNatClampNeg)).toNatClampNeg)), .ref 64]) (M' := sm g u) [] (by decide +kernel) rfl ?_
    obtain ⟨q14, hq14, h⟩ := pm_bd h
    refine pm_cV (idx := 631) m_Md_finish (c_Md_finish l h0 D hT hq14) (As := [.int (u.1 113 (((u.1 125 a1.toNatClampNeg) + (u.1 82 a2.toNatClampNeg)).toNatClampNeg)), .long (u.2 114 (((u.1 125 a1.toNatClampNeg) + (u.1 82 a2.toNatClampNeg)).toNatClampNeg))]) (S0 := []) rfl (by decide +kernel) k_Md_finish l_Md_631 (Nat.le_of_ble_eq_true rfl) (Nat.le_of_ble_eq_true rfl) (Nat.le_refl _) (Nat.le_refl _) ?_
    refine pm_blk (pc' := 49) (L' := [(0, .ref 64), (1, .int a1), (2, .int a2)]) (S' := []) (M' := sm g q14) [] (by decide +kernel) rfl ?_
    refine pm_goto (off := 39) 88 (by decide +kernel) (by decide) ?_
    have h9 := Option.some.inj h
    subst h9
    exact pm_retv rfl (by decide +kernel) rfl rfl
def F_Md_workChoice (a1 : Int32) (a2 : Int32) (g : pm_s) (u : pm_J) : Option (pm_J) := if pm_ok a1 150 = true then if (u.1 126 a1.toNatClampNeg) = 0 then if pm_ok a1 150 = true then if pm_ok a2 2400 = true then if pm_ok a1 150 = true then (F_Md_begin (u.1 79 a2.toNatClampNeg) (u.1 125 a1.toNatClampNeg) g (wi u 126 a1.toNatClampNeg 1)).bind fun q28 => some q28 else none else none else none else if pm_ok a1 150 = true then if (u.1 126 a1.toNatClampNeg) = 1 then if pm_ok a1 150 = true then if pm_ok a2 2400 = true then if (u.1 77 a2.toNatClampNeg) = 4 then if pm_ok a1 150 = true then if pm_ok a2 2400 = true then if pm_ok ((u.1 125 a1.toNatClampNeg) + (u.1 82 a2.toNatClampNeg)) 60000 = true then if pm_ok a1 150 = true then if pm_ok a2 2400 = true then if pm_ok ((u.1 125 a1.toNatClampNeg) + (u.1 82 a2.toNatClampNeg)) 60000 = true then if pm_ok a2 2400 = true then if pm_ok a1 150 = true then (F_Md_begin (u.1 80 a2.toNatClampNeg) (u.1 125 a1.toNatClampNeg) g (wj (wi (wi u 126 a1.toNatClampNeg 2) 113 (((u.1 125 a1.toNatClampNeg) + (u.1 82 a2.toNatClampNeg)).toNatClampNeg) (u.1 64 93)) 114 (((u.1 125 a1.toNatClampNeg) + (u.1 82 a2.toNatClampNeg)).toNatClampNeg) (u.2 64 94))).bind fun q24 => some q24 else none else none else none else none else none else none else none else none else if (lg_cmp (u.2 64 94) 0) = 0 then if pm_ok a2 2400 = true then if pm_ok a1 150 = true then (F_Md_begin (u.1 81 a2.toNatClampNeg) (u.1 125 a1.toNatClampNeg) g (wi u 126 a1.toNatClampNeg 2)).bind fun q12 => some q12 else none else none else if pm_ok a2 2400 = true then if pm_ok a1 150 = true then (F_Md_begin (u.1 80 a2.toNatClampNeg) (u.1 125 a1.toNatClampNeg) g (wi u 126 a1.toNatClampNeg 2)).bind fun q15 => some q15 else none else none else none else none else (F_Md_finish (u.1 64 93) (u.2 64 94) g u).bind fun q5 => some q5 else none else none
set_option maxHeartbeats 4000000 in
set_option maxRecDepth 100000 in
theorem c_Md_workChoice (l : Launch) (h0 : Nat) (D : pm_D) {g : pm_s} {u : pm_J} (hT : sh_T g) {a1 : Int32} {a2 : Int32} {out : pm_J} (h : F_Md_workChoice a1 a2 g u = some out) : pm_C l h0 D m_Md_workChoice (2) [.ref 64, .int a1, .int a2] (sm g u) none (sm g out) := by
  unfold F_Md_workChoice at h
  refine pm_met (by decide +kernel) (Nat.le_of_ble_eq_true rfl) (Nat.le_refl _) (Nat.le_refl _) ?_
  intro p e R s m args below meth c
  refine pm_blk (pc' := 5) (L' := [(0, .ref 64), (1, .int a1), (2, .int a2)]) (S' := [.int a1, .ref 126]) (M' := sm g u) [pm_o (.aload_n 0), pm_of (.getfield 201) 12 85 2, pm_o (.iload_n 1)] (by decide +kernel) rfl ?_
  obtain ⟨ho1, h⟩ := pm_ifs h
  refine pm_iald (by decide +kernel) rfl (pm_ok_in ho1) ?_
  refine pm_blk (pc' := 6) (L' := [(0, .ref 64), (1, .int a1), (2, .int a2)]) (S' := [.int (u.1 126 a1.toNatClampNeg)]) (M' := sm g u) [] (by decide +kernel) rfl ?_
  refine pm_if_ne (off := 29) 35 (by decide +kernel) (by decide) (fun hc2 => ?_) (fun hc2 => ?_)
  · rw [if_neg hc2] at h
    refine pm_blk (pc' := 40) (L' := [(0, .ref 64), (1, .int a1), (2, .int a2)]) (S' := [.int a1, .ref 126]) (M' := sm g u) [pm_o (.aload_n 0), pm_of (.getfield 201) 12 85 2, pm_o (.iload_n 1)] (by decide +kernel) rfl ?_
    obtain ⟨ho3, h⟩ := pm_ifs h
    refine pm_iald (by decide +kernel) rfl (pm_ok_in ho3) ?_
    refine pm_blk (pc' := 42) (L' := [(0, .ref 64), (1, .int a1), (2, .int a2)]) (S' := [.int 1, .int (u.1 126 a1.toNatClampNeg)]) (M' := sm g u) [pm_oi (.iconst 1) 1] (by decide +kernel) rfl ?_
    refine pm_ic_ne (off := 120) 162 (by decide +kernel) (by decide) (fun hc4 => ?_) (fun hc4 => ?_)
    · rw [if_neg hc4] at h
      refine pm_blk (pc' := 171) (L' := [(0, .ref 64), (1, .int a1), (2, .int a2)]) (S' := [.long (u.2 64 94), .int (u.1 64 93), .ref 64]) (M' := sm g u) [pm_o (.aload_n 0), pm_o (.aload_n 0), pm_of (.getfield 607) 12 93 0, pm_o (.aload_n 0), pm_of (.getfield 610) 12 94 1] (by decide +kernel) rfl ?_
      obtain ⟨q5, hq5, h⟩ := pm_bd h
      refine pm_cV (idx := 631) m_Md_finish (c_Md_finish l h0 D hT hq5) (As := [.int (u.1 64 93), .long (u.2 64 94)]) (S0 := []) rfl (by decide +kernel) k_Md_finish l_Md_631 (Nat.le_of_ble_eq_true rfl) (Nat.le_of_ble_eq_true rfl) (Nat.le_refl _) (Nat.le_refl _) ?_
      refine pm_blk (pc' := 174) (L' := [(0, .ref 64), (1, .int a1), (2, .int a2)]) (S' := []) (M' := sm g q5) [] (by decide +kernel) rfl ?_
      have h9 := Option.some.inj h
      subst h9
      exact pm_retv rfl (by decide +kernel) rfl rfl
    · rw [if_pos hc4] at h
      refine pm_blk (pc' := 51) (L' := [(0, .ref 64), (1, .int a1), (2, .int a2)]) (S' := [.int 2, .int a1, .ref 126]) (M' := sm g u) [pm_o (.aload_n 0), pm_of (.getfield 201) 12 85 2, pm_o (.iload_n 1), pm_oi (.iconst 2) 2] (by decide +kernel) rfl ?_
      obtain ⟨ho6, h⟩ := pm_ifs h
      refine pm_iast (by decide +kernel) rfl  (pm_ok_in ho6) ?_
      refine pm_blk (pc' := 57) (L' := [(0, .ref 64), (1, .int a1), (2, .int a2)]) (S' := [.int a2, .ref 77]) (M' := sm g (wi u 126 a1.toNatClampNeg 2)) [pm_o (.aload_n 0), pm_of (.getfield 53) 12 19 2, pm_o (.iload_n 2)] (by decide +kernel) rfl ?_
      obtain ⟨ho7, h⟩ := pm_ifs h
      refine pm_iald (by decide +kernel) rfl (pm_ok_in ho7) ?_
      refine pm_blk (pc' := 59) (L' := [(0, .ref 64), (1, .int a1), (2, .int a2)]) (S' := [.int 4, .int (u.1 77 a2.toNatClampNeg)]) (M' := sm g (wi u 126 a1.toNatClampNeg 2)) [pm_oi (.iconst 4) 4] (by decide +kernel) rfl ?_
      refine pm_ic_ne (off := 66) 125 (by decide +kernel) (by decide) (fun hc8 => ?_) (fun hc8 => ?_)
      · rw [if_neg hc8] at h
        refine pm_blk (pc' := 132) (L' := [(0, .ref 64), (1, .int a1), (2, .int a2)]) (S' := [.int (lg_cmp (u.2 64 94) 0), .ref 64]) (M' := sm g (wi u 126 a1.toNatClampNeg 2)) [pm_o (.aload_n 0), pm_o (.aload_n 0), pm_of (.getfield 610) 12 94 1, pm_ol (.lconst 0) 0, pm_o .lcmp] (by decide +kernel) rfl ?_
        refine pm_if_eq (off := 12) 144 (by decide +kernel) (by decide) (fun hc9 => ?_) (fun hc9 => ?_)
        · rw [if_pos hc9] at h
          refine pm_blk (pc' := 149) (L' := [(0, .ref 64), (1, .int a1), (2, .int a2)]) (S' := [.int a2, .ref 81, .ref 64]) (M' := sm g (wi u 126 a1.toNatClampNeg 2)) [pm_o (.aload_n 0), pm_of (.getfield 65) 12 23 2, pm_o (.iload_n 2)] (by decide +kernel) rfl ?_
          obtain ⟨ho10, h⟩ := pm_ifs h
          refine pm_iald (by decide +kernel) rfl (pm_ok_in ho10) ?_
          refine pm_blk (pc' := 155) (L' := [(0, .ref 64), (1, .int a1), (2, .int a2)]) (S' := [.int a1, .ref 125, .int (u.1 81 a2.toNatClampNeg), .ref 64]) (M' := sm g (wi u 126 a1.toNatClampNeg 2)) [pm_o (.aload_n 0), pm_of (.getfield 198) 12 84 2, pm_o (.iload_n 1)] (by decide +kernel) rfl ?_
          obtain ⟨ho11, h⟩ := pm_ifs h
          refine pm_iald (by decide +kernel) rfl (pm_ok_in ho11) ?_
          refine pm_blk (pc' := 156) (L' := [(0, .ref 64), (1, .int a1), (2, .int a2)]) (S' := [.int (u.1 125 a1.toNatClampNeg), .int (u.1 81 a2.toNatClampNeg), .ref 64]) (M' := sm g (wi u 126 a1.toNatClampNeg 2)) [] (by decide +kernel) rfl ?_
          obtain ⟨q12, hq12, h⟩ := pm_bd h
          refine pm_cV (idx := 619) m_Md_begin (c_Md_begin l h0 D hT hq12) (As := [.int (u.1 81 a2.toNatClampNeg), .int (u.1 125 a1.toNatClampNeg)]) (S0 := []) rfl (by decide +kernel) k_Md_begin l_Md_619 (Nat.le_of_ble_eq_true rfl) (Nat.le_of_ble_eq_true rfl) (Nat.le_refl _) (Nat.le_refl _) ?_
          refine pm_blk (pc' := 159) (L' := [(0, .ref 64), (1, .int a1), (2, .int a2)]) (S' := []) (M' := sm g q12) [] (by decide +kernel) rfl ?_
          refine pm_goto (off := 15) 174 (by decide +kernel) (by decide) ?_
          have h9 := Option.some.inj h
          subst h9
          exact pm_retv rfl (by decide +kernel) rfl rfl
        · rw [if_neg hc9] at h
          refine pm_blk (pc' := 140) (L' := [(0, .ref 64), (1, .int a1), (2, .int a2)]) (S' := [.int a2, .ref 80, .ref 64]) (M' := sm g (wi u 126 a1.toNatClampNeg 2)) [pm_o (.aload_n 0), pm_of (.getfield 62) 12 22 2, pm_o (.iload_n 2)] (by decide +kernel) rfl ?_
          obtain ⟨ho13, h⟩ := pm_ifs h
          refine pm_iald (by decide +kernel) rfl (pm_ok_in ho13) ?_
          refine pm_blk (pc' := 141) (L' := [(0, .ref 64), (1, .int a1), (2, .int a2)]) (S' := [.int (u.1 80 a2.toNatClampNeg), .ref 64]) (M' := sm g (wi u 126 a1.toNatClampNeg 2)) [] (by decide +kernel) rfl ?_
          refine pm_goto (off := 9) 150 (by decide +kernel) (by decide) ?_
          refine pm_blk (pc' := 155) (L' := [(0, .ref 64), (1, .int a1), (2, .int a2)]) (S' := [.int a1, .ref 125, .int (u.1 80 a2.toNatClampNeg), .ref 64]) (M' := sm g (wi u 126 a1.toNatClampNeg 2)) [pm_o (.aload_n 0), pm_of (.getfield 198) 12 84 2, pm_o (.iload_n 1)] (by decide +kernel) rfl ?_
          obtain ⟨ho14, h⟩ := pm_ifs h
          refine pm_iald (by decide +kernel) rfl (pm_ok_in ho14) ?_
          refine pm_blk (pc' := 156) (L' := [(0, .ref 64), (1, .int a1), (2, .int a2)]) (S' := [.int (u.1 125 a1.toNatClampNeg), .int (u.1 80 a2.toNatClampNeg), .ref 64]) (M' := sm g (wi u 126 a1.toNatClampNeg 2)) [] (by decide +kernel) rfl ?_
          obtain ⟨q15, hq15, h⟩ := pm_bd h
          refine pm_cV (idx := 619) m_Md_begin (c_Md_begin l h0 D hT hq15) (As := [.int (u.1 80 a2.toNatClampNeg), .int (u.1 125 a1.toNatClampNeg)]) (S0 := []) rfl (by decide +kernel) k_Md_begin l_Md_619 (Nat.le_of_ble_eq_true rfl) (Nat.le_of_ble_eq_true rfl) (Nat.le_refl _) (Nat.le_refl _) ?_
          refine pm_blk (pc' := 159) (L' := [(0, .ref 64), (1, .int a1), (2, .int a2)]) (S' := []) (M' := sm g q15) [] (by decide +kernel) rfl ?_
          refine pm_goto (off := 15) 174 (by decide +kernel) (by decide) ?_
          have h9 := Option.some.inj h
          subst h9
          exact pm_retv rfl (by decide +kernel) rfl rfl
      · rw [if_pos hc8] at h
        refine pm_blk (pc' := 71) (L' := [(0, .ref 64), (1, .int a1), (2, .int a2)]) (S' := [.int a1, .ref 125, .ref 113]) (M' := sm g (wi u 126 a1.toNatClampNeg 2)) [pm_o (.aload_n 0), pm_of (.getfield 162) 12 70 2, pm_o (.aload_n 0), pm_of (.getfield 198) 12 84 2, pm_o (.iload_n 1)] (by decide +kernel) rfl ?_
        obtain ⟨ho16, h⟩ := pm_ifs h
        refine pm_iald (by decide +kernel) rfl (pm_ok_in ho16) ?_
        refine pm_blk (pc' := 77) (L' := [(0, .ref 64), (1, .int a1), (2, .int a2)]) (S' := [.int a2, .ref 82, .int (u.1 125 a1.toNatClampNeg), .ref 113]) (M' := sm g (wi u 126 a1.toNatClampNeg 2)) [pm_o (.aload_n 0), pm_of (.getfield 68) 12 24 2, pm_o (.iload_n 2)] (by decide +kernel) rfl ?_
        obtain ⟨ho17, h⟩ := pm_ifs h
        refine pm_iald (by decide +kernel) rfl (pm_ok_in ho17) ?_
        refine pm_blk (pc' := 83) (L' := [(0, .ref 64), (1, .int a1), (2, .int a2)]) (S' := [.int (u.1 64 93), .int ((u.1 125 a1.toNatClampNeg) + (u.1 82 a2.toNatClampNeg)), .ref 113]) (M' := sm g (wi u 126 a1.toNatClampNeg 2)) [pm_o .iadd, pm_o (.aload_n 0), pm_of (.getfield 607) 12 93 0] (by decide +kernel) rfl ?_
        obtain ⟨ho18, h⟩ := pm_ifs h
        refine pm_iast (by decide +kernel) rfl  (pm_ok_in ho18) ?_
        refine pm_blk (pc' := 93) (L' := [(0, .ref 64), (1, .int a1), (2, .int a2)]) (S' := [.int a1, .ref 125, .ref 114]) (M' := sm g (wi (wi u 126 a1.toNatClampNeg 2) 113 (((u.1 125 a1.toNatClampNeg) + (u.1 82 a2.toNatClampNeg)).toNatClampNeg) (u.1 64 93))) [pm_o (.aload_n 0), pm_of (.getfield 165) 12 71 2, pm_o (.aload_n 0), pm_of (.getfield 198) 12 84 2, pm_o (.iload_n 1)] (by decide +kernel) rfl ?_
        obtain ⟨ho19, h⟩ := pm_ifs h
        refine pm_iald (by decide +kernel) rfl (pm_ok_in ho19) ?_
        refine pm_blk (pc' := 99) (L' := [(0, .ref 64), (1, .int a1), (2, .int a2)]) (S' := [.int a2, .ref 82, .int (u.1 125 a1.toNatClampNeg), .ref 114]) (M' := sm g (wi (wi u 126 a1.toNatClampNeg 2) 113 (((u.1 125 a1.toNatClampNeg) + (u.1 82 a2.toNatClampNeg)).toNatClampNeg) (u.1 64 93))) [pm_o (.aload_n 0), pm_of (.getfield 68) 12 24 2, pm_o (.iload_n 2)] (by decide +kernel) rfl ?_
        obtain ⟨ho20, h⟩ := pm_ifs h
        refine pm_iald (by decide +kernel) rfl (pm_ok_in ho20) ?_
        refine pm_blk (pc' := 105) (L' := [(0, .ref 64), (1, .int a1), (2, .int a2)]) (S' := [.long (u.2 64 94), .int ((u.1 125 a1.toNatClampNeg) + (u.1 82 a2.toNatClampNeg)), .ref 114]) (M' := sm g (wi (wi u 126 a1.toNatClampNeg 2) 113 (((u.1 125 a1.toNatClampNeg) + (u.1 82 a2.toNatClampNeg)).toNatClampNeg) (u.1 64 93))) [pm_o .iadd, pm_o (.aload_n 0), pm_of (.getfield 610) 12 94 1] (by decide +kernel) rfl ?_
        obtain ⟨ho21, h⟩ := pm_ifs h
        refine pm_last (by decide +kernel) rfl  (pm_ok_in ho21) ?_
        refine pm_blk (pc' := 112) (L' := [(0, .ref 64), (1, .int a1), (2, .int a2)]) (S' := [.int a2, .ref 80, .ref 64]) (M' := sm g (wj (wi (wi u 126 a1.toNatClampNeg 2) 113 (((u.1 125 a1.toNatClampNeg) + (u.1 82 a2.toNatClampNeg)).toNatClampNeg) (u.1 64 93)) 114 (((u.1 125 a1.toNatClampNeg) + (u.1 82 a2.toNatClampNeg)).toNatClampNeg) (u.2 64 94))) [pm_o (.aload_n 0), pm_o (.aload_n 0), pm_of (.getfield 62) 12 22 2, pm_o (.iload_n 2)] (by decide +kernel) rfl ?_
        obtain ⟨ho22, h⟩ := pm_ifs h
        refine pm_iald (by decide +kernel) rfl (pm_ok_in ho22) ?_
        refine pm_blk (pc' := 118) (L' := [(0, .ref 64), (1, .int a1), (2, .int a2)]) (S' := [.int a1, .ref 125, .int (u.1 80 a2.toNatClampNeg), .ref 64]) (M' := sm g (wj (wi (wi u 126 a1.toNatClampNeg 2) 113 (((u.1 125 a1.toNatClampNeg) + (u.1 82 a2.toNatClampNeg)).toNatClampNeg) (u.1 64 93)) 114 (((u.1 125 a1.toNatClampNeg) + (u.1 82 a2.toNatClampNeg)).toNatClampNeg) (u.2 64 94))) [pm_o (.aload_n 0), pm_of (.getfield 198) 12 84 2, pm_o (.iload_n 1)] (by decide +kernel) rfl ?_
        obtain ⟨ho23, h⟩ := pm_ifs h
        refine pm_iald (by decide +kernel) rfl (pm_ok_in ho23) ?_
        refine pm_blk (pc' := 119) (L' := [(0, .ref 64), (1, .int a1), (2, .int a2)]) (S' := [.int (u.1 125 a1.toNatClampNeg), .int (u.1 80 a2.toNatClampNeg), .ref 64]) (M' := sm g (wj (wi (wi u 126 a1.toNatClampNeg 2) 113 (((u.1 125 a1.toNatClampNeg) + (u.1 82 a2.toNatClampNeg)).toNatClampNeg) (u.1 64 93)) 114 (((u.1 125 a1.toNatClampNeg) + (u.1 82 a2.toNatClampNeg)).toNatClampNeg) (u.2 64 94))) [] (by decide +kernel) rfl ?_
        obtain ⟨q24, hq24, h⟩ := pm_bd h
        refine pm_cV (idx := 619) m_Md_begin (c_Md_begin l h0 D hT hq24) (As := [.int (u.1 80 a2.toNatClampNeg), .int (u.1 125 a1.toNatClampNeg)]) (S0 := []) rfl (by decide +kernel) k_Md_begin l_Md_619 (Nat.le_of_ble_eq_true rfl) (Nat.le_of_ble_eq_true rfl) (Nat.le_refl _) (Nat.le_refl _) ?_
        refine pm_blk (pc' := 122) (L' := [(0, .ref 64), (1, .int a1), (2, .int a2)]) (S' := []) (M' := sm g q24) [] (by decide +kernel) rfl ?_
        refine pm_goto (off := 52) 174 (by decide +kernel) (by decide) ?_
        have h9 := Option.some.inj h
        subst h9
        exact pm_retv rfl (by decide +kernel) rfl rfl
  · rw [if_pos hc2] at h
    refine pm_blk (pc' := 15) (L' := [(0, .ref 64), (1, .int a1), (2, .int a2)]) (S' := [.int 1, .int a1, .ref 126]) (M' := sm g u) [pm_o (.aload_n 0), pm_of (.getfield 201) 12 85 2, pm_o (.iload_n 1), pm_oi (.iconst 1) 1] (by decide +kernel) rfl ?_
    obtain ⟨ho25, h⟩ := pm_ifs h
    refine pm_iast (by decide +kernel) rfl  (pm_ok_in ho25) ?_
    refine pm_blk (pc' := 22) (L' := [(0, .ref 64), (1, .int a1), (2, .int a2)]) (S' := [.int a2, .ref 79, .ref 64]) (M' := sm g (wi u 126 a1.toNatClampNeg 1)) [pm_o (.aload_n 0), pm_o (.aload_n 0), pm_of (.getfield 59) 12 21 2, pm_o (.iload_n 2)] (by decide +kernel) rfl ?_
    obtain ⟨ho26, h⟩ := pm_ifs h
    refine pm_iald (by decide +kernel) rfl (pm_ok_in ho26) ?_
    refine pm_blk (pc' := 28) (L' := [(0, .ref 64), (1, .int a1), (2, .int a2)]) (S' := [.int a1, .ref 125, .int (u.1 79 a2.toNatClampNeg), .ref 64]) (M' := sm g (wi u 126 a1.toNatClampNeg 1)) [pm_o (.aload_n 0), pm_of (.getfield 198) 12 84 2, pm_o (.iload_n 1)] (by decide +kernel) rfl ?_
    obtain ⟨ho27, h⟩ := pm_ifs h
    refine pm_iald (by decide +kernel) rfl (pm_ok_in ho27) ?_
    refine pm_blk (pc' := 29) (L' := [(0, .ref 64), (1, .int a1), (2, .int a2)]) (S' := [.int (u.1 125 a1.toNatClampNeg), .int (u.1 79 a2.toNatClampNeg), .ref 64]) (M' := sm g (wi u 126 a1.toNatClampNeg 1)) [] (by decide +kernel) rfl ?_
    obtain ⟨q28, hq28, h⟩ := pm_bd h
    refine pm_cV (idx := 619) m_Md_begin (c_Md_begin l h0 D hT hq28) (As := [.int (u.1 79 a2.toNatClampNeg), .int (u.1 125 a1.toNatClampNeg)]) (S0 := []) rfl (by decide +kernel) k_Md_begin l_Md_619 (Nat.le_of_ble_eq_true rfl) (Nat.le_of_ble_eq_true rfl) (Nat.le_refl _) (Nat.le_refl _) ?_
    refine pm_blk (pc' := 32) (L' := [(0, .ref 64), (1, .int a1), (2, .int a2)]) (S' := []) (M' := sm g q28) [] (by decide +kernel) rfl ?_
    refine pm_goto (off := 142) 174 (by decide +kernel) (by decide) ?_
    have h9 := Option.some.inj h
    subst h9
    exact pm_retv rfl (by decide +kernel) rfl rfl
def K_Md_workTwo_40 (N : Nat) (g : pm_s) (x1 : Int32) (x2 : Int32) (u : pm_J) : Option (pm_J) := if pm_ok x1 150 = true then if pm_ok x1 150 = true then if pm_ok x1 150 = true then if ((wi u 126 x1.toNatClampNeg ((u.1 126 x1.toNatClampNeg) + 1)).1 126 x1.toNatClampNeg) = 1 then if pm_ok x2 2400 = true then if pm_ok x1 150 = true then (F_Md_begin (u.1 79 x2.toNatClampNeg) (u.1 125 x1.toNatClampNeg) g (wi u 126 x1.toNatClampNeg ((u.1 126 x1.toNatClampNeg) + 1))).bind fun q30 => some q30 else none else none else if pm_ok x2 2400 = true then if pm_ok x1 150 = true then (F_Md_begin (u.1 80 x2.toNatClampNeg) (u.1 125 x1.toNatClampNeg) g (wi u 126 x1.toNatClampNeg ((u.1 126 x1.toNatClampNeg) + 1))).bind fun q27 => some q27 else none else none else none else none else none
set_option maxHeartbeats 4000000 in
set_option maxRecDepth 100000 in
theorem w_Md_workTwo_40 (l : Launch) (h0 : Nat) (D : pm_D) {g : pm_s} (hT : sh_T g) {N : Nat} {u0 : pm_J} {out : pm_J} {p : Program} {e : Env} {R : Room} {s : State} {m : MethodId} {args : Array Value} {below : List Frame} {meth : Method} {c : Code} : ∀ (x1 : Int32) (x2 : Int32) (u : pm_J), K_Md_workTwo_40 N g x1 x2 u = some out → pm_V (p, l, e, R, s, m, args, below, meth, c) m_Md_workTwo h0 D (g.1, g.2.1, g.1, g.2.1, 4) (pm_E (p, l, e, R, s, m, args, below, meth, c) h0 D (sm g u0) none (sm g out)) 40 [(0, .ref 64), (1, .int x1), (2, .int x2)] [] (sm g u) := by
    intro x1 x2 u h
    unfold K_Md_workTwo_40 at h
    refine pm_blk (pc' := 46) (L' := [(0, .ref 64), (1, .int x1), (2, .int x2)]) (S' := [.int x1, .ref 126, .int x1, .ref 126]) (M' := sm g u) [pm_o (.aload_n 0), pm_of (.getfield 201) 12 85 2, pm_o (.iload_n 1), pm_o .dup2] (by decide +kernel) rfl ?_
    obtain ⟨ho21, h⟩ := pm_ifs h
    refine pm_iald (by decide +kernel) rfl (pm_ok_in ho21) ?_
    refine pm_blk (pc' := 49) (L' := [(0, .ref 64), (1, .int x1), (2, .int x2)]) (S' := [.int ((u.1 126 x1.toNatClampNeg) + 1), .int x1, .ref 126]) (M' := sm g u) [pm_oi (.iconst 1) 1, pm_o .iadd] (by decide +kernel) rfl ?_
    obtain ⟨ho22, h⟩ := pm_ifs h
    refine pm_iast (by decide +kernel) rfl  (pm_ok_in ho22) ?_
    refine pm_blk (pc' := 56) (L' := [(0, .ref 64), (1, .int x1), (2, .int x2)]) (S' := [.int x1, .ref 126, .ref 64]) (M' := sm g (wi u 126 x1.toNatClampNeg ((u.1 126 x1.toNatClampNeg) + 1))) [pm_o (.aload_n 0), pm_o (.aload_n 0), pm_of (.getfield 201) 12 85 2, pm_o (.iload_n 1)] (by decide +kernel) rfl ?_
    obtain ⟨ho23, h⟩ := pm_ifs h
    refine pm_iald (by decide +kernel) rfl (pm_ok_in ho23) ?_
    refine pm_blk (pc' := 58) (L' := [(0, .ref 64), (1, .int x1), (2, .int x2)]) (S' := [.int 1, .int ((wi u 126 x1.toNatClampNeg ((u.1 126 x1.toNatClampNeg) + 1)).1 126 x1.toNatClampNeg), .ref 64]) (M' := sm g (wi u 126 x1.toNatClampNeg ((u.1 126 x1.toNatClampNeg) + 1))) [pm_oi (.iconst 1) 1] (by decide +kernel) rfl ?_
    refine pm_ic_ne (off := 12) 70 (by decide +kernel) (by decide) (fun hc24 => ?_) (fun hc24 => ?_)
    · rw [if_neg hc24] at h
      refine pm_blk (pc' := 75) (L' := [(0, .ref 64), (1, .int x1), (2, .int x2)]) (S' := [.int x2, .ref 80, .ref 64]) (M' := sm g (wi u 126 x1.toNatClampNeg ((u.1 126 x1.toNatClampNeg) + 1))) [pm_o (.aload_n 0), pm_of (.getfield 62) 12 22 2, pm_o (.iload_n 2)] (by decide +kernel) rfl ?_
      obtain ⟨ho25, h⟩ := pm_ifs h
      refine pm_iald (by decide +kernel) rfl (pm_ok_in ho25) ?_
      refine pm_blk (pc' := 81) (L' := [(0, .ref 64), (1, .int x1), (2, .int x2)]) (S' := [.int x1, .ref 125, .int (u.1 80 x2.toNatClampNeg), .ref 64]) (M' := sm g (wi u 126 x1.toNatClampNeg ((u.1 126 x1.toNatClampNeg) + 1))) [pm_o (.aload_n 0), pm_of (.getfield 198) 12 84 2, pm_o (.iload_n 1)] (by decide +kernel) rfl ?_
      obtain ⟨ho26, h⟩ := pm_ifs h
      refine pm_iald (by decide +kernel) rfl (pm_ok_in ho26) ?_
      refine pm_blk (pc' := 82) (L' := [(0, .ref 64), (1, .int x1), (2, .int x2)]) (S' := [.int (u.1 125 x1.toNatClampNeg), .int (u.1 80 x2.toNatClampNeg), .ref 64]) (M' := sm g (wi u 126 x1.toNatClampNeg ((u.1 126 x1.toNatClampNeg) + 1))) [] (by decide +kernel) rfl ?_
      obtain ⟨q27, hq27, h⟩ := pm_bd h
      refine pm_cV (idx := 619) m_Md_begin (c_Md_begin l h0 D hT hq27) (As := [.int (u.1 80 x2.toNatClampNeg), .int (u.1 125 x1.toNatClampNeg)]) (S0 := []) rfl (by decide +kernel) k_Md_begin l_Md_619 (Nat.le_of_ble_eq_true rfl) (Nat.le_of_ble_eq_true rfl) (Nat.le_refl _) (Nat.le_refl _) ?_
      refine pm_blk (pc' := 85) (L' := [(0, .ref 64), (1, .int x1), (2, .int x2)]) (S' := []) (M' := sm g q27) [] (by decide +kernel) rfl ?_
      have h9 := Option.some.inj h
      subst h9
      exact pm_retv rfl (by decide +kernel) rfl rfl
    · rw [if_pos hc24] at h
      refine pm_blk (pc' := 66) (L' := [(0, .ref 64), (1, .int x1), (2, .int x2)]) (S' := [.int x2, .ref 79, .ref 64]) (M' := sm g (wi u 126 x1.toNatClampNeg ((u.1 126 x1.toNatClampNeg) + 1))) [pm_o (.aload_n 0), pm_of (.getfield 59) 12 21 2, pm_o (.iload_n 2)] (by decide +kernel) rfl ?_
      obtain ⟨ho28, h⟩ := pm_ifs h
      refine pm_iald (by decide +kernel) rfl (pm_ok_in ho28) ?_
      refine pm_blk (pc' := 67) (L' := [(0, .ref 64), (1, .int x1), (2, .int x2)]) (S' := [.int (u.1 79 x2.toNatClampNeg), .ref 64]) (M' := sm g (wi u 126 x1.toNatClampNeg ((u.1 126 x1.toNatClampNeg) + 1))) [] (by decide +kernel) rfl ?_
      refine pm_goto (off := 9) 76 (by decide +kernel) (by decide) ?_
      refine pm_blk (pc' := 81) (L' := [(0, .ref 64), (1, .int x1), (2, .int x2)]) (S' := [.int x1, .ref 125, .int (u.1 79 x2.toNatClampNeg), .ref 64]) (M' := sm g (wi u 126 x1.toNatClampNeg ((u.1 126 x1.toNatClampNeg) + 1))) [pm_o (.aload_n 0), pm_of (.getfield 198) 12 84 2, pm_o (.iload_n 1)] (by decide +kernel) rfl ?_
      obtain ⟨ho29, h⟩ := pm_ifs h
      refine pm_iald (by decide +kernel) rfl (pm_ok_in ho29) ?_
      refine pm_blk (pc' := 82) (L' := [(0, .ref 64), (1, .int x1), (2, .int x2)]) (S' := [.int (u.1 125 x1.toNatClampNeg), .int (u.1 79 x2.toNatClampNeg), .ref 64]) (M' := sm g (wi u 126 x1.toNatClampNeg ((u.1 126 x1.toNatClampNeg) + 1))) [] (by decide +kernel) rfl ?_
      obtain ⟨q30, hq30, h⟩ := pm_bd h
      refine pm_cV (idx := 619) m_Md_begin (c_Md_begin l h0 D hT hq30) (As := [.int (u.1 79 x2.toNatClampNeg), .int (u.1 125 x1.toNatClampNeg)]) (S0 := []) rfl (by decide +kernel) k_Md_begin l_Md_619 (Nat.le_of_ble_eq_true rfl) (Nat.le_of_ble_eq_true rfl) (Nat.le_refl _) (Nat.le_refl _) ?_
      refine pm_blk (pc' := 85) (L' := [(0, .ref 64), (1, .int x1), (2, .int x2)]) (S' := []) (M' := sm g q30) [] (by decide +kernel) rfl ?_
      have h9 := Option.some.inj h
      subst h9
      exact pm_retv rfl (by decide +kernel) rfl rfl
def F_Md_workTwo (N : Nat) (a1 : Int32) (a2 : Int32) (g : pm_s) (u : pm_J) : Option (pm_J) := if pm_ok a1 150 = true then if 2 ≤ (u.1 126 a1.toNatClampNeg) then if pm_ok a1 150 = true then if pm_ok a2 2400 = true then if (u.1 77 a2.toNatClampNeg) = 32 then if pm_ok a1 150 = true then (F_Md_makePair (u.1 127 a1.toNatClampNeg) (u.2 128 a1.toNatClampNeg) (u.1 64 93) (u.2 64 94) g u).bind fun q16 => if (q16.1 64 96) = 0 then (F_Md_finish (q16.1 64 108) (q16.2 64 109) g q16).bind fun q18 => some q18 else some q16 else none else if pm_ok a2 2400 = true then if (u.1 77 a2.toNatClampNeg) = 23 then (F_Md_finish 0 ((u.2 128 a1.toNatClampNeg) + (u.2 64 94)) g u).bind fun q14 => some q14 else if pm_ok a2 2400 = true then if (u.1 77 a2.toNatClampNeg) = 24 then (F_Md_finish 0 ((u.2 128 a1.toNatClampNeg) - (u.2 64 94)) g u).bind fun q13 => some q13 else if 0 ≤ (lg_cmp (u.2 128 a1.toNatClampNeg) (u.2 64 94)) then (F_Md_finish 0 0 g u).bind fun q11 => some q11 else (F_Md_finish 0 1 g u).bind fun q12 => some q12 else none else none else none else none else if pm_ok a1 150 = true then if (u.1 126 a1.toNatClampNeg) = 1 then if pm_ok a1 150 = true then if pm_ok a1 150 = true then K_Md_workTwo_40 N g a1 a2 (wj (wi u 127 a1.toNatClampNeg (u.1 64 93)) 128 a1.toNatClampNeg (u.2 64 94)) else none else none else K_Md_workTwo_40 N g a1 a2 u else none else none
set_option maxHeartbeats 4000000 in
set_option maxRecDepth 100000 in
theorem c_Md_workTwo (l : Launch) (h0 : Nat) (D : pm_D) {g : pm_s} {u : pm_J} (hT : sh_T g) {N : Nat} {a1 : Int32} {a2 : Int32} {out : pm_J} (h : F_Md_workTwo N a1 a2 g u = some out) : pm_C l h0 D m_Md_workTwo (4) [.ref 64, .int a1, .int a2] (sm g u) none (sm g out) := by
  unfold F_Md_workTwo at h
  refine pm_met (by decide +kernel) (Nat.le_of_ble_eq_true rfl) (Nat.le_refl _) (Nat.le_refl _) ?_
  intro p e R s m args below meth c
  refine pm_blk (pc' := 5) (L' := [(0, .ref 64), (1, .int a1), (2, .int a2)]) (S' := [.int a1, .ref 126]) (M' := sm g u) [pm_o (.aload_n 0), pm_of (.getfield 201) 12 85 2, pm_o (.iload_n 1)] (by decide +kernel) rfl ?_
  obtain ⟨ho1, h⟩ := pm_ifs h
  refine pm_iald (by decide +kernel) rfl (pm_ok_in ho1) ?_
  refine pm_blk (pc' := 7) (L' := [(0, .ref 64), (1, .int a1), (2, .int a2)]) (S' := [.int 2, .int (u.1 126 a1.toNatClampNeg)]) (M' := sm g u) [pm_oi (.iconst 2) 2] (by decide +kernel) rfl ?_
  refine pm_ic_ge (off := 79) 86 (by decide +kernel) (by decide) (fun hc2 => ?_) (fun hc2 => ?_)
  · rw [if_pos hc2] at h
    refine pm_blk (pc' := 91) (L' := [(0, .ref 64), (1, .int a1), (2, .int a2)]) (S' := [.int a1, .ref 128]) (M' := sm g u) [pm_o (.aload_n 0), pm_of (.getfield 207) 12 87 2, pm_o (.iload_n 1)] (by decide +kernel) rfl ?_
    obtain ⟨ho3, h⟩ := pm_ifs h
    refine pm_lald (by decide +kernel) rfl (pm_ok_in ho3) ?_
    refine pm_blk (pc' := 98) (L' := [(3, .long (u.2 128 a1.toNatClampNeg)), (0, .ref 64), (1, .int a1), (2, .int a2)]) (S' := [.int a2, .ref 77]) (M' := sm g u) [pm_o (.lstore_n 3), pm_o (.aload_n 0), pm_of (.getfield 53) 12 19 2, pm_o (.iload_n 2)] (by decide +kernel) rfl ?_
    obtain ⟨ho4, h⟩ := pm_ifs h
    refine pm_iald (by decide +kernel) rfl (pm_ok_in ho4) ?_
    refine pm_blk (pc' := 101) (L' := [(3, .long (u.2 128 a1.toNatClampNeg)), (0, .ref 64), (1, .int a1), (2, .int a2)]) (S' := [.int 32, .int (u.1 77 a2.toNatClampNeg)]) (M' := sm g u) [pm_oi (.bipush 32) 32] (by decide +kernel) rfl ?_
    refine pm_ic_ne (off := 44) 145 (by decide +kernel) (by decide) (fun hc5 => ?_) (fun hc5 => ?_)
    · rw [if_neg hc5] at h
      refine pm_blk (pc' := 152) (L' := [(3, .long (u.2 128 a1.toNatClampNeg)), (0, .ref 64), (1, .int a1), (2, .int a2)]) (S' := [.int a2, .ref 77, .int 0, .ref 64]) (M' := sm g u) [pm_o (.aload_n 0), pm_oi (.iconst 0) 0, pm_o (.aload_n 0), pm_of (.getfield 53) 12 19 2, pm_o (.iload_n 2)] (by decide +kernel) rfl ?_
      obtain ⟨ho6, h⟩ := pm_ifs h
      refine pm_iald (by decide +kernel) rfl (pm_ok_in ho6) ?_
      refine pm_blk (pc' := 155) (L' := [(3, .long (u.2 128 a1.toNatClampNeg)), (0, .ref 64), (1, .int a1), (2, .int a2)]) (S' := [.int 23, .int (u.1 77 a2.toNatClampNeg), .int 0, .ref 64]) (M' := sm g u) [pm_oi (.bipush 23) 23] (by decide +kernel) rfl ?_
      refine pm_ic_ne (off := 12) 167 (by decide +kernel) (by decide) (fun hc7 => ?_) (fun hc7 => ?_)
      · rw [if_neg hc7] at h
        refine pm_blk (pc' := 172) (L' := [(3, .long (u.2 128 a1.toNatClampNeg)), (0, .ref 64), (1, .int a1), (2, .int a2)]) (S' := [.int a2, .ref 77, .int 0, .ref 64]) (M' := sm g u) [pm_o (.aload_n 0), pm_of (.getfield 53) 12 19 2, pm_o (.iload_n 2)] (by decide +kernel) rfl ?_
        obtain ⟨ho8, h⟩ := pm_ifs h
        refine pm_iald (by decide +kernel) rfl (pm_ok_in ho8) ?_
        refine pm_blk (pc' := 175) (L' := [(3, .long (u.2 128 a1.toNatClampNeg)), (0, .ref 64), (1, .int a1), (2, .int a2)]) (S' := [.int 24, .int (u.1 77 a2.toNatClampNeg), .int 0, .ref 64]) (M' := sm g u) [pm_oi (.bipush 24) 24] (by decide +kernel) rfl ?_
        refine pm_ic_ne (off := 12) 187 (by decide +kernel) (by decide) (fun hc9 => ?_) (fun hc9 => ?_)
        · rw [if_neg hc9] at h
          refine pm_blk (pc' := 193) (L' := [(3, .long (u.2 128 a1.toNatClampNeg)), (0, .ref 64), (1, .int a1), (2, .int a2)]) (S' := [.int (lg_cmp (u.2 128 a1.toNatClampNeg) (u.2 64 94)), .int 0, .ref 64]) (M' := sm g u) [pm_o (.lload_n 3), pm_o (.aload_n 0), pm_of (.getfield 610) 12 94 1, pm_o .lcmp] (by decide +kernel) rfl ?_
          refine pm_if_ge (off := 7) 200 (by decide +kernel) (by decide) (fun hc10 => ?_) (fun hc10 => ?_)
          · rw [if_pos hc10] at h
            refine pm_blk (pc' := 201) (L' := [(3, .long (u.2 128 a1.toNatClampNeg)), (0, .ref 64), (1, .int a1), (2, .int a2)]) (S' := [.long 0, .int 0, .ref 64]) (M' := sm g u) [pm_ol (.lconst 0) 0] (by decide +kernel) rfl ?_
            obtain ⟨q11, hq11, h⟩ := pm_bd h
            refine pm_cV (idx := 631) m_Md_finish (c_Md_finish l h0 D hT hq11) (As := [.int 0, .long 0]) (S0 := []) rfl (by decide +kernel) k_Md_finish l_Md_631 (Nat.le_of_ble_eq_true rfl) (Nat.le_of_ble_eq_true rfl) (Nat.le_refl _) (Nat.le_refl _) ?_
            refine pm_blk (pc' := 204) (L' := [(3, .long (u.2 128 a1.toNatClampNeg)), (0, .ref 64), (1, .int a1), (2, .int a2)]) (S' := []) (M' := sm g q11) [] (by decide +kernel) rfl ?_
            have h9 := Option.some.inj h
            subst h9
            exact pm_retv rfl (by decide +kernel) rfl rfl
          · rw [if_neg hc10] at h
            refine pm_blk (pc' := 197) (L' := [(3, .long (u.2 128 a1.toNatClampNeg)), (0, .ref 64), (1, .int a1), (2, .int a2)]) (S' := [.long 1, .int 0, .ref 64]) (M' := sm g u) [pm_ol (.lconst 1) 1] (by decide +kernel) rfl ?_
            refine pm_goto (off := 4) 201 (by decide +kernel) (by decide) ?_
            obtain ⟨q12, hq12, h⟩ := pm_bd h
            refine pm_cV (idx := 631) m_Md_finish (c_Md_finish l h0 D hT hq12) (As := [.int 0, .long 1]) (S0 := []) rfl (by decide +kernel) k_Md_finish l_Md_631 (Nat.le_of_ble_eq_true rfl) (Nat.le_of_ble_eq_true rfl) (Nat.le_refl _) (Nat.le_refl _) ?_
            refine pm_blk (pc' := 204) (L' := [(3, .long (u.2 128 a1.toNatClampNeg)), (0, .ref 64), (1, .int a1), (2, .int a2)]) (S' := []) (M' := sm g q12) [] (by decide +kernel) rfl ?_
            have h9 := Option.some.inj h
            subst h9
            exact pm_retv rfl (by decide +kernel) rfl rfl
        · rw [if_pos hc9] at h
          refine pm_blk (pc' := 184) (L' := [(3, .long (u.2 128 a1.toNatClampNeg)), (0, .ref 64), (1, .int a1), (2, .int a2)]) (S' := [.long ((u.2 128 a1.toNatClampNeg) - (u.2 64 94)), .int 0, .ref 64]) (M' := sm g u) [pm_o (.lload_n 3), pm_o (.aload_n 0), pm_of (.getfield 610) 12 94 1, pm_o .lsub] (by decide +kernel) rfl ?_
          refine pm_goto (off := 17) 201 (by decide +kernel) (by decide) ?_
          obtain ⟨q13, hq13, h⟩ := pm_bd h
          refine pm_cV (idx := 631) m_Md_finish (c_Md_finish l h0 D hT hq13) (As := [.int 0, .long ((u.2 128 a1.toNatClampNeg) - (u.2 64 94))]) (S0 := []) rfl (by decide +kernel) k_Md_finish l_Md_631 (Nat.le_of_ble_eq_true rfl) (Nat.le_of_ble_eq_true rfl) (Nat.le_refl _) (Nat.le_refl _) ?_
          refine pm_blk (pc' := 204) (L' := [(3, .long (u.2 128 a1.toNatClampNeg)), (0, .ref 64), (1, .int a1), (2, .int a2)]) (S' := []) (M' := sm g q13) [] (by decide +kernel) rfl ?_
          have h9 := Option.some.inj h
          subst h9
          exact pm_retv rfl (by decide +kernel) rfl rfl
      · rw [if_pos hc7] at h
        refine pm_blk (pc' := 164) (L' := [(3, .long (u.2 128 a1.toNatClampNeg)), (0, .ref 64), (1, .int a1), (2, .int a2)]) (S' := [.long ((u.2 128 a1.toNatClampNeg) + (u.2 64 94)), .int 0, .ref 64]) (M' := sm g u) [pm_o (.lload_n 3), pm_o (.aload_n 0), pm_of (.getfield 610) 12 94 1, pm_o .ladd] (by decide +kernel) rfl ?_
        refine pm_goto (off := 37) 201 (by decide +kernel) (by decide) ?_
        obtain ⟨q14, hq14, h⟩ := pm_bd h
        refine pm_cV (idx := 631) m_Md_finish (c_Md_finish l h0 D hT hq14) (As := [.int 0, .long ((u.2 128 a1.toNatClampNeg) + (u.2 64 94))]) (S0 := []) rfl (by decide +kernel) k_Md_finish l_Md_631 (Nat.le_of_ble_eq_true rfl) (Nat.le_of_ble_eq_true rfl) (Nat.le_refl _) (Nat.le_refl _) ?_
        refine pm_blk (pc' := 204) (L' := [(3, .long (u.2 128 a1.toNatClampNeg)), (0, .ref 64), (1, .int a1), (2, .int a2)]) (S' := []) (M' := sm g q14) [] (by decide +kernel) rfl ?_
        have h9 := Option.some.inj h
        subst h9
        exact pm_retv rfl (by decide +kernel) rfl rfl
    · rw [if_pos hc5] at h
      refine pm_blk (pc' := 110) (L' := [(3, .long (u.2 128 a1.toNatClampNeg)), (0, .ref 64), (1, .int a1), (2, .int a2)]) (S' := [.int a1, .ref 127, .ref 64]) (M' := sm g u) [pm_o (.aload_n 0), pm_o (.aload_n 0), pm_of (.getfield 204) 12 86 2, pm_o (.iload_n 1)] (by decide +kernel) rfl ?_
      obtain ⟨ho15, h⟩ := pm_ifs h
      refine pm_iald (by decide +kernel) rfl (pm_ok_in ho15) ?_
      refine pm_blk (pc' := 120) (L' := [(3, .long (u.2 128 a1.toNatClampNeg)), (0, .ref 64), (1, .int a1), (2, .int a2)]) (S' := [.long (u.2 64 94), .int (u.1 64 93), .long (u.2 128 a1.toNatClampNeg), .int (u.1 127 a1.toNatClampNeg), .ref 64]) (M' := sm g u) [pm_o (.lload_n 3), pm_o (.aload_n 0), pm_of (.getfield 607) 12 93 0, pm_o (.aload_n 0), pm_of (.getfield 610) 12 94 1] (by decide +kernel) rfl ?_
      obtain ⟨q16, hq16, h⟩ := pm_bd h
      refine pm_cV (idx := 590) m_Md_makePair (c_Md_makePair l h0 D hT hq16) (As := [.int (u.1 127 a1.toNatClampNeg), .long (u.2 128 a1.toNatClampNeg), .int (u.1 64 93), .long (u.2 64 94)]) (S0 := []) rfl (by decide +kernel) k_Md_makePair l_Md_590 (Nat.le_of_ble_eq_true rfl) (Nat.le_of_ble_eq_true rfl) (Nat.le_refl _) (Nat.le_refl _) ?_
      refine pm_blk (pc' := 127) (L' := [(3, .long (u.2 128 a1.toNatClampNeg)), (0, .ref 64), (1, .int a1), (2, .int a2)]) (S' := [.int (q16.1 64 96)]) (M' := sm g q16) [pm_o (.aload_n 0), pm_of (.getfield 533) 12 96 0] (by decide +kernel) rfl ?_
      refine pm_if_ne (off := 77) 204 (by decide +kernel) (by decide) (fun hc17 => ?_) (fun hc17 => ?_)
      · rw [if_neg hc17] at h
        have h9 := Option.some.inj h
        subst h9
        exact pm_retv rfl (by decide +kernel) rfl rfl
      · rw [if_pos hc17] at h
        refine pm_blk (pc' := 139) (L' := [(3, .long (u.2 128 a1.toNatClampNeg)), (0, .ref 64), (1, .int a1), (2, .int a2)]) (S' := [.long (q16.2 64 109), .int (q16.1 64 108), .ref 64]) (M' := sm g q16) [pm_o (.aload_n 0), pm_o (.aload_n 0), pm_of (.getfield 563) 12 108 0, pm_o (.aload_n 0), pm_of (.getfield 566) 12 109 1] (by decide +kernel) rfl ?_
        obtain ⟨q18, hq18, h⟩ := pm_bd h
        refine pm_cV (idx := 631) m_Md_finish (c_Md_finish l h0 D hT hq18) (As := [.int (q16.1 64 108), .long (q16.2 64 109)]) (S0 := []) rfl (by decide +kernel) k_Md_finish l_Md_631 (Nat.le_of_ble_eq_true rfl) (Nat.le_of_ble_eq_true rfl) (Nat.le_refl _) (Nat.le_refl _) ?_
        refine pm_blk (pc' := 142) (L' := [(3, .long (u.2 128 a1.toNatClampNeg)), (0, .ref 64), (1, .int a1), (2, .int a2)]) (S' := []) (M' := sm g q18) [] (by decide +kernel) rfl ?_
        refine pm_goto (off := 62) 204 (by decide +kernel) (by decide) ?_
        have h9 := Option.some.inj h
        subst h9
        exact pm_retv rfl (by decide +kernel) rfl rfl
  · rw [if_neg hc2] at h
    refine pm_blk (pc' := 15) (L' := [(0, .ref 64), (1, .int a1), (2, .int a2)]) (S' := [.int a1, .ref 126]) (M' := sm g u) [pm_o (.aload_n 0), pm_of (.getfield 201) 12 85 2, pm_o (.iload_n 1)] (by decide +kernel) rfl ?_
    obtain ⟨ho19, h⟩ := pm_ifs h
    refine pm_iald (by decide +kernel) rfl (pm_ok_in ho19) ?_
    refine pm_blk (pc' := 17) (L' := [(0, .ref 64), (1, .int a1), (2, .int a2)]) (S' := [.int 1, .int (u.1 126 a1.toNatClampNeg)]) (M' := sm g u) [pm_oi (.iconst 1) 1] (by decide +kernel) rfl ?_
    refine pm_ic_ne (off := 23) 40 (by decide +kernel) (by decide) (fun hc20 => ?_) (fun hc20 => ?_)
    · rw [if_neg hc20] at h
      refine pm_loc [0, 1, 2] rfl ?_
      exact w_Md_workTwo_40 l h0 D hT a1 a2 u h
    · rw [if_pos hc20] at h
      refine pm_blk (pc' := 29) (L' := [(0, .ref 64), (1, .int a1), (2, .int a2)]) (S' := [.int (u.1 64 93), .int a1, .ref 127]) (M' := sm g u) [pm_o (.aload_n 0), pm_of (.getfield 204) 12 86 2, pm_o (.iload_n 1), pm_o (.aload_n 0), pm_of (.getfield 607) 12 93 0] (by decide +kernel) rfl ?_
      obtain ⟨ho31, h⟩ := pm_ifs h
      refine pm_iast (by decide +kernel) rfl  (pm_ok_in ho31) ?_
      refine pm_blk (pc' := 39) (L' := [(0, .ref 64), (1, .int a1), (2, .int a2)]) (S' := [.long (u.2 64 94), .int a1, .ref 128]) (M' := sm g (wi u 127 a1.toNatClampNeg (u.1 64 93))) [pm_o (.aload_n 0), pm_of (.getfield 207) 12 87 2, pm_o (.iload_n 1), pm_o (.aload_n 0), pm_of (.getfield 610) 12 94 1] (by decide +kernel) rfl ?_
      obtain ⟨ho32, h⟩ := pm_ifs h
      refine pm_last (by decide +kernel) rfl  (pm_ok_in ho32) ?_
      refine pm_blk (pc' := 40) (L' := [(0, .ref 64), (1, .int a1), (2, .int a2)]) (S' := []) (M' := sm g (wj (wi u 127 a1.toNatClampNeg (u.1 64 93)) 128 a1.toNatClampNeg (u.2 64 94))) [] (by decide +kernel) rfl ?_
      refine pm_loc [0, 1, 2] rfl ?_
      exact w_Md_workTwo_40 l h0 D hT a1 a2 (wj (wi u 127 a1.toNatClampNeg (u.1 64 93)) 128 a1.toNatClampNeg (u.2 64 94)) h
def F_Md_workHalf (a1 : Int32) (a2 : Int32) (g : pm_s) (u : pm_J) : Option (pm_J) := if pm_ok a1 150 = true then if (u.1 126 a1.toNatClampNeg) = 0 then if pm_ok a1 150 = true then if pm_ok a2 2400 = true then if pm_ok a1 150 = true then (F_Md_begin (u.1 79 a2.toNatClampNeg) (u.1 125 a1.toNatClampNeg) g (wi u 126 a1.toNatClampNeg 1)).bind fun q14 => some q14 else none else none else none else if pm_ok a2 2400 = true then if (u.1 77 a2.toNatClampNeg) = 10 then if pm_ok ((u.2 64 94).toInt32) 4000 = true then if pm_ok ((u.2 64 94).toInt32) 4000 = true then (F_Md_finish (u.1 119 (((u.2 64 94).toInt32).toNatClampNeg)) (u.2 120 (((u.2 64 94).toInt32).toNatClampNeg)) g u).bind fun q10 => some q10 else none else none else if pm_ok ((u.2 64 94).toInt32) 4000 = true then if pm_ok ((u.2 64 94).toInt32) 4000 = true then (F_Md_finish (u.1 121 (((u.2 64 94).toInt32).toNatClampNeg)) (u.2 122 (((u.2 64 94).toInt32).toNatClampNeg)) g u).bind fun q7 => some q7 else none else none else none else none
set_option maxHeartbeats 4000000 in
set_option maxRecDepth 100000 in
theorem c_Md_workHalf (l : Launch) (h0 : Nat) (D : pm_D) {g : pm_s} {u : pm_J} (hT : sh_T g) {a1 : Int32} {a2 : Int32} {out : pm_J} (h : F_Md_workHalf a1 a2 g u = some out) : pm_C l h0 D m_Md_workHalf (2) [.ref 64, .int a1, .int a2] (sm g u) none (sm g out) := by
  unfold F_Md_workHalf at h
  refine pm_met (by decide +kernel) (Nat.le_of_ble_eq_true rfl) (Nat.le_refl _) (Nat.le_refl _) ?_
  intro p e R s m args below meth c
  refine pm_blk (pc' := 5) (L' := [(0, .ref 64), (1, .int a1), (2, .int a2)]) (S' := [.int a1, .ref 126]) (M' := sm g u) [pm_o (.aload_n 0), pm_of (.getfield 201) 12 85 2, pm_o (.iload_n 1)] (by decide +kernel) rfl ?_
  obtain ⟨ho1, h⟩ := pm_ifs h
  refine pm_iald (by decide +kernel) rfl (pm_ok_in ho1) ?_
  refine pm_blk (pc' := 6) (L' := [(0, .ref 64), (1, .int a1), (2, .int a2)]) (S' := [.int (u.1 126 a1.toNatClampNeg)]) (M' := sm g u) [] (by decide +kernel) rfl ?_
  refine pm_if_ne (off := 29) 35 (by decide +kernel) (by decide) (fun hc2 => ?_) (fun hc2 => ?_)
  · rw [if_neg hc2] at h
    refine pm_blk (pc' := 46) (L' := [(3, .int ((u.2 64 94).toInt32)), (0, .ref 64), (1, .int a1), (2, .int a2)]) (S' := [.int a2, .ref 77]) (M' := sm g u) [pm_o (.aload_n 0), pm_of (.getfield 610) 12 94 1, pm_o .l2i, pm_o (.istore_n 3), pm_o (.aload_n 0), pm_of (.getfield 53) 12 19 2, pm_o (.iload_n 2)] (by decide +kernel) rfl ?_
    obtain ⟨ho3, h⟩ := pm_ifs h
    refine pm_iald (by decide +kernel) rfl (pm_ok_in ho3) ?_
    refine pm_blk (pc' := 49) (L' := [(3, .int ((u.2 64 94).toInt32)), (0, .ref 64), (1, .int a1), (2, .int a2)]) (S' := [.int 10, .int (u.1 77 a2.toNatClampNeg)]) (M' := sm g u) [pm_oi (.bipush 10) 10] (by decide +kernel) rfl ?_
    refine pm_ic_ne (off := 22) 71 (by decide +kernel) (by decide) (fun hc4 => ?_) (fun hc4 => ?_)
    · rw [if_neg hc4] at h
      refine pm_blk (pc' := 77) (L' := [(3, .int ((u.2 64 94).toInt32)), (0, .ref 64), (1, .int a1), (2, .int a2)]) (S' := [.int ((u.2 64 94).toInt32), .ref 121, .ref 64]) (M' := sm g u) [pm_o (.aload_n 0), pm_o (.aload_n 0), pm_of (.getfield 186) 12 79 2, pm_o (.iload_n 3)] (by decide +kernel) rfl ?_
      obtain ⟨ho5, h⟩ := pm_ifs h
      refine pm_iald (by decide +kernel) rfl (pm_ok_in ho5) ?_
      refine pm_blk (pc' := 83) (L' := [(3, .int ((u.2 64 94).toInt32)), (0, .ref 64), (1, .int a1), (2, .int a2)]) (S' := [.int ((u.2 64 94).toInt32), .ref 122, .int (u.1 121 (((u.2 64 94).toInt32).toNatClampNeg)), .ref 64]) (M' := sm g u) [pm_o (.aload_n 0), pm_of (.getfield 189) 12 80 2, pm_o (.iload_n 3)] (by decide +kernel) rfl ?_
      obtain ⟨ho6, h⟩ := pm_ifs h
      refine pm_lald (by decide +kernel) rfl (pm_ok_in ho6) ?_
      refine pm_blk (pc' := 84) (L' := [(3, .int ((u.2 64 94).toInt32)), (0, .ref 64), (1, .int a1), (2, .int a2)]) (S' := [.long (u.2 122 (((u.2 64 94).toInt32).toNatClampNeg)), .int (u.1 121 (((u.2 64 94).toInt32).toNatClampNeg)), .ref 64]) (M' := sm g u) [] (by decide +kernel) rfl ?_
      obtain ⟨q7, hq7, h⟩ := pm_bd h
      refine pm_cV (idx := 631) m_Md_finish (c_Md_finish l h0 D hT hq7) (As := [.int (u.1 121 (((u.2 64 94).toInt32).toNatClampNeg)), .long (u.2 122 (((u.2 64 94).toInt32).toNatClampNeg))]) (S0 := []) rfl (by decide +kernel) k_Md_finish l_Md_631 (Nat.le_of_ble_eq_true rfl) (Nat.le_of_ble_eq_true rfl) (Nat.le_refl _) (Nat.le_refl _) ?_
      refine pm_blk (pc' := 87) (L' := [(3, .int ((u.2 64 94).toInt32)), (0, .ref 64), (1, .int a1), (2, .int a2)]) (S' := []) (M' := sm g q7) [] (by decide +kernel) rfl ?_
      have h9 := Option.some.inj h
      subst h9
      exact pm_retv rfl (by decide +kernel) rfl rfl
    · rw [if_pos hc4] at h
      refine pm_blk (pc' := 58) (L' := [(3, .int ((u.2 64 94).toInt32)), (0, .ref 64), (1, .int a1), (2, .int a2)]) (S' := [.int ((u.2 64 94).toInt32), .ref 119, .ref 64]) (M' := sm g u) [pm_o (.aload_n 0), pm_o (.aload_n 0), pm_of (.getfield 180) 12 77 2, pm_o (.iload_n 3)] (by decide +kernel) rfl ?_
      obtain ⟨ho8, h⟩ := pm_ifs h
      refine pm_iald (by decide +kernel) rfl (pm_ok_in ho8) ?_
      refine pm_blk (pc' := 64) (L' := [(3, .int ((u.2 64 94).toInt32)), (0, .ref 64), (1, .int a1), (2, .int a2)]) (S' := [.int ((u.2 64 94).toInt32), .ref 120, .int (u.1 119 (((u.2 64 94).toInt32).toNatClampNeg)), .ref 64]) (M' := sm g u) [pm_o (.aload_n 0), pm_of (.getfield 183) 12 78 2, pm_o (.iload_n 3)] (by decide +kernel) rfl ?_
      obtain ⟨ho9, h⟩ := pm_ifs h
      refine pm_lald (by decide +kernel) rfl (pm_ok_in ho9) ?_
      refine pm_blk (pc' := 65) (L' := [(3, .int ((u.2 64 94).toInt32)), (0, .ref 64), (1, .int a1), (2, .int a2)]) (S' := [.long (u.2 120 (((u.2 64 94).toInt32).toNatClampNeg)), .int (u.1 119 (((u.2 64 94).toInt32).toNatClampNeg)), .ref 64]) (M' := sm g u) [] (by decide +kernel) rfl ?_
      obtain ⟨q10, hq10, h⟩ := pm_bd h
      refine pm_cV (idx := 631) m_Md_finish (c_Md_finish l h0 D hT hq10) (As := [.int (u.1 119 (((u.2 64 94).toInt32).toNatClampNeg)), .long (u.2 120 (((u.2 64 94).toInt32).toNatClampNeg))]) (S0 := []) rfl (by decide +kernel) k_Md_finish l_Md_631 (Nat.le_of_ble_eq_true rfl) (Nat.le_of_ble_eq_true rfl) (Nat.le_refl _) (Nat.le_refl _) ?_
      refine pm_blk (pc' := 68) (L' := [(3, .int ((u.2 64 94).toInt32)), (0, .ref 64), (1, .int a1), (2, .int a2)]) (S' := []) (M' := sm g q10) [] (by decide +kernel) rfl ?_
      refine pm_goto (off := 19) 87 (by decide +kernel) (by decide) ?_
      have h9 := Option.some.inj h
      subst h9
      exact pm_retv rfl (by decide +kernel) rfl rfl
  · rw [if_pos hc2] at h
    refine pm_blk (pc' := 15) (L' := [(0, .ref 64), (1, .int a1), (2, .int a2)]) (S' := [.int 1, .int a1, .ref 126]) (M' := sm g u) [pm_o (.aload_n 0), pm_of (.getfield 201) 12 85 2, pm_o (.iload_n 1), pm_oi (.iconst 1) 1] (by decide +kernel) rfl ?_
    obtain ⟨ho11, h⟩ := pm_ifs h
    refine pm_iast (by decide +kernel) rfl  (pm_ok_in ho11) ?_
    refine pm_blk (pc' := 22) (L' := [(0, .ref 64), (1, .int a1), (2, .int a2)]) (S' := [.int a2, .ref 79, .ref 64]) (M' := sm g (wi u 126 a1.toNatClampNeg 1)) [pm_o (.aload_n 0), pm_o (.aload_n 0), pm_of (.getfield 59) 12 21 2, pm_o (.iload_n 2)] (by decide +kernel) rfl ?_
    obtain ⟨ho12, h⟩ := pm_ifs h
    refine pm_iald (by decide +kernel) rfl (pm_ok_in ho12) ?_
    refine pm_blk (pc' := 28) (L' := [(0, .ref 64), (1, .int a1), (2, .int a2)]) (S' := [.int a1, .ref 125, .int (u.1 79 a2.toNatClampNeg), .ref 64]) (M' := sm g (wi u 126 a1.toNatClampNeg 1)) [pm_o (.aload_n 0), pm_of (.getfield 198) 12 84 2, pm_o (.iload_n 1)] (by decide +kernel) rfl ?_
    obtain ⟨ho13, h⟩ := pm_ifs h
    refine pm_iald (by decide +kernel) rfl (pm_ok_in ho13) ?_
    refine pm_blk (pc' := 29) (L' := [(0, .ref 64), (1, .int a1), (2, .int a2)]) (S' := [.int (u.1 125 a1.toNatClampNeg), .int (u.1 79 a2.toNatClampNeg), .ref 64]) (M' := sm g (wi u 126 a1.toNatClampNeg 1)) [] (by decide +kernel) rfl ?_
    obtain ⟨q14, hq14, h⟩ := pm_bd h
    refine pm_cV (idx := 619) m_Md_begin (c_Md_begin l h0 D hT hq14) (As := [.int (u.1 79 a2.toNatClampNeg), .int (u.1 125 a1.toNatClampNeg)]) (S0 := []) rfl (by decide +kernel) k_Md_begin l_Md_619 (Nat.le_of_ble_eq_true rfl) (Nat.le_of_ble_eq_true rfl) (Nat.le_refl _) (Nat.le_refl _) ?_
    refine pm_blk (pc' := 32) (L' := [(0, .ref 64), (1, .int a1), (2, .int a2)]) (S' := []) (M' := sm g q14) [] (by decide +kernel) rfl ?_
    refine pm_goto (off := 55) 87 (by decide +kernel) (by decide) ?_
    have h9 := Option.some.inj h
    subst h9
    exact pm_retv rfl (by decide +kernel) rfl rfl
def F_Md_workFunction (a1 : Int32) (a2 : Int32) (g : pm_s) (u : pm_J) : Option (pm_J) := (F_Md_make g u).bind fun q1 => if (q1.2.1 64 96) = 0 then if pm_ok q1.1 4000 = true then if pm_ok q1.1 4000 = true then if pm_ok a1 150 = true then if pm_ok q1.1 4000 = true then (F_Md_finish 3 q1.1.toInt64 g (wi (wj (wj (wi q1.2 115 q1.1.toNatClampNeg 0) 120 q1.1.toNatClampNeg a2.toInt64) 122 q1.1.toNatClampNeg ((q1.2.1 125 a1.toNatClampNeg).toInt64)) 64 103 ((q1.2.1 64 103) + 1))).bind fun q7 => some q7 else none else none else none else none else some q1.2
set_option maxHeartbeats 4000000 in
set_option maxRecDepth 100000 in
theorem c_Md_workFunction (l : Launch) (h0 : Nat) (D : pm_D) {g : pm_s} {u : pm_J} (hT : sh_T g) {a1 : Int32} {a2 : Int32} {out : pm_J} (h : F_Md_workFunction a1 a2 g u = some out) : pm_C l h0 D m_Md_workFunction (3) [.ref 64, .int a1, .int a2] (sm g u) none (sm g out) := by
  unfold F_Md_workFunction at h
  refine pm_met (by decide +kernel) (Nat.le_of_ble_eq_true rfl) (Nat.le_refl _) (Nat.le_refl _) ?_
  intro p e R s m args below meth c
  refine pm_blk (pc' := 1) (L' := [(0, .ref 64), (1, .int a1), (2, .int a2)]) (S' := [.ref 64]) (M' := sm g u) [pm_o (.aload_n 0)] (by decide +kernel) rfl ?_
  obtain ⟨q1, hq1, h⟩ := pm_bd h
  refine pm_cV (idx := 560) m_Md_make (c_Md_make l h0 D hT hq1) (As := []) (S0 := []) rfl (by decide +kernel) k_Md_make l_Md_560 (Nat.le_of_ble_eq_true rfl) (Nat.le_of_ble_eq_true rfl) (Nat.le_refl _) (Nat.le_refl _) ?_
  refine pm_blk (pc' := 9) (L' := [(3, .int q1.1), (0, .ref 64), (1, .int a1), (2, .int a2)]) (S' := [.int (q1.2.1 64 96)]) (M' := sm g q1.2) [pm_o (.istore_n 3), pm_o (.aload_n 0), pm_of (.getfield 533) 12 96 0] (by decide +kernel) rfl ?_
  refine pm_if_ne (off := 48) 57 (by decide +kernel) (by decide) (fun hc2 => ?_) (fun hc2 => ?_)
  · rw [if_neg hc2] at h
    have h9 := Option.some.inj h
    subst h9
    exact pm_retv rfl (by decide +kernel) rfl rfl
  · rw [if_pos hc2] at h
    refine pm_blk (pc' := 18) (L' := [(3, .int q1.1), (0, .ref 64), (1, .int a1), (2, .int a2)]) (S' := [.int 0, .int q1.1, .ref 115]) (M' := sm g q1.2) [pm_o (.aload_n 0), pm_of (.getfield 168) 12 73 2, pm_o (.iload_n 3), pm_oi (.iconst 0) 0] (by decide +kernel) rfl ?_
    obtain ⟨ho3, h⟩ := pm_ifs h
    refine pm_zast (by decide +kernel) rfl rfl (pm_ok_in ho3) ?_
    refine pm_blk (pc' := 26) (L' := [(3, .int q1.1), (0, .ref 64), (1, .int a1), (2, .int a2)]) (S' := [.long a2.toInt64, .int q1.1, .ref 120]) (M' := sm g (wi q1.2 115 q1.1.toNatClampNeg 0)) [pm_o (.aload_n 0), pm_of (.getfield 183) 12 78 2, pm_o (.iload_n 3), pm_o (.iload_n 2), pm_o .i2l] (by decide +kernel) rfl ?_
    obtain ⟨ho4, h⟩ := pm_ifs h
    refine pm_last (by decide +kernel) rfl  (pm_ok_in ho4) ?_
    refine pm_blk (pc' := 37) (L' := [(3, .int q1.1), (0, .ref 64), (1, .int a1), (2, .int a2)]) (S' := [.int a1, .ref 125, .int q1.1, .ref 122]) (M' := sm g (wj (wi q1.2 115 q1.1.toNatClampNeg 0) 120 q1.1.toNatClampNeg a2.toInt64)) [pm_o (.aload_n 0), pm_of (.getfield 189) 12 80 2, pm_o (.iload_n 3), pm_o (.aload_n 0), pm_of (.getfield 198) 12 84 2, pm_o (.iload_n 1)] (by decide +kernel) rfl ?_
    obtain ⟨ho5, h⟩ := pm_ifs h
    refine pm_iald (by decide +kernel) rfl (pm_ok_in ho5) ?_
    refine pm_blk (pc' := 39) (L' := [(3, .int q1.1), (0, .ref 64), (1, .int a1), (2, .int a2)]) (S' := [.long ((q1.2.1 125 a1.toNatClampNeg).toInt64), .int q1.1, .ref 122]) (M' := sm g (wj (wi q1.2 115 q1.1.toNatClampNeg 0) 120 q1.1.toNatClampNeg a2.toInt64)) [pm_o .i2l] (by decide +kernel) rfl ?_
    obtain ⟨ho6, h⟩ := pm_ifs h
    refine pm_last (by decide +kernel) rfl  (pm_ok_in ho6) ?_
    refine pm_blk (pc' := 54) (L' := [(3, .int q1.1), (0, .ref 64), (1, .int a1), (2, .int a2)]) (S' := [.long q1.1.toInt64, .int 3, .ref 64]) (M' := sm g (wi (wj (wj (wi q1.2 115 q1.1.toNatClampNeg 0) 120 q1.1.toNatClampNeg a2.toInt64) 122 q1.1.toNatClampNeg ((q1.2.1 125 a1.toNatClampNeg).toInt64)) 64 103 ((q1.2.1 64 103) + 1))) [pm_o (.aload_n 0), pm_o .dup, pm_of (.getfield 551) 12 103 0, pm_oi (.iconst 1) 1, pm_o .iadd, pm_of (.putfield 551) 12 103 0, pm_o (.aload_n 0), pm_oi (.iconst 3) 3, pm_o (.iload_n 3), pm_o .i2l] (by decide +kernel) rfl ?_
    obtain ⟨q7, hq7, h⟩ := pm_bd h
    refine pm_cV (idx := 631) m_Md_finish (c_Md_finish l h0 D hT hq7) (As := [.int 3, .long q1.1.toInt64]) (S0 := []) rfl (by decide +kernel) k_Md_finish l_Md_631 (Nat.le_of_ble_eq_true rfl) (Nat.le_of_ble_eq_true rfl) (Nat.le_refl _) (Nat.le_refl _) ?_
    refine pm_blk (pc' := 57) (L' := [(3, .int q1.1), (0, .ref 64), (1, .int a1), (2, .int a2)]) (S' := []) (M' := sm g q7) [] (by decide +kernel) rfl ?_
    have h9 := Option.some.inj h
    subst h9
    exact pm_retv rfl (by decide +kernel) rfl rfl
def K_Md_go_201 (N : Nat) (g : pm_s) (k0 : pm_J → Option (pm_J)) (x2 : Int32) (t0 : Int32) (u : pm_J) : Option (pm_J) := if pm_ok x2 2400 = true then if pm_ok (u.1 78 x2.toNatClampNeg) 902 = true then (F_Md_finish t0 (u.2 69 ((u.1 78 x2.toNatClampNeg).toNatClampNeg)) g u).bind fun q24 => k0  q24 else none else none
set_option maxHeartbeats 4000000 in
set_option maxRecDepth 100000 in
theorem w_Md_go_201 (l : Launch) (h0 : Nat) (D : pm_D) {g : pm_s} (hT : sh_T g) {N : Nat} {u0 : pm_J} {out : pm_J} {p : Program} {e : Env} {R : Room} {s : State} {m : MethodId} {args : Array Value} {below : List Frame} {meth : Method} {c : Code} {k0 : pm_J → Option (pm_J)} (hk0 : ∀  (u : pm_J), k0 u = some out → pm_V (p, l, e, R, s, m, args, below, meth, c) m_Md_go h0 D (g.1, g.2.1, g.1, g.2.1, 8) (pm_E (p, l, e, R, s, m, args, below, meth, c) h0 D (sm g u0) none (sm g out)) 0 [(0, .ref 64)] [] (sm g u)) : ∀ (x2 : Int32) (t0 : Int32) (u : pm_J), K_Md_go_201 N g k0 x2 t0 u = some out → pm_V (p, l, e, R, s, m, args, below, meth, c) m_Md_go h0 D (g.1, g.2.1, g.1, g.2.1, 8) (pm_E (p, l, e, R, s, m, args, below, meth, c) h0 D (sm g u0) none (sm g out)) 201 [(0, .ref 64), (2, .int x2)] [.int t0, .ref 64] (sm g u) := by
    intro x2 t0 u h
    unfold K_Md_go_201 at h
    refine pm_blk (pc' := 210) (L' := [(0, .ref 64), (2, .int x2)]) (S' := [.int x2, .ref 78, .ref 69, .int t0, .ref 64]) (M' := sm g u) [pm_o (.aload_n 0), pm_of (.getfield 26) 12 9 2, pm_o (.aload_n 0), pm_of (.getfield 56) 12 20 2, pm_o (.iload_n 2)] (by decide +kernel) rfl ?_
    obtain ⟨ho22, h⟩ := pm_ifs h
    refine pm_iald (by decide +kernel) rfl (pm_ok_in ho22) ?_
    refine pm_blk (pc' := 211) (L' := [(0, .ref 64), (2, .int x2)]) (S' := [.int (u.1 78 x2.toNatClampNeg), .ref 69, .int t0, .ref 64]) (M' := sm g u) [] (by decide +kernel) rfl ?_
    obtain ⟨ho23, h⟩ := pm_ifs h
    refine pm_lald (by decide +kernel) rfl (pm_ok_in ho23) ?_
    refine pm_blk (pc' := 212) (L' := [(0, .ref 64), (2, .int x2)]) (S' := [.long (u.2 69 ((u.1 78 x2.toNatClampNeg).toNatClampNeg)), .int t0, .ref 64]) (M' := sm g u) [] (by decide +kernel) rfl ?_
    obtain ⟨q24, hq24, h⟩ := pm_bd h
    refine pm_cV (idx := 631) m_Md_finish (c_Md_finish l h0 D hT hq24) (As := [.int t0, .long (u.2 69 ((u.1 78 x2.toNatClampNeg).toNatClampNeg))]) (S0 := []) rfl (by decide +kernel) k_Md_finish l_Md_631 (Nat.le_of_ble_eq_true rfl) (Nat.le_of_ble_eq_true rfl) (Nat.le_refl _) (Nat.le_refl _) ?_
    refine pm_blk (pc' := 215) (L' := [(0, .ref 64), (2, .int x2)]) (S' := []) (M' := sm g q24) [] (by decide +kernel) rfl ?_
    refine pm_goto (off := 54) 269 (by decide +kernel) (by decide) ?_
    refine pm_goto (off := -269) 0 (by decide +kernel) (by decide) ?_
    refine pm_loc [0] rfl ?_
    exact hk0  q24 h
def K_Md_go_184 (N : Nat) (g : pm_s) (k0 : pm_J → Option (pm_J)) (x2 : Int32) (u : pm_J) : Option (pm_J) := if pm_ok x2 2400 = true then if (u.1 77 x2.toNatClampNeg) = 12 then K_Md_go_201 N g k0 x2 0 u else K_Md_go_201 N g k0 x2 1 u else none
set_option maxHeartbeats 4000000 in
set_option maxRecDepth 100000 in
theorem w_Md_go_184 (l : Launch) (h0 : Nat) (D : pm_D) {g : pm_s} (hT : sh_T g) {N : Nat} {u0 : pm_J} {out : pm_J} {p : Program} {e : Env} {R : Room} {s : State} {m : MethodId} {args : Array Value} {below : List Frame} {meth : Method} {c : Code} {k0 : pm_J → Option (pm_J)} (hk0 : ∀  (u : pm_J), k0 u = some out → pm_V (p, l, e, R, s, m, args, below, meth, c) m_Md_go h0 D (g.1, g.2.1, g.1, g.2.1, 8) (pm_E (p, l, e, R, s, m, args, below, meth, c) h0 D (sm g u0) none (sm g out)) 0 [(0, .ref 64)] [] (sm g u)) : ∀ (x2 : Int32) (u : pm_J), K_Md_go_184 N g k0 x2 u = some out → pm_V (p, l, e, R, s, m, args, below, meth, c) m_Md_go h0 D (g.1, g.2.1, g.1, g.2.1, 8) (pm_E (p, l, e, R, s, m, args, below, meth, c) h0 D (sm g u0) none (sm g out)) 184 [(0, .ref 64), (2, .int x2)] [] (sm g u) := by
    intro x2 u h
    unfold K_Md_go_184 at h
    refine pm_blk (pc' := 190) (L' := [(0, .ref 64), (2, .int x2)]) (S' := [.int x2, .ref 77, .ref 64]) (M' := sm g u) [pm_o (.aload_n 0), pm_o (.aload_n 0), pm_of (.getfield 53) 12 19 2, pm_o (.iload_n 2)] (by decide +kernel) rfl ?_
    obtain ⟨ho20, h⟩ := pm_ifs h
    refine pm_iald (by decide +kernel) rfl (pm_ok_in ho20) ?_
    refine pm_blk (pc' := 193) (L' := [(0, .ref 64), (2, .int x2)]) (S' := [.int 12, .int (u.1 77 x2.toNatClampNeg), .ref 64]) (M' := sm g u) [pm_oi (.bipush 12) 12] (by decide +kernel) rfl ?_
    refine pm_ic_ne (off := 7) 200 (by decide +kernel) (by decide) (fun hc21 => ?_) (fun hc21 => ?_)
    · rw [if_neg hc21] at h
      refine pm_blk (pc' := 201) (L' := [(0, .ref 64), (2, .int x2)]) (S' := [.int 1, .ref 64]) (M' := sm g u) [pm_oi (.iconst 1) 1] (by decide +kernel) rfl ?_
      refine pm_loc [0, 1] rfl ?_
      exact w_Md_go_201 l h0 D hT hk0 x2 1 u h
    · rw [if_pos hc21] at h
      refine pm_blk (pc' := 197) (L' := [(0, .ref 64), (2, .int x2)]) (S' := [.int 0, .ref 64]) (M' := sm g u) [pm_oi (.iconst 0) 0] (by decide +kernel) rfl ?_
      refine pm_goto (off := 4) 201 (by decide +kernel) (by decide) ?_
      refine pm_loc [0, 1] rfl ?_
      exact w_Md_go_201 l h0 D hT hk0 x2 0 u h
def K_Md_go_0 (N : Nat) (g : pm_s) : Nat → pm_J → Option (pm_J)
  | 0, _ => none
  | n + 1, u => if (u.1 64 88) ≤ 0 then some u else if (u.1 64 96) = 0 then if pm_ok ((u.1 64 88) - 1) 150 = true then if pm_ok ((u.1 64 88) - 1) 150 = true then if (u.1 123 (((u.1 64 88) - 1).toNatClampNeg)) = 0 then if pm_ok (u.1 124 (((u.1 64 88) - 1).toNatClampNeg)) 2400 = true then if (u.1 77 ((u.1 124 (((u.1 64 88) - 1).toNatClampNeg)).toNatClampNeg)) = 1 then (F_Md_workName N ((u.1 64 88) - 1) (u.1 124 (((u.1 64 88) - 1).toNatClampNeg)) g u).bind fun q8 => K_Md_go_0 N g  n  q8 else if (u.1 77 ((u.1 124 (((u.1 64 88) - 1).toNatClampNeg)).toNatClampNeg)) = 4 then (F_Md_workChoice ((u.1 64 88) - 1) (u.1 124 (((u.1 64 88) - 1).toNatClampNeg)) g u).bind fun q10 => K_Md_go_0 N g  n  q10 else if (u.1 77 ((u.1 124 (((u.1 64 88) - 1).toNatClampNeg)).toNatClampNeg)) = 6 then (F_Md_workChoice ((u.1 64 88) - 1) (u.1 124 (((u.1 64 88) - 1).toNatClampNeg)) g u).bind fun q12 => K_Md_go_0 N g  n  q12 else if (u.1 77 ((u.1 124 (((u.1 64 88) - 1).toNatClampNeg)).toNatClampNeg)) = 9 then (F_Md_workFunction ((u.1 64 88) - 1) (u.1 124 (((u.1 64 88) - 1).toNatClampNeg)) g u).bind fun q14 => K_Md_go_0 N g  n  q14 else if (u.1 77 ((u.1 124 (((u.1 64 88) - 1).toNatClampNeg)).toNatClampNeg)) = 10 then (F_Md_workHalf ((u.1 64 88) - 1) (u.1 124 (((u.1 64 88) - 1).toNatClampNeg)) g u).bind fun q16 => K_Md_go_0 N g  n  q16 else if (u.1 77 ((u.1 124 (((u.1 64 88) - 1).toNatClampNeg)).toNatClampNeg)) = 11 then (F_Md_workHalf ((u.1 64 88) - 1) (u.1 124 (((u.1 64 88) - 1).toNatClampNeg)) g u).bind fun q18 => K_Md_go_0 N g  n  q18 else if (u.1 77 ((u.1 124 (((u.1 64 88) - 1).toNatClampNeg)).toNatClampNeg)) = 12 then K_Md_go_184 N g (K_Md_go_0 N g  n) (u.1 124 (((u.1 64 88) - 1).toNatClampNeg)) u else if (u.1 77 ((u.1 124 (((u.1 64 88) - 1).toNatClampNeg)).toNatClampNeg)) = 13 then K_Md_go_184 N g (K_Md_go_0 N g  n) (u.1 124 (((u.1 64 88) - 1).toNatClampNeg)) u else if (u.1 77 ((u.1 124 (((u.1 64 88) - 1).toNatClampNeg)).toNatClampNeg)) = 30 then (F_Md_workRow N ((u.1 64 88) - 1) (u.1 124 (((u.1 64 88) - 1).toNatClampNeg)) g u).bind fun q27 => K_Md_go_0 N g  n  q27 else (F_Md_workTwo N ((u.1 64 88) - 1) (u.1 124 (((u.1 64 88) - 1).toNatClampNeg)) g u).bind fun q28 => K_Md_go_0 N g  n  q28 else none else (F_Md_workCover N ((u.1 64 88) - 1) g u).bind fun q29 => K_Md_go_0 N g  n  q29 else none else none else some u
set_option maxHeartbeats 4000000 in
set_option maxRecDepth 100000 in
theorem w_Md_go_0 (l : Launch) (h0 : Nat) (D : pm_D) {g : pm_s} (hT : sh_T g) {N : Nat} {u0 : pm_J} {out : pm_J} {p : Program} {e : Env} {R : Room} {s : State} {m : MethodId} {args : Array Value} {below : List Frame} {meth : Method} {c : Code} : ∀ (n : Nat)  (u : pm_J), K_Md_go_0 N g n u = some out → pm_V (p, l, e, R, s, m, args, below, meth, c) m_Md_go h0 D (g.1, g.2.1, g.1, g.2.1, 8) (pm_E (p, l, e, R, s, m, args, below, meth, c) h0 D (sm g u0) none (sm g out)) 0 [(0, .ref 64)] [] (sm g u) := by
  intro n
  induction n with
  | zero => intro u h; cases h
  | succ n ih =>
    intro u h
    rw [K_Md_go_0] at h
    refine pm_blk (pc' := 4) (L' := [(0, .ref 64)]) (S' := [.int (u.1 64 88)]) (M' := sm g u) [pm_o (.aload_n 0), pm_of (.getfield 524) 12 88 0] (by decide +kernel) rfl ?_
    refine pm_if_le (off := 268) 272 (by decide +kernel) (by decide) (fun hc1 => ?_) (fun hc1 => ?_)
    · rw [if_pos hc1] at h
      have h9 := Option.some.inj h
      subst h9
      exact pm_retv rfl (by decide +kernel) rfl rfl
    · rw [if_neg hc1] at h
      refine pm_blk (pc' := 11) (L' := [(0, .ref 64)]) (S' := [.int (u.1 64 96)]) (M' := sm g u) [pm_o (.aload_n 0), pm_of (.getfield 533) 12 96 0] (by decide +kernel) rfl ?_
      refine pm_if_ne (off := 261) 272 (by decide +kernel) (by decide) (fun hc2 => ?_) (fun hc2 => ?_)
      · rw [if_neg hc2] at h
        have h9 := Option.some.inj h
        subst h9
        exact pm_retv rfl (by decide +kernel) rfl rfl
      · rw [if_pos hc2] at h
        refine pm_blk (pc' := 26) (L' := [(1, .int ((u.1 64 88) - 1)), (0, .ref 64)]) (S' := [.int ((u.1 64 88) - 1), .ref 124]) (M' := sm g u) [pm_o (.aload_n 0), pm_of (.getfield 524) 12 88 0, pm_oi (.iconst 1) 1, pm_o .isub, pm_o (.istore_n 1), pm_o (.aload_n 0), pm_of (.getfield 195) 12 83 2, pm_o (.iload_n 1)] (by decide +kernel) rfl ?_
        obtain ⟨ho3, h⟩ := pm_ifs h
        refine pm_iald (by decide +kernel) rfl (pm_ok_in ho3) ?_
        refine pm_blk (pc' := 33) (L' := [(2, .int (u.1 124 (((u.1 64 88) - 1).toNatClampNeg))), (1, .int ((u.1 64 88) - 1)), (0, .ref 64)]) (S' := [.int ((u.1 64 88) - 1), .ref 123]) (M' := sm g u) [pm_o (.istore_n 2), pm_o (.aload_n 0), pm_of (.getfield 192) 12 82 2, pm_o (.iload_n 1)] (by decide +kernel) rfl ?_
        obtain ⟨ho4, h⟩ := pm_ifs h
        refine pm_zald (by decide +kernel) rfl (pm_ok_in ho4) ?_
        refine pm_blk (pc' := 34) (L' := [(2, .int (u.1 124 (((u.1 64 88) - 1).toNatClampNeg))), (1, .int ((u.1 64 88) - 1)), (0, .ref 64)]) (S' := [.int (u.1 123 (((u.1 64 88) - 1).toNatClampNeg))]) (M' := sm g u) [] (by decide +kernel) rfl ?_
        refine pm_if_eq (off := 11) 45 (by decide +kernel) (by decide) (fun hc5 => ?_) (fun hc5 => ?_)
        · rw [if_pos hc5] at h
          refine pm_blk (pc' := 50) (L' := [(2, .int (u.1 124 (((u.1 64 88) - 1).toNatClampNeg))), (1, .int ((u.1 64 88) - 1)), (0, .ref 64)]) (S' := [.int (u.1 124 (((u.1 64 88) - 1).toNatClampNeg)), .ref 77]) (M' := sm g u) [pm_o (.aload_n 0), pm_of (.getfield 53) 12 19 2, pm_o (.iload_n 2)] (by decide +kernel) rfl ?_
          obtain ⟨ho6, h⟩ := pm_ifs h
          refine pm_iald (by decide +kernel) rfl (pm_ok_in ho6) ?_
          refine pm_blk (pc' := 51) (L' := [(2, .int (u.1 124 (((u.1 64 88) - 1).toNatClampNeg))), (1, .int ((u.1 64 88) - 1)), (0, .ref 64)]) (S' := [.int (u.1 77 ((u.1 124 (((u.1 64 88) - 1).toNatClampNeg)).toNatClampNeg))]) (M' := sm g u) [] (by decide +kernel) rfl ?_
          refine pm_tsw (dflt := 212) (lo := 1) (hi := 30) (offs := #[167, 212, 212, 185, 212, 185, 212, 212, 203, 194, 194, 133, 133, 212, 212, 212, 212, 212, 212, 212, 212, 212, 212, 212, 212, 212, 212, 212, 212, 176]) (len := 133) [(1, 218), (4, 236), (6, 236), (9, 254), (10, 245), (11, 245), (12, 184), (13, 184), (30, 227)] 263 (by decide +kernel) (by decide +kernel) ?_
          by_cases hs7 : (u.1 77 ((u.1 124 (((u.1 64 88) - 1).toNatClampNeg)).toNatClampNeg)) = 1
          · rw [if_pos hs7] at h
            rw [pm_sw_pos hs7]
            refine pm_blk (pc' := 221) (L' := [(2, .int (u.1 124 (((u.1 64 88) - 1).toNatClampNeg))), (1, .int ((u.1 64 88) - 1)), (0, .ref 64)]) (S' := [.int (u.1 124 (((u.1 64 88) - 1).toNatClampNeg)), .int ((u.1 64 88) - 1), .ref 64]) (M' := sm g u) [pm_o (.aload_n 0), pm_o (.iload_n 1), pm_o (.iload_n 2)] (by decide +kernel) rfl ?_
            obtain ⟨q8, hq8, h⟩ := pm_bd h
            refine pm_cV (idx := 655) m_Md_workName (c_Md_workName l h0 D hT hq8) (As := [.int ((u.1 64 88) - 1), .int (u.1 124 (((u.1 64 88) - 1).toNatClampNeg))]) (S0 := []) rfl (by decide +kernel) k_Md_workName l_Md_655 (Nat.le_of_ble_eq_true rfl) (Nat.le_of_ble_eq_true rfl) (Nat.le_refl _) (Nat.le_refl _) ?_
            refine pm_blk (pc' := 224) (L' := [(2, .int (u.1 124 (((u.1 64 88) - 1).toNatClampNeg))), (1, .int ((u.1 64 88) - 1)), (0, .ref 64)]) (S' := []) (M' := sm g q8) [] (by decide +kernel) rfl ?_
            refine pm_goto (off := 45) 269 (by decide +kernel) (by decide) ?_
            refine pm_goto (off := -269) 0 (by decide +kernel) (by decide) ?_
            refine pm_loc [2] rfl ?_
            exact ih  q8 h
          rw [if_neg hs7] at h
          rw [pm_sw_neg hs7]
          by_cases hs9 : (u.1 77 ((u.1 124 (((u.1 64 88) - 1).toNatClampNeg)).toNatClampNeg)) = 4
          · rw [if_pos hs9] at h
            rw [pm_sw_pos hs9]
            refine pm_blk (pc' := 239) (L' := [(2, .int (u.1 124 (((u.1 64 88) - 1).toNatClampNeg))), (1, .int ((u.1 64 88) - 1)), (0, .ref 64)]) (S' := [.int (u.1 124 (((u.1 64 88) - 1).toNatClampNeg)), .int ((u.1 64 88) - 1), .ref 64]) (M' := sm g u) [pm_o (.aload_n 0), pm_o (.iload_n 1), pm_o (.iload_n 2)] (by decide +kernel) rfl ?_
            obtain ⟨q10, hq10, h⟩ := pm_bd h
            refine pm_cV (idx := 661) m_Md_workChoice (c_Md_workChoice l h0 D hT hq10) (As := [.int ((u.1 64 88) - 1), .int (u.1 124 (((u.1 64 88) - 1).toNatClampNeg))]) (S0 := []) rfl (by decide +kernel) k_Md_workChoice l_Md_661 (Nat.le_of_ble_eq_true rfl) (Nat.le_of_ble_eq_true rfl) (Nat.le_refl _) (Nat.le_refl _) ?_
            refine pm_blk (pc' := 242) (L' := [(2, .int (u.1 124 (((u.1 64 88) - 1).toNatClampNeg))), (1, .int ((u.1 64 88) - 1)), (0, .ref 64)]) (S' := []) (M' := sm g q10) [] (by decide +kernel) rfl ?_
            refine pm_goto (off := 27) 269 (by decide +kernel) (by decide) ?_
            refine pm_goto (off := -269) 0 (by decide +kernel) (by decide) ?_
            refine pm_loc [2] rfl ?_
            exact ih  q10 h
          rw [if_neg hs9] at h
          rw [pm_sw_neg hs9]
          by_cases hs11 : (u.1 77 ((u.1 124 (((u.1 64 88) - 1).toNatClampNeg)).toNatClampNeg)) = 6
          · rw [if_pos hs11] at h
            rw [pm_sw_pos hs11]
            refine pm_blk (pc' := 239) (L' := [(2, .int (u.1 124 (((u.1 64 88) - 1).toNatClampNeg))), (1, .int ((u.1 64 88) - 1)), (0, .ref 64)]) (S' := [.int (u.1 124 (((u.1 64 88) - 1).toNatClampNeg)), .int ((u.1 64 88) - 1), .ref 64]) (M' := sm g u) [pm_o (.aload_n 0), pm_o (.iload_n 1), pm_o (.iload_n 2)] (by decide +kernel) rfl ?_
            obtain ⟨q12, hq12, h⟩ := pm_bd h
            refine pm_cV (idx := 661) m_Md_workChoice (c_Md_workChoice l h0 D hT hq12) (As := [.int ((u.1 64 88) - 1), .int (u.1 124 (((u.1 64 88) - 1).toNatClampNeg))]) (S0 := []) rfl (by decide +kernel) k_Md_workChoice l_Md_661 (Nat.le_of_ble_eq_true rfl) (Nat.le_of_ble_eq_true rfl) (Nat.le_refl _) (Nat.le_refl _) ?_
            refine pm_blk (pc' := 242) (L' := [(2, .int (u.1 124 (((u.1 64 88) - 1).toNatClampNeg))), (1, .int ((u.1 64 88) - 1)), (0, .ref 64)]) (S' := []) (M' := sm g q12) [] (by decide +kernel) rfl ?_
            refine pm_goto (off := 27) 269 (by decide +kernel) (by decide) ?_
            refine pm_goto (off := -269) 0 (by decide +kernel) (by decide) ?_
            refine pm_loc [2] rfl ?_
            exact ih  q12 h
          rw [if_neg hs11] at h
          rw [pm_sw_neg hs11]
          by_cases hs13 : (u.1 77 ((u.1 124 (((u.1 64 88) - 1).toNatClampNeg)).toNatClampNeg)) = 9
          · rw [if_pos hs13] at h
            rw [pm_sw_pos hs13]
            refine pm_blk (pc' := 257) (L' := [(2, .int (u.1 124 (((u.1 64 88) - 1).toNatClampNeg))), (1, .int ((u.1 64 88) - 1)), (0, .ref 64)]) (S' := [.int (u.1 124 (((u.1 64 88) - 1).toNatClampNeg)), .int ((u.1 64 88) - 1), .ref 64]) (M' := sm g u) [pm_o (.aload_n 0), pm_o (.iload_n 1), pm_o (.iload_n 2)] (by decide +kernel) rfl ?_
            obtain ⟨q14, hq14, h⟩ := pm_bd h
            refine pm_cV (idx := 667) m_Md_workFunction (c_Md_workFunction l h0 D hT hq14) (As := [.int ((u.1 64 88) - 1), .int (u.1 124 (((u.1 64 88) - 1).toNatClampNeg))]) (S0 := []) rfl (by decide +kernel) k_Md_workFunction l_Md_667 (Nat.le_of_ble_eq_true rfl) (Nat.le_of_ble_eq_true rfl) (Nat.le_refl _) (Nat.le_refl _) ?_
            refine pm_blk (pc' := 260) (L' := [(2, .int (u.1 124 (((u.1 64 88) - 1).toNatClampNeg))), (1, .int ((u.1 64 88) - 1)), (0, .ref 64)]) (S' := []) (M' := sm g q14) [] (by decide +kernel) rfl ?_
            refine pm_goto (off := 9) 269 (by decide +kernel) (by decide) ?_
            refine pm_goto (off := -269) 0 (by decide +kernel) (by decide) ?_
            refine pm_loc [2] rfl ?_
            exact ih  q14 h
          rw [if_neg hs13] at h
          rw [pm_sw_neg hs13]
          by_cases hs15 : (u.1 77 ((u.1 124 (((u.1 64 88) - 1).toNatClampNeg)).toNatClampNeg)) = 10
          · rw [if_pos hs15] at h
            rw [pm_sw_pos hs15]
            refine pm_blk (pc' := 248) (L' := [(2, .int (u.1 124 (((u.1 64 88) - 1).toNatClampNeg))), (1, .int ((u.1 64 88) - 1)), (0, .ref 64)]) (S' := [.int (u.1 124 (((u.1 64 88) - 1).toNatClampNeg)), .int ((u.1 64 88) - 1), .ref 64]) (M' := sm g u) [pm_o (.aload_n 0), pm_o (.iload_n 1), pm_o (.iload_n 2)] (by decide +kernel) rfl ?_
            obtain ⟨q16, hq16, h⟩ := pm_bd h
            refine pm_cV (idx := 664) m_Md_workHalf (c_Md_workHalf l h0 D hT hq16) (As := [.int ((u.1 64 88) - 1), .int (u.1 124 (((u.1 64 88) - 1).toNatClampNeg))]) (S0 := []) rfl (by decide +kernel) k_Md_workHalf l_Md_664 (Nat.le_of_ble_eq_true rfl) (Nat.le_of_ble_eq_true rfl) (Nat.le_refl _) (Nat.le_refl _) ?_
            refine pm_blk (pc' := 251) (L' := [(2, .int (u.1 124 (((u.1 64 88) - 1).toNatClampNeg))), (1, .int ((u.1 64 88) - 1)), (0, .ref 64)]) (S' := []) (M' := sm g q16) [] (by decide +kernel) rfl ?_
            refine pm_goto (off := 18) 269 (by decide +kernel) (by decide) ?_
            refine pm_goto (off := -269) 0 (by decide +kernel) (by decide) ?_
            refine pm_loc [2] rfl ?_
            exact ih  q16 h
          rw [if_neg hs15] at h
          rw [pm_sw_neg hs15]
          by_cases hs17 : (u.1 77 ((u.1 124 (((u.1 64 88) - 1).toNatClampNeg)).toNatClampNeg)) = 11
          · rw [if_pos hs17] at h
            rw [pm_sw_pos hs17]
            refine pm_blk (pc' := 248) (L' := [(2, .int (u.1 124 (((u.1 64 88) - 1).toNatClampNeg))), (1, .int ((u.1 64 88) - 1)), (0, .ref 64)]) (S' := [.int (u.1 124 (((u.1 64 88) - 1).toNatClampNeg)), .int ((u.1 64 88) - 1), .ref 64]) (M' := sm g u) [pm_o (.aload_n 0), pm_o (.iload_n 1), pm_o (.iload_n 2)] (by decide +kernel) rfl ?_
            obtain ⟨q18, hq18, h⟩ := pm_bd h
            refine pm_cV (idx := 664) m_Md_workHalf (c_Md_workHalf l h0 D hT hq18) (As := [.int ((u.1 64 88) - 1), .int (u.1 124 (((u.1 64 88) - 1).toNatClampNeg))]) (S0 := []) rfl (by decide +kernel) k_Md_workHalf l_Md_664 (Nat.le_of_ble_eq_true rfl) (Nat.le_of_ble_eq_true rfl) (Nat.le_refl _) (Nat.le_refl _) ?_
            refine pm_blk (pc' := 251) (L' := [(2, .int (u.1 124 (((u.1 64 88) - 1).toNatClampNeg))), (1, .int ((u.1 64 88) - 1)), (0, .ref 64)]) (S' := []) (M' := sm g q18) [] (by decide +kernel) rfl ?_
            refine pm_goto (off := 18) 269 (by decide +kernel) (by decide) ?_
            refine pm_goto (off := -269) 0 (by decide +kernel) (by decide) ?_
            refine pm_loc [2] rfl ?_
            exact ih  q18 h
          rw [if_neg hs17] at h
          rw [pm_sw_neg hs17]
          by_cases hs19 : (u.1 77 ((u.1 124 (((u.1 64 88) - 1).toNatClampNeg)).toNatClampNeg)) = 12
          · rw [if_pos hs19] at h
            rw [pm_sw_pos hs19]
            refine pm_loc [2, 0] rfl ?_
            exact w_Md_go_184 l h0 D hT ih (u.1 124 (((u.1 64 88) - 1).toNatClampNeg)) u h
          rw [if_neg hs19] at h
          rw [pm_sw_neg hs19]
          by_cases hs25 : (u.1 77 ((u.1 124 (((u.1 64 88) - 1).toNatClampNeg)).toNatClampNeg)) = 13
          · rw [if_pos hs25] at h
            rw [pm_sw_pos hs25]
            refine pm_loc [2, 0] rfl ?_
            exact w_Md_go_184 l h0 D hT ih (u.1 124 (((u.1 64 88) - 1).toNatClampNeg)) u h
          rw [if_neg hs25] at h
          rw [pm_sw_neg hs25]
          by_cases hs26 : (u.1 77 ((u.1 124 (((u.1 64 88) - 1).toNatClampNeg)).toNatClampNeg)) = 30
          · rw [if_pos hs26] at h
            rw [pm_sw_pos hs26]
            refine pm_blk (pc' := 230) (L' := [(2, .int (u.1 124 (((u.1 64 88) - 1).toNatClampNeg))), (1, .int ((u.1 64 88) - 1)), (0, .ref 64)]) (S' := [.int (u.1 124 (((u.1 64 88) - 1).toNatClampNeg)), .int ((u.1 64 88) - 1), .ref 64]) (M' := sm g u) [pm_o (.aload_n 0), pm_o (.iload_n 1), pm_o (.iload_n 2)] (by decide +kernel) rfl ?_
            obtain ⟨q27, hq27, h⟩ := pm_bd h
            refine pm_cV (idx := 658) m_Md_workRow (c_Md_workRow l h0 D hT hq27) (As := [.int ((u.1 64 88) - 1), .int (u.1 124 (((u.1 64 88) - 1).toNatClampNeg))]) (S0 := []) rfl (by decide +kernel) k_Md_workRow l_Md_658 (Nat.le_of_ble_eq_true rfl) (Nat.le_of_ble_eq_true rfl) (Nat.le_refl _) (Nat.le_refl _) ?_
            refine pm_blk (pc' := 233) (L' := [(2, .int (u.1 124 (((u.1 64 88) - 1).toNatClampNeg))), (1, .int ((u.1 64 88) - 1)), (0, .ref 64)]) (S' := []) (M' := sm g q27) [] (by decide +kernel) rfl ?_
            refine pm_goto (off := 36) 269 (by decide +kernel) (by decide) ?_
            refine pm_goto (off := -269) 0 (by decide +kernel) (by decide) ?_
            refine pm_loc [2] rfl ?_
            exact ih  q27 h
          rw [if_neg hs26] at h
          rw [pm_sw_neg hs26]
          refine pm_pc (pc' := 263) rfl ?_
          refine pm_blk (pc' := 266) (L' := [(2, .int (u.1 124 (((u.1 64 88) - 1).toNatClampNeg))), (1, .int ((u.1 64 88) - 1)), (0, .ref 64)]) (S' := [.int (u.1 124 (((u.1 64 88) - 1).toNatClampNeg)), .int ((u.1 64 88) - 1), .ref 64]) (M' := sm g u) [pm_o (.aload_n 0), pm_o (.iload_n 1), pm_o (.iload_n 2)] (by decide +kernel) rfl ?_
          obtain ⟨q28, hq28, h⟩ := pm_bd h
          refine pm_cV (idx := 670) m_Md_workTwo (c_Md_workTwo l h0 D hT hq28) (As := [.int ((u.1 64 88) - 1), .int (u.1 124 (((u.1 64 88) - 1).toNatClampNeg))]) (S0 := []) rfl (by decide +kernel) k_Md_workTwo l_Md_670 (Nat.le_of_ble_eq_true rfl) (Nat.le_of_ble_eq_true rfl) (Nat.le_refl _) (Nat.le_refl _) ?_
          refine pm_blk (pc' := 269) (L' := [(2, .int (u.1 124 (((u.1 64 88) - 1).toNatClampNeg))), (1, .int ((u.1 64 88) - 1)), (0, .ref 64)]) (S' := []) (M' := sm g q28) [] (by decide +kernel) rfl ?_
          refine pm_goto (off := -269) 0 (by decide +kernel) (by decide) ?_
          refine pm_loc [2] rfl ?_
          exact ih  q28 h
        · rw [if_neg hc5] at h
          refine pm_blk (pc' := 39) (L' := [(2, .int (u.1 124 (((u.1 64 88) - 1).toNatClampNeg))), (1, .int ((u.1 64 88) - 1)), (0, .ref 64)]) (S' := [.int ((u.1 64 88) - 1), .ref 64]) (M' := sm g u) [pm_o (.aload_n 0), pm_o (.iload_n 1)] (by decide +kernel) rfl ?_
          obtain ⟨q29, hq29, h⟩ := pm_bd h
          refine pm_cV (idx := 652) m_Md_workCover (c_Md_workCover l h0 D hT hq29) (As := [.int ((u.1 64 88) - 1)]) (S0 := []) rfl (by decide +kernel) k_Md_workCover l_Md_652 (Nat.le_of_ble_eq_true rfl) (Nat.le_of_ble_eq_true rfl) (Nat.le_refl _) (Nat.le_refl _) ?_
          refine pm_blk (pc' := 42) (L' := [(2, .int (u.1 124 (((u.1 64 88) - 1).toNatClampNeg))), (1, .int ((u.1 64 88) - 1)), (0, .ref 64)]) (S' := []) (M' := sm g q29) [] (by decide +kernel) rfl ?_
          refine pm_goto (off := 227) 269 (by decide +kernel) (by decide) ?_
          refine pm_goto (off := -269) 0 (by decide +kernel) (by decide) ?_
          refine pm_loc [2] rfl ?_
          exact ih  q29 h
def F_Md_go (N : Nat) (g : pm_s) (u : pm_J) : Option (pm_J) := K_Md_go_0 N g N  u
set_option maxHeartbeats 4000000 in
set_option maxRecDepth 100000 in
theorem c_Md_go (l : Launch) (h0 : Nat) (D : pm_D) {g : pm_s} {u : pm_J} (hT : sh_T g) {N : Nat} {out : pm_J} (h : F_Md_go N g u = some out) : pm_C l h0 D m_Md_go (8) [.ref 64] (sm g u) none (sm g out) := by
  unfold F_Md_go at h
  refine pm_met (by decide +kernel) (Nat.le_of_ble_eq_true rfl) (Nat.le_refl _) (Nat.le_refl _) ?_
  intro p e R s m args below meth c
  refine pm_blk (pc' := 0) (L' := [(0, .ref 64)]) (S' := []) (M' := sm g u) [] (by decide +kernel) rfl ?_
  refine pm_loc [0] rfl ?_
  exact w_Md_go_0 l h0 D hT N  u h
def K_Md_argument_15 (N : Nat) (g : pm_s) (y1 : Int64) (t0 : Int32) (u : pm_J) : Option (Int32 × pm_J) := if t0 ≤ 0 then if pm_ok (u.1 64 107) 6 = true then some ((u.1 64 107) + 1, (wi (wj (wi u 64 2 t0) 131 ((u.1 64 107).toNatClampNeg) y1) 64 107 ((u.1 64 107) + 1))) else none else some (0, (wi u 64 2 t0))
set_option maxHeartbeats 4000000 in
set_option maxRecDepth 100000 in
theorem w_Md_argument_15 (l : Launch) (h0 : Nat) (D : pm_D) {g : pm_s} (hT : sh_T g) {N : Nat} {u0 : pm_J} {out : Int32 × pm_J} {p : Program} {e : Env} {R : Room} {s : State} {m : MethodId} {args : Array Value} {below : List Frame} {meth : Method} {c : Code} : ∀ (y1 : Int64) (t0 : Int32) (u : pm_J), K_Md_argument_15 N g y1 t0 u = some out → pm_V (p, l, e, R, s, m, args, below, meth, c) m_Md_argument h0 D (g.1, g.2.1, g.1, g.2.1, 0) (pm_E (p, l, e, R, s, m, args, below, meth, c) h0 D (sm g u0) (some (.int out.1)) (sm g out.2)) 15 [(0, .ref 64), (1, .long y1)] [.int t0, .ref 64] (sm g u) := by
    intro y1 t0 u h
    unfold K_Md_argument_15 at h
    refine pm_blk (pc' := 22) (L' := [(0, .ref 64), (1, .long y1)]) (S' := [.int t0]) (M' := sm g (wi u 64 2 t0)) [pm_of (.putfield 246) 12 2 0, pm_o (.aload_n 0), pm_of (.getfield 246) 12 2 0] (by decide +kernel) rfl ?_
    refine pm_if_le (off := 5) 27 (by decide +kernel) (by decide) (fun hc2 => ?_) (fun hc2 => ?_)
    · rw [if_pos hc2] at h
      refine pm_blk (pc' := 36) (L' := [(0, .ref 64), (1, .long y1)]) (S' := [.long y1, .int (u.1 64 107), .ref 131]) (M' := sm g (wi u 64 2 t0)) [pm_o (.aload_n 0), pm_of (.getfield 216) 12 106 2, pm_o (.aload_n 0), pm_of (.getfield 259) 12 107 0, pm_o (.lload_n 1)] (by decide +kernel) rfl ?_
      obtain ⟨ho3, h⟩ := pm_ifs h
      refine pm_last (by decide +kernel) rfl  (pm_ok_in ho3) ?_
      refine pm_blk (pc' := 51) (L' := [(0, .ref 64), (1, .long y1)]) (S' := [.int ((u.1 64 107) + 1)]) (M' := sm g (wi (wj (wi u 64 2 t0) 131 ((u.1 64 107).toNatClampNeg) y1) 64 107 ((u.1 64 107) + 1))) [pm_o (.aload_n 0), pm_o .dup, pm_of (.getfield 259) 12 107 0, pm_oi (.iconst 1) 1, pm_o .iadd, pm_of (.putfield 259) 12 107 0, pm_o (.aload_n 0), pm_of (.getfield 259) 12 107 0] (by decide +kernel) rfl ?_
      have h9 := Option.some.inj h
      subst h9
      exact pm_reti rfl (by decide +kernel) rfl rfl rfl
    · rw [if_neg hc2] at h
      refine pm_blk (pc' := 26) (L' := [(0, .ref 64), (1, .long y1)]) (S' := [.int 0]) (M' := sm g (wi u 64 2 t0)) [pm_oi (.iconst 0) 0] (by decide +kernel) rfl ?_
      have h9 := Option.some.inj h
      subst h9
      exact pm_reti rfl (by decide +kernel) rfl rfl rfl
def F_Md_argument (N : Nat) (a1 : Int64) (g : pm_s) (u : pm_J) : Option (Int32 × pm_J) := if (u.1 64 107) = 6 then K_Md_argument_15 N g a1 1 u else K_Md_argument_15 N g a1 0 u
set_option maxHeartbeats 4000000 in
set_option maxRecDepth 100000 in
theorem c_Md_argument (l : Launch) (h0 : Nat) (D : pm_D) {g : pm_s} {u : pm_J} (hT : sh_T g) {N : Nat} {a1 : Int64} {out : Int32 × pm_J} (h : F_Md_argument N a1 g u = some out) : pm_C l h0 D m_Md_argument (0) [.ref 64, .long a1] (sm g u) (some (.int out.1)) (sm g out.2) := by
  unfold F_Md_argument at h
  refine pm_met (by decide +kernel) (Nat.le_of_ble_eq_true rfl) (Nat.le_refl _) (Nat.le_refl _) ?_
  intro p e R s m args below meth c
  refine pm_blk (pc' := 7) (L' := [(0, .ref 64), (1, .long a1)]) (S' := [.int 6, .int (u.1 64 107), .ref 64]) (M' := sm g u) [pm_o (.aload_n 0), pm_o (.aload_n 0), pm_of (.getfield 259) 12 107 0, pm_oi (.bipush 6) 6] (by decide +kernel) rfl ?_
  refine pm_ic_ne (off := 7) 14 (by decide +kernel) (by decide) (fun hc1 => ?_) (fun hc1 => ?_)
  · rw [if_neg hc1] at h
    refine pm_blk (pc' := 15) (L' := [(0, .ref 64), (1, .long a1)]) (S' := [.int 0, .ref 64]) (M' := sm g u) [pm_oi (.iconst 0) 0] (by decide +kernel) rfl ?_
    refine pm_loc [0, 1] rfl ?_
    exact w_Md_argument_15 l h0 D hT a1 0 u h
  · rw [if_pos hc1] at h
    refine pm_blk (pc' := 11) (L' := [(0, .ref 64), (1, .long a1)]) (S' := [.int 1, .ref 64]) (M' := sm g u) [pm_oi (.iconst 1) 1] (by decide +kernel) rfl ?_
    refine pm_goto (off := 4) 15 (by decide +kernel) (by decide) ?_
    refine pm_loc [0, 1] rfl ?_
    exact w_Md_argument_15 l h0 D hT a1 1 u h
