def K_Md_run_234 (N : Nat) (g : pm_s) (t0 : Int32) (u : pm_J) : Option (Int32 × pm_J) := if (t0 == 0 || t0 == 1) = true then if t0 = 0 then some (u.1 64 96, (wi u 64 105 t0)) else some (1, (wi u 64 105 t0)) else none
set_option maxHeartbeats 4000000 in
set_option maxRecDepth 100000 in
theorem w_Md_run_234 (l : Launch) (h0 : Nat) (D : pm_D) {g : pm_s} (hT : sh_T g) {N : Nat} {u0 : pm_J} {out : Int32 × pm_J} {p : Program} {e : Env} {R : Room} {s : State} {m : MethodId} {args : Array Value} {below : List Frame} {meth : Method} {c : Code} : ∀ (t0 : Int32) (u : pm_J), K_Md_run_234 N g t0 u = some out → pm_V (p, l, e, R, s, m, args, below, meth, c) m_Md_run h0 D (g.1, g.2.1, g.1, g.2.1, 9) (pm_E (p, l, e, R, s, m, args, below, meth, c) h0 D (sm g u0) (some (.int out.1)) (sm g out.2)) 234 [(0, .ref 64)] [.int t0, .ref 64] (sm g u) := by
    intro t0 u h
    unfold K_Md_run_234 at h
    obtain ⟨hz16, h⟩ := pm_ifs h
    refine pm_puti (idx := 557) (v1 := 0) (v2 := 0) (ci := 12) (k := 105) (t := 3) (by decide +kernel) (by decide +kernel) rfl (Or.inr ⟨rfl, hz16⟩) ?_
    refine pm_blk (pc' := 241) (L' := [(0, .ref 64)]) (S' := [.int t0]) (M' := sm g (wi u 64 105 t0)) [pm_o (.aload_n 0), pm_of (.getfield 557) 12 105 3] (by decide +kernel) rfl ?_
    refine pm_if_eq (off := 7) 248 (by decide +kernel) (by decide) (fun hc17 => ?_) (fun hc17 => ?_)
    · rw [if_pos hc17] at h
      refine pm_blk (pc' := 252) (L' := [(0, .ref 64)]) (S' := [.int (u.1 64 96)]) (M' := sm g (wi u 64 105 t0)) [pm_o (.aload_n 0), pm_of (.getfield 533) 12 96 0] (by decide +kernel) rfl ?_
      have h9 := Option.some.inj h
      subst h9
      exact pm_reti rfl (by decide +kernel) rfl rfl rfl
    · rw [if_neg hc17] at h
      refine pm_blk (pc' := 245) (L' := [(0, .ref 64)]) (S' := [.int 1]) (M' := sm g (wi u 64 105 t0)) [pm_oi (.iconst 1) 1] (by decide +kernel) rfl ?_
      refine pm_goto (off := 7) 252 (by decide +kernel) (by decide) ?_
      have h9 := Option.some.inj h
      subst h9
      exact pm_reti rfl (by decide +kernel) rfl rfl rfl
def K_Md_run_146 (N : Nat) (g : pm_s) : Nat → Int32 → Int32 → Int32 → pm_J → Option (Int32 × pm_J)
  | 0, _, _, _, _ => none
  | n + 1, x1, x5, x6, u => if (u.1 64 107) ≤ x6 then if pm_ok x1 30 = true then (F_Md_begin (u.1 96 x1.toNatClampNeg) x5 g (wi u 64 107 0)).bind fun q13 => (F_Md_go N g q13).bind fun q14 => if (q14.1 64 96) = 0 then K_Md_run_234 N g 1 q14 else K_Md_run_234 N g 0 q14 else none else if pm_ok ((6 * x1) + x6) 180 = true then if pm_ok (x5 + x6) 60000 = true then if pm_ok x6 6 = true then if pm_ok (x5 + x6) 60000 = true then K_Md_run_146 N g  n x1 x5 (x6 + 1) (wj (wi u 113 ((x5 + x6).toNatClampNeg) (u.1 99 (((6 * x1) + x6).toNatClampNeg))) 114 ((x5 + x6).toNatClampNeg) (u.2 131 x6.toNatClampNeg)) else none else none else none else none
set_option maxHeartbeats 4000000 in
set_option maxRecDepth 100000 in
theorem w_Md_run_146 (l : Launch) (h0 : Nat) (D : pm_D) {g : pm_s} (hT : sh_T g) {N : Nat} {u0 : pm_J} {out : Int32 × pm_J} {p : Program} {e : Env} {R : Room} {s : State} {m : MethodId} {args : Array Value} {below : List Frame} {meth : Method} {c : Code} : ∀ (n : Nat) (x1 : Int32) (x5 : Int32) (x6 : Int32) (u : pm_J), K_Md_run_146 N g n x1 x5 x6 u = some out → pm_V (p, l, e, R, s, m, args, below, meth, c) m_Md_run h0 D (g.1, g.2.1, g.1, g.2.1, 9) (pm_E (p, l, e, R, s, m, args, below, meth, c) h0 D (sm g u0) (some (.int out.1)) (sm g out.2)) 146 [(0, .ref 64), (1, .int x1), (5, .int x5), (6, .int x6)] [] (sm g u) := by
  intro n
  induction n with
  | zero => intro x1 x5 x6 u h; cases h
  | succ n ih =>
    intro x1 x5 x6 u h
    rw [K_Md_run_146] at h
    refine pm_blk (pc' := 152) (L' := [(0, .ref 64), (1, .int x1), (5, .int x5), (6, .int x6)]) (S' := [.int (u.1 64 107), .int x6]) (M' := sm g u) [pm_o (.iload 6), pm_o (.aload_n 0), pm_of (.getfield 259) 12 107 0] (by decide +kernel) rfl ?_
    refine pm_ic_ge (off := 48) 200 (by decide +kernel) (by decide) (fun hc11 => ?_) (fun hc11 => ?_)
    · rw [if_pos hc11] at h
      refine pm_blk (pc' := 211) (L' := [(0, .ref 64), (1, .int x1), (5, .int x5), (6, .int x6)]) (S' := [.int x1, .ref 96, .ref 64]) (M' := sm g (wi u 64 107 0)) [pm_o (.aload_n 0), pm_oi (.iconst 0) 0, pm_of (.putfield 259) 12 107 0, pm_o (.aload_n 0), pm_o (.aload_n 0), pm_of (.getfield 110) 12 39 2, pm_o (.iload_n 1)] (by decide +kernel) rfl ?_
      obtain ⟨ho12, h⟩ := pm_ifs h
      refine pm_iald (by decide +kernel) rfl (pm_ok_in ho12) ?_
      refine pm_blk (pc' := 214) (L' := [(0, .ref 64), (1, .int x1), (5, .int x5), (6, .int x6)]) (S' := [.int x5, .int (u.1 96 x1.toNatClampNeg), .ref 64]) (M' := sm g (wi u 64 107 0)) [pm_o (.iload 5)] (by decide +kernel) rfl ?_
      obtain ⟨q13, hq13, h⟩ := pm_bd h
      refine pm_cV (idx := 619) m_Md_begin (c_Md_begin l h0 D hT hq13) (As := [.int (u.1 96 x1.toNatClampNeg), .int x5]) (S0 := []) rfl (by decide +kernel) k_Md_begin l_Md_619 (Nat.le_of_ble_eq_true rfl) (Nat.le_of_ble_eq_true rfl) (Nat.le_refl _) (Nat.le_refl _) ?_
      refine pm_blk (pc' := 218) (L' := [(0, .ref 64), (1, .int x1), (5, .int x5), (6, .int x6)]) (S' := [.ref 64]) (M' := sm g q13) [pm_o (.aload_n 0)] (by decide +kernel) rfl ?_
      obtain ⟨q14, hq14, h⟩ := pm_bd h
      refine pm_cV (idx := 673) m_Md_go (c_Md_go l h0 D hT hq14) (As := []) (S0 := []) rfl (by decide +kernel) k_Md_go l_Md_673 (Nat.le_of_ble_eq_true rfl) (Nat.le_of_ble_eq_true rfl) (Nat.le_refl _) (Nat.le_refl _) ?_
      refine pm_blk (pc' := 226) (L' := [(0, .ref 64), (1, .int x1), (5, .int x5), (6, .int x6)]) (S' := [.int (q14.1 64 96), .ref 64]) (M' := sm g q14) [pm_o (.aload_n 0), pm_o (.aload_n 0), pm_of (.getfield 533) 12 96 0] (by decide +kernel) rfl ?_
      refine pm_if_ne (off := 7) 233 (by decide +kernel) (by decide) (fun hc15 => ?_) (fun hc15 => ?_)
      · rw [if_neg hc15] at h
        refine pm_blk (pc' := 234) (L' := [(0, .ref 64), (1, .int x1), (5, .int x5), (6, .int x6)]) (S' := [.int 0, .ref 64]) (M' := sm g q14) [pm_oi (.iconst 0) 0] (by decide +kernel) rfl ?_
        refine pm_loc [0] rfl ?_
        exact w_Md_run_234 l h0 D hT 0 q14 h
      · rw [if_pos hc15] at h
        refine pm_blk (pc' := 230) (L' := [(0, .ref 64), (1, .int x1), (5, .int x5), (6, .int x6)]) (S' := [.int 1, .ref 64]) (M' := sm g q14) [pm_oi (.iconst 1) 1] (by decide +kernel) rfl ?_
        refine pm_goto (off := 4) 234 (by decide +kernel) (by decide) ?_
        refine pm_loc [0] rfl ?_
        exact w_Md_run_234 l h0 D hT 1 q14 h
    · rw [if_neg hc11] at h
      refine pm_blk (pc' := 175) (L' := [(0, .ref 64), (1, .int x1), (5, .int x5), (6, .int x6)]) (S' := [.int ((6 * x1) + x6), .ref 99, .int (x5 + x6), .ref 113]) (M' := sm g u) [pm_o (.aload_n 0), pm_of (.getfield 162) 12 70 2, pm_o (.iload 5), pm_o (.iload 6), pm_o .iadd, pm_o (.aload_n 0), pm_of (.getfield 119) 12 42 2, pm_oi (.bipush 6) 6, pm_o (.iload_n 1), pm_o .imul, pm_o (.iload 6), pm_o .iadd] (by decide +kernel) rfl ?_
      obtain ⟨ho18, h⟩ := pm_ifs h
      refine pm_iald (by decide +kernel) rfl (pm_ok_in ho18) ?_
      refine pm_blk (pc' := 176) (L' := [(0, .ref 64), (1, .int x1), (5, .int x5), (6, .int x6)]) (S' := [.int (u.1 99 (((6 * x1) + x6).toNatClampNeg)), .int (x5 + x6), .ref 113]) (M' := sm g u) [] (by decide +kernel) rfl ?_
      obtain ⟨ho19, h⟩ := pm_ifs h
      refine pm_iast (by decide +kernel) rfl  (pm_ok_in ho19) ?_
      refine pm_blk (pc' := 192) (L' := [(0, .ref 64), (1, .int x1), (5, .int x5), (6, .int x6)]) (S' := [.int x6, .ref 131, .int (x5 + x6), .ref 114]) (M' := sm g (wi u 113 ((x5 + x6).toNatClampNeg) (u.1 99 (((6 * x1) + x6).toNatClampNeg)))) [pm_o (.aload_n 0), pm_of (.getfield 165) 12 71 2, pm_o (.iload 5), pm_o (.iload 6), pm_o .iadd, pm_o (.aload_n 0), pm_of (.getfield 216) 12 106 2, pm_o (.iload 6)] (by decide +kernel) rfl ?_
      obtain ⟨ho20, h⟩ := pm_ifs h
      refine pm_lald (by decide +kernel) rfl (pm_ok_in ho20) ?_
      refine pm_blk (pc' := 193) (L' := [(0, .ref 64), (1, .int x1), (5, .int x5), (6, .int x6)]) (S' := [.long (u.2 131 x6.toNatClampNeg), .int (x5 + x6), .ref 114]) (M' := sm g (wi u 113 ((x5 + x6).toNatClampNeg) (u.1 99 (((6 * x1) + x6).toNatClampNeg)))) [] (by decide +kernel) rfl ?_
      obtain ⟨ho21, h⟩ := pm_ifs h
      refine pm_last (by decide +kernel) rfl  (pm_ok_in ho21) ?_
      refine pm_blk (pc' := 197) (L' := [(6, .int (x6 + 1)), (0, .ref 64), (1, .int x1), (5, .int x5)]) (S' := []) (M' := sm g (wj (wi u 113 ((x5 + x6).toNatClampNeg) (u.1 99 (((6 * x1) + x6).toNatClampNeg))) 114 ((x5 + x6).toNatClampNeg) (u.2 131 x6.toNatClampNeg))) [pm_oi (.iinc 6 1) 1] (by decide +kernel) rfl ?_
      refine pm_goto (off := -51) 146 (by decide +kernel) (by decide) ?_
      refine pm_loc [1, 2, 3, 0] rfl ?_
      exact ih x1 x5 (x6 + 1) (wj (wi u 113 ((x5 + x6).toNatClampNeg) (u.1 99 (((6 * x1) + x6).toNatClampNeg))) 114 ((x5 + x6).toNatClampNeg) (u.2 131 x6.toNatClampNeg)) h
def K_Md_run_110 (N : Nat) (g : pm_s) (x1 : Int32) (x2 : Int32) (x3 : Int32) (t0 : Int32) (u : pm_J) : Option (Int32 × pm_J) := if t0 ≤ 0 then (F_Md_clearRun g (wi u 64 2 t0)).bind fun q8 => if (x2 == 0 || x2 == 1) = true then (F_Md_locals0 x1 g (wi (wi q8 64 95 x2) 64 98 x3)).bind fun q10 => K_Md_run_146 N g N x1 q10.1 0 q10.2 else none else some (0, (wi u 64 2 t0))
set_option maxHeartbeats 4000000 in
set_option maxRecDepth 100000 in
theorem w_Md_run_110 (l : Launch) (h0 : Nat) (D : pm_D) {g : pm_s} (hT : sh_T g) {N : Nat} {u0 : pm_J} {out : Int32 × pm_J} {p : Program} {e : Env} {R : Room} {s : State} {m : MethodId} {args : Array Value} {below : List Frame} {meth : Method} {c : Code} : ∀ (x1 : Int32) (x2 : Int32) (x3 : Int32) (t0 : Int32) (u : pm_J), K_Md_run_110 N g x1 x2 x3 t0 u = some out → pm_V (p, l, e, R, s, m, args, below, meth, c) m_Md_run h0 D (g.1, g.2.1, g.1, g.2.1, 9) (pm_E (p, l, e, R, s, m, args, below, meth, c) h0 D (sm g u0) (some (.int out.1)) (sm g out.2)) 110 [(0, .ref 64), (1, .int x1), (2, .int x2), (3, .int x3)] [.int t0, .ref 64] (sm g u) := by
    intro x1 x2 x3 t0 u h
    unfold K_Md_run_110 at h
    refine pm_blk (pc' := 117) (L' := [(0, .ref 64), (1, .int x1), (2, .int x2), (3, .int x3)]) (S' := [.int t0]) (M' := sm g (wi u 64 2 t0)) [pm_of (.putfield 246) 12 2 0, pm_o (.aload_n 0), pm_of (.getfield 246) 12 2 0] (by decide +kernel) rfl ?_
    refine pm_if_le (off := 5) 122 (by decide +kernel) (by decide) (fun hc7 => ?_) (fun hc7 => ?_)
    · rw [if_pos hc7] at h
      refine pm_blk (pc' := 123) (L' := [(0, .ref 64), (1, .int x1), (2, .int x2), (3, .int x3)]) (S' := [.ref 64]) (M' := sm g (wi u 64 2 t0)) [pm_o (.aload_n 0)] (by decide +kernel) rfl ?_
      obtain ⟨q8, hq8, h⟩ := pm_bd h
      refine pm_cV (idx := 262) m_Md_clearRun (c_Md_clearRun l h0 D hT hq8) (As := []) (S0 := []) rfl (by decide +kernel) k_Md_clearRun l_Md_262 (Nat.le_of_ble_eq_true rfl) (Nat.le_of_ble_eq_true rfl) (Nat.le_refl _) (Nat.le_refl _) ?_
      refine pm_blk (pc' := 128) (L' := [(0, .ref 64), (1, .int x1), (2, .int x2), (3, .int x3)]) (S' := [.int x2, .ref 64]) (M' := sm g q8) [pm_o (.aload_n 0), pm_o (.iload_n 2)] (by decide +kernel) rfl ?_
      obtain ⟨hz9, h⟩ := pm_ifs h
      refine pm_puti (idx := 637) (v1 := 0) (v2 := 0) (ci := 12) (k := 95) (t := 3) (by decide +kernel) (by decide +kernel) rfl (Or.inr ⟨rfl, hz9⟩) ?_
      refine pm_blk (pc' := 138) (L' := [(0, .ref 64), (1, .int x1), (2, .int x2), (3, .int x3)]) (S' := [.int x1, .ref 64]) (M' := sm g (wi (wi q8 64 95 x2) 64 98 x3)) [pm_o (.aload_n 0), pm_o (.iload_n 3), pm_of (.putfield 600) 12 98 0, pm_o (.aload_n 0), pm_o (.iload_n 1)] (by decide +kernel) rfl ?_
      obtain ⟨q10, hq10, h⟩ := pm_bd h
      refine pm_cV (idx := 616) m_Md_locals0 (c_Md_locals0 l h0 D hT hq10) (As := [.int x1]) (S0 := []) rfl (by decide +kernel) k_Md_locals0 l_Md_616 (Nat.le_of_ble_eq_true rfl) (Nat.le_of_ble_eq_true rfl) (Nat.le_refl _) (Nat.le_refl _) ?_
      refine pm_blk (pc' := 146) (L' := [(6, .int 0), (5, .int q10.1), (0, .ref 64), (1, .int x1), (2, .int x2), (3, .int x3)]) (S' := []) (M' := sm g q10.2) [pm_o (.istore 5), pm_oi (.iconst 0) 0, pm_o (.istore 6)] (by decide +kernel) rfl ?_
      refine pm_loc [2, 3, 1, 0] rfl ?_
      exact w_Md_run_146 l h0 D hT N x1 q10.1 0 q10.2 h
    · rw [if_neg hc7] at h
      refine pm_blk (pc' := 121) (L' := [(0, .ref 64), (1, .int x1), (2, .int x2), (3, .int x3)]) (S' := [.int 0]) (M' := sm g (wi u 64 2 t0)) [pm_oi (.iconst 0) 0] (by decide +kernel) rfl ?_
      have h9 := Option.some.inj h
      subst h9
      exact pm_reti rfl (by decide +kernel) rfl rfl rfl
def K_Md_run_87 (N : Nat) (g : pm_s) (x1 : Int32) (x2 : Int32) (x3 : Int32) (x4 : Int32) (u : pm_J) : Option (Int32 × pm_J) := (F_Md_noDef x1 g u).bind fun q4 => if q4 = 0 then if x4 = 0 then K_Md_run_110 N g x1 x2 x3 2 u else K_Md_run_110 N g x1 x2 x3 0 u else K_Md_run_110 N g x1 x2 x3 1 u
set_option maxHeartbeats 4000000 in
set_option maxRecDepth 100000 in
theorem w_Md_run_87 (l : Launch) (h0 : Nat) (D : pm_D) {g : pm_s} (hT : sh_T g) {N : Nat} {u0 : pm_J} {out : Int32 × pm_J} {p : Program} {e : Env} {R : Room} {s : State} {m : MethodId} {args : Array Value} {below : List Frame} {meth : Method} {c : Code} : ∀ (x1 : Int32) (x2 : Int32) (x3 : Int32) (x4 : Int32) (u : pm_J), K_Md_run_87 N g x1 x2 x3 x4 u = some out → pm_V (p, l, e, R, s, m, args, below, meth, c) m_Md_run h0 D (g.1, g.2.1, g.1, g.2.1, 9) (pm_E (p, l, e, R, s, m, args, below, meth, c) h0 D (sm g u0) (some (.int out.1)) (sm g out.2)) 87 [(0, .ref 64), (1, .int x1), (2, .int x2), (3, .int x3), (4, .int x4)] [] (sm g u) := by
    intro x1 x2 x3 x4 u h
    unfold K_Md_run_87 at h
    refine pm_blk (pc' := 90) (L' := [(0, .ref 64), (1, .int x1), (2, .int x2), (3, .int x3), (4, .int x4)]) (S' := [.int x1, .ref 64, .ref 64]) (M' := sm g u) [pm_o (.aload_n 0), pm_o (.aload_n 0), pm_o (.iload_n 1)] (by decide +kernel) rfl ?_
    obtain ⟨q4, hq4, h⟩ := pm_bd h
    refine pm_cV (idx := 512) m_Md_noDef (c_Md_noDef l h0 D hT hq4) (As := [.int x1]) (S0 := [.ref 64]) rfl (by decide +kernel) k_Md_noDef l_Md_512 (Nat.le_of_ble_eq_true rfl) (Nat.le_of_ble_eq_true rfl) (Nat.le_refl _) (Nat.le_refl _) ?_
    refine pm_blk (pc' := 93) (L' := [(0, .ref 64), (1, .int x1), (2, .int x2), (3, .int x3), (4, .int x4)]) (S' := [.int q4, .ref 64]) (M' := sm g u) [] (by decide +kernel) rfl ?_
    refine pm_if_eq (off := 7) 100 (by decide +kernel) (by decide) (fun hc5 => ?_) (fun hc5 => ?_)
    · rw [if_pos hc5] at h
      refine pm_blk (pc' := 102) (L' := [(0, .ref 64), (1, .int x1), (2, .int x2), (3, .int x3), (4, .int x4)]) (S' := [.int x4, .ref 64]) (M' := sm g u) [pm_o (.iload 4)] (by decide +kernel) rfl ?_
      refine pm_if_ne (off := 7) 109 (by decide +kernel) (by decide) (fun hc6 => ?_) (fun hc6 => ?_)
      · rw [if_neg hc6] at h
        refine pm_blk (pc' := 110) (L' := [(0, .ref 64), (1, .int x1), (2, .int x2), (3, .int x3), (4, .int x4)]) (S' := [.int 0, .ref 64]) (M' := sm g u) [pm_oi (.iconst 0) 0] (by decide +kernel) rfl ?_
        refine pm_loc [0, 1, 2, 3] rfl ?_
        exact w_Md_run_110 l h0 D hT x1 x2 x3 0 u h
      · rw [if_pos hc6] at h
        refine pm_blk (pc' := 106) (L' := [(0, .ref 64), (1, .int x1), (2, .int x2), (3, .int x3), (4, .int x4)]) (S' := [.int 2, .ref 64]) (M' := sm g u) [pm_oi (.iconst 2) 2] (by decide +kernel) rfl ?_
        refine pm_goto (off := 4) 110 (by decide +kernel) (by decide) ?_
        refine pm_loc [0, 1, 2, 3] rfl ?_
        exact w_Md_run_110 l h0 D hT x1 x2 x3 2 u h
    · rw [if_neg hc5] at h
      refine pm_blk (pc' := 97) (L' := [(0, .ref 64), (1, .int x1), (2, .int x2), (3, .int x3), (4, .int x4)]) (S' := [.int 1, .ref 64]) (M' := sm g u) [pm_oi (.iconst 1) 1] (by decide +kernel) rfl ?_
      refine pm_goto (off := 13) 110 (by decide +kernel) (by decide) ?_
      refine pm_loc [0, 1, 2, 3] rfl ?_
      exact w_Md_run_110 l h0 D hT x1 x2 x3 1 u h
def K_Md_run_42 (N : Nat) (g : pm_s) : Nat → Int32 → Int32 → Int32 → Int32 → Int32 → pm_J → Option (Int32 × pm_J)
  | 0, _, _, _, _, _, _ => none
  | n + 1, x1, x2, x3, x4, x5, u => if x4 = 0 then K_Md_run_87 N g x1 x2 x3 x4 u else if pm_ok x1 30 = true then if (u.1 92 x1.toNatClampNeg) ≤ x5 then K_Md_run_87 N g x1 x2 x3 x4 u else if pm_ok ((6 * x1) + x5) 180 = true then if 2 ≤ (u.1 99 (((6 * x1) + x5).toNatClampNeg)) then K_Md_run_42 N g  n x1 x2 x3 0 (x5 + 1) u else K_Md_run_42 N g  n x1 x2 x3 1 (x5 + 1) u else none else none
set_option maxHeartbeats 4000000 in
set_option maxRecDepth 100000 in
theorem w_Md_run_42 (l : Launch) (h0 : Nat) (D : pm_D) {g : pm_s} (hT : sh_T g) {N : Nat} {u0 : pm_J} {out : Int32 × pm_J} {p : Program} {e : Env} {R : Room} {s : State} {m : MethodId} {args : Array Value} {below : List Frame} {meth : Method} {c : Code} : ∀ (n : Nat) (x1 : Int32) (x2 : Int32) (x3 : Int32) (x4 : Int32) (x5 : Int32) (u : pm_J), K_Md_run_42 N g n x1 x2 x3 x4 x5 u = some out → pm_V (p, l, e, R, s, m, args, below, meth, c) m_Md_run h0 D (g.1, g.2.1, g.1, g.2.1, 9) (pm_E (p, l, e, R, s, m, args, below, meth, c) h0 D (sm g u0) (some (.int out.1)) (sm g out.2)) 42 [(0, .ref 64), (1, .int x1), (2, .int x2), (3, .int x3), (4, .int x4), (5, .int x5)] [] (sm g u) := by
  intro n
  induction n with
  | zero => intro x1 x2 x3 x4 x5 u h; cases h
  | succ n ih =>
    intro x1 x2 x3 x4 x5 u h
    rw [K_Md_run_42] at h
    refine pm_blk (pc' := 44) (L' := [(0, .ref 64), (1, .int x1), (2, .int x2), (3, .int x3), (4, .int x4), (5, .int x5)]) (S' := [.int x4]) (M' := sm g u) [pm_o (.iload 4)] (by decide +kernel) rfl ?_
    refine pm_if_eq (off := 43) 87 (by decide +kernel) (by decide) (fun hc3 => ?_) (fun hc3 => ?_)
    · rw [if_pos hc3] at h
      refine pm_loc [0, 1, 2, 3, 4] rfl ?_
      exact w_Md_run_87 l h0 D hT x1 x2 x3 x4 u h
    · rw [if_neg hc3] at h
      refine pm_blk (pc' := 54) (L' := [(0, .ref 64), (1, .int x1), (2, .int x2), (3, .int x3), (4, .int x4), (5, .int x5)]) (S' := [.int x1, .ref 92, .int x5]) (M' := sm g u) [pm_o (.iload 5), pm_o (.aload_n 0), pm_of (.getfield 98) 12 35 2, pm_o (.iload_n 1)] (by decide +kernel) rfl ?_
      obtain ⟨ho22, h⟩ := pm_ifs h
      refine pm_iald (by decide +kernel) rfl (pm_ok_in ho22) ?_
      refine pm_blk (pc' := 55) (L' := [(0, .ref 64), (1, .int x1), (2, .int x2), (3, .int x3), (4, .int x4), (5, .int x5)]) (S' := [.int (u.1 92 x1.toNatClampNeg), .int x5]) (M' := sm g u) [] (by decide +kernel) rfl ?_
      refine pm_ic_ge (off := 32) 87 (by decide +kernel) (by decide) (fun hc23 => ?_) (fun hc23 => ?_)
      · rw [if_pos hc23] at h
        refine pm_loc [0, 1, 2, 3, 4] rfl ?_
        exact w_Md_run_87 l h0 D hT x1 x2 x3 x4 u h
      · rw [if_neg hc23] at h
        refine pm_blk (pc' := 69) (L' := [(0, .ref 64), (1, .int x1), (2, .int x2), (3, .int x3), (4, .int x4), (5, .int x5)]) (S' := [.int ((6 * x1) + x5), .ref 99]) (M' := sm g u) [pm_o (.aload_n 0), pm_of (.getfield 119) 12 42 2, pm_oi (.bipush 6) 6, pm_o (.iload_n 1), pm_o .imul, pm_o (.iload 5), pm_o .iadd] (by decide +kernel) rfl ?_
        obtain ⟨ho24, h⟩ := pm_ifs h
        refine pm_iald (by decide +kernel) rfl (pm_ok_in ho24) ?_
        refine pm_blk (pc' := 71) (L' := [(0, .ref 64), (1, .int x1), (2, .int x2), (3, .int x3), (4, .int x4), (5, .int x5)]) (S' := [.int 2, .int (u.1 99 (((6 * x1) + x5).toNatClampNeg))]) (M' := sm g u) [pm_oi (.iconst 2) 2] (by decide +kernel) rfl ?_
        refine pm_ic_ge (off := 7) 78 (by decide +kernel) (by decide) (fun hc25 => ?_) (fun hc25 => ?_)
        · rw [if_pos hc25] at h
          refine pm_blk (pc' := 84) (L' := [(5, .int (x5 + 1)), (4, .int 0), (0, .ref 64), (1, .int x1), (2, .int x2), (3, .int x3)]) (S' := []) (M' := sm g u) [pm_oi (.iconst 0) 0, pm_o (.istore 4), pm_oi (.iinc 5 1) 1] (by decide +kernel) rfl ?_
          refine pm_goto (off := -42) 42 (by decide +kernel) (by decide) ?_
          refine pm_loc [2, 3, 4, 5, 1, 0] rfl ?_
          exact ih x1 x2 x3 0 (x5 + 1) u h
        · rw [if_neg hc25] at h
          refine pm_blk (pc' := 75) (L' := [(0, .ref 64), (1, .int x1), (2, .int x2), (3, .int x3), (4, .int x4), (5, .int x5)]) (S' := [.int 1]) (M' := sm g u) [pm_oi (.iconst 1) 1] (by decide +kernel) rfl ?_
          refine pm_goto (off := 4) 79 (by decide +kernel) (by decide) ?_
          refine pm_blk (pc' := 84) (L' := [(5, .int (x5 + 1)), (4, .int 1), (0, .ref 64), (1, .int x1), (2, .int x2), (3, .int x3)]) (S' := []) (M' := sm g u) [pm_o (.istore 4), pm_oi (.iinc 5 1) 1] (by decide +kernel) rfl ?_
          refine pm_goto (off := -42) 42 (by decide +kernel) (by decide) ?_
          refine pm_loc [2, 3, 4, 5, 1, 0] rfl ?_
          exact ih x1 x2 x3 1 (x5 + 1) u h
def F_Md_run (N : Nat) (a1 : Int32) (a2 : Int32) (a3 : Int32) (g : pm_s) (u : pm_J) : Option (Int32 × pm_J) := (F_Md_noDef a1 g u).bind fun q1 => if q1 = 0 then if a3 < 0 then K_Md_run_42 N g N a1 a2 a3 0 0 u else if 20000 < a3 then K_Md_run_42 N g N a1 a2 a3 0 0 u else if pm_ok a1 30 = true then if (u.1 92 a1.toNatClampNeg) = (u.1 64 107) then K_Md_run_42 N g N a1 a2 a3 1 0 u else K_Md_run_42 N g N a1 a2 a3 0 0 u else none else K_Md_run_42 N g N a1 a2 a3 0 0 u
set_option maxHeartbeats 4000000 in
set_option maxRecDepth 100000 in
theorem c_Md_run (l : Launch) (h0 : Nat) (D : pm_D) {g : pm_s} {u : pm_J} (hT : sh_T g) {N : Nat} {a1 : Int32} {a2 : Int32} {a3 : Int32} {out : Int32 × pm_J} (h : F_Md_run N a1 a2 a3 g u = some out) : pm_C l h0 D m_Md_run (9) [.ref 64, .int a1, .int a2, .int a3] (sm g u) (some (.int out.1)) (sm g out.2) := by
  unfold F_Md_run at h
  refine pm_met (by decide +kernel) (Nat.le_of_ble_eq_true rfl) (Nat.le_refl _) (Nat.le_refl _) ?_
  intro p e R s m args below meth c
  refine pm_blk (pc' := 2) (L' := [(0, .ref 64), (1, .int a1), (2, .int a2), (3, .int a3)]) (S' := [.int a1, .ref 64]) (M' := sm g u) [pm_o (.aload_n 0), pm_o (.iload_n 1)] (by decide +kernel) rfl ?_
  obtain ⟨q1, hq1, h⟩ := pm_bd h
  refine pm_cV (idx := 512) m_Md_noDef (c_Md_noDef l h0 D hT hq1) (As := [.int a1]) (S0 := []) rfl (by decide +kernel) k_Md_noDef l_Md_512 (Nat.le_of_ble_eq_true rfl) (Nat.le_of_ble_eq_true rfl) (Nat.le_refl _) (Nat.le_refl _) ?_
  refine pm_blk (pc' := 5) (L' := [(0, .ref 64), (1, .int a1), (2, .int a2), (3, .int a3)]) (S' := [.int q1]) (M' := sm g u) [] (by decide +kernel) rfl ?_
  refine pm_if_ne (off := 31) 36 (by decide +kernel) (by decide) (fun hc2 => ?_) (fun hc2 => ?_)
  · rw [if_neg hc2] at h
    refine pm_blk (pc' := 42) (L' := [(5, .int 0), (4, .int 0), (0, .ref 64), (1, .int a1), (2, .int a2), (3, .int a3)]) (S' := []) (M' := sm g u) [pm_oi (.iconst 0) 0, pm_o (.istore 4), pm_oi (.iconst 0) 0, pm_o (.istore 5)] (by decide +kernel) rfl ?_
    refine pm_loc [2, 3, 4, 5, 1, 0] rfl ?_
    exact w_Md_run_42 l h0 D hT N a1 a2 a3 0 0 u h
  · rw [if_pos hc2] at h
    refine pm_blk (pc' := 9) (L' := [(0, .ref 64), (1, .int a1), (2, .int a2), (3, .int a3)]) (S' := [.int a3]) (M' := sm g u) [pm_o (.iload_n 3)] (by decide +kernel) rfl ?_
    refine pm_if_lt (off := 27) 36 (by decide +kernel) (by decide) (fun hc26 => ?_) (fun hc26 => ?_)
    · rw [if_pos hc26] at h
      refine pm_blk (pc' := 42) (L' := [(5, .int 0), (4, .int 0), (0, .ref 64), (1, .int a1), (2, .int a2), (3, .int a3)]) (S' := []) (M' := sm g u) [pm_oi (.iconst 0) 0, pm_o (.istore 4), pm_oi (.iconst 0) 0, pm_o (.istore 5)] (by decide +kernel) rfl ?_
      refine pm_loc [2, 3, 4, 5, 1, 0] rfl ?_
      exact w_Md_run_42 l h0 D hT N a1 a2 a3 0 0 u h
    · rw [if_neg hc26] at h
      refine pm_blk (pc' := 16) (L' := [(0, .ref 64), (1, .int a1), (2, .int a2), (3, .int a3)]) (S' := [.int 20000, .int a3]) (M' := sm g u) [pm_o (.iload_n 3), pm_oi (.sipush 20000) 20000] (by decide +kernel) rfl ?_
      refine pm_ic_gt (off := 20) 36 (by decide +kernel) (by decide) (fun hc27 => ?_) (fun hc27 => ?_)
      · rw [if_pos hc27] at h
        refine pm_blk (pc' := 42) (L' := [(5, .int 0), (4, .int 0), (0, .ref 64), (1, .int a1), (2, .int a2), (3, .int a3)]) (S' := []) (M' := sm g u) [pm_oi (.iconst 0) 0, pm_o (.istore 4), pm_oi (.iconst 0) 0, pm_o (.istore 5)] (by decide +kernel) rfl ?_
        refine pm_loc [2, 3, 4, 5, 1, 0] rfl ?_
        exact w_Md_run_42 l h0 D hT N a1 a2 a3 0 0 u h
      · rw [if_neg hc27] at h
        refine pm_blk (pc' := 24) (L' := [(0, .ref 64), (1, .int a1), (2, .int a2), (3, .int a3)]) (S' := [.int a1, .ref 92]) (M' := sm g u) [pm_o (.aload_n 0), pm_of (.getfield 98) 12 35 2, pm_o (.iload_n 1)] (by decide +kernel) rfl ?_
        obtain ⟨ho28, h⟩ := pm_ifs h
        refine pm_iald (by decide +kernel) rfl (pm_ok_in ho28) ?_
        refine pm_blk (pc' := 29) (L' := [(0, .ref 64), (1, .int a1), (2, .int a2), (3, .int a3)]) (S' := [.int (u.1 64 107), .int (u.1 92 a1.toNatClampNeg)]) (M' := sm g u) [pm_o (.aload_n 0), pm_of (.getfield 259) 12 107 0] (by decide +kernel) rfl ?_
        refine pm_ic_ne (off := 7) 36 (by decide +kernel) (by decide) (fun hc29 => ?_) (fun hc29 => ?_)
        · rw [if_neg hc29] at h
          refine pm_blk (pc' := 42) (L' := [(5, .int 0), (4, .int 0), (0, .ref 64), (1, .int a1), (2, .int a2), (3, .int a3)]) (S' := []) (M' := sm g u) [pm_oi (.iconst 0) 0, pm_o (.istore 4), pm_oi (.iconst 0) 0, pm_o (.istore 5)] (by decide +kernel) rfl ?_
          refine pm_loc [2, 3, 4, 5, 1, 0] rfl ?_
          exact w_Md_run_42 l h0 D hT N a1 a2 a3 0 0 u h
        · rw [if_pos hc29] at h
          refine pm_blk (pc' := 33) (L' := [(0, .ref 64), (1, .int a1), (2, .int a2), (3, .int a3)]) (S' := [.int 1]) (M' := sm g u) [pm_oi (.iconst 1) 1] (by decide +kernel) rfl ?_
          refine pm_goto (off := 4) 37 (by decide +kernel) (by decide) ?_
          refine pm_blk (pc' := 42) (L' := [(5, .int 0), (4, .int 1), (0, .ref 64), (1, .int a1), (2, .int a2), (3, .int a3)]) (S' := []) (M' := sm g u) [pm_o (.istore 4), pm_oi (.iconst 0) 0, pm_o (.istore 5)] (by decide +kernel) rfl ?_
          refine pm_loc [2, 3, 4, 5, 1, 0] rfl ?_
          exact w_Md_run_42 l h0 D hT N a1 a2 a3 1 0 u h
def K_Md_told_16 (N : Nat) (g : pm_s) (x1 : Int32) (t0 : Int32) (u : pm_J) : Option (Int32 × pm_J) := if t0 ≤ 0 then if x1 = 0 then some (u.1 64 97, (wi u 64 2 t0)) else if x1 = 1 then some (u.1 64 99, (wi u 64 2 t0)) else if x1 = 2 then some (u.1 64 100, (wi u 64 2 t0)) else if x1 = 3 then some (u.1 64 101, (wi u 64 2 t0)) else if x1 = 4 then some (u.1 64 102, (wi u 64 2 t0)) else if x1 = 5 then some (u.1 64 103, (wi u 64 2 t0)) else if x1 = 6 then some (u.1 64 89, (wi u 64 2 t0)) else some (u.1 64 104, (wi u 64 2 t0)) else some (0, (wi u 64 2 t0))
set_option maxHeartbeats 4000000 in
set_option maxRecDepth 100000 in
theorem w_Md_told_16 (l : Launch) (h0 : Nat) (D : pm_D) {g : pm_s} (hT : sh_T g) {N : Nat} {u0 : pm_J} {out : Int32 × pm_J} {p : Program} {e : Env} {R : Room} {s : State} {m : MethodId} {args : Array Value} {below : List Frame} {meth : Method} {c : Code} : ∀ (x1 : Int32) (t0 : Int32) (u : pm_J), K_Md_told_16 N g x1 t0 u = some out → pm_V (p, l, e, R, s, m, args, below, meth, c) m_Md_told h0 D (g.1, g.2.1, g.1, g.2.1, 0) (pm_E (p, l, e, R, s, m, args, below, meth, c) h0 D (sm g u0) (some (.int out.1)) (sm g out.2)) 16 [(0, .ref 64), (1, .int x1)] [.int t0, .ref 64] (sm g u) := by
    intro x1 t0 u h
    unfold K_Md_told_16 at h
    refine pm_blk (pc' := 23) (L' := [(0, .ref 64), (1, .int x1)]) (S' := [.int t0]) (M' := sm g (wi u 64 2 t0)) [pm_of (.putfield 246) 12 2 0, pm_o (.aload_n 0), pm_of (.getfield 246) 12 2 0] (by decide +kernel) rfl ?_
    refine pm_if_le (off := 5) 28 (by decide +kernel) (by decide) (fun hc2 => ?_) (fun hc2 => ?_)
    · rw [if_pos hc2] at h
      refine pm_blk (pc' := 29) (L' := [(0, .ref 64), (1, .int x1)]) (S' := [.int x1]) (M' := sm g (wi u 64 2 t0)) [pm_o (.iload_n 1)] (by decide +kernel) rfl ?_
      refine pm_tsw (dflt := 78) (lo := 0) (hi := 6) (offs := #[43, 48, 53, 58, 63, 68, 73]) (len := 43) [(0, 72), (1, 77), (2, 82), (3, 87), (4, 92), (5, 97), (6, 102)] 107 (by decide +kernel) (by decide +kernel) ?_
      by_cases hs3 : x1 = 0
      · rw [if_pos hs3] at h
        rw [pm_sw_pos hs3]
        refine pm_blk (pc' := 76) (L' := [(0, .ref 64), (1, .int x1)]) (S' := [.int (u.1 64 97)]) (M' := sm g (wi u 64 2 t0)) [pm_o (.aload_n 0), pm_of (.getfield 536) 12 97 0] (by decide +kernel) rfl ?_
        have h9 := Option.some.inj h
        subst h9
        exact pm_reti rfl (by decide +kernel) rfl rfl rfl
      rw [if_neg hs3] at h
      rw [pm_sw_neg hs3]
      by_cases hs4 : x1 = 1
      · rw [if_pos hs4] at h
        rw [pm_sw_pos hs4]
        refine pm_blk (pc' := 81) (L' := [(0, .ref 64), (1, .int x1)]) (S' := [.int (u.1 64 99)]) (M' := sm g (wi u 64 2 t0)) [pm_o (.aload_n 0), pm_of (.getfield 539) 12 99 0] (by decide +kernel) rfl ?_
        have h9 := Option.some.inj h
        subst h9
        exact pm_reti rfl (by decide +kernel) rfl rfl rfl
      rw [if_neg hs4] at h
      rw [pm_sw_neg hs4]
      by_cases hs5 : x1 = 2
      · rw [if_pos hs5] at h
        rw [pm_sw_pos hs5]
        refine pm_blk (pc' := 86) (L' := [(0, .ref 64), (1, .int x1)]) (S' := [.int (u.1 64 100)]) (M' := sm g (wi u 64 2 t0)) [pm_o (.aload_n 0), pm_of (.getfield 542) 12 100 0] (by decide +kernel) rfl ?_
        have h9 := Option.some.inj h
        subst h9
        exact pm_reti rfl (by decide +kernel) rfl rfl rfl
      rw [if_neg hs5] at h
      rw [pm_sw_neg hs5]
      by_cases hs6 : x1 = 3
      · rw [if_pos hs6] at h
        rw [pm_sw_pos hs6]
        refine pm_blk (pc' := 91) (L' := [(0, .ref 64), (1, .int x1)]) (S' := [.int (u.1 64 101)]) (M' := sm g (wi u 64 2 t0)) [pm_o (.aload_n 0), pm_of (.getfield 545) 12 101 0] (by decide +kernel) rfl ?_
        have h9 := Option.some.inj h
        subst h9
        exact pm_reti rfl (by decide +kernel) rfl rfl rfl
      rw [if_neg hs6] at h
      rw [pm_sw_neg hs6]
      by_cases hs7 : x1 = 4
      · rw [if_pos hs7] at h
        rw [pm_sw_pos hs7]
        refine pm_blk (pc' := 96) (L' := [(0, .ref 64), (1, .int x1)]) (S' := [.int (u.1 64 102)]) (M' := sm g (wi u 64 2 t0)) [pm_o (.aload_n 0), pm_of (.getfield 548) 12 102 0] (by decide +kernel) rfl ?_
        have h9 := Option.some.inj h
        subst h9
        exact pm_reti rfl (by decide +kernel) rfl rfl rfl
      rw [if_neg hs7] at h
      rw [pm_sw_neg hs7]
      by_cases hs8 : x1 = 5
      · rw [if_pos hs8] at h
        rw [pm_sw_pos hs8]
        refine pm_blk (pc' := 101) (L' := [(0, .ref 64), (1, .int x1)]) (S' := [.int (u.1 64 103)]) (M' := sm g (wi u 64 2 t0)) [pm_o (.aload_n 0), pm_of (.getfield 551) 12 103 0] (by decide +kernel) rfl ?_
        have h9 := Option.some.inj h
        subst h9
        exact pm_reti rfl (by decide +kernel) rfl rfl rfl
      rw [if_neg hs8] at h
      rw [pm_sw_neg hs8]
      by_cases hs9 : x1 = 6
      · rw [if_pos hs9] at h
        rw [pm_sw_pos hs9]
        refine pm_blk (pc' := 106) (L' := [(0, .ref 64), (1, .int x1)]) (S' := [.int (u.1 64 89)]) (M' := sm g (wi u 64 2 t0)) [pm_o (.aload_n 0), pm_of (.getfield 527) 12 89 0] (by decide +kernel) rfl ?_
        have h9 := Option.some.inj h
        subst h9
        exact pm_reti rfl (by decide +kernel) rfl rfl rfl
      rw [if_neg hs9] at h
      rw [pm_sw_neg hs9]
      refine pm_pc (pc' := 107) rfl ?_
      refine pm_blk (pc' := 111) (L' := [(0, .ref 64), (1, .int x1)]) (S' := [.int (u.1 64 104)]) (M' := sm g (wi u 64 2 t0)) [pm_o (.aload_n 0), pm_of (.getfield 554) 12 104 0] (by decide +kernel) rfl ?_
      have h9 := Option.some.inj h
      subst h9
      exact pm_reti rfl (by decide +kernel) rfl rfl rfl
    · rw [if_neg hc2] at h
      refine pm_blk (pc' := 27) (L' := [(0, .ref 64), (1, .int x1)]) (S' := [.int 0]) (M' := sm g (wi u 64 2 t0)) [pm_oi (.iconst 0) 0] (by decide +kernel) rfl ?_
      have h9 := Option.some.inj h
      subst h9
      exact pm_reti rfl (by decide +kernel) rfl rfl rfl
def F_Md_told (N : Nat) (a1 : Int32) (g : pm_s) (u : pm_J) : Option (Int32 × pm_J) := if a1 < 0 then K_Md_told_16 N g a1 1 u else if a1 ≤ 7 then K_Md_told_16 N g a1 0 u else K_Md_told_16 N g a1 1 u
set_option maxHeartbeats 4000000 in
set_option maxRecDepth 100000 in
theorem c_Md_told (l : Launch) (h0 : Nat) (D : pm_D) {g : pm_s} {u : pm_J} (hT : sh_T g) {N : Nat} {a1 : Int32} {out : Int32 × pm_J} (h : F_Md_told N a1 g u = some out) : pm_C l h0 D m_Md_told (0) [.ref 64, .int a1] (sm g u) (some (.int out.1)) (sm g out.2) := by
  unfold F_Md_told at h
  refine pm_met (by decide +kernel) (Nat.le_of_ble_eq_true rfl) (Nat.le_refl _) (Nat.le_refl _) ?_
  intro p e R s m args below meth c
  refine pm_blk (pc' := 2) (L' := [(0, .ref 64), (1, .int a1)]) (S' := [.int a1, .ref 64]) (M' := sm g u) [pm_o (.aload_n 0), pm_o (.iload_n 1)] (by decide +kernel) rfl ?_
  refine pm_if_lt (off := 9) 11 (by decide +kernel) (by decide) (fun hc1 => ?_) (fun hc1 => ?_)
  · rw [if_pos hc1] at h
    refine pm_blk (pc' := 12) (L' := [(0, .ref 64), (1, .int a1)]) (S' := [.int 1, .ref 64]) (M' := sm g u) [pm_oi (.iconst 1) 1] (by decide +kernel) rfl ?_
    refine pm_goto (off := 4) 16 (by decide +kernel) (by decide) ?_
    refine pm_loc [0, 1] rfl ?_
    exact w_Md_told_16 l h0 D hT a1 1 u h
  · rw [if_neg hc1] at h
    refine pm_blk (pc' := 8) (L' := [(0, .ref 64), (1, .int a1)]) (S' := [.int 7, .int a1, .ref 64]) (M' := sm g u) [pm_o (.iload_n 1), pm_oi (.bipush 7) 7] (by decide +kernel) rfl ?_
    refine pm_ic_le (off := 7) 15 (by decide +kernel) (by decide) (fun hc10 => ?_) (fun hc10 => ?_)
    · rw [if_pos hc10] at h
      refine pm_blk (pc' := 16) (L' := [(0, .ref 64), (1, .int a1)]) (S' := [.int 0, .ref 64]) (M' := sm g u) [pm_oi (.iconst 0) 0] (by decide +kernel) rfl ?_
      refine pm_loc [0, 1] rfl ?_
      exact w_Md_told_16 l h0 D hT a1 0 u h
    · rw [if_neg hc10] at h
      refine pm_blk (pc' := 12) (L' := [(0, .ref 64), (1, .int a1)]) (S' := [.int 1, .ref 64]) (M' := sm g u) [pm_oi (.iconst 1) 1] (by decide +kernel) rfl ?_
      refine pm_goto (off := 4) 16 (by decide +kernel) (by decide) ?_
      refine pm_loc [0, 1] rfl ?_
      exact w_Md_told_16 l h0 D hT a1 1 u h
def K_Md_reach_135 (N : Nat) (g : pm_s) (k61 : Int32 → Int32 → Int32 → pm_J → Option (Int32 × pm_J)) (x1 : Int32) (x2 : Int32) (x4 : Int32) (x5 : Int32) (x6 : Int32) (t0 : Int32) (u : pm_J) : Option (Int32 × pm_J) := if x6 = 0 then if pm_ok x5 4000 = true then k61 x1 x2 (x4 + (-1)) (wj (wi u 64 108 t0) 64 109 (u.2 120 x5.toNatClampNeg)) else none else if pm_ok x5 4000 = true then k61 x1 x2 (x4 + (-1)) (wj (wi u 64 108 t0) 64 109 (u.2 122 x5.toNatClampNeg)) else none
set_option maxHeartbeats 4000000 in
set_option maxRecDepth 100000 in
theorem w_Md_reach_135 (l : Launch) (h0 : Nat) (D : pm_D) {g : pm_s} (hT : sh_T g) {N : Nat} {u0 : pm_J} {out : Int32 × pm_J} {p : Program} {e : Env} {R : Room} {s : State} {m : MethodId} {args : Array Value} {below : List Frame} {meth : Method} {c : Code} {k61 : Int32 → Int32 → Int32 → pm_J → Option (Int32 × pm_J)} (hk61 : ∀ (x1 : Int32) (x2 : Int32) (x4 : Int32) (u : pm_J), k61 x1 x2 x4 u = some out → pm_V (p, l, e, R, s, m, args, below, meth, c) m_Md_reach h0 D (g.1, g.2.1, g.1, g.2.1, 0) (pm_E (p, l, e, R, s, m, args, below, meth, c) h0 D (sm g u0) (some (.int out.1)) (sm g out.2)) 61 [(0, .ref 64), (1, .int x1), (2, .int x2), (4, .int x4)] [] (sm g u)) : ∀ (x1 : Int32) (x2 : Int32) (x4 : Int32) (x5 : Int32) (x6 : Int32) (t0 : Int32) (u : pm_J), K_Md_reach_135 N g k61 x1 x2 x4 x5 x6 t0 u = some out → pm_V (p, l, e, R, s, m, args, below, meth, c) m_Md_reach h0 D (g.1, g.2.1, g.1, g.2.1, 0) (pm_E (p, l, e, R, s, m, args, below, meth, c) h0 D (sm g u0) (some (.int out.1)) (sm g out.2)) 135 [(0, .ref 64), (1, .int x1), (2, .int x2), (4, .int x4), (5, .int x5), (6, .int x6)] [.int t0, .ref 64] (sm g u) := by
    intro x1 x2 x4 x5 x6 t0 u h
    unfold K_Md_reach_135 at h
    refine pm_blk (pc' := 141) (L' := [(0, .ref 64), (1, .int x1), (2, .int x2), (4, .int x4), (5, .int x5), (6, .int x6)]) (S' := [.int x6, .ref 64]) (M' := sm g (wi u 64 108 t0)) [pm_of (.putfield 563) 12 108 0, pm_o (.aload_n 0), pm_o (.iload 6)] (by decide +kernel) rfl ?_
    refine pm_if_eq (off := 13) 154 (by decide +kernel) (by decide) (fun hc12 => ?_) (fun hc12 => ?_)
    · rw [if_pos hc12] at h
      refine pm_blk (pc' := 160) (L' := [(0, .ref 64), (1, .int x1), (2, .int x2), (4, .int x4), (5, .int x5), (6, .int x6)]) (S' := [.int x5, .ref 120, .ref 64]) (M' := sm g (wi u 64 108 t0)) [pm_o (.aload_n 0), pm_of (.getfield 183) 12 78 2, pm_o (.iload 5)] (by decide +kernel) rfl ?_
      obtain ⟨ho13, h⟩ := pm_ifs h
      refine pm_lald (by decide +kernel) rfl (pm_ok_in ho13) ?_
      refine pm_blk (pc' := 167) (L' := [(4, .int (x4 + (-1))), (0, .ref 64), (1, .int x1), (2, .int x2), (5, .int x5), (6, .int x6)]) (S' := []) (M' := sm g (wj (wi u 64 108 t0) 64 109 (u.2 120 x5.toNatClampNeg))) [pm_of (.putfield 566) 12 109 1, pm_oi (.iinc 4 (-1)) (-1)] (by decide +kernel) rfl ?_
      refine pm_goto (off := -106) 61 (by decide +kernel) (by decide) ?_
      refine pm_loc [1, 2, 3, 0] rfl ?_
      exact hk61 x1 x2 (x4 + (-1)) (wj (wi u 64 108 t0) 64 109 (u.2 120 x5.toNatClampNeg)) h
    · rw [if_neg hc12] at h
      refine pm_blk (pc' := 150) (L' := [(0, .ref 64), (1, .int x1), (2, .int x2), (4, .int x4), (5, .int x5), (6, .int x6)]) (S' := [.int x5, .ref 122, .ref 64]) (M' := sm g (wi u 64 108 t0)) [pm_o (.aload_n 0), pm_of (.getfield 189) 12 80 2, pm_o (.iload 5)] (by decide +kernel) rfl ?_
      obtain ⟨ho14, h⟩ := pm_ifs h
      refine pm_lald (by decide +kernel) rfl (pm_ok_in ho14) ?_
      refine pm_blk (pc' := 151) (L' := [(0, .ref 64), (1, .int x1), (2, .int x2), (4, .int x4), (5, .int x5), (6, .int x6)]) (S' := [.long (u.2 122 x5.toNatClampNeg), .ref 64]) (M' := sm g (wi u 64 108 t0)) [] (by decide +kernel) rfl ?_
      refine pm_goto (off := 10) 161 (by decide +kernel) (by decide) ?_
      refine pm_blk (pc' := 167) (L' := [(4, .int (x4 + (-1))), (0, .ref 64), (1, .int x1), (2, .int x2), (5, .int x5), (6, .int x6)]) (S' := []) (M' := sm g (wj (wi u 64 108 t0) 64 109 (u.2 122 x5.toNatClampNeg))) [pm_of (.putfield 566) 12 109 1, pm_oi (.iinc 4 (-1)) (-1)] (by decide +kernel) rfl ?_
      refine pm_goto (off := -106) 61 (by decide +kernel) (by decide) ?_
      refine pm_loc [1, 2, 3, 0] rfl ?_
      exact hk61 x1 x2 (x4 + (-1)) (wj (wi u 64 108 t0) 64 109 (u.2 122 x5.toNatClampNeg)) h
def K_Md_reach_110 (N : Nat) (g : pm_s) (k61 : Int32 → Int32 → Int32 → pm_J → Option (Int32 × pm_J)) (x1 : Int32) (x2 : Int32) (x4 : Int32) (x5 : Int32) (t0 : Int32) (u : pm_J) : Option (Int32 × pm_J) := if t0 = 0 then if pm_ok x5 4000 = true then K_Md_reach_135 N g k61 x1 x2 x4 x5 t0 (u.1 119 x5.toNatClampNeg) u else none else if pm_ok x5 4000 = true then K_Md_reach_135 N g k61 x1 x2 x4 x5 t0 (u.1 121 x5.toNatClampNeg) u else none
set_option maxHeartbeats 4000000 in
set_option maxRecDepth 100000 in
theorem w_Md_reach_110 (l : Launch) (h0 : Nat) (D : pm_D) {g : pm_s} (hT : sh_T g) {N : Nat} {u0 : pm_J} {out : Int32 × pm_J} {p : Program} {e : Env} {R : Room} {s : State} {m : MethodId} {args : Array Value} {below : List Frame} {meth : Method} {c : Code} {k61 : Int32 → Int32 → Int32 → pm_J → Option (Int32 × pm_J)} (hk61 : ∀ (x1 : Int32) (x2 : Int32) (x4 : Int32) (u : pm_J), k61 x1 x2 x4 u = some out → pm_V (p, l, e, R, s, m, args, below, meth, c) m_Md_reach h0 D (g.1, g.2.1, g.1, g.2.1, 0) (pm_E (p, l, e, R, s, m, args, below, meth, c) h0 D (sm g u0) (some (.int out.1)) (sm g out.2)) 61 [(0, .ref 64), (1, .int x1), (2, .int x2), (4, .int x4)] [] (sm g u)) : ∀ (x1 : Int32) (x2 : Int32) (x4 : Int32) (x5 : Int32) (t0 : Int32) (u : pm_J), K_Md_reach_110 N g k61 x1 x2 x4 x5 t0 u = some out → pm_V (p, l, e, R, s, m, args, below, meth, c) m_Md_reach h0 D (g.1, g.2.1, g.1, g.2.1, 0) (pm_E (p, l, e, R, s, m, args, below, meth, c) h0 D (sm g u0) (some (.int out.1)) (sm g out.2)) 110 [(0, .ref 64), (1, .int x1), (2, .int x2), (4, .int x4), (5, .int x5)] [.int t0] (sm g u) := by
    intro x1 x2 x4 x5 t0 u h
    unfold K_Md_reach_110 at h
    refine pm_blk (pc' := 115) (L' := [(6, .int t0), (0, .ref 64), (1, .int x1), (2, .int x2), (4, .int x4), (5, .int x5)]) (S' := [.int t0, .ref 64]) (M' := sm g u) [pm_o (.istore 6), pm_o (.aload_n 0), pm_o (.iload 6)] (by decide +kernel) rfl ?_
    refine pm_if_eq (off := 13) 128 (by decide +kernel) (by decide) (fun hc10 => ?_) (fun hc10 => ?_)
    · rw [if_pos hc10] at h
      refine pm_blk (pc' := 134) (L' := [(6, .int t0), (0, .ref 64), (1, .int x1), (2, .int x2), (4, .int x4), (5, .int x5)]) (S' := [.int x5, .ref 119, .ref 64]) (M' := sm g u) [pm_o (.aload_n 0), pm_of (.getfield 180) 12 77 2, pm_o (.iload 5)] (by decide +kernel) rfl ?_
      obtain ⟨ho11, h⟩ := pm_ifs h
      refine pm_iald (by decide +kernel) rfl (pm_ok_in ho11) ?_
      refine pm_blk (pc' := 135) (L' := [(6, .int t0), (0, .ref 64), (1, .int x1), (2, .int x2), (4, .int x4), (5, .int x5)]) (S' := [.int (u.1 119 x5.toNatClampNeg), .ref 64]) (M' := sm g u) [] (by decide +kernel) rfl ?_
      refine pm_loc [1, 2, 3, 4, 5, 0] rfl ?_
      exact w_Md_reach_135 l h0 D hT hk61 x1 x2 x4 x5 t0 (u.1 119 x5.toNatClampNeg) u h
    · rw [if_neg hc10] at h
      refine pm_blk (pc' := 124) (L' := [(6, .int t0), (0, .ref 64), (1, .int x1), (2, .int x2), (4, .int x4), (5, .int x5)]) (S' := [.int x5, .ref 121, .ref 64]) (M' := sm g u) [pm_o (.aload_n 0), pm_of (.getfield 186) 12 79 2, pm_o (.iload 5)] (by decide +kernel) rfl ?_
      obtain ⟨ho15, h⟩ := pm_ifs h
      refine pm_iald (by decide +kernel) rfl (pm_ok_in ho15) ?_
      refine pm_blk (pc' := 125) (L' := [(6, .int t0), (0, .ref 64), (1, .int x1), (2, .int x2), (4, .int x4), (5, .int x5)]) (S' := [.int (u.1 121 x5.toNatClampNeg), .ref 64]) (M' := sm g u) [] (by decide +kernel) rfl ?_
      refine pm_goto (off := 10) 135 (by decide +kernel) (by decide) ?_
      refine pm_loc [1, 2, 3, 4, 5, 0] rfl ?_
      exact w_Md_reach_135 l h0 D hT hk61 x1 x2 x4 x5 t0 (u.1 121 x5.toNatClampNeg) u h
def K_Md_reach_83 (N : Nat) (g : pm_s) (k61 : Int32 → Int32 → Int32 → pm_J → Option (Int32 × pm_J)) (x1 : Int32) (x4 : Int32) (t0 : Int32) (u : pm_J) : Option (Int32 × pm_J) := if t0 = 0 then k61 x1 t0 (x4 + (-1)) u else if ((x1 >>> (x4 &&& 31)) &&& 1) = 1 then K_Md_reach_110 N g k61 x1 t0 x4 ((u.2 64 109).toInt32) 1 u else K_Md_reach_110 N g k61 x1 t0 x4 ((u.2 64 109).toInt32) 0 u
set_option maxHeartbeats 4000000 in
set_option maxRecDepth 100000 in
theorem w_Md_reach_83 (l : Launch) (h0 : Nat) (D : pm_D) {g : pm_s} (hT : sh_T g) {N : Nat} {u0 : pm_J} {out : Int32 × pm_J} {p : Program} {e : Env} {R : Room} {s : State} {m : MethodId} {args : Array Value} {below : List Frame} {meth : Method} {c : Code} {k61 : Int32 → Int32 → Int32 → pm_J → Option (Int32 × pm_J)} (hk61 : ∀ (x1 : Int32) (x2 : Int32) (x4 : Int32) (u : pm_J), k61 x1 x2 x4 u = some out → pm_V (p, l, e, R, s, m, args, below, meth, c) m_Md_reach h0 D (g.1, g.2.1, g.1, g.2.1, 0) (pm_E (p, l, e, R, s, m, args, below, meth, c) h0 D (sm g u0) (some (.int out.1)) (sm g out.2)) 61 [(0, .ref 64), (1, .int x1), (2, .int x2), (4, .int x4)] [] (sm g u)) : ∀ (x1 : Int32) (x4 : Int32) (t0 : Int32) (u : pm_J), K_Md_reach_83 N g k61 x1 x4 t0 u = some out → pm_V (p, l, e, R, s, m, args, below, meth, c) m_Md_reach h0 D (g.1, g.2.1, g.1, g.2.1, 0) (pm_E (p, l, e, R, s, m, args, below, meth, c) h0 D (sm g u0) (some (.int out.1)) (sm g out.2)) 83 [(0, .ref 64), (1, .int x1), (4, .int x4)] [.int t0] (sm g u) := by
    intro x1 x4 t0 u h
    unfold K_Md_reach_83 at h
    refine pm_blk (pc' := 85) (L' := [(2, .int t0), (0, .ref 64), (1, .int x1), (4, .int x4)]) (S' := [.int t0]) (M' := sm g u) [pm_o (.istore_n 2), pm_o (.iload_n 2)] (by decide +kernel) rfl ?_
    refine pm_if_eq (off := 79) 164 (by decide +kernel) (by decide) (fun hc8 => ?_) (fun hc8 => ?_)
    · rw [if_pos hc8] at h
      refine pm_blk (pc' := 167) (L' := [(4, .int (x4 + (-1))), (2, .int t0), (0, .ref 64), (1, .int x1)]) (S' := []) (M' := sm g u) [pm_oi (.iinc 4 (-1)) (-1)] (by decide +kernel) rfl ?_
      refine pm_goto (off := -106) 61 (by decide +kernel) (by decide) ?_
      refine pm_loc [2, 3, 1, 0] rfl ?_
      exact hk61 x1 t0 (x4 + (-1)) u h
    · rw [if_neg hc8] at h
      refine pm_blk (pc' := 102) (L' := [(5, .int ((u.2 64 109).toInt32)), (2, .int t0), (0, .ref 64), (1, .int x1), (4, .int x4)]) (S' := [.int 1, .int ((x1 >>> (x4 &&& 31)) &&& 1)]) (M' := sm g u) [pm_o (.aload_n 0), pm_of (.getfield 566) 12 109 1, pm_o .l2i, pm_o (.istore 5), pm_o (.iload_n 1), pm_o (.iload 4), pm_o .ishr, pm_oi (.iconst 1) 1, pm_o .iand, pm_oi (.iconst 1) 1] (by decide +kernel) rfl ?_
      refine pm_ic_ne (off := 7) 109 (by decide +kernel) (by decide) (fun hc9 => ?_) (fun hc9 => ?_)
      · rw [if_neg hc9] at h
        refine pm_blk (pc' := 110) (L' := [(5, .int ((u.2 64 109).toInt32)), (2, .int t0), (0, .ref 64), (1, .int x1), (4, .int x4)]) (S' := [.int 0]) (M' := sm g u) [pm_oi (.iconst 0) 0] (by decide +kernel) rfl ?_
        refine pm_loc [2, 3, 1, 4, 0] rfl ?_
        exact w_Md_reach_110 l h0 D hT hk61 x1 t0 x4 ((u.2 64 109).toInt32) 0 u h
      · rw [if_pos hc9] at h
        refine pm_blk (pc' := 106) (L' := [(5, .int ((u.2 64 109).toInt32)), (2, .int t0), (0, .ref 64), (1, .int x1), (4, .int x4)]) (S' := [.int 1]) (M' := sm g u) [pm_oi (.iconst 1) 1] (by decide +kernel) rfl ?_
        refine pm_goto (off := 4) 110 (by decide +kernel) (by decide) ?_
        refine pm_loc [2, 3, 1, 4, 0] rfl ?_
        exact w_Md_reach_110 l h0 D hT hk61 x1 t0 x4 ((u.2 64 109).toInt32) 1 u h
def K_Md_reach_61 (N : Nat) (g : pm_s) : Nat → Int32 → Int32 → Int32 → pm_J → Option (Int32 × pm_J)
  | 0, _, _, _, _ => none
  | n + 1, x1, x2, x4, u => if x4 < 0 then if (x2 == 0 || x2 == 1) = true then some (x2, u) else none else if x2 = 0 then if (x2 == 0 || x2 == 1) = true then some (x2, u) else none else if (u.1 64 108) = 2 then K_Md_reach_83 N g (K_Md_reach_61 N g  n) x1 x4 1 u else K_Md_reach_83 N g (K_Md_reach_61 N g  n) x1 x4 0 u
set_option maxHeartbeats 4000000 in
set_option maxRecDepth 100000 in
theorem w_Md_reach_61 (l : Launch) (h0 : Nat) (D : pm_D) {g : pm_s} (hT : sh_T g) {N : Nat} {u0 : pm_J} {out : Int32 × pm_J} {p : Program} {e : Env} {R : Room} {s : State} {m : MethodId} {args : Array Value} {below : List Frame} {meth : Method} {c : Code} : ∀ (n : Nat) (x1 : Int32) (x2 : Int32) (x4 : Int32) (u : pm_J), K_Md_reach_61 N g n x1 x2 x4 u = some out → pm_V (p, l, e, R, s, m, args, below, meth, c) m_Md_reach h0 D (g.1, g.2.1, g.1, g.2.1, 0) (pm_E (p, l, e, R, s, m, args, below, meth, c) h0 D (sm g u0) (some (.int out.1)) (sm g out.2)) 61 [(0, .ref 64), (1, .int x1), (2, .int x2), (4, .int x4)] [] (sm g u) := by
  intro n
  induction n with
  | zero => intro x1 x2 x4 u h; cases h
  | succ n ih =>
    intro x1 x2 x4 u h
    rw [K_Md_reach_61] at h
    refine pm_blk (pc' := 63) (L' := [(0, .ref 64), (1, .int x1), (2, .int x2), (4, .int x4)]) (S' := [.int x4]) (M' := sm g u) [pm_o (.iload 4)] (by decide +kernel) rfl ?_
    refine pm_if_lt (off := 107) 170 (by decide +kernel) (by decide) (fun hc3 => ?_) (fun hc3 => ?_)
    · rw [if_pos hc3] at h
      refine pm_blk (pc' := 171) (L' := [(0, .ref 64), (1, .int x1), (2, .int x2), (4, .int x4)]) (S' := [.int x2]) (M' := sm g u) [pm_o (.iload_n 2)] (by decide +kernel) rfl ?_
      obtain ⟨hz4, h⟩ := pm_ifs h
      have h9 := Option.some.inj h
      subst h9
      exact pm_retz rfl (by decide +kernel) hz4 rfl rfl rfl
    · rw [if_neg hc3] at h
      refine pm_blk (pc' := 67) (L' := [(0, .ref 64), (1, .int x1), (2, .int x2), (4, .int x4)]) (S' := [.int x2]) (M' := sm g u) [pm_o (.iload_n 2)] (by decide +kernel) rfl ?_
      refine pm_if_eq (off := 103) 170 (by decide +kernel) (by decide) (fun hc5 => ?_) (fun hc5 => ?_)
      · rw [if_pos hc5] at h
        refine pm_blk (pc' := 171) (L' := [(0, .ref 64), (1, .int x1), (2, .int x2), (4, .int x4)]) (S' := [.int x2]) (M' := sm g u) [pm_o (.iload_n 2)] (by decide +kernel) rfl ?_
        obtain ⟨hz6, h⟩ := pm_ifs h
        have h9 := Option.some.inj h
        subst h9
        exact pm_retz rfl (by decide +kernel) hz6 rfl rfl rfl
      · rw [if_neg hc5] at h
        refine pm_blk (pc' := 75) (L' := [(0, .ref 64), (1, .int x1), (2, .int x2), (4, .int x4)]) (S' := [.int 2, .int (u.1 64 108)]) (M' := sm g u) [pm_o (.aload_n 0), pm_of (.getfield 563) 12 108 0, pm_oi (.iconst 2) 2] (by decide +kernel) rfl ?_
        refine pm_ic_ne (off := 7) 82 (by decide +kernel) (by decide) (fun hc7 => ?_) (fun hc7 => ?_)
        · rw [if_neg hc7] at h
          refine pm_blk (pc' := 83) (L' := [(0, .ref 64), (1, .int x1), (2, .int x2), (4, .int x4)]) (S' := [.int 0]) (M' := sm g u) [pm_oi (.iconst 0) 0] (by decide +kernel) rfl ?_
          refine pm_loc [0, 1, 3] rfl ?_
          exact w_Md_reach_83 l h0 D hT ih x1 x4 0 u h
        · rw [if_pos hc7] at h
          refine pm_blk (pc' := 79) (L' := [(0, .ref 64), (1, .int x1), (2, .int x2), (4, .int x4)]) (S' := [.int 1]) (M' := sm g u) [pm_oi (.iconst 1) 1] (by decide +kernel) rfl ?_
          refine pm_goto (off := 4) 83 (by decide +kernel) (by decide) ?_
          refine pm_loc [0, 1, 3] rfl ?_
          exact w_Md_reach_83 l h0 D hT ih x1 x4 1 u h
def K_Md_reach_36 (N : Nat) (g : pm_s) : Nat → Int32 → Int32 → Int32 → pm_J → Option (Int32 × pm_J)
  | 0, _, _, _, _ => none
  | n + 1, x1, x2, x3, u => if x2 = 0 then K_Md_reach_61 N g N x1 x2 (x3 - 1) u else if x3 ≤ 0 then K_Md_reach_61 N g N x1 x2 (x3 - 1) u else if (x1 >>> (x3 &&& 31)) = 0 then K_Md_reach_36 N g  n x1 x2 (x3 + (-1)) u else K_Md_reach_61 N g N x1 x2 (x3 - 1) u
set_option maxHeartbeats 4000000 in
set_option maxRecDepth 100000 in
theorem w_Md_reach_36 (l : Launch) (h0 : Nat) (D : pm_D) {g : pm_s} (hT : sh_T g) {N : Nat} {u0 : pm_J} {out : Int32 × pm_J} {p : Program} {e : Env} {R : Room} {s : State} {m : MethodId} {args : Array Value} {below : List Frame} {meth : Method} {c : Code} : ∀ (n : Nat) (x1 : Int32) (x2 : Int32) (x3 : Int32) (u : pm_J), K_Md_reach_36 N g n x1 x2 x3 u = some out → pm_V (p, l, e, R, s, m, args, below, meth, c) m_Md_reach h0 D (g.1, g.2.1, g.1, g.2.1, 0) (pm_E (p, l, e, R, s, m, args, below, meth, c) h0 D (sm g u0) (some (.int out.1)) (sm g out.2)) 36 [(0, .ref 64), (1, .int x1), (2, .int x2), (3, .int x3)] [] (sm g u) := by
  intro n
  induction n with
  | zero => intro x1 x2 x3 u h; cases h
  | succ n ih =>
    intro x1 x2 x3 u h
    rw [K_Md_reach_36] at h
    refine pm_blk (pc' := 37) (L' := [(0, .ref 64), (1, .int x1), (2, .int x2), (3, .int x3)]) (S' := [.int x2]) (M' := sm g u) [pm_o (.iload_n 2)] (by decide +kernel) rfl ?_
    refine pm_if_eq (off := 19) 56 (by decide +kernel) (by decide) (fun hc2 => ?_) (fun hc2 => ?_)
    · rw [if_pos hc2] at h
      refine pm_blk (pc' := 61) (L' := [(4, .int (x3 - 1)), (0, .ref 64), (1, .int x1), (2, .int x2), (3, .int x3)]) (S' := []) (M' := sm g u) [pm_o (.iload_n 3), pm_oi (.iconst 1) 1, pm_o .isub, pm_o (.istore 4)] (by decide +kernel) rfl ?_
      refine pm_loc [1, 2, 3, 0] rfl ?_
      exact w_Md_reach_61 l h0 D hT N x1 x2 (x3 - 1) u h
    · rw [if_neg hc2] at h
      refine pm_blk (pc' := 41) (L' := [(0, .ref 64), (1, .int x1), (2, .int x2), (3, .int x3)]) (S' := [.int x3]) (M' := sm g u) [pm_o (.iload_n 3)] (by decide +kernel) rfl ?_
      refine pm_if_le (off := 15) 56 (by decide +kernel) (by decide) (fun hc16 => ?_) (fun hc16 => ?_)
      · rw [if_pos hc16] at h
        refine pm_blk (pc' := 61) (L' := [(4, .int (x3 - 1)), (0, .ref 64), (1, .int x1), (2, .int x2), (3, .int x3)]) (S' := []) (M' := sm g u) [pm_o (.iload_n 3), pm_oi (.iconst 1) 1, pm_o .isub, pm_o (.istore 4)] (by decide +kernel) rfl ?_
        refine pm_loc [1, 2, 3, 0] rfl ?_
        exact w_Md_reach_61 l h0 D hT N x1 x2 (x3 - 1) u h
      · rw [if_neg hc16] at h
        refine pm_blk (pc' := 47) (L' := [(0, .ref 64), (1, .int x1), (2, .int x2), (3, .int x3)]) (S' := [.int (x1 >>> (x3 &&& 31))]) (M' := sm g u) [pm_o (.iload_n 1), pm_o (.iload_n 3), pm_o .ishr] (by decide +kernel) rfl ?_
        refine pm_if_ne (off := 9) 56 (by decide +kernel) (by decide) (fun hc17 => ?_) (fun hc17 => ?_)
        · rw [if_neg hc17] at h
          refine pm_blk (pc' := 61) (L' := [(4, .int (x3 - 1)), (0, .ref 64), (1, .int x1), (2, .int x2), (3, .int x3)]) (S' := []) (M' := sm g u) [pm_o (.iload_n 3), pm_oi (.iconst 1) 1, pm_o .isub, pm_o (.istore 4)] (by decide +kernel) rfl ?_
          refine pm_loc [1, 2, 3, 0] rfl ?_
          exact w_Md_reach_61 l h0 D hT N x1 x2 (x3 - 1) u h
        · rw [if_pos hc17] at h
          refine pm_blk (pc' := 53) (L' := [(3, .int (x3 + (-1))), (0, .ref 64), (1, .int x1), (2, .int x2)]) (S' := []) (M' := sm g u) [pm_oi (.iinc 3 (-1)) (-1)] (by decide +kernel) rfl ?_
          refine pm_goto (off := -17) 36 (by decide +kernel) (by decide) ?_
          refine pm_loc [1, 2, 3, 0] rfl ?_
          exact ih x1 x2 (x3 + (-1)) u h
def K_Md_reach_16 (N : Nat) (g : pm_s) (x1 : Int32) (t0 : Int32) (u : pm_J) : Option (Int32 × pm_J) := K_Md_reach_36 N g N x1 t0 30 (wj (wi u 64 108 (u.1 64 93)) 64 109 (u.2 64 94))
set_option maxHeartbeats 4000000 in
set_option maxRecDepth 100000 in
theorem w_Md_reach_16 (l : Launch) (h0 : Nat) (D : pm_D) {g : pm_s} (hT : sh_T g) {N : Nat} {u0 : pm_J} {out : Int32 × pm_J} {p : Program} {e : Env} {R : Room} {s : State} {m : MethodId} {args : Array Value} {below : List Frame} {meth : Method} {c : Code} : ∀ (x1 : Int32) (t0 : Int32) (u : pm_J), K_Md_reach_16 N g x1 t0 u = some out → pm_V (p, l, e, R, s, m, args, below, meth, c) m_Md_reach h0 D (g.1, g.2.1, g.1, g.2.1, 0) (pm_E (p, l, e, R, s, m, args, below, meth, c) h0 D (sm g u0) (some (.int out.1)) (sm g out.2)) 16 [(0, .ref 64), (1, .int x1)] [.int t0] (sm g u) := by
    intro x1 t0 u h
    unfold K_Md_reach_16 at h
    refine pm_blk (pc' := 36) (L' := [(3, .int 30), (2, .int t0), (0, .ref 64), (1, .int x1)]) (S' := []) (M' := sm g (wj (wi u 64 108 (u.1 64 93)) 64 109 (u.2 64 94))) [pm_o (.istore_n 2), pm_o (.aload_n 0), pm_o (.aload_n 0), pm_of (.getfield 607) 12 93 0, pm_of (.putfield 563) 12 108 0, pm_o (.aload_n 0), pm_o (.aload_n 0), pm_of (.getfield 610) 12 94 1, pm_of (.putfield 566) 12 109 1, pm_oi (.bipush 30) 30, pm_o (.istore_n 3)] (by decide +kernel) rfl ?_
    refine pm_loc [2, 3, 1, 0] rfl ?_
    exact w_Md_reach_36 l h0 D hT N x1 t0 30 (wj (wi u 64 108 (u.1 64 93)) 64 109 (u.2 64 94)) h
def F_Md_reach (N : Nat) (a1 : Int32) (g : pm_s) (u : pm_J) : Option (Int32 × pm_J) := if (u.1 64 105) = 0 then K_Md_reach_16 N g a1 0 u else if a1 ≤ 0 then K_Md_reach_16 N g a1 0 u else K_Md_reach_16 N g a1 1 u
set_option maxHeartbeats 4000000 in
set_option maxRecDepth 100000 in
theorem c_Md_reach (l : Launch) (h0 : Nat) (D : pm_D) {g : pm_s} {u : pm_J} (hT : sh_T g) {N : Nat} {a1 : Int32} {out : Int32 × pm_J} (h : F_Md_reach N a1 g u = some out) : pm_C l h0 D m_Md_reach (0) [.ref 64, .int a1] (sm g u) (some (.int out.1)) (sm g out.2) := by
  unfold F_Md_reach at h
  refine pm_met (by decide +kernel) (Nat.le_of_ble_eq_true rfl) (Nat.le_refl _) (Nat.le_refl _) ?_
  intro p e R s m args below meth c
  refine pm_blk (pc' := 4) (L' := [(0, .ref 64), (1, .int a1)]) (S' := [.int (u.1 64 105)]) (M' := sm g u) [pm_o (.aload_n 0), pm_of (.getfield 557) 12 105 3] (by decide +kernel) rfl ?_
  refine pm_if_eq (off := 11) 15 (by decide +kernel) (by decide) (fun hc1 => ?_) (fun hc1 => ?_)
  · rw [if_pos hc1] at h
    refine pm_blk (pc' := 16) (L' := [(0, .ref 64), (1, .int a1)]) (S' := [.int 0]) (M' := sm g u) [pm_oi (.iconst 0) 0] (by decide +kernel) rfl ?_
    refine pm_loc [0, 1] rfl ?_
    exact w_Md_reach_16 l h0 D hT a1 0 u h
  · rw [if_neg hc1] at h
    refine pm_blk (pc' := 8) (L' := [(0, .ref 64), (1, .int a1)]) (S' := [.int a1]) (M' := sm g u) [pm_o (.iload_n 1)] (by decide +kernel) rfl ?_
    refine pm_if_le (off := 7) 15 (by decide +kernel) (by decide) (fun hc18 => ?_) (fun hc18 => ?_)
    · rw [if_pos hc18] at h
      refine pm_blk (pc' := 16) (L' := [(0, .ref 64), (1, .int a1)]) (S' := [.int 0]) (M' := sm g u) [pm_oi (.iconst 0) 0] (by decide +kernel) rfl ?_
      refine pm_loc [0, 1] rfl ?_
      exact w_Md_reach_16 l h0 D hT a1 0 u h
    · rw [if_neg hc18] at h
      refine pm_blk (pc' := 12) (L' := [(0, .ref 64), (1, .int a1)]) (S' := [.int 1]) (M' := sm g u) [pm_oi (.iconst 1) 1] (by decide +kernel) rfl ?_
      refine pm_goto (off := 4) 16 (by decide +kernel) (by decide) ?_
      refine pm_loc [0, 1] rfl ?_
      exact w_Md_reach_16 l h0 D hT a1 1 u h
def F_Md_sort (N : Nat) (a1 : Int32) (g : pm_s) (u : pm_J) : Option (Int32 × pm_J) := (F_Md_reach N a1 g (wi u 64 2 0)).bind fun q1 => if q1.1 = 0 then some ((-1), q1.2) else if (q1.2.1 64 108) = 4 then if pm_ok ((q1.2.2 64 109).toInt32) 4000 = true then some (4 + (q1.2.1 119 (((q1.2.2 64 109).toInt32).toNatClampNeg)), q1.2) else none else some (q1.2.1 64 108, q1.2)
set_option maxHeartbeats 4000000 in
set_option maxRecDepth 100000 in
theorem c_Md_sort (l : Launch) (h0 : Nat) (D : pm_D) {g : pm_s} {u : pm_J} (hT : sh_T g) {N : Nat} {a1 : Int32} {out : Int32 × pm_J} (h : F_Md_sort N a1 g u = some out) : pm_C l h0 D m_Md_sort (1) [.ref 64, .int a1] (sm g u) (some (.int out.1)) (sm g out.2) := by
  unfold F_Md_sort at h
  refine pm_met (by decide +kernel) (Nat.le_of_ble_eq_true rfl) (Nat.le_refl _) (Nat.le_refl _) ?_
  intro p e R s m args below meth c
  refine pm_blk (pc' := 7) (L' := [(0, .ref 64), (1, .int a1)]) (S' := [.int a1, .ref 64]) (M' := sm g (wi u 64 2 0)) [pm_o (.aload_n 0), pm_oi (.iconst 0) 0, pm_of (.putfield 246) 12 2 0, pm_o (.aload_n 0), pm_o (.iload_n 1)] (by decide +kernel) rfl ?_
  obtain ⟨q1, hq1, h⟩ := pm_bd h
  refine pm_cV (idx := 676) m_Md_reach (c_Md_reach l h0 D hT hq1) (As := [.int a1]) (S0 := []) rfl (by decide +kernel) k_Md_reach l_Md_676 (Nat.le_of_ble_eq_true rfl) (Nat.le_of_ble_eq_true rfl) (Nat.le_refl _) (Nat.le_refl _) ?_
  refine pm_blk (pc' := 10) (L' := [(0, .ref 64), (1, .int a1)]) (S' := [.int q1.1]) (M' := sm g q1.2) [] (by decide +kernel) rfl ?_
  refine pm_if_ne (off := 7) 17 (by decide +kernel) (by decide) (fun hc2 => ?_) (fun hc2 => ?_)
  · rw [if_neg hc2] at h
    refine pm_blk (pc' := 22) (L' := [(0, .ref 64), (1, .int a1)]) (S' := [.int 4, .int (q1.2.1 64 108)]) (M' := sm g q1.2) [pm_o (.aload_n 0), pm_of (.getfield 563) 12 108 0, pm_oi (.iconst 4) 4] (by decide +kernel) rfl ?_
    refine pm_ic_ne (off := 18) 40 (by decide +kernel) (by decide) (fun hc3 => ?_) (fun hc3 => ?_)
    · rw [if_neg hc3] at h
      refine pm_blk (pc' := 44) (L' := [(0, .ref 64), (1, .int a1)]) (S' := [.int (q1.2.1 64 108)]) (M' := sm g q1.2) [pm_o (.aload_n 0), pm_of (.getfield 563) 12 108 0] (by decide +kernel) rfl ?_
      have h9 := Option.some.inj h
      subst h9
      exact pm_reti rfl (by decide +kernel) rfl rfl rfl
    · rw [if_pos hc3] at h
      refine pm_blk (pc' := 35) (L' := [(0, .ref 64), (1, .int a1)]) (S' := [.int ((q1.2.2 64 109).toInt32), .ref 119, .int 4]) (M' := sm g q1.2) [pm_oi (.iconst 4) 4, pm_o (.aload_n 0), pm_of (.getfield 180) 12 77 2, pm_o (.aload_n 0), pm_of (.getfield 566) 12 109 1, pm_o .l2i] (by decide +kernel) rfl ?_
      obtain ⟨ho4, h⟩ := pm_ifs h
      refine pm_iald (by decide +kernel) rfl (pm_ok_in ho4) ?_
      refine pm_blk (pc' := 37) (L' := [(0, .ref 64), (1, .int a1)]) (S' := [.int (4 + (q1.2.1 119 (((q1.2.2 64 109).toInt32).toNatClampNeg)))]) (M' := sm g q1.2) [pm_o .iadd] (by decide +kernel) rfl ?_
      refine pm_goto (off := 7) 44 (by decide +kernel) (by decide) ?_
      have h9 := Option.some.inj h
      subst h9
      exact pm_reti rfl (by decide +kernel) rfl rfl rfl
  · rw [if_pos hc2] at h
    refine pm_blk (pc' := 14) (L' := [(0, .ref 64), (1, .int a1)]) (S' := [.int (-1)]) (M' := sm g q1.2) [pm_oi (.iconst (-1)) (-1)] (by decide +kernel) rfl ?_
    refine pm_goto (off := 30) 44 (by decide +kernel) (by decide) ?_
    have h9 := Option.some.inj h
    subst h9
    exact pm_reti rfl (by decide +kernel) rfl rfl rfl
def F_Md_result (N : Nat) (a1 : Int32) (g : pm_s) (u : pm_J) : Option (Int64 × pm_J) := (F_Md_reach N a1 g (wi u 64 2 0)).bind fun q1 => if q1.1 = 0 then some (0, q1.2) else if 2 ≤ (q1.2.1 64 108) then if (q1.2.1 64 108) = 4 then if pm_ok ((q1.2.2 64 109).toInt32) 4000 = true then some (q1.2.2 120 (((q1.2.2 64 109).toInt32).toNatClampNeg), q1.2) else none else some (0, q1.2) else some (q1.2.2 64 109, q1.2)
set_option maxHeartbeats 4000000 in
set_option maxRecDepth 100000 in
theorem c_Md_result (l : Launch) (h0 : Nat) (D : pm_D) {g : pm_s} {u : pm_J} (hT : sh_T g) {N : Nat} {a1 : Int32} {out : Int64 × pm_J} (h : F_Md_result N a1 g u = some out) : pm_C l h0 D m_Md_result (1) [.ref 64, .int a1] (sm g u) (some (.long out.1)) (sm g out.2) := by
  unfold F_Md_result at h
  refine pm_met (by decide +kernel) (Nat.le_of_ble_eq_true rfl) (Nat.le_refl _) (Nat.le_refl _) ?_
  intro p e R s m args below meth c
  refine pm_blk (pc' := 7) (L' := [(0, .ref 64), (1, .int a1)]) (S' := [.int a1, .ref 64]) (M' := sm g (wi u 64 2 0)) [pm_o (.aload_n 0), pm_oi (.iconst 0) 0, pm_of (.putfield 246) 12 2 0, pm_o (.aload_n 0), pm_o (.iload_n 1)] (by decide +kernel) rfl ?_
  obtain ⟨q1, hq1, h⟩ := pm_bd h
  refine pm_cV (idx := 676) m_Md_reach (c_Md_reach l h0 D hT hq1) (As := [.int a1]) (S0 := []) rfl (by decide +kernel) k_Md_reach l_Md_676 (Nat.le_of_ble_eq_true rfl) (Nat.le_of_ble_eq_true rfl) (Nat.le_refl _) (Nat.le_refl _) ?_
  refine pm_blk (pc' := 10) (L' := [(0, .ref 64), (1, .int a1)]) (S' := [.int q1.1]) (M' := sm g q1.2) [] (by decide +kernel) rfl ?_
  refine pm_if_ne (off := 7) 17 (by decide +kernel) (by decide) (fun hc2 => ?_) (fun hc2 => ?_)
  · rw [if_neg hc2] at h
    refine pm_blk (pc' := 22) (L' := [(0, .ref 64), (1, .int a1)]) (S' := [.int 2, .int (q1.2.1 64 108)]) (M' := sm g q1.2) [pm_o (.aload_n 0), pm_of (.getfield 563) 12 108 0, pm_oi (.iconst 2) 2] (by decide +kernel) rfl ?_
    refine pm_ic_ge (off := 10) 32 (by decide +kernel) (by decide) (fun hc3 => ?_) (fun hc3 => ?_)
    · rw [if_pos hc3] at h
      refine pm_blk (pc' := 37) (L' := [(0, .ref 64), (1, .int a1)]) (S' := [.int 4, .int (q1.2.1 64 108)]) (M' := sm g q1.2) [pm_o (.aload_n 0), pm_of (.getfield 563) 12 108 0, pm_oi (.iconst 4) 4] (by decide +kernel) rfl ?_
      refine pm_ic_ne (off := 16) 53 (by decide +kernel) (by decide) (fun hc4 => ?_) (fun hc4 => ?_)
      · rw [if_neg hc4] at h
        refine pm_blk (pc' := 54) (L' := [(0, .ref 64), (1, .int a1)]) (S' := [.long 0]) (M' := sm g q1.2) [pm_ol (.lconst 0) 0] (by decide +kernel) rfl ?_
        have h9 := Option.some.inj h
        subst h9
        exact pm_retl rfl (by decide +kernel) rfl rfl rfl
      · rw [if_pos hc4] at h
        refine pm_blk (pc' := 49) (L' := [(0, .ref 64), (1, .int a1)]) (S' := [.int ((q1.2.2 64 109).toInt32), .ref 120]) (M' := sm g q1.2) [pm_o (.aload_n 0), pm_of (.getfield 183) 12 78 2, pm_o (.aload_n 0), pm_of (.getfield 566) 12 109 1, pm_o .l2i] (by decide +kernel) rfl ?_
        obtain ⟨ho5, h⟩ := pm_ifs h
        refine pm_lald (by decide +kernel) rfl (pm_ok_in ho5) ?_
        refine pm_blk (pc' := 50) (L' := [(0, .ref 64), (1, .int a1)]) (S' := [.long (q1.2.2 120 (((q1.2.2 64 109).toInt32).toNatClampNeg))]) (M' := sm g q1.2) [] (by decide +kernel) rfl ?_
        refine pm_goto (off := 4) 54 (by decide +kernel) (by decide) ?_
        have h9 := Option.some.inj h
        subst h9
        exact pm_retl rfl (by decide +kernel) rfl rfl rfl
    · rw [if_neg hc3] at h
      refine pm_blk (pc' := 29) (L' := [(0, .ref 64), (1, .int a1)]) (S' := [.long (q1.2.2 64 109)]) (M' := sm g q1.2) [pm_o (.aload_n 0), pm_of (.getfield 566) 12 109 1] (by decide +kernel) rfl ?_
      refine pm_goto (off := 25) 54 (by decide +kernel) (by decide) ?_
      have h9 := Option.some.inj h
      subst h9
      exact pm_retl rfl (by decide +kernel) rfl rfl rfl
  · rw [if_pos hc2] at h
    refine pm_blk (pc' := 14) (L' := [(0, .ref 64), (1, .int a1)]) (S' := [.long 0]) (M' := sm g q1.2) [pm_ol (.lconst 0) 0] (by decide +kernel) rfl ?_
    refine pm_goto (off := 40) 54 (by decide +kernel) (by decide) ?_
    have h9 := Option.some.inj h
    subst h9
    exact pm_retl rfl (by decide +kernel) rfl rfl rfl
