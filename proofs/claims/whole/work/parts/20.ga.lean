def F_Md_thrown (g : pm_s) (u : pm_J) : Option (Int32) := some (u.1 64 2)
set_option maxHeartbeats 4000000 in
set_option maxRecDepth 100000 in
theorem c_Md_thrown (l : Launch) (h0 : Nat) (D : pm_D) {g : pm_s} {u : pm_J} (hT : sh_T g) {out : Int32} (h : F_Md_thrown g u = some out) : pm_C l h0 D m_Md_thrown (0) [.ref 64] (sm g u) (some (.int out)) (sm g u) := by
  unfold F_Md_thrown at h
  refine pm_met (by decide +kernel) (Nat.le_of_ble_eq_true rfl) (Nat.le_refl _) (Nat.le_refl _) ?_
  intro p e R s m args below meth c
  refine pm_blk (pc' := 4) (L' := [(0, .ref 64)]) (S' := [.int (u.1 64 2)]) (M' := sm g u) [pm_o (.aload_n 0), pm_of (.getfield 246) 12 2 0] (by decide +kernel) rfl ?_
  have h9 := Option.some.inj h
  subst h9
  exact pm_reti rfl (by decide +kernel) rfl rfl rfl
def F_Md_clearRun (g : pm_s) (u : pm_J) : Option (pm_J) := some (wi (wi (wi (wi (wi (wi (wi (wi (wi (wi (wi (wi (wi (wi u 64 72 0) 64 81 0) 64 88 0) 64 89 0) 64 92 0) 64 96 0) 64 97 0) 64 99 0) 64 100 0) 64 101 0) 64 102 0) 64 103 0) 64 104 0) 64 105 0)
set_option maxHeartbeats 4000000 in
set_option maxRecDepth 100000 in
theorem c_Md_clearRun (l : Launch) (h0 : Nat) (D : pm_D) {g : pm_s} {u : pm_J} (hT : sh_T g) {out : pm_J} (h : F_Md_clearRun g u = some out) : pm_C l h0 D m_Md_clearRun (0) [.ref 64] (sm g u) none (sm g out) := by
  unfold F_Md_clearRun at h
  refine pm_met (by decide +kernel) (Nat.le_of_ble_eq_true rfl) (Nat.le_refl _) (Nat.le_refl _) ?_
  intro p e R s m args below meth c
  refine pm_blk (pc' := 70) (L' := [(0, .ref 64)]) (S' := []) (M' := sm g (wi (wi (wi (wi (wi (wi (wi (wi (wi (wi (wi (wi (wi (wi u 64 72 0) 64 81 0) 64 88 0) 64 89 0) 64 92 0) 64 96 0) 64 97 0) 64 99 0) 64 100 0) 64 101 0) 64 102 0) 64 103 0) 64 104 0) 64 105 0)) [pm_o (.aload_n 0), pm_oi (.iconst 0) 0, pm_of (.putfield 518) 12 72 0, pm_o (.aload_n 0), pm_oi (.iconst 0) 0, pm_of (.putfield 521) 12 81 0, pm_o (.aload_n 0), pm_oi (.iconst 0) 0, pm_of (.putfield 524) 12 88 0, pm_o (.aload_n 0), pm_oi (.iconst 0) 0, pm_of (.putfield 527) 12 89 0, pm_o (.aload_n 0), pm_oi (.iconst 0) 0, pm_of (.putfield 530) 12 92 0, pm_o (.aload_n 0), pm_oi (.iconst 0) 0, pm_of (.putfield 533) 12 96 0, pm_o (.aload_n 0), pm_oi (.iconst 0) 0, pm_of (.putfield 536) 12 97 0, pm_o (.aload_n 0), pm_oi (.iconst 0) 0, pm_of (.putfield 539) 12 99 0, pm_o (.aload_n 0), pm_oi (.iconst 0) 0, pm_of (.putfield 542) 12 100 0, pm_o (.aload_n 0), pm_oi (.iconst 0) 0, pm_of (.putfield 545) 12 101 0, pm_o (.aload_n 0), pm_oi (.iconst 0) 0, pm_of (.putfield 548) 12 102 0, pm_o (.aload_n 0), pm_oi (.iconst 0) 0, pm_of (.putfield 551) 12 103 0, pm_o (.aload_n 0), pm_oi (.iconst 0) 0, pm_of (.putfield 554) 12 104 0, pm_o (.aload_n 0), pm_oi (.iconst 0) 0, pm_of (.putfield 557) 12 105 3] (by decide +kernel) rfl ?_
  have h9 := Option.some.inj h
  subst h9
  exact pm_retv rfl (by decide +kernel) rfl rfl
def F_Md_forget (g : pm_s) (u : pm_J) : Option (pm_J) := (F_Md_clearRun g (wi (wi (wi (wi (wi u 64 3 0) 64 4 0) 64 5 (-1)) 64 44 0) 64 107 0)).bind fun q1 => some q1
set_option maxHeartbeats 4000000 in
set_option maxRecDepth 100000 in
theorem c_Md_forget (l : Launch) (h0 : Nat) (D : pm_D) {g : pm_s} {u : pm_J} (hT : sh_T g) {out : pm_J} (h : F_Md_forget g u = some out) : pm_C l h0 D m_Md_forget (1) [.ref 64] (sm g u) none (sm g out) := by
  unfold F_Md_forget at h
  refine pm_met (by decide +kernel) (Nat.le_of_ble_eq_true rfl) (Nat.le_refl _) (Nat.le_refl _) ?_
  intro p e R s m args below meth c
  refine pm_blk (pc' := 26) (L' := [(0, .ref 64)]) (S' := [.ref 64]) (M' := sm g (wi (wi (wi (wi (wi u 64 3 0) 64 4 0) 64 5 (-1)) 64 44 0) 64 107 0)) [pm_o (.aload_n 0), pm_oi (.iconst 0) 0, pm_of (.putfield 249) 12 3 3, pm_o (.aload_n 0), pm_oi (.iconst 0) 0, pm_of (.putfield 253) 12 4 0, pm_o (.aload_n 0), pm_oi (.iconst (-1)) (-1), pm_of (.putfield 13) 12 5 0, pm_o (.aload_n 0), pm_oi (.iconst 0) 0, pm_of (.putfield 256) 12 44 0, pm_o (.aload_n 0), pm_oi (.iconst 0) 0, pm_of (.putfield 259) 12 107 0, pm_o (.aload_n 0)] (by decide +kernel) rfl ?_
  obtain ⟨q1, hq1, h⟩ := pm_bd h
  refine pm_cV (idx := 262) m_Md_clearRun (c_Md_clearRun l h0 D hT hq1) (As := []) (S0 := []) rfl (by decide +kernel) k_Md_clearRun l_Md_262 (Nat.le_of_ble_eq_true rfl) (Nat.le_of_ble_eq_true rfl) (Nat.le_refl _) (Nat.le_refl _) ?_
  refine pm_blk (pc' := 29) (L' := [(0, .ref 64)]) (S' := []) (M' := sm g q1) [] (by decide +kernel) rfl ?_
  have h9 := Option.some.inj h
  subst h9
  exact pm_retv rfl (by decide +kernel) rfl rfl
def K_Md_feed_24 (N : Nat) (g : pm_s) (x1 : Int32) (y2 : Int64) (u : pm_J) : Option (Int32 × pm_J) := some (0, (wi u 64 2 1))
set_option maxHeartbeats 4000000 in
set_option maxRecDepth 100000 in
theorem w_Md_feed_24 (l : Launch) (h0 : Nat) (D : pm_D) {g : pm_s} (hT : sh_T g) {N : Nat} {u0 : pm_J} {out : Int32 × pm_J} {p : Program} {e : Env} {R : Room} {s : State} {m : MethodId} {args : Array Value} {below : List Frame} {meth : Method} {c : Code} : ∀ (x1 : Int32) (y2 : Int64) (u : pm_J), K_Md_feed_24 N g x1 y2 u = some out → pm_V (p, l, e, R, s, m, args, below, meth, c) m_Md_feed h0 D (g.1, g.2.1, g.1, g.2.1, 2) (pm_E (p, l, e, R, s, m, args, below, meth, c) h0 D (sm g u0) (some (.int out.1)) (sm g out.2)) 24 [(0, .ref 64), (1, .int x1), (2, .long y2)] [.ref 64] (sm g u) := by
    intro x1 y2 u h
    unfold K_Md_feed_24 at h
    refine pm_blk (pc' := 25) (L' := [(0, .ref 64), (1, .int x1), (2, .long y2)]) (S' := [.int 1, .ref 64]) (M' := sm g u) [pm_oi (.iconst 1) 1] (by decide +kernel) rfl ?_
    refine pm_goto (off := 4) 29 (by decide +kernel) (by decide) ?_
    refine pm_blk (pc' := 36) (L' := [(0, .ref 64), (1, .int x1), (2, .long y2)]) (S' := [.int 1]) (M' := sm g (wi u 64 2 1)) [pm_of (.putfield 246) 12 2 0, pm_o (.aload_n 0), pm_of (.getfield 246) 12 2 0] (by decide +kernel) rfl ?_
    refine pm_if_le (off := 5) 41 (by decide +kernel) (by decide) (fun hc2 => ?_) (fun hc2 => ?_)
    · exact absurd hc2 (by decide)
    refine pm_blk (pc' := 40) (L' := [(0, .ref 64), (1, .int x1), (2, .long y2)]) (S' := [.int 0]) (M' := sm g (wi u 64 2 1)) [pm_oi (.iconst 0) 0] (by decide +kernel) rfl ?_
    have h9 := Option.some.inj h
    subst h9
    exact pm_reti rfl (by decide +kernel) rfl rfl rfl
def K_Md_feed_44 (N : Nat) (g : pm_s) : Nat → Int32 → Int64 → Int32 → pm_J → Option (Int32 × pm_J)
  | 0, _, _, _, _ => none
  | n + 1, x1, y2, x4, u => if x1 ≤ x4 then (F_Md_forget g (wi u 64 1 ((u.1 64 1) + x1))).bind fun q7 => some (q7.1 64 1, q7) else if pm_ok ((u.1 64 1) + x4) 3000 = true then K_Md_feed_44 N g  n x1 y2 (x4 + 1) (wi u 65 (((u.1 64 1) + x4).toNatClampNeg) (((y2 >>> ((8 * x4).toInt64 &&& 63)) &&& 255).toInt32)) else none
set_option maxHeartbeats 4000000 in
set_option maxRecDepth 100000 in
theorem w_Md_feed_44 (l : Launch) (h0 : Nat) (D : pm_D) {g : pm_s} (hT : sh_T g) {N : Nat} {u0 : pm_J} {out : Int32 × pm_J} {p : Program} {e : Env} {R : Room} {s : State} {m : MethodId} {args : Array Value} {below : List Frame} {meth : Method} {c : Code} : ∀ (n : Nat) (x1 : Int32) (y2 : Int64) (x4 : Int32) (u : pm_J), K_Md_feed_44 N g n x1 y2 x4 u = some out → pm_V (p, l, e, R, s, m, args, below, meth, c) m_Md_feed h0 D (g.1, g.2.1, g.1, g.2.1, 2) (pm_E (p, l, e, R, s, m, args, below, meth, c) h0 D (sm g u0) (some (.int out.1)) (sm g out.2)) 44 [(0, .ref 64), (1, .int x1), (2, .long y2), (4, .int x4)] [] (sm g u) := by
  intro n
  induction n with
  | zero => intro x1 y2 x4 u h; cases h
  | succ n ih =>
    intro x1 y2 x4 u h
    rw [K_Md_feed_44] at h
    refine pm_blk (pc' := 47) (L' := [(0, .ref 64), (1, .int x1), (2, .long y2), (4, .int x4)]) (S' := [.int x1, .int x4]) (M' := sm g u) [pm_o (.iload 4), pm_o (.iload_n 1)] (by decide +kernel) rfl ?_
    refine pm_ic_ge (off := 33) 80 (by decide +kernel) (by decide) (fun hc6 => ?_) (fun hc6 => ?_)
    · rw [if_pos hc6] at h
      refine pm_blk (pc' := 91) (L' := [(0, .ref 64), (1, .int x1), (2, .long y2), (4, .int x4)]) (S' := [.ref 64]) (M' := sm g (wi u 64 1 ((u.1 64 1) + x1))) [pm_o (.aload_n 0), pm_o .dup, pm_of (.getfield 265) 12 1 0, pm_o (.iload_n 1), pm_o .iadd, pm_of (.putfield 265) 12 1 0, pm_o (.aload_n 0)] (by decide +kernel) rfl ?_
      obtain ⟨q7, hq7, h⟩ := pm_bd h
      refine pm_cV (idx := 270) m_Md_forget (c_Md_forget l h0 D hT hq7) (As := []) (S0 := []) rfl (by decide +kernel) k_Md_forget l_Md_270 (Nat.le_of_ble_eq_true rfl) (Nat.le_of_ble_eq_true rfl) (Nat.le_refl _) (Nat.le_refl _) ?_
      refine pm_blk (pc' := 98) (L' := [(0, .ref 64), (1, .int x1), (2, .long y2), (4, .int x4)]) (S' := [.int (q7.1 64 1)]) (M' := sm g q7) [pm_o (.aload_n 0), pm_of (.getfield 265) 12 1 0] (by decide +kernel) rfl ?_
      have h9 := Option.some.inj h
      subst h9
      exact pm_reti rfl (by decide +kernel) rfl rfl rfl
    · rw [if_neg hc6] at h
      refine pm_blk (pc' := 73) (L' := [(0, .ref 64), (1, .int x1), (2, .long y2), (4, .int x4)]) (S' := [.int (((y2 >>> ((8 * x4).toInt64 &&& 63)) &&& 255).toInt32), .int ((u.1 64 1) + x4), .ref 65]) (M' := sm g u) [pm_o (.aload_n 0), pm_of (.getfield 7) 12 0 2, pm_o (.aload_n 0), pm_of (.getfield 265) 12 1 0, pm_o (.iload 4), pm_o .iadd, pm_o (.lload_n 2), pm_oi (.bipush 8) 8, pm_o (.iload 4), pm_o .imul, pm_o .lshr, pm_ol (.ldc2_w 268) 255, pm_o .land, pm_o .l2i] (by decide +kernel) rfl ?_
      obtain ⟨ho8, h⟩ := pm_ifs h
      refine pm_iast (by decide +kernel) rfl  (pm_ok_in ho8) ?_
      refine pm_blk (pc' := 77) (L' := [(4, .int (x4 + 1)), (0, .ref 64), (1, .int x1), (2, .long y2)]) (S' := []) (M' := sm g (wi u 65 (((u.1 64 1) + x4).toNatClampNeg) (((y2 >>> ((8 * x4).toInt64 &&& 63)) &&& 255).toInt32))) [pm_oi (.iinc 4 1) 1] (by decide +kernel) rfl ?_
      refine pm_goto (off := -33) 44 (by decide +kernel) (by decide) ?_
      refine pm_loc [1, 2, 3, 0] rfl ?_
      exact ih x1 y2 (x4 + 1) (wi u 65 (((u.1 64 1) + x4).toNatClampNeg) (((y2 >>> ((8 * x4).toInt64 &&& 63)) &&& 255).toInt32)) h
def F_Md_feed (N : Nat) (a1 : Int32) (a2 : Int64) (g : pm_s) (u : pm_J) : Option (Int32 × pm_J) := if a1 < 1 then K_Md_feed_24 N g a1 a2 u else if 8 < a1 then K_Md_feed_24 N g a1 a2 u else if ((u.1 64 1) + a1) ≤ 3000 then K_Md_feed_44 N g N a1 a2 0 (wi u 64 2 0) else K_Md_feed_24 N g a1 a2 u
set_option maxHeartbeats 4000000 in
set_option maxRecDepth 100000 in
theorem c_Md_feed (l : Launch) (h0 : Nat) (D : pm_D) {g : pm_s} {u : pm_J} (hT : sh_T g) {N : Nat} {a1 : Int32} {a2 : Int64} {out : Int32 × pm_J} (h : F_Md_feed N a1 a2 g u = some out) : pm_C l h0 D m_Md_feed (2) [.ref 64, .int a1, .long a2] (sm g u) (some (.int out.1)) (sm g out.2) := by
  unfold F_Md_feed at h
  refine pm_met (by decide +kernel) (Nat.le_of_ble_eq_true rfl) (Nat.le_refl _) (Nat.le_refl _) ?_
  intro p e R s m args below meth c
  refine pm_blk (pc' := 3) (L' := [(0, .ref 64), (1, .int a1), (2, .long a2)]) (S' := [.int 1, .int a1, .ref 64]) (M' := sm g u) [pm_o (.aload_n 0), pm_o (.iload_n 1), pm_oi (.iconst 1) 1] (by decide +kernel) rfl ?_
  refine pm_ic_lt (off := 21) 24 (by decide +kernel) (by decide) (fun hc1 => ?_) (fun hc1 => ?_)
  · rw [if_pos hc1] at h
    refine pm_loc [0, 1, 2] rfl ?_
    exact w_Md_feed_24 l h0 D hT a1 a2 u h
  · rw [if_neg hc1] at h
    refine pm_blk (pc' := 9) (L' := [(0, .ref 64), (1, .int a1), (2, .long a2)]) (S' := [.int 8, .int a1, .ref 64]) (M' := sm g u) [pm_o (.iload_n 1), pm_oi (.bipush 8) 8] (by decide +kernel) rfl ?_
    refine pm_ic_gt (off := 15) 24 (by decide +kernel) (by decide) (fun hc3 => ?_) (fun hc3 => ?_)
    · rw [if_pos hc3] at h
      refine pm_loc [0, 1, 2] rfl ?_
      exact w_Md_feed_24 l h0 D hT a1 a2 u h
    · rw [if_neg hc3] at h
      refine pm_blk (pc' := 21) (L' := [(0, .ref 64), (1, .int a1), (2, .long a2)]) (S' := [.int 3000, .int ((u.1 64 1) + a1), .ref 64]) (M' := sm g u) [pm_o (.aload_n 0), pm_of (.getfield 265) 12 1 0, pm_o (.iload_n 1), pm_o .iadd, pm_oi (.sipush 3000) 3000] (by decide +kernel) rfl ?_
      refine pm_ic_le (off := 7) 28 (by decide +kernel) (by decide) (fun hc4 => ?_) (fun hc4 => ?_)
      · rw [if_pos hc4] at h
        refine pm_blk (pc' := 36) (L' := [(0, .ref 64), (1, .int a1), (2, .long a2)]) (S' := [.int 0]) (M' := sm g (wi u 64 2 0)) [pm_oi (.iconst 0) 0, pm_of (.putfield 246) 12 2 0, pm_o (.aload_n 0), pm_of (.getfield 246) 12 2 0] (by decide +kernel) rfl ?_
        refine pm_if_le (off := 5) 41 (by decide +kernel) (by decide) (fun hc5 => ?_) (fun hc5 => ?_)
        rotate_left
        · exact absurd hc5 (by decide)
        refine pm_blk (pc' := 44) (L' := [(4, .int 0), (0, .ref 64), (1, .int a1), (2, .long a2)]) (S' := []) (M' := sm g (wi u 64 2 0)) [pm_oi (.iconst 0) 0, pm_o (.istore 4)] (by decide +kernel) rfl ?_
        refine pm_loc [1, 2, 3, 0] rfl ?_
        exact w_Md_feed_44 l h0 D hT N a1 a2 0 (wi u 64 2 0) h
      · rw [if_neg hc4] at h
        refine pm_loc [0, 1, 2] rfl ?_
        exact w_Md_feed_24 l h0 D hT a1 a2 u h
def F_Md_wipe (g : pm_s) (u : pm_J) : Option (Int32 × pm_J) := (F_Md_forget g (wi (wi u 64 2 0) 64 1 0)).bind fun q1 => some (u.1 64 1, q1)
set_option maxHeartbeats 4000000 in
set_option maxRecDepth 100000 in
theorem c_Md_wipe (l : Launch) (h0 : Nat) (D : pm_D) {g : pm_s} {u : pm_J} (hT : sh_T g) {out : Int32 × pm_J} (h : F_Md_wipe g u = some out) : pm_C l h0 D m_Md_wipe (2) [.ref 64] (sm g u) (some (.int out.1)) (sm g out.2) := by
  unfold F_Md_wipe at h
  refine pm_met (by decide +kernel) (Nat.le_of_ble_eq_true rfl) (Nat.le_refl _) (Nat.le_refl _) ?_
  intro p e R s m args below meth c
  refine pm_blk (pc' := 16) (L' := [(1, .int (u.1 64 1)), (0, .ref 64)]) (S' := [.ref 64]) (M' := sm g (wi (wi u 64 2 0) 64 1 0)) [pm_o (.aload_n 0), pm_oi (.iconst 0) 0, pm_of (.putfield 246) 12 2 0, pm_o (.aload_n 0), pm_of (.getfield 265) 12 1 0, pm_o (.istore_n 1), pm_o (.aload_n 0), pm_oi (.iconst 0) 0, pm_of (.putfield 265) 12 1 0, pm_o (.aload_n 0)] (by decide +kernel) rfl ?_
  obtain ⟨q1, hq1, h⟩ := pm_bd h
  refine pm_cV (idx := 270) m_Md_forget (c_Md_forget l h0 D hT hq1) (As := []) (S0 := []) rfl (by decide +kernel) k_Md_forget l_Md_270 (Nat.le_of_ble_eq_true rfl) (Nat.le_of_ble_eq_true rfl) (Nat.le_refl _) (Nat.le_refl _) ?_
  refine pm_blk (pc' := 20) (L' := [(1, .int (u.1 64 1)), (0, .ref 64)]) (S' := [.int (u.1 64 1)]) (M' := sm g q1) [pm_o (.iload_n 1)] (by decide +kernel) rfl ?_
  have h9 := Option.some.inj h
  subst h9
  exact pm_reti rfl (by decide +kernel) rfl rfl rfl
def F_Md_fails (a1 : Int32) (a2 : Int32) (g : pm_s) (u : pm_J) : Option (Int32 × pm_J) := if (u.1 64 4) = 0 then some (0, (wi (wi u 64 4 a1) 64 5 a2)) else some (0, u)
set_option maxHeartbeats 4000000 in
set_option maxRecDepth 100000 in
theorem c_Md_fails (l : Launch) (h0 : Nat) (D : pm_D) {g : pm_s} {u : pm_J} (hT : sh_T g) {a1 : Int32} {a2 : Int32} {out : Int32 × pm_J} (h : F_Md_fails a1 a2 g u = some out) : pm_C l h0 D m_Md_fails (0) [.ref 64, .int a1, .int a2] (sm g u) (some (.int out.1)) (sm g out.2) := by
  unfold F_Md_fails at h
  refine pm_met (by decide +kernel) (Nat.le_of_ble_eq_true rfl) (Nat.le_refl _) (Nat.le_refl _) ?_
  intro p e R s m args below meth c
  refine pm_blk (pc' := 4) (L' := [(0, .ref 64), (1, .int a1), (2, .int a2)]) (S' := [.int (u.1 64 4)]) (M' := sm g u) [pm_o (.aload_n 0), pm_of (.getfield 253) 12 4 0] (by decide +kernel) rfl ?_
  refine pm_if_ne (off := 13) 17 (by decide +kernel) (by decide) (fun hc1 => ?_) (fun hc1 => ?_)
  · rw [if_neg hc1] at h
    refine pm_blk (pc' := 18) (L' := [(0, .ref 64), (1, .int a1), (2, .int a2)]) (S' := [.int 0]) (M' := sm g u) [pm_oi (.iconst 0) 0] (by decide +kernel) rfl ?_
    have h9 := Option.some.inj h
    subst h9
    exact pm_retz rfl (by decide +kernel) rfl rfl rfl rfl
  · rw [if_pos hc1] at h
    refine pm_blk (pc' := 18) (L' := [(0, .ref 64), (1, .int a1), (2, .int a2)]) (S' := [.int 0]) (M' := sm g (wi (wi u 64 4 a1) 64 5 a2)) [pm_o (.aload_n 0), pm_o (.iload_n 1), pm_of (.putfield 253) 12 4 0, pm_o (.aload_n 0), pm_o (.iload_n 2), pm_of (.putfield 13) 12 5 0, pm_oi (.iconst 0) 0] (by decide +kernel) rfl ?_
    have h9 := Option.some.inj h
    subst h9
    exact pm_retz rfl (by decide +kernel) rfl rfl rfl rfl
def F_Md_isLetter (a1 : Int32) (g : pm_s) (u : pm_J) : Option (Int32) := if a1 < 97 then some 0 else if 122 < a1 then some 0 else some 1
set_option maxHeartbeats 4000000 in
set_option maxRecDepth 100000 in
theorem c_Md_isLetter (l : Launch) (h0 : Nat) (D : pm_D) {g : pm_s} {u : pm_J} (hT : sh_T g) {a1 : Int32} {out : Int32} (h : F_Md_isLetter a1 g u = some out) : pm_C l h0 D m_Md_isLetter (0) [.int a1] (sm g u) (some (.int out)) (sm g u) := by
  unfold F_Md_isLetter at h
  refine pm_met (by decide +kernel) (Nat.le_of_ble_eq_true rfl) (Nat.le_refl _) (Nat.le_refl _) ?_
  intro p e R s m args below meth c
  refine pm_blk (pc' := 3) (L' := [(0, .int a1)]) (S' := [.int 97, .int a1]) (M' := sm g u) [pm_o (.iload_n 0), pm_oi (.bipush 97) 97] (by decide +kernel) rfl ?_
  refine pm_ic_lt (off := 13) 16 (by decide +kernel) (by decide) (fun hc1 => ?_) (fun hc1 => ?_)
  · rw [if_pos hc1] at h
    refine pm_blk (pc' := 17) (L' := [(0, .int a1)]) (S' := [.int 0]) (M' := sm g u) [pm_oi (.iconst 0) 0] (by decide +kernel) rfl ?_
    have h9 := Option.some.inj h
    subst h9
    exact pm_retz rfl (by decide +kernel) rfl rfl rfl rfl
  · rw [if_neg hc1] at h
    refine pm_blk (pc' := 9) (L' := [(0, .int a1)]) (S' := [.int 122, .int a1]) (M' := sm g u) [pm_o (.iload_n 0), pm_oi (.bipush 122) 122] (by decide +kernel) rfl ?_
    refine pm_ic_gt (off := 7) 16 (by decide +kernel) (by decide) (fun hc2 => ?_) (fun hc2 => ?_)
    · rw [if_pos hc2] at h
      refine pm_blk (pc' := 17) (L' := [(0, .int a1)]) (S' := [.int 0]) (M' := sm g u) [pm_oi (.iconst 0) 0] (by decide +kernel) rfl ?_
      have h9 := Option.some.inj h
      subst h9
      exact pm_retz rfl (by decide +kernel) rfl rfl rfl rfl
    · rw [if_neg hc2] at h
      refine pm_blk (pc' := 13) (L' := [(0, .int a1)]) (S' := [.int 1]) (M' := sm g u) [pm_oi (.iconst 1) 1] (by decide +kernel) rfl ?_
      refine pm_goto (off := 4) 17 (by decide +kernel) (by decide) ?_
      have h9 := Option.some.inj h
      subst h9
      exact pm_retz rfl (by decide +kernel) rfl rfl rfl rfl
def F_Md_isDigit (a1 : Int32) (g : pm_s) (u : pm_J) : Option (Int32) := if a1 < 48 then some 0 else if 57 < a1 then some 0 else some 1
set_option maxHeartbeats 4000000 in
set_option maxRecDepth 100000 in
theorem c_Md_isDigit (l : Launch) (h0 : Nat) (D : pm_D) {g : pm_s} {u : pm_J} (hT : sh_T g) {a1 : Int32} {out : Int32} (h : F_Md_isDigit a1 g u = some out) : pm_C l h0 D m_Md_isDigit (0) [.int a1] (sm g u) (some (.int out)) (sm g u) := by
  unfold F_Md_isDigit at h
  refine pm_met (by decide +kernel) (Nat.le_of_ble_eq_true rfl) (Nat.le_refl _) (Nat.le_refl _) ?_
  intro p e R s m args below meth c
  refine pm_blk (pc' := 3) (L' := [(0, .int a1)]) (S' := [.int 48, .int a1]) (M' := sm g u) [pm_o (.iload_n 0), pm_oi (.bipush 48) 48] (by decide +kernel) rfl ?_
  refine pm_ic_lt (off := 13) 16 (by decide +kernel) (by decide) (fun hc1 => ?_) (fun hc1 => ?_)
  · rw [if_pos hc1] at h
    refine pm_blk (pc' := 17) (L' := [(0, .int a1)]) (S' := [.int 0]) (M' := sm g u) [pm_oi (.iconst 0) 0] (by decide +kernel) rfl ?_
    have h9 := Option.some.inj h
    subst h9
    exact pm_retz rfl (by decide +kernel) rfl rfl rfl rfl
  · rw [if_neg hc1] at h
    refine pm_blk (pc' := 9) (L' := [(0, .int a1)]) (S' := [.int 57, .int a1]) (M' := sm g u) [pm_o (.iload_n 0), pm_oi (.bipush 57) 57] (by decide +kernel) rfl ?_
    refine pm_ic_gt (off := 7) 16 (by decide +kernel) (by decide) (fun hc2 => ?_) (fun hc2 => ?_)
    · rw [if_pos hc2] at h
      refine pm_blk (pc' := 17) (L' := [(0, .int a1)]) (S' := [.int 0]) (M' := sm g u) [pm_oi (.iconst 0) 0] (by decide +kernel) rfl ?_
      have h9 := Option.some.inj h
      subst h9
      exact pm_retz rfl (by decide +kernel) rfl rfl rfl rfl
    · rw [if_neg hc2] at h
      refine pm_blk (pc' := 13) (L' := [(0, .int a1)]) (S' := [.int 1]) (M' := sm g u) [pm_oi (.iconst 1) 1] (by decide +kernel) rfl ?_
      refine pm_goto (off := 4) 17 (by decide +kernel) (by decide) ?_
      have h9 := Option.some.inj h
      subst h9
      exact pm_retz rfl (by decide +kernel) rfl rfl rfl rfl
def F_Md_isHex (a1 : Int32) (g : pm_s) (u : pm_J) : Option (Int32) := (F_Md_isDigit a1 g u).bind fun q1 => if q1 = 0 then if a1 < 97 then some 0 else if 102 < a1 then some 0 else some 1 else some 1
set_option maxHeartbeats 4000000 in
set_option maxRecDepth 100000 in
theorem c_Md_isHex (l : Launch) (h0 : Nat) (D : pm_D) {g : pm_s} {u : pm_J} (hT : sh_T g) {a1 : Int32} {out : Int32} (h : F_Md_isHex a1 g u = some out) : pm_C l h0 D m_Md_isHex (1) [.int a1] (sm g u) (some (.int out)) (sm g u) := by
  unfold F_Md_isHex at h
  refine pm_met (by decide +kernel) (Nat.le_of_ble_eq_true rfl) (Nat.le_refl _) (Nat.le_refl _) ?_
  intro p e R s m args below meth c
  refine pm_blk (pc' := 1) (L' := [(0, .int a1)]) (S' := [.int a1]) (M' := sm g u) [pm_o (.iload_n 0)] (by decide +kernel) rfl ?_
  obtain ⟨q1, hq1, h⟩ := pm_bd h
  refine pm_cS (idx := 273) m_Md_isDigit (c_Md_isDigit l h0 D hT hq1) (As := [.int a1]) (S0 := []) rfl (by decide +kernel) k_Md_isDigit l_Md_273 (Nat.le_of_ble_eq_true rfl) (Nat.le_of_ble_eq_true rfl) (Nat.le_refl _) (Nat.le_refl _) ?_
  refine pm_blk (pc' := 4) (L' := [(0, .int a1)]) (S' := [.int q1]) (M' := sm g u) [] (by decide +kernel) rfl ?_
  refine pm_if_ne (off := 15) 19 (by decide +kernel) (by decide) (fun hc2 => ?_) (fun hc2 => ?_)
  · rw [if_neg hc2] at h
    refine pm_blk (pc' := 20) (L' := [(0, .int a1)]) (S' := [.int 1]) (M' := sm g u) [pm_oi (.iconst 1) 1] (by decide +kernel) rfl ?_
    refine pm_goto (off := 4) 24 (by decide +kernel) (by decide) ?_
    have h9 := Option.some.inj h
    subst h9
    exact pm_retz rfl (by decide +kernel) rfl rfl rfl rfl
  · rw [if_pos hc2] at h
    refine pm_blk (pc' := 10) (L' := [(0, .int a1)]) (S' := [.int 97, .int a1]) (M' := sm g u) [pm_o (.iload_n 0), pm_oi (.bipush 97) 97] (by decide +kernel) rfl ?_
    refine pm_ic_lt (off := 13) 23 (by decide +kernel) (by decide) (fun hc3 => ?_) (fun hc3 => ?_)
    · rw [if_pos hc3] at h
      refine pm_blk (pc' := 24) (L' := [(0, .int a1)]) (S' := [.int 0]) (M' := sm g u) [pm_oi (.iconst 0) 0] (by decide +kernel) rfl ?_
      have h9 := Option.some.inj h
      subst h9
      exact pm_retz rfl (by decide +kernel) rfl rfl rfl rfl
    · rw [if_neg hc3] at h
      refine pm_blk (pc' := 16) (L' := [(0, .int a1)]) (S' := [.int 102, .int a1]) (M' := sm g u) [pm_o (.iload_n 0), pm_oi (.bipush 102) 102] (by decide +kernel) rfl ?_
      refine pm_ic_gt (off := 7) 23 (by decide +kernel) (by decide) (fun hc4 => ?_) (fun hc4 => ?_)
      · rw [if_pos hc4] at h
        refine pm_blk (pc' := 24) (L' := [(0, .int a1)]) (S' := [.int 0]) (M' := sm g u) [pm_oi (.iconst 0) 0] (by decide +kernel) rfl ?_
        have h9 := Option.some.inj h
        subst h9
        exact pm_retz rfl (by decide +kernel) rfl rfl rfl rfl
      · rw [if_neg hc4] at h
        refine pm_blk (pc' := 20) (L' := [(0, .int a1)]) (S' := [.int 1]) (M' := sm g u) [pm_oi (.iconst 1) 1] (by decide +kernel) rfl ?_
        refine pm_goto (off := 4) 24 (by decide +kernel) (by decide) ?_
        have h9 := Option.some.inj h
        subst h9
        exact pm_retz rfl (by decide +kernel) rfl rfl rfl rfl
def F_Md_octet (a1 : Int32) (g : pm_s) (u : pm_J) : Option (Int32) := if (u.1 64 1) ≤ a1 then some (-1) else if pm_ok a1 3000 = true then some (u.1 65 a1.toNatClampNeg) else none
set_option maxHeartbeats 4000000 in
set_option maxRecDepth 100000 in
theorem c_Md_octet (l : Launch) (h0 : Nat) (D : pm_D) {g : pm_s} {u : pm_J} (hT : sh_T g) {a1 : Int32} {out : Int32} (h : F_Md_octet a1 g u = some out) : pm_C l h0 D m_Md_octet (0) [.ref 64, .int a1] (sm g u) (some (.int out)) (sm g u) := by
  unfold F_Md_octet at h
  refine pm_met (by decide +kernel) (Nat.le_of_ble_eq_true rfl) (Nat.le_refl _) (Nat.le_refl _) ?_
  intro p e R s m args below meth c
  refine pm_blk (pc' := 5) (L' := [(0, .ref 64), (1, .int a1)]) (S' := [.int (u.1 64 1), .int a1]) (M' := sm g u) [pm_o (.iload_n 1), pm_o (.aload_n 0), pm_of (.getfield 265) 12 1 0] (by decide +kernel) rfl ?_
  refine pm_ic_ge (off := 12) 17 (by decide +kernel) (by decide) (fun hc1 => ?_) (fun hc1 => ?_)
  · rw [if_pos hc1] at h
    refine pm_blk (pc' := 18) (L' := [(0, .ref 64), (1, .int a1)]) (S' := [.int (-1)]) (M' := sm g u) [pm_oi (.iconst (-1)) (-1)] (by decide +kernel) rfl ?_
    have h9 := Option.some.inj h
    subst h9
    exact pm_reti rfl (by decide +kernel) rfl rfl rfl
  · rw [if_neg hc1] at h
    refine pm_blk (pc' := 13) (L' := [(0, .ref 64), (1, .int a1)]) (S' := [.int a1, .ref 65]) (M' := sm g u) [pm_o (.aload_n 0), pm_of (.getfield 7) 12 0 2, pm_o (.iload_n 1)] (by decide +kernel) rfl ?_
    obtain ⟨ho2, h⟩ := pm_ifs h
    refine pm_iald (by decide +kernel) rfl (pm_ok_in ho2) ?_
    refine pm_blk (pc' := 14) (L' := [(0, .ref 64), (1, .int a1)]) (S' := [.int (u.1 65 a1.toNatClampNeg)]) (M' := sm g u) [] (by decide +kernel) rfl ?_
    refine pm_goto (off := 4) 18 (by decide +kernel) (by decide) ?_
    have h9 := Option.some.inj h
    subst h9
    exact pm_reti rfl (by decide +kernel) rfl rfl rfl
def K_Md_spells_38 (N : Nat) (g : pm_s) (u : pm_J) : Nat → Int32 → Int32 → Int64 → Int32 → Int32 → Option (Int32)
  | 0, _, _, _, _, _ => none
  | n + 1, x1, x2, y3, x5, x6 => if x2 ≤ x6 then if (x5 == 0 || x5 == 1) = true then some x5 else none else if x5 = 0 then if (x5 == 0 || x5 == 1) = true then some x5 else none else (F_Md_octet (x1 + x6) g u).bind fun q6 => if q6 = (((y3 >>> ((8 * x6).toInt64 &&& 63)) &&& 255).toInt32) then K_Md_spells_38 N g u  n x1 x2 y3 1 (x6 + 1) else K_Md_spells_38 N g u  n x1 x2 y3 0 (x6 + 1)
set_option maxHeartbeats 4000000 in
set_option maxRecDepth 100000 in
theorem w_Md_spells_38 (l : Launch) (h0 : Nat) (D : pm_D) {g : pm_s} (hT : sh_T g) {N : Nat} {u : pm_J} {out : Int32} {p : Program} {e : Env} {R : Room} {s : State} {m : MethodId} {args : Array Value} {below : List Frame} {meth : Method} {c : Code} : ∀ (n : Nat) (x1 : Int32) (x2 : Int32) (y3 : Int64) (x5 : Int32) (x6 : Int32), K_Md_spells_38 N g u n x1 x2 y3 x5 x6 = some out → pm_V (p, l, e, R, s, m, args, below, meth, c) m_Md_spells h0 D (g.1, g.2.1, g.1, g.2.1, 1) (pm_E (p, l, e, R, s, m, args, below, meth, c) h0 D (sm g u) (some (.int out)) (sm g u)) 38 [(0, .ref 64), (1, .int x1), (2, .int x2), (3, .long y3), (5, .int x5), (6, .int x6)] [] (sm g u) := by
  intro n
  induction n with
  | zero => intro x1 x2 y3 x5 x6 h; cases h
  | succ n ih =>
    intro x1 x2 y3 x5 x6 h
    rw [K_Md_spells_38] at h
    refine pm_blk (pc' := 41) (L' := [(0, .ref 64), (1, .int x1), (2, .int x2), (3, .long y3), (5, .int x5), (6, .int x6)]) (S' := [.int x2, .int x6]) (M' := sm g u) [pm_o (.iload 6), pm_o (.iload_n 2)] (by decide +kernel) rfl ?_
    refine pm_ic_ge (off := 44) 85 (by decide +kernel) (by decide) (fun hc2 => ?_) (fun hc2 => ?_)
    · rw [if_pos hc2] at h
      refine pm_blk (pc' := 87) (L' := [(0, .ref 64), (1, .int x1), (2, .int x2), (3, .long y3), (5, .int x5), (6, .int x6)]) (S' := [.int x5]) (M' := sm g u) [pm_o (.iload 5)] (by decide +kernel) rfl ?_
      obtain ⟨hz3, h⟩ := pm_ifs h
      have h9 := Option.some.inj h
      subst h9
      exact pm_retz rfl (by decide +kernel) hz3 rfl rfl rfl
    · rw [if_neg hc2] at h
      refine pm_blk (pc' := 46) (L' := [(0, .ref 64), (1, .int x1), (2, .int x2), (3, .long y3), (5, .int x5), (6, .int x6)]) (S' := [.int x5]) (M' := sm g u) [pm_o (.iload 5)] (by decide +kernel) rfl ?_
      refine pm_if_eq (off := 39) 85 (by decide +kernel) (by decide) (fun hc4 => ?_) (fun hc4 => ?_)
      · rw [if_pos hc4] at h
        refine pm_blk (pc' := 87) (L' := [(0, .ref 64), (1, .int x1), (2, .int x2), (3, .long y3), (5, .int x5), (6, .int x6)]) (S' := [.int x5]) (M' := sm g u) [pm_o (.iload 5)] (by decide +kernel) rfl ?_
        obtain ⟨hz5, h⟩ := pm_ifs h
        have h9 := Option.some.inj h
        subst h9
        exact pm_retz rfl (by decide +kernel) hz5 rfl rfl rfl
      · rw [if_neg hc4] at h
        refine pm_blk (pc' := 54) (L' := [(0, .ref 64), (1, .int x1), (2, .int x2), (3, .long y3), (5, .int x5), (6, .int x6)]) (S' := [.int (x1 + x6), .ref 64]) (M' := sm g u) [pm_o (.aload_n 0), pm_o (.iload_n 1), pm_o (.iload 6), pm_o .iadd] (by decide +kernel) rfl ?_
        obtain ⟨q6, hq6, h⟩ := pm_bd h
        refine pm_cV (idx := 279) m_Md_octet (c_Md_octet l h0 D hT hq6) (As := [.int (x1 + x6)]) (S0 := []) rfl (by decide +kernel) k_Md_octet l_Md_279 (Nat.le_of_ble_eq_true rfl) (Nat.le_of_ble_eq_true rfl) (Nat.le_refl _) (Nat.le_refl _) ?_
        refine pm_blk (pc' := 69) (L' := [(0, .ref 64), (1, .int x1), (2, .int x2), (3, .long y3), (5, .int x5), (6, .int x6)]) (S' := [.int (((y3 >>> ((8 * x6).toInt64 &&& 63)) &&& 255).toInt32), .int q6]) (M' := sm g u) [pm_o (.lload_n 3), pm_oi (.bipush 8) 8, pm_o (.iload 6), pm_o .imul, pm_o .lshr, pm_ol (.ldc2_w 268) 255, pm_o .land, pm_o .l2i] (by decide +kernel) rfl ?_
        refine pm_ic_ne (off := 7) 76 (by decide +kernel) (by decide) (fun hc7 => ?_) (fun hc7 => ?_)
        · rw [if_neg hc7] at h
          refine pm_blk (pc' := 82) (L' := [(6, .int (x6 + 1)), (5, .int 0), (0, .ref 64), (1, .int x1), (2, .int x2), (3, .long y3)]) (S' := []) (M' := sm g u) [pm_oi (.iconst 0) 0, pm_o (.istore 5), pm_oi (.iinc 6 1) 1] (by decide +kernel) rfl ?_
          refine pm_goto (off := -44) 38 (by decide +kernel) (by decide) ?_
          refine pm_loc [2, 3, 4, 5, 1, 0] rfl ?_
          exact ih x1 x2 y3 0 (x6 + 1) h
        · rw [if_pos hc7] at h
          refine pm_blk (pc' := 73) (L' := [(0, .ref 64), (1, .int x1), (2, .int x2), (3, .long y3), (5, .int x5), (6, .int x6)]) (S' := [.int 1]) (M' := sm g u) [pm_oi (.iconst 1) 1] (by decide +kernel) rfl ?_
          refine pm_goto (off := 4) 77 (by decide +kernel) (by decide) ?_
          refine pm_blk (pc' := 82) (L' := [(6, .int (x6 + 1)), (5, .int 1), (0, .ref 64), (1, .int x1), (2, .int x2), (3, .long y3)]) (S' := []) (M' := sm g u) [pm_o (.istore 5), pm_oi (.iinc 6 1) 1] (by decide +kernel) rfl ?_
          refine pm_goto (off := -44) 38 (by decide +kernel) (by decide) ?_
          refine pm_loc [2, 3, 4, 5, 1, 0] rfl ?_
          exact ih x1 x2 y3 1 (x6 + 1) h
def F_Md_spells (N : Nat) (a1 : Int32) (a2 : Int32) (a3 : Int64) (g : pm_s) (u : pm_J) : Option (Int32) := if (lg_cmp (a3 >>> ((8 * (a2 - 1)).toInt64 &&& 63)) 0) ≤ 0 then K_Md_spells_38 N g u N a1 a2 a3 0 0 else if 0 ≤ (lg_cmp (a3 >>> ((8 * (a2 - 1)).toInt64 &&& 63)) 256) then K_Md_spells_38 N g u N a1 a2 a3 0 0 else K_Md_spells_38 N g u N a1 a2 a3 1 0
set_option maxHeartbeats 4000000 in
set_option maxRecDepth 100000 in
theorem c_Md_spells (l : Launch) (h0 : Nat) (D : pm_D) {g : pm_s} {u : pm_J} (hT : sh_T g) {N : Nat} {a1 : Int32} {a2 : Int32} {a3 : Int64} {out : Int32} (h : F_Md_spells N a1 a2 a3 g u = some out) : pm_C l h0 D m_Md_spells (1) [.ref 64, .int a1, .int a2, .long a3] (sm g u) (some (.int out)) (sm g u) := by
  unfold F_Md_spells at h
  refine pm_met (by decide +kernel) (Nat.le_of_ble_eq_true rfl) (Nat.le_refl _) (Nat.le_refl _) ?_
  intro p e R s m args below meth c
  refine pm_blk (pc' := 10) (L' := [(0, .ref 64), (1, .int a1), (2, .int a2), (3, .long a3)]) (S' := [.int (lg_cmp (a3 >>> ((8 * (a2 - 1)).toInt64 &&& 63)) 0)]) (M' := sm g u) [pm_o (.lload_n 3), pm_oi (.bipush 8) 8, pm_o (.iload_n 2), pm_oi (.iconst 1) 1, pm_o .isub, pm_o .imul, pm_o .lshr, pm_ol (.lconst 0) 0, pm_o .lcmp] (by decide +kernel) rfl ?_
  refine pm_if_le (off := 22) 32 (by decide +kernel) (by decide) (fun hc1 => ?_) (fun hc1 => ?_)
  · rw [if_pos hc1] at h
    refine pm_blk (pc' := 38) (L' := [(6, .int 0), (5, .int 0), (0, .ref 64), (1, .int a1), (2, .int a2), (3, .long a3)]) (S' := []) (M' := sm g u) [pm_oi (.iconst 0) 0, pm_o (.istore 5), pm_oi (.iconst 0) 0, pm_o (.istore 6)] (by decide +kernel) rfl ?_
    refine pm_loc [2, 3, 4, 5, 1, 0] rfl ?_
    exact w_Md_spells_38 l h0 D hT N a1 a2 a3 0 0 h
  · rw [if_neg hc1] at h
    refine pm_blk (pc' := 25) (L' := [(0, .ref 64), (1, .int a1), (2, .int a2), (3, .long a3)]) (S' := [.int (lg_cmp (a3 >>> ((8 * (a2 - 1)).toInt64 &&& 63)) 256)]) (M' := sm g u) [pm_o (.lload_n 3), pm_oi (.bipush 8) 8, pm_o (.iload_n 2), pm_oi (.iconst 1) 1, pm_o .isub, pm_o .imul, pm_o .lshr, pm_ol (.ldc2_w 277) 256, pm_o .lcmp] (by decide +kernel) rfl ?_
    refine pm_if_ge (off := 7) 32 (by decide +kernel) (by decide) (fun hc8 => ?_) (fun hc8 => ?_)
    · rw [if_pos hc8] at h
      refine pm_blk (pc' := 38) (L' := [(6, .int 0), (5, .int 0), (0, .ref 64), (1, .int a1), (2, .int a2), (3, .long a3)]) (S' := []) (M' := sm g u) [pm_oi (.iconst 0) 0, pm_o (.istore 5), pm_oi (.iconst 0) 0, pm_o (.istore 6)] (by decide +kernel) rfl ?_
      refine pm_loc [2, 3, 4, 5, 1, 0] rfl ?_
      exact w_Md_spells_38 l h0 D hT N a1 a2 a3 0 0 h
    · rw [if_neg hc8] at h
      refine pm_blk (pc' := 29) (L' := [(0, .ref 64), (1, .int a1), (2, .int a2), (3, .long a3)]) (S' := [.int 1]) (M' := sm g u) [pm_oi (.iconst 1) 1] (by decide +kernel) rfl ?_
      refine pm_goto (off := 4) 33 (by decide +kernel) (by decide) ?_
      refine pm_blk (pc' := 38) (L' := [(6, .int 0), (5, .int 1), (0, .ref 64), (1, .int a1), (2, .int a2), (3, .long a3)]) (S' := []) (M' := sm g u) [pm_o (.istore 5), pm_oi (.iconst 0) 0, pm_o (.istore 6)] (by decide +kernel) rfl ?_
      refine pm_loc [2, 3, 4, 5, 1, 0] rfl ?_
      exact w_Md_spells_38 l h0 D hT N a1 a2 a3 1 0 h
def F_Md_wordAt (N : Nat) (a1 : Int32) (a2 : Int32) (g : pm_s) (u : pm_J) : Option (Int32) := if a2 ≤ 6 then (F_Md_spells N a1 a2 1735290732 g u).bind fun q2 => if q2 = 0 then (F_Md_spells N a1 a2 111516182736740 g u).bind fun q4 => if q4 = 0 then (F_Md_spells N a1 a2 7628140 g u).bind fun q6 => if q6 = 0 then (F_Md_spells N a1 a2 28265 g u).bind fun q8 => if q8 = 0 then (F_Md_spells N a1 a2 26217 g u).bind fun q10 => if q10 = 0 then (F_Md_spells N a1 a2 1852139636 g u).bind fun q12 => if q12 = 0 then (F_Md_spells N a1 a2 1702063205 g u).bind fun q14 => if q14 = 0 then (F_Md_spells N a1 a2 28262 g u).bind fun q16 => if q16 = 0 then (F_Md_spells N a1 a2 7631718 g u).bind fun q18 => if q18 = 0 then (F_Md_spells N a1 a2 6581875 g u).bind fun q20 => if q20 = 0 then some 1 else some 11 else some 10 else some 9 else some 8 else some 7 else some 6 else some 5 else some 4 else some 3 else some 2 else some 1
set_option maxHeartbeats 4000000 in
set_option maxRecDepth 100000 in
theorem c_Md_wordAt (l : Launch) (h0 : Nat) (D : pm_D) {g : pm_s} {u : pm_J} (hT : sh_T g) {N : Nat} {a1 : Int32} {a2 : Int32} {out : Int32} (h : F_Md_wordAt N a1 a2 g u = some out) : pm_C l h0 D m_Md_wordAt (2) [.ref 64, .int a1, .int a2] (sm g u) (some (.int out)) (sm g u) := by
  unfold F_Md_wordAt at h
  refine pm_met (by decide +kernel) (Nat.le_of_ble_eq_true rfl) (Nat.le_refl _) (Nat.le_refl _) ?_
  intro p e R s m args below meth c
  refine pm_blk (pc' := 3) (L' := [(0, .ref 64), (1, .int a1), (2, .int a2)]) (S' := [.int 6, .int a2]) (M' := sm g u) [pm_o (.iload_n 2), pm_oi (.bipush 6) 6] (by decide +kernel) rfl ?_
  refine pm_ic_le (off := 7) 10 (by decide +kernel) (by decide) (fun hc1 => ?_) (fun hc1 => ?_)
  · rw [if_pos hc1] at h
    refine pm_blk (pc' := 16) (L' := [(0, .ref 64), (1, .int a1), (2, .int a2)]) (S' := [.long 1735290732, .int a2, .int a1, .ref 64]) (M' := sm g u) [pm_o (.aload_n 0), pm_o (.iload_n 1), pm_o (.iload_n 2), pm_ol (.ldc2_w 283) 1735290732] (by decide +kernel) rfl ?_
    obtain ⟨q2, hq2, h⟩ := pm_bd h
    refine pm_cV (idx := 285) m_Md_spells (c_Md_spells l h0 D hT hq2) (As := [.int a1, .int a2, .long 1735290732]) (S0 := []) rfl (by decide +kernel) k_Md_spells l_Md_285 (Nat.le_of_ble_eq_true rfl) (Nat.le_of_ble_eq_true rfl) (Nat.le_refl _) (Nat.le_refl _) ?_
    refine pm_blk (pc' := 19) (L' := [(0, .ref 64), (1, .int a1), (2, .int a2)]) (S' := [.int q2]) (M' := sm g u) [] (by decide +kernel) rfl ?_
    refine pm_if_eq (off := 7) 26 (by decide +kernel) (by decide) (fun hc3 => ?_) (fun hc3 => ?_)
    · rw [if_pos hc3] at h
      refine pm_blk (pc' := 32) (L' := [(0, .ref 64), (1, .int a1), (2, .int a2)]) (S' := [.long 111516182736740, .int a2, .int a1, .ref 64]) (M' := sm g u) [pm_o (.aload_n 0), pm_o (.iload_n 1), pm_o (.iload_n 2), pm_ol (.ldc2_w 289) 111516182736740] (by decide +kernel) rfl ?_
      obtain ⟨q4, hq4, h⟩ := pm_bd h
      refine pm_cV (idx := 285) m_Md_spells (c_Md_spells l h0 D hT hq4) (As := [.int a1, .int a2, .long 111516182736740]) (S0 := []) rfl (by decide +kernel) k_Md_spells l_Md_285 (Nat.le_of_ble_eq_true rfl) (Nat.le_of_ble_eq_true rfl) (Nat.le_refl _) (Nat.le_refl _) ?_
      refine pm_blk (pc' := 35) (L' := [(0, .ref 64), (1, .int a1), (2, .int a2)]) (S' := [.int q4]) (M' := sm g u) [] (by decide +kernel) rfl ?_
      refine pm_if_eq (off := 7) 42 (by decide +kernel) (by decide) (fun hc5 => ?_) (fun hc5 => ?_)
      · rw [if_pos hc5] at h
        refine pm_blk (pc' := 48) (L' := [(0, .ref 64), (1, .int a1), (2, .int a2)]) (S' := [.long 7628140, .int a2, .int a1, .ref 64]) (M' := sm g u) [pm_o (.aload_n 0), pm_o (.iload_n 1), pm_o (.iload_n 2), pm_ol (.ldc2_w 291) 7628140] (by decide +kernel) rfl ?_
        obtain ⟨q6, hq6, h⟩ := pm_bd h
        refine pm_cV (idx := 285) m_Md_spells (c_Md_spells l h0 D hT hq6) (As := [.int a1, .int a2, .long 7628140]) (S0 := []) rfl (by decide +kernel) k_Md_spells l_Md_285 (Nat.le_of_ble_eq_true rfl) (Nat.le_of_ble_eq_true rfl) (Nat.le_refl _) (Nat.le_refl _) ?_
        refine pm_blk (pc' := 51) (L' := [(0, .ref 64), (1, .int a1), (2, .int a2)]) (S' := [.int q6]) (M' := sm g u) [] (by decide +kernel) rfl ?_
        refine pm_if_eq (off := 7) 58 (by decide +kernel) (by decide) (fun hc7 => ?_) (fun hc7 => ?_)
        · rw [if_pos hc7] at h
          refine pm_blk (pc' := 64) (L' := [(0, .ref 64), (1, .int a1), (2, .int a2)]) (S' := [.long 28265, .int a2, .int a1, .ref 64]) (M' := sm g u) [pm_o (.aload_n 0), pm_o (.iload_n 1), pm_o (.iload_n 2), pm_ol (.ldc2_w 293) 28265] (by decide +kernel) rfl ?_
          obtain ⟨q8, hq8, h⟩ := pm_bd h
          refine pm_cV (idx := 285) m_Md_spells (c_Md_spells l h0 D hT hq8) (As := [.int a1, .int a2, .long 28265]) (S0 := []) rfl (by decide +kernel) k_Md_spells l_Md_285 (Nat.le_of_ble_eq_true rfl) (Nat.le_of_ble_eq_true rfl) (Nat.le_refl _) (Nat.le_refl _) ?_
          refine pm_blk (pc' := 67) (L' := [(0, .ref 64), (1, .int a1), (2, .int a2)]) (S' := [.int q8]) (M' := sm g u) [] (by decide +kernel) rfl ?_
          refine pm_if_eq (off := 7) 74 (by decide +kernel) (by decide) (fun hc9 => ?_) (fun hc9 => ?_)
          · rw [if_pos hc9] at h
            refine pm_blk (pc' := 80) (L' := [(0, .ref 64), (1, .int a1), (2, .int a2)]) (S' := [.long 26217, .int a2, .int a1, .ref 64]) (M' := sm g u) [pm_o (.aload_n 0), pm_o (.iload_n 1), pm_o (.iload_n 2), pm_ol (.ldc2_w 295) 26217] (by decide +kernel) rfl ?_
            obtain ⟨q10, hq10, h⟩ := pm_bd h
            refine pm_cV (idx := 285) m_Md_spells (c_Md_spells l h0 D hT hq10) (As := [.int a1, .int a2, .long 26217]) (S0 := []) rfl (by decide +kernel) k_Md_spells l_Md_285 (Nat.le_of_ble_eq_true rfl) (Nat.le_of_ble_eq_true rfl) (Nat.le_refl _) (Nat.le_refl _) ?_
            refine pm_blk (pc' := 83) (L' := [(0, .ref 64), (1, .int a1), (2, .int a2)]) (S' := [.int q10]) (M' := sm g u) [] (by decide +kernel) rfl ?_
            refine pm_if_eq (off := 8) 91 (by decide +kernel) (by decide) (fun hc11 => ?_) (fun hc11 => ?_)
            · rw [if_pos hc11] at h
              refine pm_blk (pc' := 97) (L' := [(0, .ref 64), (1, .int a1), (2, .int a2)]) (S' := [.long 1852139636, .int a2, .int a1, .ref 64]) (M' := sm g u) [pm_o (.aload_n 0), pm_o (.iload_n 1), pm_o (.iload_n 2), pm_ol (.ldc2_w 297) 1852139636] (by decide +kernel) rfl ?_
              obtain ⟨q12, hq12, h⟩ := pm_bd h
              refine pm_cV (idx := 285) m_Md_spells (c_Md_spells l h0 D hT hq12) (As := [.int a1, .int a2, .long 1852139636]) (S0 := []) rfl (by decide +kernel) k_Md_spells l_Md_285 (Nat.le_of_ble_eq_true rfl) (Nat.le_of_ble_eq_true rfl) (Nat.le_refl _) (Nat.le_refl _) ?_
              refine pm_blk (pc' := 100) (L' := [(0, .ref 64), (1, .int a1), (2, .int a2)]) (S' := [.int q12]) (M' := sm g u) [] (by decide +kernel) rfl ?_
              refine pm_if_eq (off := 8) 108 (by decide +kernel) (by decide) (fun hc13 => ?_) (fun hc13 => ?_)
              · rw [if_pos hc13] at h
                refine pm_blk (pc' := 114) (L' := [(0, .ref 64), (1, .int a1), (2, .int a2)]) (S' := [.long 1702063205, .int a2, .int a1, .ref 64]) (M' := sm g u) [pm_o (.aload_n 0), pm_o (.iload_n 1), pm_o (.iload_n 2), pm_ol (.ldc2_w 299) 1702063205] (by decide +kernel) rfl ?_
                obtain ⟨q14, hq14, h⟩ := pm_bd h
                refine pm_cV (idx := 285) m_Md_spells (c_Md_spells l h0 D hT hq14) (As := [.int a1, .int a2, .long 1702063205]) (S0 := []) rfl (by decide +kernel) k_Md_spells l_Md_285 (Nat.le_of_ble_eq_true rfl) (Nat.le_of_ble_eq_true rfl) (Nat.le_refl _) (Nat.le_refl _) ?_
                refine pm_blk (pc' := 117) (L' := [(0, .ref 64), (1, .int a1), (2, .int a2)]) (S' := [.int q14]) (M' := sm g u) [] (by decide +kernel) rfl ?_
                refine pm_if_eq (off := 8) 125 (by decide +kernel) (by decide) (fun hc15 => ?_) (fun hc15 => ?_)
                · rw [if_pos hc15] at h
                  refine pm_blk (pc' := 131) (L' := [(0, .ref 64), (1, .int a1), (2, .int a2)]) (S' := [.long 28262, .int a2, .int a1, .ref 64]) (M' := sm g u) [pm_o (.aload_n 0), pm_o (.iload_n 1), pm_o (.iload_n 2), pm_ol (.ldc2_w 301) 28262] (by decide +kernel) rfl ?_
                  obtain ⟨q16, hq16, h⟩ := pm_bd h
                  refine pm_cV (idx := 285) m_Md_spells (c_Md_spells l h0 D hT hq16) (As := [.int a1, .int a2, .long 28262]) (S0 := []) rfl (by decide +kernel) k_Md_spells l_Md_285 (Nat.le_of_ble_eq_true rfl) (Nat.le_of_ble_eq_true rfl) (Nat.le_refl _) (Nat.le_refl _) ?_
                  refine pm_blk (pc' := 134) (L' := [(0, .ref 64), (1, .int a1), (2, .int a2)]) (S' := [.int q16]) (M' := sm g u) [] (by decide +kernel) rfl ?_
                  refine pm_if_eq (off := 8) 142 (by decide +kernel) (by decide) (fun hc17 => ?_) (fun hc17 => ?_)
                  · rw [if_pos hc17] at h
                    refine pm_blk (pc' := 148) (L' := [(0, .ref 64), (1, .int a1), (2, .int a2)]) (S' := [.long 7631718, .int a2, .int a1, .ref 64]) (M' := sm g u) [pm_o (.aload_n 0), pm_o (.iload_n 1), pm_o (.iload_n 2), pm_ol (.ldc2_w 303) 7631718] (by decide +kernel) rfl ?_
                    obtain ⟨q18, hq18, h⟩ := pm_bd h
                    refine pm_cV (idx := 285) m_Md_spells (c_Md_spells l h0 D hT hq18) (As := [.int a1, .int a2, .long 7631718]) (S0 := []) rfl (by decide +kernel) k_Md_spells l_Md_285 (Nat.le_of_ble_eq_true rfl) (Nat.le_of_ble_eq_true rfl) (Nat.le_refl _) (Nat.le_refl _) ?_
                    refine pm_blk (pc' := 151) (L' := [(0, .ref 64), (1, .int a1), (2, .int a2)]) (S' := [.int q18]) (M' := sm g u) [] (by decide +kernel) rfl ?_
                    refine pm_if_eq (off := 8) 159 (by decide +kernel) (by decide) (fun hc19 => ?_) (fun hc19 => ?_)
                    · rw [if_pos hc19] at h
                      refine pm_blk (pc' := 165) (L' := [(0, .ref 64), (1, .int a1), (2, .int a2)]) (S' := [.long 6581875, .int a2, .int a1, .ref 64]) (M' := sm g u) [pm_o (.aload_n 0), pm_o (.iload_n 1), pm_o (.iload_n 2), pm_ol (.ldc2_w 305) 6581875] (by decide +kernel) rfl ?_
                      obtain ⟨q20, hq20, h⟩ := pm_bd h
                      refine pm_cV (idx := 285) m_Md_spells (c_Md_spells l h0 D hT hq20) (As := [.int a1, .int a2, .long 6581875]) (S0 := []) rfl (by decide +kernel) k_Md_spells l_Md_285 (Nat.le_of_ble_eq_true rfl) (Nat.le_of_ble_eq_true rfl) (Nat.le_refl _) (Nat.le_refl _) ?_
                      refine pm_blk (pc' := 168) (L' := [(0, .ref 64), (1, .int a1), (2, .int a2)]) (S' := [.int q20]) (M' := sm g u) [] (by decide +kernel) rfl ?_
                      refine pm_if_eq (off := 8) 176 (by decide +kernel) (by decide) (fun hc21 => ?_) (fun hc21 => ?_)
                      · rw [if_pos hc21] at h
                        refine pm_blk (pc' := 177) (L' := [(0, .ref 64), (1, .int a1), (2, .int a2)]) (S' := [.int 1]) (M' := sm g u) [pm_oi (.iconst 1) 1] (by decide +kernel) rfl ?_
                        have h9 := Option.some.inj h
                        subst h9
                        exact pm_reti rfl (by decide +kernel) rfl rfl rfl
                      · rw [if_neg hc21] at h
                        refine pm_blk (pc' := 173) (L' := [(0, .ref 64), (1, .int a1), (2, .int a2)]) (S' := [.int 11]) (M' := sm g u) [pm_oi (.bipush 11) 11] (by decide +kernel) rfl ?_
                        refine pm_goto (off := 4) 177 (by decide +kernel) (by decide) ?_
                        have h9 := Option.some.inj h
                        subst h9
                        exact pm_reti rfl (by decide +kernel) rfl rfl rfl
                    · rw [if_neg hc19] at h
                      refine pm_blk (pc' := 156) (L' := [(0, .ref 64), (1, .int a1), (2, .int a2)]) (S' := [.int 10]) (M' := sm g u) [pm_oi (.bipush 10) 10] (by decide +kernel) rfl ?_
                      refine pm_goto (off := 21) 177 (by decide +kernel) (by decide) ?_
                      have h9 := Option.some.inj h
                      subst h9
                      exact pm_reti rfl (by decide +kernel) rfl rfl rfl
                  · rw [if_neg hc17] at h
                    refine pm_blk (pc' := 139) (L' := [(0, .ref 64), (1, .int a1), (2, .int a2)]) (S' := [.int 9]) (M' := sm g u) [pm_oi (.bipush 9) 9] (by decide +kernel) rfl ?_
                    refine pm_goto (off := 38) 177 (by decide +kernel) (by decide) ?_
                    have h9 := Option.some.inj h
                    subst h9
                    exact pm_reti rfl (by decide +kernel) rfl rfl rfl
                · rw [if_neg hc15] at h
                  refine pm_blk (pc' := 122) (L' := [(0, .ref 64), (1, .int a1), (2, .int a2)]) (S' := [.int 8]) (M' := sm g u) [pm_oi (.bipush 8) 8] (by decide +kernel) rfl ?_
                  refine pm_goto (off := 55) 177 (by decide +kernel) (by decide) ?_
                  have h9 := Option.some.inj h
                  subst h9
                  exact pm_reti rfl (by decide +kernel) rfl rfl rfl
              · rw [if_neg hc13] at h
                refine pm_blk (pc' := 105) (L' := [(0, .ref 64), (1, .int a1), (2, .int a2)]) (S' := [.int 7]) (M' := sm g u) [pm_oi (.bipush 7) 7] (by decide +kernel) rfl ?_
                refine pm_goto (off := 72) 177 (by decide +kernel) (by decide) ?_
                have h9 := Option.some.inj h
                subst h9
                exact pm_reti rfl (by decide +kernel) rfl rfl rfl
            · rw [if_neg hc11] at h
              refine pm_blk (pc' := 88) (L' := [(0, .ref 64), (1, .int a1), (2, .int a2)]) (S' := [.int 6]) (M' := sm g u) [pm_oi (.bipush 6) 6] (by decide +kernel) rfl ?_
              refine pm_goto (off := 89) 177 (by decide +kernel) (by decide) ?_
              have h9 := Option.some.inj h
              subst h9
              exact pm_reti rfl (by decide +kernel) rfl rfl rfl
          · rw [if_neg hc9] at h
            refine pm_blk (pc' := 71) (L' := [(0, .ref 64), (1, .int a1), (2, .int a2)]) (S' := [.int 5]) (M' := sm g u) [pm_oi (.iconst 5) 5] (by decide +kernel) rfl ?_
            refine pm_goto (off := 106) 177 (by decide +kernel) (by decide) ?_
            have h9 := Option.some.inj h
            subst h9
            exact pm_reti rfl (by decide +kernel) rfl rfl rfl
        · rw [if_neg hc7] at h
          refine pm_blk (pc' := 55) (L' := [(0, .ref 64), (1, .int a1), (2, .int a2)]) (S' := [.int 4]) (M' := sm g u) [pm_oi (.iconst 4) 4] (by decide +kernel) rfl ?_
          refine pm_goto (off := 122) 177 (by decide +kernel) (by decide) ?_
          have h9 := Option.some.inj h
          subst h9
          exact pm_reti rfl (by decide +kernel) rfl rfl rfl
      · rw [if_neg hc5] at h
        refine pm_blk (pc' := 39) (L' := [(0, .ref 64), (1, .int a1), (2, .int a2)]) (S' := [.int 3]) (M' := sm g u) [pm_oi (.iconst 3) 3] (by decide +kernel) rfl ?_
        refine pm_goto (off := 138) 177 (by decide +kernel) (by decide) ?_
        have h9 := Option.some.inj h
        subst h9
        exact pm_reti rfl (by decide +kernel) rfl rfl rfl
    · rw [if_neg hc3] at h
      refine pm_blk (pc' := 23) (L' := [(0, .ref 64), (1, .int a1), (2, .int a2)]) (S' := [.int 2]) (M' := sm g u) [pm_oi (.iconst 2) 2] (by decide +kernel) rfl ?_
      refine pm_goto (off := 154) 177 (by decide +kernel) (by decide) ?_
      have h9 := Option.some.inj h
      subst h9
      exact pm_reti rfl (by decide +kernel) rfl rfl rfl
  · rw [if_neg hc1] at h
    refine pm_blk (pc' := 7) (L' := [(0, .ref 64), (1, .int a1), (2, .int a2)]) (S' := [.int 1]) (M' := sm g u) [pm_oi (.iconst 1) 1] (by decide +kernel) rfl ?_
    refine pm_goto (off := 170) 177 (by decide +kernel) (by decide) ?_
    have h9 := Option.some.inj h
    subst h9
    exact pm_reti rfl (by decide +kernel) rfl rfl rfl
def F_Md_signAt (a1 : Int32) (g : pm_s) (u : pm_J) : Option (Int32) := (F_Md_octet a1 g u).bind fun q1 => if q1 = 40 then some 15 else if q1 = 41 then some 16 else if q1 = 42 then some 22 else if q1 = 43 then some 23 else if q1 = 44 then some 21 else if q1 = 45 then (F_Md_octet (a1 + 1) g u).bind fun q8 => if q8 = 62 then some 20 else some 24 else if q1 = 58 then some 17 else if q1 = 59 then some 19 else if q1 = 60 then some 25 else if q1 = 61 then some 18 else some (-1)
set_option maxHeartbeats 4000000 in
set_option maxRecDepth 100000 in
theorem c_Md_signAt (l : Launch) (h0 : Nat) (D : pm_D) {g : pm_s} {u : pm_J} (hT : sh_T g) {a1 : Int32} {out : Int32} (h : F_Md_signAt a1 g u = some out) : pm_C l h0 D m_Md_signAt (1) [.ref 64, .int a1] (sm g u) (some (.int out)) (sm g u) := by
  unfold F_Md_signAt at h
  refine pm_met (by decide +kernel) (Nat.le_of_ble_eq_true rfl) (Nat.le_refl _) (Nat.le_refl _) ?_
  intro p e R s m args below meth c
  refine pm_blk (pc' := 2) (L' := [(0, .ref 64), (1, .int a1)]) (S' := [.int a1, .ref 64]) (M' := sm g u) [pm_o (.aload_n 0), pm_o (.iload_n 1)] (by decide +kernel) rfl ?_
  obtain ⟨q1, hq1, h⟩ := pm_bd h
  refine pm_cV (idx := 279) m_Md_octet (c_Md_octet l h0 D hT hq1) (As := [.int a1]) (S0 := []) rfl (by decide +kernel) k_Md_octet l_Md_279 (Nat.le_of_ble_eq_true rfl) (Nat.le_of_ble_eq_true rfl) (Nat.le_refl _) (Nat.le_refl _) ?_
  refine pm_blk (pc' := 5) (L' := [(0, .ref 64), (1, .int a1)]) (S' := [.int q1]) (M' := sm g u) [] (by decide +kernel) rfl ?_
  refine pm_tsw (dflt := 150) (lo := 40) (hi := 61) (offs := #[103, 106, 141, 144, 138, 118, 150, 150, 150, 150, 150, 150, 150, 150, 150, 150, 150, 150, 109, 115, 147, 112]) (len := 103) [(40, 108), (41, 111), (42, 146), (43, 149), (44, 143), (45, 123), (58, 114), (59, 120), (60, 152), (61, 117)] 155 (by decide +kernel) (by decide +kernel) ?_
  by_cases hs2 : q1 = 40
  · rw [if_pos hs2] at h
    rw [pm_sw_pos hs2]
    refine pm_blk (pc' := 110) (L' := [(0, .ref 64), (1, .int a1)]) (S' := [.int 15]) (M' := sm g u) [pm_oi (.bipush 15) 15] (by decide +kernel) rfl ?_
    have h9 := Option.some.inj h
    subst h9
    exact pm_reti rfl (by decide +kernel) rfl rfl rfl
  rw [if_neg hs2] at h
  rw [pm_sw_neg hs2]
  by_cases hs3 : q1 = 41
  · rw [if_pos hs3] at h
    rw [pm_sw_pos hs3]
    refine pm_blk (pc' := 113) (L' := [(0, .ref 64), (1, .int a1)]) (S' := [.int 16]) (M' := sm g u) [pm_oi (.bipush 16) 16] (by decide +kernel) rfl ?_
    have h9 := Option.some.inj h
    subst h9
    exact pm_reti rfl (by decide +kernel) rfl rfl rfl
  rw [if_neg hs3] at h
  rw [pm_sw_neg hs3]
  by_cases hs4 : q1 = 42
  · rw [if_pos hs4] at h
    rw [pm_sw_pos hs4]
    refine pm_blk (pc' := 148) (L' := [(0, .ref 64), (1, .int a1)]) (S' := [.int 22]) (M' := sm g u) [pm_oi (.bipush 22) 22] (by decide +kernel) rfl ?_
    have h9 := Option.some.inj h
    subst h9
    exact pm_reti rfl (by decide +kernel) rfl rfl rfl
  rw [if_neg hs4] at h
  rw [pm_sw_neg hs4]
  by_cases hs5 : q1 = 43
  · rw [if_pos hs5] at h
    rw [pm_sw_pos hs5]
    refine pm_blk (pc' := 151) (L' := [(0, .ref 64), (1, .int a1)]) (S' := [.int 23]) (M' := sm g u) [pm_oi (.bipush 23) 23] (by decide +kernel) rfl ?_
    have h9 := Option.some.inj h
    subst h9
    exact pm_reti rfl (by decide +kernel) rfl rfl rfl
  rw [if_neg hs5] at h
  rw [pm_sw_neg hs5]
  by_cases hs6 : q1 = 44
  · rw [if_pos hs6] at h
    rw [pm_sw_pos hs6]
    refine pm_blk (pc' := 145) (L' := [(0, .ref 64), (1, .int a1)]) (S' := [.int 21]) (M' := sm g u) [pm_oi (.bipush 21) 21] (by decide +kernel) rfl ?_
    have h9 := Option.some.inj h
    subst h9
    exact pm_reti rfl (by decide +kernel) rfl rfl rfl
  rw [if_neg hs6] at h
  rw [pm_sw_neg hs6]
  by_cases hs7 : q1 = 45
  · rw [if_pos hs7] at h
    rw [pm_sw_pos hs7]
    refine pm_blk (pc' := 127) (L' := [(0, .ref 64), (1, .int a1)]) (S' := [.int (a1 + 1), .ref 64]) (M' := sm g u) [pm_o (.aload_n 0), pm_o (.iload_n 1), pm_oi (.iconst 1) 1, pm_o .iadd] (by decide +kernel) rfl ?_
    obtain ⟨q8, hq8, h⟩ := pm_bd h
    refine pm_cV (idx := 279) m_Md_octet (c_Md_octet l h0 D hT hq8) (As := [.int (a1 + 1)]) (S0 := []) rfl (by decide +kernel) k_Md_octet l_Md_279 (Nat.le_of_ble_eq_true rfl) (Nat.le_of_ble_eq_true rfl) (Nat.le_refl _) (Nat.le_refl _) ?_
    refine pm_blk (pc' := 132) (L' := [(0, .ref 64), (1, .int a1)]) (S' := [.int 62, .int q8]) (M' := sm g u) [pm_oi (.bipush 62) 62] (by decide +kernel) rfl ?_
    refine pm_ic_ne (off := 8) 140 (by decide +kernel) (by decide) (fun hc9 => ?_) (fun hc9 => ?_)
    · rw [if_neg hc9] at h
      refine pm_blk (pc' := 142) (L' := [(0, .ref 64), (1, .int a1)]) (S' := [.int 24]) (M' := sm g u) [pm_oi (.bipush 24) 24] (by decide +kernel) rfl ?_
      have h9 := Option.some.inj h
      subst h9
      exact pm_reti rfl (by decide +kernel) rfl rfl rfl
    · rw [if_pos hc9] at h
      refine pm_blk (pc' := 137) (L' := [(0, .ref 64), (1, .int a1)]) (S' := [.int 20]) (M' := sm g u) [pm_oi (.bipush 20) 20] (by decide +kernel) rfl ?_
      refine pm_goto (off := 5) 142 (by decide +kernel) (by decide) ?_
      have h9 := Option.some.inj h
      subst h9
      exact pm_reti rfl (by decide +kernel) rfl rfl rfl
  rw [if_neg hs7] at h
  rw [pm_sw_neg hs7]
  by_cases hs10 : q1 = 58
  · rw [if_pos hs10] at h
    rw [pm_sw_pos hs10]
    refine pm_blk (pc' := 116) (L' := [(0, .ref 64), (1, .int a1)]) (S' := [.int 17]) (M' := sm g u) [pm_oi (.bipush 17) 17] (by decide +kernel) rfl ?_
    have h9 := Option.some.inj h
    subst h9
    exact pm_reti rfl (by decide +kernel) rfl rfl rfl
  rw [if_neg hs10] at h
  rw [pm_sw_neg hs10]
  by_cases hs11 : q1 = 59
  · rw [if_pos hs11] at h
    rw [pm_sw_pos hs11]
    refine pm_blk (pc' := 122) (L' := [(0, .ref 64), (1, .int a1)]) (S' := [.int 19]) (M' := sm g u) [pm_oi (.bipush 19) 19] (by decide +kernel) rfl ?_
    have h9 := Option.some.inj h
    subst h9
    exact pm_reti rfl (by decide +kernel) rfl rfl rfl
  rw [if_neg hs11] at h
  rw [pm_sw_neg hs11]
  by_cases hs12 : q1 = 60
  · rw [if_pos hs12] at h
    rw [pm_sw_pos hs12]
    refine pm_blk (pc' := 154) (L' := [(0, .ref 64), (1, .int a1)]) (S' := [.int 25]) (M' := sm g u) [pm_oi (.bipush 25) 25] (by decide +kernel) rfl ?_
    have h9 := Option.some.inj h
    subst h9
    exact pm_reti rfl (by decide +kernel) rfl rfl rfl
  rw [if_neg hs12] at h
  rw [pm_sw_neg hs12]
  by_cases hs13 : q1 = 61
  · rw [if_pos hs13] at h
    rw [pm_sw_pos hs13]
    refine pm_blk (pc' := 119) (L' := [(0, .ref 64), (1, .int a1)]) (S' := [.int 18]) (M' := sm g u) [pm_oi (.bipush 18) 18] (by decide +kernel) rfl ?_
    have h9 := Option.some.inj h
    subst h9
    exact pm_reti rfl (by decide +kernel) rfl rfl rfl
  rw [if_neg hs13] at h
  rw [pm_sw_neg hs13]
  refine pm_pc (pc' := 155) rfl ?_
  refine pm_blk (pc' := 156) (L' := [(0, .ref 64), (1, .int a1)]) (S' := [.int (-1)]) (M' := sm g u) [pm_oi (.iconst (-1)) (-1)] (by decide +kernel) rfl ?_
  have h9 := Option.some.inj h
  subst h9
  exact pm_reti rfl (by decide +kernel) rfl rfl rfl
def K_Md_tokenAt_278 (N : Nat) (g : pm_s) (k231 : Int32 → pm_J → Option (Int32 × pm_J)) (x1 : Int32) (t0 : Int32) (t1 : Int64) (u : pm_J) : Option (Int32 × pm_J) := k231 x1 (wi (wj u 64 46 (t1 ||| t0.toInt64)) 64 45 ((u.1 64 45) + 1))
set_option maxHeartbeats 4000000 in
set_option maxRecDepth 100000 in
theorem w_Md_tokenAt_278 (l : Launch) (h0 : Nat) (D : pm_D) {g : pm_s} (hT : sh_T g) {N : Nat} {u0 : pm_J} {out : Int32 × pm_J} {p : Program} {e : Env} {R : Room} {s : State} {m : MethodId} {args : Array Value} {below : List Frame} {meth : Method} {c : Code} {k231 : Int32 → pm_J → Option (Int32 × pm_J)} (hk231 : ∀ (x1 : Int32) (u : pm_J), k231 x1 u = some out → pm_V (p, l, e, R, s, m, args, below, meth, c) m_Md_tokenAt h0 D (g.1, g.2.1, g.1, g.2.1, 3) (pm_E (p, l, e, R, s, m, args, below, meth, c) h0 D (sm g u0) (some (.int out.1)) (sm g out.2)) 231 [(0, .ref 64), (1, .int x1)] [] (sm g u)) : ∀ (x1 : Int32) (t0 : Int32) (t1 : Int64) (u : pm_J), K_Md_tokenAt_278 N g k231 x1 t0 t1 u = some out → pm_V (p, l, e, R, s, m, args, below, meth, c) m_Md_tokenAt h0 D (g.1, g.2.1, g.1, g.2.1, 3) (pm_E (p, l, e, R, s, m, args, below, meth, c) h0 D (sm g u0) (some (.int out.1)) (sm g out.2)) 278 [(0, .ref 64), (1, .int x1)] [.int t0, .long t1, .ref 64] (sm g u) := by
    intro x1 t0 t1 u h
    unfold K_Md_tokenAt_278 at h
    refine pm_blk (pc' := 293) (L' := [(0, .ref 64), (1, .int x1)]) (S' := []) (M' := sm g (wi (wj u 64 46 (t1 ||| t0.toInt64)) 64 45 ((u.1 64 45) + 1))) [pm_o .i2l, pm_o .lor, pm_of (.putfield 310) 12 46 1, pm_o (.aload_n 0), pm_o .dup, pm_of (.getfield 307) 12 45 0, pm_oi (.iconst 1) 1, pm_o .iadd, pm_of (.putfield 307) 12 45 0] (by decide +kernel) rfl ?_
    refine pm_goto (off := -62) 231 (by decide +kernel) (by decide) ?_
    refine pm_loc [0, 1] rfl ?_
    exact hk231 x1 (wi (wj u 64 46 (t1 ||| t0.toInt64)) 64 45 ((u.1 64 45) + 1)) h
def K_Md_tokenAt_231 (N : Nat) (g : pm_s) : Nat → Int32 → pm_J → Option (Int32 × pm_J)
  | 0, _, _ => none
  | n + 1, x1, u => (F_Md_octet (u.1 64 45) g u).bind fun q13 => (F_Md_isHex q13 g u).bind fun q14 => if q14 = 0 then if ((u.1 64 45) - x1) ≤ 1 then some ((-1), u) else if 17 < ((u.1 64 45) - x1) then some ((-1), u) else some (13, u) else (F_Md_octet (u.1 64 45) g u).bind fun q18 => if 58 ≤ q18 then K_Md_tokenAt_278 N g (K_Md_tokenAt_231 N g  n) x1 (q18 - 87) ((u.2 64 46) <<< ((4 : Int32).toInt64 &&& 63)) u else K_Md_tokenAt_278 N g (K_Md_tokenAt_231 N g  n) x1 (q18 - 48) ((u.2 64 46) <<< ((4 : Int32).toInt64 &&& 63)) u
set_option maxHeartbeats 4000000 in
set_option maxRecDepth 100000 in
theorem w_Md_tokenAt_231 (l : Launch) (h0 : Nat) (D : pm_D) {g : pm_s} (hT : sh_T g) {N : Nat} {u0 : pm_J} {out : Int32 × pm_J} {p : Program} {e : Env} {R : Room} {s : State} {m : MethodId} {args : Array Value} {below : List Frame} {meth : Method} {c : Code} : ∀ (n : Nat) (x1 : Int32) (u : pm_J), K_Md_tokenAt_231 N g n x1 u = some out → pm_V (p, l, e, R, s, m, args, below, meth, c) m_Md_tokenAt h0 D (g.1, g.2.1, g.1, g.2.1, 3) (pm_E (p, l, e, R, s, m, args, below, meth, c) h0 D (sm g u0) (some (.int out.1)) (sm g out.2)) 231 [(0, .ref 64), (1, .int x1)] [] (sm g u) := by
  intro n
  induction n with
  | zero => intro x1 u h; cases h
  | succ n ih =>
    intro x1 u h
    rw [K_Md_tokenAt_231] at h
    refine pm_blk (pc' := 236) (L' := [(0, .ref 64), (1, .int x1)]) (S' := [.int (u.1 64 45), .ref 64]) (M' := sm g u) [pm_o (.aload_n 0), pm_o (.aload_n 0), pm_of (.getfield 307) 12 45 0] (by decide +kernel) rfl ?_
    obtain ⟨q13, hq13, h⟩ := pm_bd h
    refine pm_cV (idx := 279) m_Md_octet (c_Md_octet l h0 D hT hq13) (As := [.int (u.1 64 45)]) (S0 := []) rfl (by decide +kernel) k_Md_octet l_Md_279 (Nat.le_of_ble_eq_true rfl) (Nat.le_of_ble_eq_true rfl) (Nat.le_refl _) (Nat.le_refl _) ?_
    refine pm_blk (pc' := 239) (L' := [(0, .ref 64), (1, .int x1)]) (S' := [.int q13]) (M' := sm g u) [] (by decide +kernel) rfl ?_
    obtain ⟨q14, hq14, h⟩ := pm_bd h
    refine pm_cS (idx := 325) m_Md_isHex (c_Md_isHex l h0 D hT hq14) (As := [.int q13]) (S0 := []) rfl (by decide +kernel) k_Md_isHex l_Md_325 (Nat.le_of_ble_eq_true rfl) (Nat.le_of_ble_eq_true rfl) (Nat.le_refl _) (Nat.le_refl _) ?_
    refine pm_blk (pc' := 242) (L' := [(0, .ref 64), (1, .int x1)]) (S' := [.int q14]) (M' := sm g u) [] (by decide +kernel) rfl ?_
    refine pm_if_eq (off := 54) 296 (by decide +kernel) (by decide) (fun hc15 => ?_) (fun hc15 => ?_)
    · rw [if_pos hc15] at h
      refine pm_blk (pc' := 303) (L' := [(0, .ref 64), (1, .int x1)]) (S' := [.int 1, .int ((u.1 64 45) - x1)]) (M' := sm g u) [pm_o (.aload_n 0), pm_of (.getfield 307) 12 45 0, pm_o (.iload_n 1), pm_o .isub, pm_oi (.iconst 1) 1] (by decide +kernel) rfl ?_
      refine pm_ic_le (off := 19) 322 (by decide +kernel) (by decide) (fun hc16 => ?_) (fun hc16 => ?_)
      · rw [if_pos hc16] at h
        refine pm_blk (pc' := 323) (L' := [(0, .ref 64), (1, .int x1)]) (S' := [.int (-1)]) (M' := sm g u) [pm_oi (.iconst (-1)) (-1)] (by decide +kernel) rfl ?_
        have h9 := Option.some.inj h
        subst h9
        exact pm_reti rfl (by decide +kernel) rfl rfl rfl
      · rw [if_neg hc16] at h
        refine pm_blk (pc' := 314) (L' := [(0, .ref 64), (1, .int x1)]) (S' := [.int 17, .int ((u.1 64 45) - x1)]) (M' := sm g u) [pm_o (.aload_n 0), pm_of (.getfield 307) 12 45 0, pm_o (.iload_n 1), pm_o .isub, pm_oi (.bipush 17) 17] (by decide +kernel) rfl ?_
        refine pm_ic_gt (off := 8) 322 (by decide +kernel) (by decide) (fun hc17 => ?_) (fun hc17 => ?_)
        · rw [if_pos hc17] at h
          refine pm_blk (pc' := 323) (L' := [(0, .ref 64), (1, .int x1)]) (S' := [.int (-1)]) (M' := sm g u) [pm_oi (.iconst (-1)) (-1)] (by decide +kernel) rfl ?_
          have h9 := Option.some.inj h
          subst h9
          exact pm_reti rfl (by decide +kernel) rfl rfl rfl
        · rw [if_neg hc17] at h
          refine pm_blk (pc' := 319) (L' := [(0, .ref 64), (1, .int x1)]) (S' := [.int 13]) (M' := sm g u) [pm_oi (.bipush 13) 13] (by decide +kernel) rfl ?_
          refine pm_goto (off := 4) 323 (by decide +kernel) (by decide) ?_
          have h9 := Option.some.inj h
          subst h9
          exact pm_reti rfl (by decide +kernel) rfl rfl rfl
    · rw [if_neg hc15] at h
      refine pm_blk (pc' := 250) (L' := [(0, .ref 64), (1, .int x1)]) (S' := [.int (u.1 64 45), .ref 64]) (M' := sm g u) [pm_o (.aload_n 0), pm_o (.aload_n 0), pm_of (.getfield 307) 12 45 0] (by decide +kernel) rfl ?_
      obtain ⟨q18, hq18, h⟩ := pm_bd h
      refine pm_cV (idx := 279) m_Md_octet (c_Md_octet l h0 D hT hq18) (As := [.int (u.1 64 45)]) (S0 := []) rfl (by decide +kernel) k_Md_octet l_Md_279 (Nat.le_of_ble_eq_true rfl) (Nat.le_of_ble_eq_true rfl) (Nat.le_refl _) (Nat.le_refl _) ?_
      refine pm_blk (pc' := 264) (L' := [(3, .int q18), (0, .ref 64), (1, .int x1)]) (S' := [.int 58, .int q18, .long ((u.2 64 46) <<< ((4 : Int32).toInt64 &&& 63)), .ref 64]) (M' := sm g u) [pm_o (.istore_n 3), pm_o (.aload_n 0), pm_o (.aload_n 0), pm_of (.getfield 310) 12 46 1, pm_oi (.iconst 4) 4, pm_o .lshl, pm_o (.iload_n 3), pm_oi (.bipush 58) 58] (by decide +kernel) rfl ?_
      refine pm_ic_ge (off := 10) 274 (by decide +kernel) (by decide) (fun hc19 => ?_) (fun hc19 => ?_)
      · rw [if_pos hc19] at h
        refine pm_blk (pc' := 278) (L' := [(3, .int q18), (0, .ref 64), (1, .int x1)]) (S' := [.int (q18 - 87), .long ((u.2 64 46) <<< ((4 : Int32).toInt64 &&& 63)), .ref 64]) (M' := sm g u) [pm_o (.iload_n 3), pm_oi (.bipush 87) 87, pm_o .isub] (by decide +kernel) rfl ?_
        refine pm_loc [1, 2] rfl ?_
        exact w_Md_tokenAt_278 l h0 D hT ih x1 (q18 - 87) ((u.2 64 46) <<< ((4 : Int32).toInt64 &&& 63)) u h
      · rw [if_neg hc19] at h
        refine pm_blk (pc' := 271) (L' := [(3, .int q18), (0, .ref 64), (1, .int x1)]) (S' := [.int (q18 - 48), .long ((u.2 64 46) <<< ((4 : Int32).toInt64 &&& 63)), .ref 64]) (M' := sm g u) [pm_o (.iload_n 3), pm_oi (.bipush 48) 48, pm_o .isub] (by decide +kernel) rfl ?_
        refine pm_goto (off := 7) 278 (by decide +kernel) (by decide) ?_
        refine pm_loc [1, 2] rfl ?_
        exact w_Md_tokenAt_278 l h0 D hT ih x1 (q18 - 48) ((u.2 64 46) <<< ((4 : Int32).toInt64 &&& 63)) u h
def K_Md_tokenAt_162 (N : Nat) (g : pm_s) (k100 : Int32 → pm_J → Option (Int32 × pm_J)) (x4 : Int32) (t0 : Int32) (t1 : Int32) (u : pm_J) : Option (Int32 × pm_J) := if (t1 &&& t0) = 0 then k100 (t1 &&& t0) (wi (wj u 64 46 (u.2 64 46)) 64 45 ((u.1 64 45) + 1)) else k100 (t1 &&& t0) (wi (wj u 64 46 ((10 * (u.2 64 46)) + x4.toInt64)) 64 45 ((u.1 64 45) + 1))
set_option maxHeartbeats 4000000 in
set_option maxRecDepth 100000 in
theorem w_Md_tokenAt_162 (l : Launch) (h0 : Nat) (D : pm_D) {g : pm_s} (hT : sh_T g) {N : Nat} {u0 : pm_J} {out : Int32 × pm_J} {p : Program} {e : Env} {R : Room} {s : State} {m : MethodId} {args : Array Value} {below : List Frame} {meth : Method} {c : Code} {k100 : Int32 → pm_J → Option (Int32 × pm_J)} (hk100 : ∀ (x3 : Int32) (u : pm_J), k100 x3 u = some out → pm_V (p, l, e, R, s, m, args, below, meth, c) m_Md_tokenAt h0 D (g.1, g.2.1, g.1, g.2.1, 3) (pm_E (p, l, e, R, s, m, args, below, meth, c) h0 D (sm g u0) (some (.int out.1)) (sm g out.2)) 100 [(0, .ref 64), (3, .int x3)] [] (sm g u)) : ∀ (x4 : Int32) (t0 : Int32) (t1 : Int32) (u : pm_J), K_Md_tokenAt_162 N g k100 x4 t0 t1 u = some out → pm_V (p, l, e, R, s, m, args, below, meth, c) m_Md_tokenAt h0 D (g.1, g.2.1, g.1, g.2.1, 3) (pm_E (p, l, e, R, s, m, args, below, meth, c) h0 D (sm g u0) (some (.int out.1)) (sm g out.2)) 162 [(0, .ref 64), (4, .int x4)] [.int t0, .int t1] (sm g u) := by
    intro x4 t0 t1 u h
    unfold K_Md_tokenAt_162 at h
    refine pm_blk (pc' := 166) (L' := [(3, .int (t1 &&& t0)), (0, .ref 64), (4, .int x4)]) (S' := [.int (t1 &&& t0), .ref 64]) (M' := sm g u) [pm_o .iand, pm_o (.istore_n 3), pm_o (.aload_n 0), pm_o (.iload_n 3)] (by decide +kernel) rfl ?_
    refine pm_if_eq (off := 18) 184 (by decide +kernel) (by decide) (fun hc26 => ?_) (fun hc26 => ?_)
    · rw [if_pos hc26] at h
      refine pm_blk (pc' := 201) (L' := [(3, .int (t1 &&& t0)), (0, .ref 64), (4, .int x4)]) (S' := []) (M' := sm g (wi (wj u 64 46 (u.2 64 46)) 64 45 ((u.1 64 45) + 1))) [pm_o (.aload_n 0), pm_of (.getfield 310) 12 46 1, pm_of (.putfield 310) 12 46 1, pm_o (.aload_n 0), pm_o .dup, pm_of (.getfield 307) 12 45 0, pm_oi (.iconst 1) 1, pm_o .iadd, pm_of (.putfield 307) 12 45 0] (by decide +kernel) rfl ?_
      refine pm_goto (off := -101) 100 (by decide +kernel) (by decide) ?_
      refine pm_loc [1, 0] rfl ?_
      exact hk100 (t1 &&& t0) (wi (wj u 64 46 (u.2 64 46)) 64 45 ((u.1 64 45) + 1)) h
    · rw [if_neg hc26] at h
      refine pm_blk (pc' := 181) (L' := [(3, .int (t1 &&& t0)), (0, .ref 64), (4, .int x4)]) (S' := [.long ((10 * (u.2 64 46)) + x4.toInt64), .ref 64]) (M' := sm g u) [pm_ol (.ldc2_w 323) 10, pm_o (.aload_n 0), pm_of (.getfield 310) 12 46 1, pm_o .lmul, pm_o (.iload 4), pm_o .i2l, pm_o .ladd] (by decide +kernel) rfl ?_
      refine pm_goto (off := 7) 188 (by decide +kernel) (by decide) ?_
      refine pm_blk (pc' := 201) (L' := [(3, .int (t1 &&& t0)), (0, .ref 64), (4, .int x4)]) (S' := []) (M' := sm g (wi (wj u 64 46 ((10 * (u.2 64 46)) + x4.toInt64)) 64 45 ((u.1 64 45) + 1))) [pm_of (.putfield 310) 12 46 1, pm_o (.aload_n 0), pm_o .dup, pm_of (.getfield 307) 12 45 0, pm_oi (.iconst 1) 1, pm_o .iadd, pm_of (.putfield 307) 12 45 0] (by decide +kernel) rfl ?_
      refine pm_goto (off := -101) 100 (by decide +kernel) (by decide) ?_
      refine pm_loc [1, 0] rfl ?_
      exact hk100 (t1 &&& t0) (wi (wj u 64 46 ((10 * (u.2 64 46)) + x4.toInt64)) 64 45 ((u.1 64 45) + 1)) h
def K_Md_tokenAt_100 (N : Nat) (g : pm_s) : Nat → Int32 → pm_J → Option (Int32 × pm_J)
  | 0, _, _ => none
  | n + 1, x3, u => (F_Md_octet (u.1 64 45) g u).bind fun q20 => (F_Md_isDigit q20 g u).bind fun q21 => if q21 = 0 then if x3 = 0 then some ((-1), u) else some (12, u) else (F_Md_octet (u.1 64 45) g u).bind fun q24 => if (lg_cmp (u.2 64 46) 922337203685477580) < 0 then K_Md_tokenAt_162 N g (K_Md_tokenAt_100 N g  n) (q24 - 48) 1 x3 u else if (lg_cmp (u.2 64 46) 922337203685477580) = 0 then if 7 < (q24 - 48) then K_Md_tokenAt_162 N g (K_Md_tokenAt_100 N g  n) (q24 - 48) 0 x3 u else K_Md_tokenAt_162 N g (K_Md_tokenAt_100 N g  n) (q24 - 48) 1 x3 u else K_Md_tokenAt_162 N g (K_Md_tokenAt_100 N g  n) (q24 - 48) 0 x3 u
set_option maxHeartbeats 4000000 in
set_option maxRecDepth 100000 in
theorem w_Md_tokenAt_100 (l : Launch) (h0 : Nat) (D : pm_D) {g : pm_s} (hT : sh_T g) {N : Nat} {u0 : pm_J} {out : Int32 × pm_J} {p : Program} {e : Env} {R : Room} {s : State} {m : MethodId} {args : Array Value} {below : List Frame} {meth : Method} {c : Code} : ∀ (n : Nat) (x3 : Int32) (u : pm_J), K_Md_tokenAt_100 N g n x3 u = some out → pm_V (p, l, e, R, s, m, args, below, meth, c) m_Md_tokenAt h0 D (g.1, g.2.1, g.1, g.2.1, 3) (pm_E (p, l, e, R, s, m, args, below, meth, c) h0 D (sm g u0) (some (.int out.1)) (sm g out.2)) 100 [(0, .ref 64), (3, .int x3)] [] (sm g u) := by
  intro n
  induction n with
  | zero => intro x3 u h; cases h
  | succ n ih =>
    intro x3 u h
    rw [K_Md_tokenAt_100] at h
    refine pm_blk (pc' := 105) (L' := [(0, .ref 64), (3, .int x3)]) (S' := [.int (u.1 64 45), .ref 64]) (M' := sm g u) [pm_o (.aload_n 0), pm_o (.aload_n 0), pm_of (.getfield 307) 12 45 0] (by decide +kernel) rfl ?_
    obtain ⟨q20, hq20, h⟩ := pm_bd h
    refine pm_cV (idx := 279) m_Md_octet (c_Md_octet l h0 D hT hq20) (As := [.int (u.1 64 45)]) (S0 := []) rfl (by decide +kernel) k_Md_octet l_Md_279 (Nat.le_of_ble_eq_true rfl) (Nat.le_of_ble_eq_true rfl) (Nat.le_refl _) (Nat.le_refl _) ?_
    refine pm_blk (pc' := 108) (L' := [(0, .ref 64), (3, .int x3)]) (S' := [.int q20]) (M' := sm g u) [] (by decide +kernel) rfl ?_
    obtain ⟨q21, hq21, h⟩ := pm_bd h
    refine pm_cS (idx := 273) m_Md_isDigit (c_Md_isDigit l h0 D hT hq21) (As := [.int q20]) (S0 := []) rfl (by decide +kernel) k_Md_isDigit l_Md_273 (Nat.le_of_ble_eq_true rfl) (Nat.le_of_ble_eq_true rfl) (Nat.le_refl _) (Nat.le_refl _) ?_
    refine pm_blk (pc' := 111) (L' := [(0, .ref 64), (3, .int x3)]) (S' := [.int q21]) (M' := sm g u) [] (by decide +kernel) rfl ?_
    refine pm_if_eq (off := 93) 204 (by decide +kernel) (by decide) (fun hc22 => ?_) (fun hc22 => ?_)
    · rw [if_pos hc22] at h
      refine pm_blk (pc' := 205) (L' := [(0, .ref 64), (3, .int x3)]) (S' := [.int x3]) (M' := sm g u) [pm_o (.iload_n 3)] (by decide +kernel) rfl ?_
      refine pm_if_eq (off := 8) 213 (by decide +kernel) (by decide) (fun hc23 => ?_) (fun hc23 => ?_)
      · rw [if_pos hc23] at h
        refine pm_blk (pc' := 214) (L' := [(0, .ref 64), (3, .int x3)]) (S' := [.int (-1)]) (M' := sm g u) [pm_oi (.iconst (-1)) (-1)] (by decide +kernel) rfl ?_
        have h9 := Option.some.inj h
        subst h9
        exact pm_reti rfl (by decide +kernel) rfl rfl rfl
      · rw [if_neg hc23] at h
        refine pm_blk (pc' := 210) (L' := [(0, .ref 64), (3, .int x3)]) (S' := [.int 12]) (M' := sm g u) [pm_oi (.bipush 12) 12] (by decide +kernel) rfl ?_
        refine pm_goto (off := 4) 214 (by decide +kernel) (by decide) ?_
        have h9 := Option.some.inj h
        subst h9
        exact pm_reti rfl (by decide +kernel) rfl rfl rfl
    · rw [if_neg hc22] at h
      refine pm_blk (pc' := 119) (L' := [(0, .ref 64), (3, .int x3)]) (S' := [.int (u.1 64 45), .ref 64]) (M' := sm g u) [pm_o (.aload_n 0), pm_o (.aload_n 0), pm_of (.getfield 307) 12 45 0] (by decide +kernel) rfl ?_
      obtain ⟨q24, hq24, h⟩ := pm_bd h
      refine pm_cV (idx := 279) m_Md_octet (c_Md_octet l h0 D hT hq24) (As := [.int (u.1 64 45)]) (S0 := []) rfl (by decide +kernel) k_Md_octet l_Md_279 (Nat.le_of_ble_eq_true rfl) (Nat.le_of_ble_eq_true rfl) (Nat.le_refl _) (Nat.le_refl _) ?_
      refine pm_blk (pc' := 136) (L' := [(4, .int (q24 - 48)), (0, .ref 64), (3, .int x3)]) (S' := [.int (lg_cmp (u.2 64 46) 922337203685477580), .int x3]) (M' := sm g u) [pm_oi (.bipush 48) 48, pm_o .isub, pm_o (.istore 4), pm_o (.iload_n 3), pm_o (.aload_n 0), pm_of (.getfield 310) 12 46 1, pm_ol (.ldc2_w 321) 922337203685477580, pm_o .lcmp] (by decide +kernel) rfl ?_
      refine pm_if_lt (off := 21) 157 (by decide +kernel) (by decide) (fun hc25 => ?_) (fun hc25 => ?_)
      · rw [if_pos hc25] at h
        refine pm_blk (pc' := 158) (L' := [(4, .int (q24 - 48)), (0, .ref 64), (3, .int x3)]) (S' := [.int 1, .int x3]) (M' := sm g u) [pm_oi (.iconst 1) 1] (by decide +kernel) rfl ?_
        refine pm_goto (off := 4) 162 (by decide +kernel) (by decide) ?_
        refine pm_loc [1, 0] rfl ?_
        exact w_Md_tokenAt_162 l h0 D hT ih (q24 - 48) 1 x3 u h
      · rw [if_neg hc25] at h
        refine pm_blk (pc' := 147) (L' := [(4, .int (q24 - 48)), (0, .ref 64), (3, .int x3)]) (S' := [.int (lg_cmp (u.2 64 46) 922337203685477580), .int x3]) (M' := sm g u) [pm_o (.aload_n 0), pm_of (.getfield 310) 12 46 1, pm_ol (.ldc2_w 321) 922337203685477580, pm_o .lcmp] (by decide +kernel) rfl ?_
        refine pm_if_ne (off := 14) 161 (by decide +kernel) (by decide) (fun hc27 => ?_) (fun hc27 => ?_)
        · rw [if_neg hc27] at h
          refine pm_blk (pc' := 162) (L' := [(4, .int (q24 - 48)), (0, .ref 64), (3, .int x3)]) (S' := [.int 0, .int x3]) (M' := sm g u) [pm_oi (.iconst 0) 0] (by decide +kernel) rfl ?_
          refine pm_loc [1, 0] rfl ?_
          exact w_Md_tokenAt_162 l h0 D hT ih (q24 - 48) 0 x3 u h
        · rw [if_pos hc27] at h
          refine pm_blk (pc' := 154) (L' := [(4, .int (q24 - 48)), (0, .ref 64), (3, .int x3)]) (S' := [.int 7, .int (q24 - 48), .int x3]) (M' := sm g u) [pm_o (.iload 4), pm_oi (.bipush 7) 7] (by decide +kernel) rfl ?_
          refine pm_ic_gt (off := 7) 161 (by decide +kernel) (by decide) (fun hc28 => ?_) (fun hc28 => ?_)
          · rw [if_pos hc28] at h
            refine pm_blk (pc' := 162) (L' := [(4, .int (q24 - 48)), (0, .ref 64), (3, .int x3)]) (S' := [.int 0, .int x3]) (M' := sm g u) [pm_oi (.iconst 0) 0] (by decide +kernel) rfl ?_
            refine pm_loc [1, 0] rfl ?_
            exact w_Md_tokenAt_162 l h0 D hT ih (q24 - 48) 0 x3 u h
          · rw [if_neg hc28] at h
            refine pm_blk (pc' := 158) (L' := [(4, .int (q24 - 48)), (0, .ref 64), (3, .int x3)]) (S' := [.int 1, .int x3]) (M' := sm g u) [pm_oi (.iconst 1) 1] (by decide +kernel) rfl ?_
            refine pm_goto (off := 4) 162 (by decide +kernel) (by decide) ?_
            refine pm_loc [1, 0] rfl ?_
            exact w_Md_tokenAt_162 l h0 D hT ih (q24 - 48) 1 x3 u h
def K_Md_tokenAt_23 (N : Nat) (g : pm_s) : Nat → Int32 → pm_J → Option (Int32 × pm_J)
  | 0, _, _ => none
  | n + 1, x1, u => (F_Md_octet (u.1 64 45) g u).bind fun q29 => (F_Md_isLetter q29 g u).bind fun q30 => if q30 = 0 then (F_Md_octet (u.1 64 45) g u).bind fun q32 => (F_Md_isDigit q32 g u).bind fun q33 => if q33 = 0 then if ((u.1 64 45) - x1) ≤ 10 then (F_Md_wordAt N x1 ((u.1 64 45) - x1) g u).bind fun q36 => some (q36, u) else some ((-1), u) else K_Md_tokenAt_23 N g  n x1 (wi u 64 45 ((u.1 64 45) + 1)) else K_Md_tokenAt_23 N g  n x1 (wi u 64 45 ((u.1 64 45) + 1))
set_option maxHeartbeats 4000000 in
set_option maxRecDepth 100000 in
theorem w_Md_tokenAt_23 (l : Launch) (h0 : Nat) (D : pm_D) {g : pm_s} (hT : sh_T g) {N : Nat} {u0 : pm_J} {out : Int32 × pm_J} {p : Program} {e : Env} {R : Room} {s : State} {m : MethodId} {args : Array Value} {below : List Frame} {meth : Method} {c : Code} : ∀ (n : Nat) (x1 : Int32) (u : pm_J), K_Md_tokenAt_23 N g n x1 u = some out → pm_V (p, l, e, R, s, m, args, below, meth, c) m_Md_tokenAt h0 D (g.1, g.2.1, g.1, g.2.1, 3) (pm_E (p, l, e, R, s, m, args, below, meth, c) h0 D (sm g u0) (some (.int out.1)) (sm g out.2)) 23 [(0, .ref 64), (1, .int x1)] [] (sm g u) := by
  intro n
  induction n with
  | zero => intro x1 u h; cases h
  | succ n ih =>
    intro x1 u h
    rw [K_Md_tokenAt_23] at h
    refine pm_blk (pc' := 28) (L' := [(0, .ref 64), (1, .int x1)]) (S' := [.int (u.1 64 45), .ref 64]) (M' := sm g u) [pm_o (.aload_n 0), pm_o (.aload_n 0), pm_of (.getfield 307) 12 45 0] (by decide +kernel) rfl ?_
    obtain ⟨q29, hq29, h⟩ := pm_bd h
    refine pm_cV (idx := 279) m_Md_octet (c_Md_octet l h0 D hT hq29) (As := [.int (u.1 64 45)]) (S0 := []) rfl (by decide +kernel) k_Md_octet l_Md_279 (Nat.le_of_ble_eq_true rfl) (Nat.le_of_ble_eq_true rfl) (Nat.le_refl _) (Nat.le_refl _) ?_
    refine pm_blk (pc' := 31) (L' := [(0, .ref 64), (1, .int x1)]) (S' := [.int q29]) (M' := sm g u) [] (by decide +kernel) rfl ?_
    obtain ⟨q30, hq30, h⟩ := pm_bd h
    refine pm_cS (idx := 314) m_Md_isLetter (c_Md_isLetter l h0 D hT hq30) (As := [.int q29]) (S0 := []) rfl (by decide +kernel) k_Md_isLetter l_Md_314 (Nat.le_of_ble_eq_true rfl) (Nat.le_of_ble_eq_true rfl) (Nat.le_refl _) (Nat.le_refl _) ?_
    refine pm_blk (pc' := 34) (L' := [(0, .ref 64), (1, .int x1)]) (S' := [.int q30]) (M' := sm g u) [] (by decide +kernel) rfl ?_
    refine pm_if_ne (off := 17) 51 (by decide +kernel) (by decide) (fun hc31 => ?_) (fun hc31 => ?_)
    · rw [if_neg hc31] at h
      refine pm_blk (pc' := 61) (L' := [(0, .ref 64), (1, .int x1)]) (S' := []) (M' := sm g (wi u 64 45 ((u.1 64 45) + 1))) [pm_o (.aload_n 0), pm_o .dup, pm_of (.getfield 307) 12 45 0, pm_oi (.iconst 1) 1, pm_o .iadd, pm_of (.putfield 307) 12 45 0] (by decide +kernel) rfl ?_
      refine pm_goto (off := -38) 23 (by decide +kernel) (by decide) ?_
      refine pm_loc [0, 1] rfl ?_
      exact ih x1 (wi u 64 45 ((u.1 64 45) + 1)) h
    · rw [if_pos hc31] at h
      refine pm_blk (pc' := 42) (L' := [(0, .ref 64), (1, .int x1)]) (S' := [.int (u.1 64 45), .ref 64]) (M' := sm g u) [pm_o (.aload_n 0), pm_o (.aload_n 0), pm_of (.getfield 307) 12 45 0] (by decide +kernel) rfl ?_
      obtain ⟨q32, hq32, h⟩ := pm_bd h
      refine pm_cV (idx := 279) m_Md_octet (c_Md_octet l h0 D hT hq32) (As := [.int (u.1 64 45)]) (S0 := []) rfl (by decide +kernel) k_Md_octet l_Md_279 (Nat.le_of_ble_eq_true rfl) (Nat.le_of_ble_eq_true rfl) (Nat.le_refl _) (Nat.le_refl _) ?_
      refine pm_blk (pc' := 45) (L' := [(0, .ref 64), (1, .int x1)]) (S' := [.int q32]) (M' := sm g u) [] (by decide +kernel) rfl ?_
      obtain ⟨q33, hq33, h⟩ := pm_bd h
      refine pm_cS (idx := 273) m_Md_isDigit (c_Md_isDigit l h0 D hT hq33) (As := [.int q32]) (S0 := []) rfl (by decide +kernel) k_Md_isDigit l_Md_273 (Nat.le_of_ble_eq_true rfl) (Nat.le_of_ble_eq_true rfl) (Nat.le_refl _) (Nat.le_refl _) ?_
      refine pm_blk (pc' := 48) (L' := [(0, .ref 64), (1, .int x1)]) (S' := [.int q33]) (M' := sm g u) [] (by decide +kernel) rfl ?_
      refine pm_if_eq (off := 16) 64 (by decide +kernel) (by decide) (fun hc34 => ?_) (fun hc34 => ?_)
      · rw [if_pos hc34] at h
        refine pm_blk (pc' := 72) (L' := [(0, .ref 64), (1, .int x1)]) (S' := [.int 10, .int ((u.1 64 45) - x1)]) (M' := sm g u) [pm_o (.aload_n 0), pm_of (.getfield 307) 12 45 0, pm_o (.iload_n 1), pm_o .isub, pm_oi (.bipush 10) 10] (by decide +kernel) rfl ?_
        refine pm_ic_le (off := 7) 79 (by decide +kernel) (by decide) (fun hc35 => ?_) (fun hc35 => ?_)
        · rw [if_pos hc35] at h
          refine pm_blk (pc' := 87) (L' := [(0, .ref 64), (1, .int x1)]) (S' := [.int ((u.1 64 45) - x1), .int x1, .ref 64]) (M' := sm g u) [pm_o (.aload_n 0), pm_o (.iload_n 1), pm_o (.aload_n 0), pm_of (.getfield 307) 12 45 0, pm_o (.iload_n 1), pm_o .isub] (by decide +kernel) rfl ?_
          obtain ⟨q36, hq36, h⟩ := pm_bd h
          refine pm_cV (idx := 317) m_Md_wordAt (c_Md_wordAt l h0 D hT hq36) (As := [.int x1, .int ((u.1 64 45) - x1)]) (S0 := []) rfl (by decide +kernel) k_Md_wordAt l_Md_317 (Nat.le_of_ble_eq_true rfl) (Nat.le_of_ble_eq_true rfl) (Nat.le_refl _) (Nat.le_refl _) ?_
          refine pm_blk (pc' := 90) (L' := [(0, .ref 64), (1, .int x1)]) (S' := [.int q36]) (M' := sm g u) [] (by decide +kernel) rfl ?_
          have h9 := Option.some.inj h
          subst h9
          exact pm_reti rfl (by decide +kernel) rfl rfl rfl
        · rw [if_neg hc35] at h
          refine pm_blk (pc' := 76) (L' := [(0, .ref 64), (1, .int x1)]) (S' := [.int (-1)]) (M' := sm g u) [pm_oi (.iconst (-1)) (-1)] (by decide +kernel) rfl ?_
          refine pm_goto (off := 14) 90 (by decide +kernel) (by decide) ?_
          have h9 := Option.some.inj h
          subst h9
          exact pm_reti rfl (by decide +kernel) rfl rfl rfl
      · rw [if_neg hc34] at h
        refine pm_blk (pc' := 61) (L' := [(0, .ref 64), (1, .int x1)]) (S' := []) (M' := sm g (wi u 64 45 ((u.1 64 45) + 1))) [pm_o (.aload_n 0), pm_o .dup, pm_of (.getfield 307) 12 45 0, pm_oi (.iconst 1) 1, pm_o .iadd, pm_of (.putfield 307) 12 45 0] (by decide +kernel) rfl ?_
        refine pm_goto (off := -38) 23 (by decide +kernel) (by decide) ?_
        refine pm_loc [0, 1] rfl ?_
        exact ih x1 (wi u 64 45 ((u.1 64 45) + 1)) h
def F_Md_tokenAt (N : Nat) (a1 : Int32) (g : pm_s) (u : pm_J) : Option (Int32 × pm_J) := (F_Md_octet a1 g u).bind fun q1 => (F_Md_isLetter q1 g (wj (wi u 64 45 a1) 64 46 0)).bind fun q2 => if q2 = 0 then (F_Md_isDigit q1 g (wj (wi u 64 45 a1) 64 46 0)).bind fun q4 => if q4 = 0 then if q1 = 35 then K_Md_tokenAt_231 N g N a1 (wi (wj (wi u 64 45 a1) 64 46 0) 64 45 (a1 + 1)) else if q1 = 39 then (F_Md_octet (a1 + 1) g (wi (wj (wi u 64 45 a1) 64 46 0) 64 45 (a1 + 2))).bind fun q10 => if q10 < 97 then some ((-1), (wj (wi (wj (wi u 64 45 a1) 64 46 0) 64 45 (a1 + 2)) 64 46 ((q10 - 97).toInt64))) else if 100 < q10 then some ((-1), (wj (wi (wj (wi u 64 45 a1) 64 46 0) 64 45 (a1 + 2)) 64 46 ((q10 - 97).toInt64))) else some (14, (wj (wi (wj (wi u 64 45 a1) 64 46 0) 64 45 (a1 + 2)) 64 46 ((q10 - 97).toInt64))) else (F_Md_signAt a1 g (wj (wi u 64 45 a1) 64 46 0)).bind fun q8 => if q8 = 20 then some (q8, (wi (wj (wi u 64 45 a1) 64 46 0) 64 45 (a1 + 2))) else some (q8, (wi (wj (wi u 64 45 a1) 64 46 0) 64 45 (a1 + 1))) else K_Md_tokenAt_100 N g N 1 (wj (wi u 64 45 a1) 64 46 0) else K_Md_tokenAt_23 N g N a1 (wj (wi u 64 45 a1) 64 46 0)
set_option maxHeartbeats 4000000 in
set_option maxRecDepth 100000 in
theorem c_Md_tokenAt (l : Launch) (h0 : Nat) (D : pm_D) {g : pm_s} {u : pm_J} (hT : sh_T g) {N : Nat} {a1 : Int32} {out : Int32 × pm_J} (h : F_Md_tokenAt N a1 g u = some out) : pm_C l h0 D m_Md_tokenAt (3) [.ref 64, .int a1] (sm g u) (some (.int out.1)) (sm g out.2) := by
  unfold F_Md_tokenAt at h
  refine pm_met (by decide +kernel) (Nat.le_of_ble_eq_true rfl) (Nat.le_refl _) (Nat.le_refl _) ?_
  intro p e R s m args below meth c
  refine pm_blk (pc' := 2) (L' := [(0, .ref 64), (1, .int a1)]) (S' := [.int a1, .ref 64]) (M' := sm g u) [pm_o (.aload_n 0), pm_o (.iload_n 1)] (by decide +kernel) rfl ?_
  obtain ⟨q1, hq1, h⟩ := pm_bd h
  refine pm_cV (idx := 279) m_Md_octet (c_Md_octet l h0 D hT hq1) (As := [.int a1]) (S0 := []) rfl (by decide +kernel) k_Md_octet l_Md_279 (Nat.le_of_ble_eq_true rfl) (Nat.le_of_ble_eq_true rfl) (Nat.le_refl _) (Nat.le_refl _) ?_
  refine pm_blk (pc' := 17) (L' := [(2, .int q1), (0, .ref 64), (1, .int a1)]) (S' := [.int q1]) (M' := sm g (wj (wi u 64 45 a1) 64 46 0)) [pm_o (.istore_n 2), pm_o (.aload_n 0), pm_o (.iload_n 1), pm_of (.putfield 307) 12 45 0, pm_o (.aload_n 0), pm_ol (.lconst 0) 0, pm_of (.putfield 310) 12 46 1, pm_o (.iload_n 2)] (by decide +kernel) rfl ?_
  obtain ⟨q2, hq2, h⟩ := pm_bd h
  refine pm_cS (idx := 314) m_Md_isLetter (c_Md_isLetter l h0 D hT hq2) (As := [.int q1]) (S0 := []) rfl (by decide +kernel) k_Md_isLetter l_Md_314 (Nat.le_of_ble_eq_true rfl) (Nat.le_of_ble_eq_true rfl) (Nat.le_refl _) (Nat.le_refl _) ?_
  refine pm_blk (pc' := 20) (L' := [(2, .int q1), (0, .ref 64), (1, .int a1)]) (S' := [.int q2]) (M' := sm g (wj (wi u 64 45 a1) 64 46 0)) [] (by decide +kernel) rfl ?_
  refine pm_if_eq (off := 71) 91 (by decide +kernel) (by decide) (fun hc3 => ?_) (fun hc3 => ?_)
  · rw [if_pos hc3] at h
    refine pm_blk (pc' := 92) (L' := [(2, .int q1), (0, .ref 64), (1, .int a1)]) (S' := [.int q1]) (M' := sm g (wj (wi u 64 45 a1) 64 46 0)) [pm_o (.iload_n 2)] (by decide +kernel) rfl ?_
    obtain ⟨q4, hq4, h⟩ := pm_bd h
    refine pm_cS (idx := 273) m_Md_isDigit (c_Md_isDigit l h0 D hT hq4) (As := [.int q1]) (S0 := []) rfl (by decide +kernel) k_Md_isDigit l_Md_273 (Nat.le_of_ble_eq_true rfl) (Nat.le_of_ble_eq_true rfl) (Nat.le_refl _) (Nat.le_refl _) ?_
    refine pm_blk (pc' := 95) (L' := [(2, .int q1), (0, .ref 64), (1, .int a1)]) (S' := [.int q4]) (M' := sm g (wj (wi u 64 45 a1) 64 46 0)) [] (by decide +kernel) rfl ?_
    refine pm_if_eq (off := 120) 215 (by decide +kernel) (by decide) (fun hc5 => ?_) (fun hc5 => ?_)
    · rw [if_pos hc5] at h
      refine pm_blk (pc' := 218) (L' := [(2, .int q1), (0, .ref 64), (1, .int a1)]) (S' := [.int 35, .int q1]) (M' := sm g (wj (wi u 64 45 a1) 64 46 0)) [pm_o (.iload_n 2), pm_oi (.bipush 35) 35] (by decide +kernel) rfl ?_
      refine pm_ic_ne (off := 106) 324 (by decide +kernel) (by decide) (fun hc6 => ?_) (fun hc6 => ?_)
      · rw [if_neg hc6] at h
        refine pm_blk (pc' := 327) (L' := [(2, .int q1), (0, .ref 64), (1, .int a1)]) (S' := [.int 39, .int q1]) (M' := sm g (wj (wi u 64 45 a1) 64 46 0)) [pm_o (.iload_n 2), pm_oi (.bipush 39) 39] (by decide +kernel) rfl ?_
        refine pm_ic_ne (off := 46) 373 (by decide +kernel) (by decide) (fun hc7 => ?_) (fun hc7 => ?_)
        · rw [if_neg hc7] at h
          refine pm_blk (pc' := 375) (L' := [(2, .int q1), (0, .ref 64), (1, .int a1)]) (S' := [.int a1, .ref 64]) (M' := sm g (wj (wi u 64 45 a1) 64 46 0)) [pm_o (.aload_n 0), pm_o (.iload_n 1)] (by decide +kernel) rfl ?_
          obtain ⟨q8, hq8, h⟩ := pm_bd h
          refine pm_cV (idx := 328) m_Md_signAt (c_Md_signAt l h0 D hT hq8) (As := [.int a1]) (S0 := []) rfl (by decide +kernel) k_Md_signAt l_Md_328 (Nat.le_of_ble_eq_true rfl) (Nat.le_of_ble_eq_true rfl) (Nat.le_refl _) (Nat.le_refl _) ?_
          refine pm_blk (pc' := 384) (L' := [(3, .int q8), (2, .int q1), (0, .ref 64), (1, .int a1)]) (S' := [.int 20, .int q8, .int a1, .ref 64]) (M' := sm g (wj (wi u 64 45 a1) 64 46 0)) [pm_o (.istore_n 3), pm_o (.aload_n 0), pm_o (.iload_n 1), pm_o (.iload_n 3), pm_oi (.bipush 20) 20] (by decide +kernel) rfl ?_
          refine pm_ic_ne (off := 7) 391 (by decide +kernel) (by decide) (fun hc9 => ?_) (fun hc9 => ?_)
          · rw [if_neg hc9] at h
            refine pm_blk (pc' := 397) (L' := [(3, .int q8), (2, .int q1), (0, .ref 64), (1, .int a1)]) (S' := [.int q8]) (M' := sm g (wi (wj (wi u 64 45 a1) 64 46 0) 64 45 (a1 + 1))) [pm_oi (.iconst 1) 1, pm_o .iadd, pm_of (.putfield 307) 12 45 0, pm_o (.iload_n 3)] (by decide +kernel) rfl ?_
            have h9 := Option.some.inj h
            subst h9
            exact pm_reti rfl (by decide +kernel) rfl rfl rfl
          · rw [if_pos hc9] at h
            refine pm_blk (pc' := 388) (L' := [(3, .int q8), (2, .int q1), (0, .ref 64), (1, .int a1)]) (S' := [.int 2, .int a1, .ref 64]) (M' := sm g (wj (wi u 64 45 a1) 64 46 0)) [pm_oi (.iconst 2) 2] (by decide +kernel) rfl ?_
            refine pm_goto (off := 4) 392 (by decide +kernel) (by decide) ?_
            refine pm_blk (pc' := 397) (L' := [(3, .int q8), (2, .int q1), (0, .ref 64), (1, .int a1)]) (S' := [.int q8]) (M' := sm g (wi (wj (wi u 64 45 a1) 64 46 0) 64 45 (a1 + 2))) [pm_o .iadd, pm_of (.putfield 307) 12 45 0, pm_o (.iload_n 3)] (by decide +kernel) rfl ?_
            have h9 := Option.some.inj h
            subst h9
            exact pm_reti rfl (by decide +kernel) rfl rfl rfl
        · rw [if_pos hc7] at h
          refine pm_blk (pc' := 341) (L' := [(2, .int q1), (0, .ref 64), (1, .int a1)]) (S' := [.int (a1 + 1), .ref 64]) (M' := sm g (wi (wj (wi u 64 45 a1) 64 46 0) 64 45 (a1 + 2))) [pm_o (.aload_n 0), pm_o (.iload_n 1), pm_oi (.iconst 2) 2, pm_o .iadd, pm_of (.putfield 307) 12 45 0, pm_o (.aload_n 0), pm_o (.iload_n 1), pm_oi (.iconst 1) 1, pm_o .iadd] (by decide +kernel) rfl ?_
          obtain ⟨q10, hq10, h⟩ := pm_bd h
          refine pm_cV (idx := 279) m_Md_octet (c_Md_octet l h0 D hT hq10) (As := [.int (a1 + 1)]) (S0 := []) rfl (by decide +kernel) k_Md_octet l_Md_279 (Nat.le_of_ble_eq_true rfl) (Nat.le_of_ble_eq_true rfl) (Nat.le_refl _) (Nat.le_refl _) ?_
          refine pm_blk (pc' := 357) (L' := [(3, .int q10), (2, .int q1), (0, .ref 64), (1, .int a1)]) (S' := [.int 97, .int q10]) (M' := sm g (wj (wi (wj (wi u 64 45 a1) 64 46 0) 64 45 (a1 + 2)) 64 46 ((q10 - 97).toInt64))) [pm_o (.istore_n 3), pm_o (.aload_n 0), pm_o (.iload_n 3), pm_oi (.bipush 97) 97, pm_o .isub, pm_o .i2l, pm_of (.putfield 310) 12 46 1, pm_o (.iload_n 3), pm_oi (.bipush 97) 97] (by decide +kernel) rfl ?_
          refine pm_ic_lt (off := 14) 371 (by decide +kernel) (by decide) (fun hc11 => ?_) (fun hc11 => ?_)
          · rw [if_pos hc11] at h
            refine pm_blk (pc' := 372) (L' := [(3, .int q10), (2, .int q1), (0, .ref 64), (1, .int a1)]) (S' := [.int (-1)]) (M' := sm g (wj (wi (wj (wi u 64 45 a1) 64 46 0) 64 45 (a1 + 2)) 64 46 ((q10 - 97).toInt64))) [pm_oi (.iconst (-1)) (-1)] (by decide +kernel) rfl ?_
            have h9 := Option.some.inj h
            subst h9
            exact pm_reti rfl (by decide +kernel) rfl rfl rfl
          · rw [if_neg hc11] at h
            refine pm_blk (pc' := 363) (L' := [(3, .int q10), (2, .int q1), (0, .ref 64), (1, .int a1)]) (S' := [.int 100, .int q10]) (M' := sm g (wj (wi (wj (wi u 64 45 a1) 64 46 0) 64 45 (a1 + 2)) 64 46 ((q10 - 97).toInt64))) [pm_o (.iload_n 3), pm_oi (.bipush 100) 100] (by decide +kernel) rfl ?_
            refine pm_ic_gt (off := 8) 371 (by decide +kernel) (by decide) (fun hc12 => ?_) (fun hc12 => ?_)
            · rw [if_pos hc12] at h
              refine pm_blk (pc' := 372) (L' := [(3, .int q10), (2, .int q1), (0, .ref 64), (1, .int a1)]) (S' := [.int (-1)]) (M' := sm g (wj (wi (wj (wi u 64 45 a1) 64 46 0) 64 45 (a1 + 2)) 64 46 ((q10 - 97).toInt64))) [pm_oi (.iconst (-1)) (-1)] (by decide +kernel) rfl ?_
              have h9 := Option.some.inj h
              subst h9
              exact pm_reti rfl (by decide +kernel) rfl rfl rfl
            · rw [if_neg hc12] at h
              refine pm_blk (pc' := 368) (L' := [(3, .int q10), (2, .int q1), (0, .ref 64), (1, .int a1)]) (S' := [.int 14]) (M' := sm g (wj (wi (wj (wi u 64 45 a1) 64 46 0) 64 45 (a1 + 2)) 64 46 ((q10 - 97).toInt64))) [pm_oi (.bipush 14) 14] (by decide +kernel) rfl ?_
              refine pm_goto (off := 4) 372 (by decide +kernel) (by decide) ?_
              have h9 := Option.some.inj h
              subst h9
              exact pm_reti rfl (by decide +kernel) rfl rfl rfl
      · rw [if_pos hc6] at h
        refine pm_blk (pc' := 231) (L' := [(2, .int q1), (0, .ref 64), (1, .int a1)]) (S' := []) (M' := sm g (wi (wj (wi u 64 45 a1) 64 46 0) 64 45 (a1 + 1))) [pm_o (.aload_n 0), pm_o .dup, pm_of (.getfield 307) 12 45 0, pm_oi (.iconst 1) 1, pm_o .iadd, pm_of (.putfield 307) 12 45 0] (by decide +kernel) rfl ?_
        refine pm_loc [1, 2] rfl ?_
        exact w_Md_tokenAt_231 l h0 D hT N a1 (wi (wj (wi u 64 45 a1) 64 46 0) 64 45 (a1 + 1)) h
    · rw [if_neg hc5] at h
      refine pm_blk (pc' := 100) (L' := [(3, .int 1), (2, .int q1), (0, .ref 64), (1, .int a1)]) (S' := []) (M' := sm g (wj (wi u 64 45 a1) 64 46 0)) [pm_oi (.iconst 1) 1, pm_o (.istore_n 3)] (by decide +kernel) rfl ?_
      refine pm_loc [2, 0] rfl ?_
      exact w_Md_tokenAt_100 l h0 D hT N 1 (wj (wi u 64 45 a1) 64 46 0) h
  · rw [if_neg hc3] at h
    refine pm_loc [1, 2] rfl ?_
    exact w_Md_tokenAt_23 l h0 D hT N a1 (wj (wi u 64 45 a1) 64 46 0) h
def K_Md_scan_7 (N : Nat) (g : pm_s) : Nat → Int32 → pm_J → Option (Int32 × pm_J)
  | 0, _, _ => none
  | n + 1, x1, u => if (u.1 64 1) ≤ x1 then if pm_ok (u.1 64 10) 902 = true then if pm_ok (u.1 64 10) 902 = true then some (1, (wi (wi u 66 ((u.1 64 10).toNatClampNeg) 26) 67 ((u.1 64 10).toNatClampNeg) (u.1 64 1))) else none else none else (F_Md_octet x1 g u).bind fun q4 => if q4 = 32 then K_Md_scan_7 N g  n (x1 + 1) u else (F_Md_octet x1 g u).bind fun q6 => if q6 = 10 then K_Md_scan_7 N g  n (x1 + 1) u else (F_Md_tokenAt N x1 g u).bind fun q8 => if q8.1 = (-1) then (F_Md_fails 1 x1 g q8.2).bind fun q10 => if (q10.1 == 0 || q10.1 == 1) = true then some (q10.1, q10.2) else none else if (q8.2.1 64 10) = 900 then (F_Md_fails 1 x1 g q8.2).bind fun q17 => if (q17.1 == 0 || q17.1 == 1) = true then some (q17.1, q17.2) else none else if pm_ok (q8.2.1 64 10) 902 = true then if pm_ok (q8.2.1 64 10) 902 = true then if pm_ok (q8.2.1 64 10) 902 = true then if pm_ok (q8.2.1 64 10) 902 = true then K_Md_scan_7 N g  n (q8.2.1 64 45) (wi (wj (wi (wi (wi q8.2 66 ((q8.2.1 64 10).toNatClampNeg) q8.1) 67 ((q8.2.1 64 10).toNatClampNeg) x1) 68 ((q8.2.1 64 10).toNatClampNeg) ((q8.2.1 64 45) - x1)) 69 ((q8.2.1 64 10).toNatClampNeg) (q8.2.2 64 46)) 64 10 ((q8.2.1 64 10) + 1)) else none else none else none else none
set_option maxHeartbeats 4000000 in
set_option maxRecDepth 100000 in
theorem w_Md_scan_7 (l : Launch) (h0 : Nat) (D : pm_D) {g : pm_s} (hT : sh_T g) {N : Nat} {u0 : pm_J} {out : Int32 × pm_J} {p : Program} {e : Env} {R : Room} {s : State} {m : MethodId} {args : Array Value} {below : List Frame} {meth : Method} {c : Code} : ∀ (n : Nat) (x1 : Int32) (u : pm_J), K_Md_scan_7 N g n x1 u = some out → pm_V (p, l, e, R, s, m, args, below, meth, c) m_Md_scan h0 D (g.1, g.2.1, g.1, g.2.1, 4) (pm_E (p, l, e, R, s, m, args, below, meth, c) h0 D (sm g u0) (some (.int out.1)) (sm g out.2)) 7 [(0, .ref 64), (1, .int x1)] [] (sm g u) := by
  intro n
  induction n with
  | zero => intro x1 u h; cases h
  | succ n ih =>
    intro x1 u h
    rw [K_Md_scan_7] at h
    refine pm_blk (pc' := 12) (L' := [(0, .ref 64), (1, .int x1)]) (S' := [.int (u.1 64 1), .int x1]) (M' := sm g u) [pm_o (.iload_n 1), pm_o (.aload_n 0), pm_of (.getfield 265) 12 1 0] (by decide +kernel) rfl ?_
    refine pm_ic_ge (off := 123) 135 (by decide +kernel) (by decide) (fun hc1 => ?_) (fun hc1 => ?_)
    · rw [if_pos hc1] at h
      refine pm_blk (pc' := 145) (L' := [(0, .ref 64), (1, .int x1)]) (S' := [.int 26, .int (u.1 64 10), .ref 66]) (M' := sm g u) [pm_o (.aload_n 0), pm_of (.getfield 17) 12 6 2, pm_o (.aload_n 0), pm_of (.getfield 331) 12 10 0, pm_oi (.bipush 26) 26] (by decide +kernel) rfl ?_
      obtain ⟨ho2, h⟩ := pm_ifs h
      refine pm_iast (by decide +kernel) rfl  (pm_ok_in ho2) ?_
      refine pm_blk (pc' := 158) (L' := [(0, .ref 64), (1, .int x1)]) (S' := [.int (u.1 64 1), .int (u.1 64 10), .ref 67]) (M' := sm g (wi u 66 ((u.1 64 10).toNatClampNeg) 26)) [pm_o (.aload_n 0), pm_of (.getfield 20) 12 7 2, pm_o (.aload_n 0), pm_of (.getfield 331) 12 10 0, pm_o (.aload_n 0), pm_of (.getfield 265) 12 1 0] (by decide +kernel) rfl ?_
      obtain ⟨ho3, h⟩ := pm_ifs h
      refine pm_iast (by decide +kernel) rfl  (pm_ok_in ho3) ?_
      refine pm_blk (pc' := 160) (L' := [(0, .ref 64), (1, .int x1)]) (S' := [.int 1]) (M' := sm g (wi (wi u 66 ((u.1 64 10).toNatClampNeg) 26) 67 ((u.1 64 10).toNatClampNeg) (u.1 64 1))) [pm_oi (.iconst 1) 1] (by decide +kernel) rfl ?_
      have h9 := Option.some.inj h
      subst h9
      exact pm_retz rfl (by decide +kernel) rfl rfl rfl rfl
    · rw [if_neg hc1] at h
      refine pm_blk (pc' := 17) (L' := [(0, .ref 64), (1, .int x1)]) (S' := [.int x1, .ref 64]) (M' := sm g u) [pm_o (.aload_n 0), pm_o (.iload_n 1)] (by decide +kernel) rfl ?_
      obtain ⟨q4, hq4, h⟩ := pm_bd h
      refine pm_cV (idx := 279) m_Md_octet (c_Md_octet l h0 D hT hq4) (As := [.int x1]) (S0 := []) rfl (by decide +kernel) k_Md_octet l_Md_279 (Nat.le_of_ble_eq_true rfl) (Nat.le_of_ble_eq_true rfl) (Nat.le_refl _) (Nat.le_refl _) ?_
      refine pm_blk (pc' := 22) (L' := [(0, .ref 64), (1, .int x1)]) (S' := [.int 32, .int q4]) (M' := sm g u) [pm_oi (.bipush 32) 32] (by decide +kernel) rfl ?_
      refine pm_ic_eq (off := 13) 35 (by decide +kernel) (by decide) (fun hc5 => ?_) (fun hc5 => ?_)
      · rw [if_pos hc5] at h
        refine pm_blk (pc' := 38) (L' := [(1, .int (x1 + 1)), (0, .ref 64)]) (S' := []) (M' := sm g u) [pm_oi (.iinc 1 1) 1] (by decide +kernel) rfl ?_
        refine pm_goto (off := -31) 7 (by decide +kernel) (by decide) ?_
        refine pm_loc [1, 0] rfl ?_
        exact ih (x1 + 1) u h
      · rw [if_neg hc5] at h
        refine pm_blk (pc' := 27) (L' := [(0, .ref 64), (1, .int x1)]) (S' := [.int x1, .ref 64]) (M' := sm g u) [pm_o (.aload_n 0), pm_o (.iload_n 1)] (by decide +kernel) rfl ?_
        obtain ⟨q6, hq6, h⟩ := pm_bd h
        refine pm_cV (idx := 279) m_Md_octet (c_Md_octet l h0 D hT hq6) (As := [.int x1]) (S0 := []) rfl (by decide +kernel) k_Md_octet l_Md_279 (Nat.le_of_ble_eq_true rfl) (Nat.le_of_ble_eq_true rfl) (Nat.le_refl _) (Nat.le_refl _) ?_
        refine pm_blk (pc' := 32) (L' := [(0, .ref 64), (1, .int x1)]) (S' := [.int 10, .int q6]) (M' := sm g u) [pm_oi (.bipush 10) 10] (by decide +kernel) rfl ?_
        refine pm_ic_ne (off := 9) 41 (by decide +kernel) (by decide) (fun hc7 => ?_) (fun hc7 => ?_)
        · rw [if_neg hc7] at h
          refine pm_blk (pc' := 43) (L' := [(0, .ref 64), (1, .int x1)]) (S' := [.int x1, .ref 64]) (M' := sm g u) [pm_o (.aload_n 0), pm_o (.iload_n 1)] (by decide +kernel) rfl ?_
          obtain ⟨q8, hq8, h⟩ := pm_bd h
          refine pm_cV (idx := 334) m_Md_tokenAt (c_Md_tokenAt l h0 D hT hq8) (As := [.int x1]) (S0 := []) rfl (by decide +kernel) k_Md_tokenAt l_Md_334 (Nat.le_of_ble_eq_true rfl) (Nat.le_of_ble_eq_true rfl) (Nat.le_refl _) (Nat.le_refl _) ?_
          refine pm_blk (pc' := 49) (L' := [(2, .int q8.1), (0, .ref 64), (1, .int x1)]) (S' := [.int (-1), .int q8.1]) (M' := sm g q8.2) [pm_o (.istore_n 2), pm_o (.iload_n 2), pm_oi (.iconst (-1)) (-1)] (by decide +kernel) rfl ?_
          refine pm_ic_eq (off := 13) 62 (by decide +kernel) (by decide) (fun hc9 => ?_) (fun hc9 => ?_)
          · rw [if_pos hc9] at h
            refine pm_blk (pc' := 65) (L' := [(2, .int q8.1), (0, .ref 64), (1, .int x1)]) (S' := [.int x1, .int 1, .ref 64]) (M' := sm g q8.2) [pm_o (.aload_n 0), pm_oi (.iconst 1) 1, pm_o (.iload_n 1)] (by decide +kernel) rfl ?_
            obtain ⟨q10, hq10, h⟩ := pm_bd h
            refine pm_cV (idx := 337) m_Md_fails (c_Md_fails l h0 D hT hq10) (As := [.int 1, .int x1]) (S0 := []) rfl (by decide +kernel) k_Md_fails l_Md_337 (Nat.le_of_ble_eq_true rfl) (Nat.le_of_ble_eq_true rfl) (Nat.le_refl _) (Nat.le_refl _) ?_
            refine pm_blk (pc' := 68) (L' := [(2, .int q8.1), (0, .ref 64), (1, .int x1)]) (S' := [.int q10.1]) (M' := sm g q10.2) [] (by decide +kernel) rfl ?_
            obtain ⟨hz11, h⟩ := pm_ifs h
            have h9 := Option.some.inj h
            subst h9
            exact pm_retz rfl (by decide +kernel) hz11 rfl rfl rfl
          · rw [if_neg hc9] at h
            refine pm_blk (pc' := 59) (L' := [(2, .int q8.1), (0, .ref 64), (1, .int x1)]) (S' := [.int 900, .int (q8.2.1 64 10)]) (M' := sm g q8.2) [pm_o (.aload_n 0), pm_of (.getfield 331) 12 10 0, pm_oi (.sipush 900) 900] (by decide +kernel) rfl ?_
            refine pm_ic_ne (off := 10) 69 (by decide +kernel) (by decide) (fun hc12 => ?_) (fun hc12 => ?_)
            · rw [if_neg hc12] at h
              refine pm_blk (pc' := 78) (L' := [(2, .int q8.1), (0, .ref 64), (1, .int x1)]) (S' := [.int q8.1, .int (q8.2.1 64 10), .ref 66]) (M' := sm g q8.2) [pm_o (.aload_n 0), pm_of (.getfield 17) 12 6 2, pm_o (.aload_n 0), pm_of (.getfield 331) 12 10 0, pm_o (.iload_n 2)] (by decide +kernel) rfl ?_
              obtain ⟨ho13, h⟩ := pm_ifs h
              refine pm_iast (by decide +kernel) rfl  (pm_ok_in ho13) ?_
              refine pm_blk (pc' := 88) (L' := [(2, .int q8.1), (0, .ref 64), (1, .int x1)]) (S' := [.int x1, .int (q8.2.1 64 10), .ref 67]) (M' := sm g (wi q8.2 66 ((q8.2.1 64 10).toNatClampNeg) q8.1)) [pm_o (.aload_n 0), pm_of (.getfield 20) 12 7 2, pm_o (.aload_n 0), pm_of (.getfield 331) 12 10 0, pm_o (.iload_n 1)] (by decide +kernel) rfl ?_
              obtain ⟨ho14, h⟩ := pm_ifs h
              refine pm_iast (by decide +kernel) rfl  (pm_ok_in ho14) ?_
              refine pm_blk (pc' := 103) (L' := [(2, .int q8.1), (0, .ref 64), (1, .int x1)]) (S' := [.int ((q8.2.1 64 45) - x1), .int (q8.2.1 64 10), .ref 68]) (M' := sm g (wi (wi q8.2 66 ((q8.2.1 64 10).toNatClampNeg) q8.1) 67 ((q8.2.1 64 10).toNatClampNeg) x1)) [pm_o (.aload_n 0), pm_of (.getfield 23) 12 8 2, pm_o (.aload_n 0), pm_of (.getfield 331) 12 10 0, pm_o (.aload_n 0), pm_of (.getfield 307) 12 45 0, pm_o (.iload_n 1), pm_o .isub] (by decide +kernel) rfl ?_
              obtain ⟨ho15, h⟩ := pm_ifs h
              refine pm_iast (by decide +kernel) rfl  (pm_ok_in ho15) ?_
              refine pm_blk (pc' := 116) (L' := [(2, .int q8.1), (0, .ref 64), (1, .int x1)]) (S' := [.long (q8.2.2 64 46), .int (q8.2.1 64 10), .ref 69]) (M' := sm g (wi (wi (wi q8.2 66 ((q8.2.1 64 10).toNatClampNeg) q8.1) 67 ((q8.2.1 64 10).toNatClampNeg) x1) 68 ((q8.2.1 64 10).toNatClampNeg) ((q8.2.1 64 45) - x1))) [pm_o (.aload_n 0), pm_of (.getfield 26) 12 9 2, pm_o (.aload_n 0), pm_of (.getfield 331) 12 10 0, pm_o (.aload_n 0), pm_of (.getfield 310) 12 46 1] (by decide +kernel) rfl ?_
              obtain ⟨ho16, h⟩ := pm_ifs h
              refine pm_last (by decide +kernel) rfl  (pm_ok_in ho16) ?_
              refine pm_blk (pc' := 132) (L' := [(1, .int (q8.2.1 64 45)), (2, .int q8.1), (0, .ref 64)]) (S' := []) (M' := sm g (wi (wj (wi (wi (wi q8.2 66 ((q8.2.1 64 10).toNatClampNeg) q8.1) 67 ((q8.2.1 64 10).toNatClampNeg) x1) 68 ((q8.2.1 64 10).toNatClampNeg) ((q8.2.1 64 45) - x1)) 69 ((q8.2.1 64 10).toNatClampNeg) (q8.2.2 64 46)) 64 10 ((q8.2.1 64 10) + 1))) [pm_o (.aload_n 0), pm_o .dup, pm_of (.getfield 331) 12 10 0, pm_oi (.iconst 1) 1, pm_o .iadd, pm_of (.putfield 331) 12 10 0, pm_o (.aload_n 0), pm_of (.getfield 307) 12 45 0, pm_o (.istore_n 1)] (by decide +kernel) rfl ?_
              refine pm_goto (off := -125) 7 (by decide +kernel) (by decide) ?_
              refine pm_loc [2, 0] rfl ?_
              exact ih (q8.2.1 64 45) (wi (wj (wi (wi (wi q8.2 66 ((q8.2.1 64 10).toNatClampNeg) q8.1) 67 ((q8.2.1 64 10).toNatClampNeg) x1) 68 ((q8.2.1 64 10).toNatClampNeg) ((q8.2.1 64 45) - x1)) 69 ((q8.2.1 64 10).toNatClampNeg) (q8.2.2 64 46)) 64 10 ((q8.2.1 64 10) + 1)) h
            · rw [if_pos hc12] at h
              refine pm_blk (pc' := 65) (L' := [(2, .int q8.1), (0, .ref 64), (1, .int x1)]) (S' := [.int x1, .int 1, .ref 64]) (M' := sm g q8.2) [pm_o (.aload_n 0), pm_oi (.iconst 1) 1, pm_o (.iload_n 1)] (by decide +kernel) rfl ?_
              obtain ⟨q17, hq17, h⟩ := pm_bd h
              refine pm_cV (idx := 337) m_Md_fails (c_Md_fails l h0 D hT hq17) (As := [.int 1, .int x1]) (S0 := []) rfl (by decide +kernel) k_Md_fails l_Md_337 (Nat.le_of_ble_eq_true rfl) (Nat.le_of_ble_eq_true rfl) (Nat.le_refl _) (Nat.le_refl _) ?_
              refine pm_blk (pc' := 68) (L' := [(2, .int q8.1), (0, .ref 64), (1, .int x1)]) (S' := [.int q17.1]) (M' := sm g q17.2) [] (by decide +kernel) rfl ?_
              obtain ⟨hz18, h⟩ := pm_ifs h
              have h9 := Option.some.inj h
              subst h9
              exact pm_retz rfl (by decide +kernel) hz18 rfl rfl rfl
        · rw [if_pos hc7] at h
          refine pm_blk (pc' := 38) (L' := [(1, .int (x1 + 1)), (0, .ref 64)]) (S' := []) (M' := sm g u) [pm_oi (.iinc 1 1) 1] (by decide +kernel) rfl ?_
          refine pm_goto (off := -31) 7 (by decide +kernel) (by decide) ?_
          refine pm_loc [1, 0] rfl ?_
          exact ih (x1 + 1) u h
def F_Md_scan (N : Nat) (g : pm_s) (u : pm_J) : Option (Int32 × pm_J) := K_Md_scan_7 N g N 0 (wi u 64 10 0)
set_option maxHeartbeats 4000000 in
set_option maxRecDepth 100000 in
theorem c_Md_scan (l : Launch) (h0 : Nat) (D : pm_D) {g : pm_s} {u : pm_J} (hT : sh_T g) {N : Nat} {out : Int32 × pm_J} (h : F_Md_scan N g u = some out) : pm_C l h0 D m_Md_scan (4) [.ref 64] (sm g u) (some (.int out.1)) (sm g out.2) := by
  unfold F_Md_scan at h
  refine pm_met (by decide +kernel) (Nat.le_of_ble_eq_true rfl) (Nat.le_refl _) (Nat.le_refl _) ?_
  intro p e R s m args below meth c
  refine pm_blk (pc' := 7) (L' := [(1, .int 0), (0, .ref 64)]) (S' := []) (M' := sm g (wi u 64 10 0)) [pm_o (.aload_n 0), pm_oi (.iconst 0) 0, pm_of (.putfield 331) 12 10 0, pm_oi (.iconst 0) 0, pm_o (.istore_n 1)] (by decide +kernel) rfl ?_
  refine pm_loc [1, 0] rfl ?_
  exact w_Md_scan_7 l h0 D hT N 0 (wi u 64 10 0) h
def K_Md_isSame_24 (N : Nat) (g : pm_s) (u : pm_J) : Nat → Int32 → Int32 → Int32 → Int32 → Option (Int32)
  | 0, _, _, _, _ => none
  | n + 1, x1, x2, x3, x4 => if pm_ok x1 902 = true then if (u.1 68 x1.toNatClampNeg) ≤ x4 then if (x3 == 0 || x3 == 1) = true then some x3 else none else if x3 = 0 then if (x3 == 0 || x3 == 1) = true then some x3 else none else if pm_ok x1 902 = true then if pm_ok ((u.1 67 x1.toNatClampNeg) + x4) 3000 = true then if pm_ok x2 902 = true then if pm_ok ((u.1 67 x2.toNatClampNeg) + x4) 3000 = true then if (u.1 65 (((u.1 67 x1.toNatClampNeg) + x4).toNatClampNeg)) = (u.1 65 (((u.1 67 x2.toNatClampNeg) + x4).toNatClampNeg)) then K_Md_isSame_24 N g u  n x1 x2 1 (x4 + 1) else K_Md_isSame_24 N g u  n x1 x2 0 (x4 + 1) else none else none else none else none else none
set_option maxHeartbeats 4000000 in
set_option maxRecDepth 100000 in
theorem w_Md_isSame_24 (l : Launch) (h0 : Nat) (D : pm_D) {g : pm_s} (hT : sh_T g) {N : Nat} {u : pm_J} {out : Int32} {p : Program} {e : Env} {R : Room} {s : State} {m : MethodId} {args : Array Value} {below : List Frame} {meth : Method} {c : Code} : ∀ (n : Nat) (x1 : Int32) (x2 : Int32) (x3 : Int32) (x4 : Int32), K_Md_isSame_24 N g u n x1 x2 x3 x4 = some out → pm_V (p, l, e, R, s, m, args, below, meth, c) m_Md_isSame h0 D (g.1, g.2.1, g.1, g.2.1, 0) (pm_E (p, l, e, R, s, m, args, below, meth, c) h0 D (sm g u) (some (.int out)) (sm g u)) 24 [(0, .ref 64), (1, .int x1), (2, .int x2), (3, .int x3), (4, .int x4)] [] (sm g u) := by
  intro n
  induction n with
  | zero => intro x1 x2 x3 x4 h; cases h
  | succ n ih =>
    intro x1 x2 x3 x4 h
    rw [K_Md_isSame_24] at h
    refine pm_blk (pc' := 31) (L' := [(0, .ref 64), (1, .int x1), (2, .int x2), (3, .int x3), (4, .int x4)]) (S' := [.int x1, .ref 68, .int x4]) (M' := sm g u) [pm_o (.iload 4), pm_o (.aload_n 0), pm_of (.getfield 23) 12 8 2, pm_o (.iload_n 1)] (by decide +kernel) rfl ?_
    obtain ⟨ho4, h⟩ := pm_ifs h
    refine pm_iald (by decide +kernel) rfl (pm_ok_in ho4) ?_
    refine pm_blk (pc' := 32) (L' := [(0, .ref 64), (1, .int x1), (2, .int x2), (3, .int x3), (4, .int x4)]) (S' := [.int (u.1 68 x1.toNatClampNeg), .int x4]) (M' := sm g u) [] (by decide +kernel) rfl ?_
    refine pm_ic_ge (off := 50) 82 (by decide +kernel) (by decide) (fun hc5 => ?_) (fun hc5 => ?_)
    · rw [if_pos hc5] at h
      refine pm_blk (pc' := 83) (L' := [(0, .ref 64), (1, .int x1), (2, .int x2), (3, .int x3), (4, .int x4)]) (S' := [.int x3]) (M' := sm g u) [pm_o (.iload_n 3)] (by decide +kernel) rfl ?_
      obtain ⟨hz6, h⟩ := pm_ifs h
      have h9 := Option.some.inj h
      subst h9
      exact pm_retz rfl (by decide +kernel) hz6 rfl rfl rfl
    · rw [if_neg hc5] at h
      refine pm_blk (pc' := 36) (L' := [(0, .ref 64), (1, .int x1), (2, .int x2), (3, .int x3), (4, .int x4)]) (S' := [.int x3]) (M' := sm g u) [pm_o (.iload_n 3)] (by decide +kernel) rfl ?_
      refine pm_if_eq (off := 46) 82 (by decide +kernel) (by decide) (fun hc7 => ?_) (fun hc7 => ?_)
      · rw [if_pos hc7] at h
        refine pm_blk (pc' := 83) (L' := [(0, .ref 64), (1, .int x1), (2, .int x2), (3, .int x3), (4, .int x4)]) (S' := [.int x3]) (M' := sm g u) [pm_o (.iload_n 3)] (by decide +kernel) rfl ?_
        obtain ⟨hz8, h⟩ := pm_ifs h
        have h9 := Option.some.inj h
        subst h9
        exact pm_retz rfl (by decide +kernel) hz8 rfl rfl rfl
      · rw [if_neg hc7] at h
        refine pm_blk (pc' := 48) (L' := [(0, .ref 64), (1, .int x1), (2, .int x2), (3, .int x3), (4, .int x4)]) (S' := [.int x1, .ref 67, .ref 65]) (M' := sm g u) [pm_o (.aload_n 0), pm_of (.getfield 7) 12 0 2, pm_o (.aload_n 0), pm_of (.getfield 20) 12 7 2, pm_o (.iload_n 1)] (by decide +kernel) rfl ?_
        obtain ⟨ho9, h⟩ := pm_ifs h
        refine pm_iald (by decide +kernel) rfl (pm_ok_in ho9) ?_
        refine pm_blk (pc' := 52) (L' := [(0, .ref 64), (1, .int x1), (2, .int x2), (3, .int x3), (4, .int x4)]) (S' := [.int ((u.1 67 x1.toNatClampNeg) + x4), .ref 65]) (M' := sm g u) [pm_o (.iload 4), pm_o .iadd] (by decide +kernel) rfl ?_
        obtain ⟨ho10, h⟩ := pm_ifs h
        refine pm_iald (by decide +kernel) rfl (pm_ok_in ho10) ?_
        refine pm_blk (pc' := 62) (L' := [(0, .ref 64), (1, .int x1), (2, .int x2), (3, .int x3), (4, .int x4)]) (S' := [.int x2, .ref 67, .ref 65, .int (u.1 65 (((u.1 67 x1.toNatClampNeg) + x4).toNatClampNeg))]) (M' := sm g u) [pm_o (.aload_n 0), pm_of (.getfield 7) 12 0 2, pm_o (.aload_n 0), pm_of (.getfield 20) 12 7 2, pm_o (.iload_n 2)] (by decide +kernel) rfl ?_
        obtain ⟨ho11, h⟩ := pm_ifs h
        refine pm_iald (by decide +kernel) rfl (pm_ok_in ho11) ?_
        refine pm_blk (pc' := 66) (L' := [(0, .ref 64), (1, .int x1), (2, .int x2), (3, .int x3), (4, .int x4)]) (S' := [.int ((u.1 67 x2.toNatClampNeg) + x4), .ref 65, .int (u.1 65 (((u.1 67 x1.toNatClampNeg) + x4).toNatClampNeg))]) (M' := sm g u) [pm_o (.iload 4), pm_o .iadd] (by decide +kernel) rfl ?_
        obtain ⟨ho12, h⟩ := pm_ifs h
        refine pm_iald (by decide +kernel) rfl (pm_ok_in ho12) ?_
        refine pm_blk (pc' := 67) (L' := [(0, .ref 64), (1, .int x1), (2, .int x2), (3, .int x3), (4, .int x4)]) (S' := [.int (u.1 65 (((u.1 67 x2.toNatClampNeg) + x4).toNatClampNeg)), .int (u.1 65 (((u.1 67 x1.toNatClampNeg) + x4).toNatClampNeg))]) (M' := sm g u) [] (by decide +kernel) rfl ?_
        refine pm_ic_ne (off := 7) 74 (by decide +kernel) (by decide) (fun hc13 => ?_) (fun hc13 => ?_)
        · rw [if_neg hc13] at h
          refine pm_blk (pc' := 79) (L' := [(4, .int (x4 + 1)), (3, .int 0), (0, .ref 64), (1, .int x1), (2, .int x2)]) (S' := []) (M' := sm g u) [pm_oi (.iconst 0) 0, pm_o (.istore_n 3), pm_oi (.iinc 4 1) 1] (by decide +kernel) rfl ?_
          refine pm_goto (off := -55) 24 (by decide +kernel) (by decide) ?_
          refine pm_loc [2, 3, 4, 1, 0] rfl ?_
          exact ih x1 x2 0 (x4 + 1) h
        · rw [if_pos hc13] at h
          refine pm_blk (pc' := 71) (L' := [(0, .ref 64), (1, .int x1), (2, .int x2), (3, .int x3), (4, .int x4)]) (S' := [.int 1]) (M' := sm g u) [pm_oi (.iconst 1) 1] (by decide +kernel) rfl ?_
          refine pm_goto (off := 4) 75 (by decide +kernel) (by decide) ?_
          refine pm_blk (pc' := 79) (L' := [(4, .int (x4 + 1)), (3, .int 1), (0, .ref 64), (1, .int x1), (2, .int x2)]) (S' := []) (M' := sm g u) [pm_o (.istore_n 3), pm_oi (.iinc 4 1) 1] (by decide +kernel) rfl ?_
          refine pm_goto (off := -55) 24 (by decide +kernel) (by decide) ?_
          refine pm_loc [2, 3, 4, 1, 0] rfl ?_
          exact ih x1 x2 1 (x4 + 1) h
def F_Md_isSame (N : Nat) (a1 : Int32) (a2 : Int32) (g : pm_s) (u : pm_J) : Option (Int32) := if pm_ok a1 902 = true then if pm_ok a2 902 = true then if (u.1 68 a1.toNatClampNeg) = (u.1 68 a2.toNatClampNeg) then K_Md_isSame_24 N g u N a1 a2 1 0 else K_Md_isSame_24 N g u N a1 a2 0 0 else none else none
set_option maxHeartbeats 4000000 in
set_option maxRecDepth 100000 in
theorem c_Md_isSame (l : Launch) (h0 : Nat) (D : pm_D) {g : pm_s} {u : pm_J} (hT : sh_T g) {N : Nat} {a1 : Int32} {a2 : Int32} {out : Int32} (h : F_Md_isSame N a1 a2 g u = some out) : pm_C l h0 D m_Md_isSame (0) [.ref 64, .int a1, .int a2] (sm g u) (some (.int out)) (sm g u) := by
  unfold F_Md_isSame at h
  refine pm_met (by decide +kernel) (Nat.le_of_ble_eq_true rfl) (Nat.le_refl _) (Nat.le_refl _) ?_
  intro p e R s m args below meth c
  refine pm_blk (pc' := 5) (L' := [(0, .ref 64), (1, .int a1), (2, .int a2)]) (S' := [.int a1, .ref 68]) (M' := sm g u) [pm_o (.aload_n 0), pm_of (.getfield 23) 12 8 2, pm_o (.iload_n 1)] (by decide +kernel) rfl ?_
  obtain ⟨ho1, h⟩ := pm_ifs h
  refine pm_iald (by decide +kernel) rfl (pm_ok_in ho1) ?_
  refine pm_blk (pc' := 11) (L' := [(0, .ref 64), (1, .int a1), (2, .int a2)]) (S' := [.int a2, .ref 68, .int (u.1 68 a1.toNatClampNeg)]) (M' := sm g u) [pm_o (.aload_n 0), pm_of (.getfield 23) 12 8 2, pm_o (.iload_n 2)] (by decide +kernel) rfl ?_
  obtain ⟨ho2, h⟩ := pm_ifs h
  refine pm_iald (by decide +kernel) rfl (pm_ok_in ho2) ?_
  refine pm_blk (pc' := 12) (L' := [(0, .ref 64), (1, .int a1), (2, .int a2)]) (S' := [.int (u.1 68 a2.toNatClampNeg), .int (u.1 68 a1.toNatClampNeg)]) (M' := sm g u) [] (by decide +kernel) rfl ?_
  refine pm_ic_ne (off := 7) 19 (by decide +kernel) (by decide) (fun hc3 => ?_) (fun hc3 => ?_)
  · rw [if_neg hc3] at h
    refine pm_blk (pc' := 24) (L' := [(4, .int 0), (3, .int 0), (0, .ref 64), (1, .int a1), (2, .int a2)]) (S' := []) (M' := sm g u) [pm_oi (.iconst 0) 0, pm_o (.istore_n 3), pm_oi (.iconst 0) 0, pm_o (.istore 4)] (by decide +kernel) rfl ?_
    refine pm_loc [2, 3, 4, 1, 0] rfl ?_
    exact w_Md_isSame_24 l h0 D hT N a1 a2 0 0 h
  · rw [if_pos hc3] at h
    refine pm_blk (pc' := 16) (L' := [(0, .ref 64), (1, .int a1), (2, .int a2)]) (S' := [.int 1]) (M' := sm g u) [pm_oi (.iconst 1) 1] (by decide +kernel) rfl ?_
    refine pm_goto (off := 4) 20 (by decide +kernel) (by decide) ?_
    refine pm_blk (pc' := 24) (L' := [(4, .int 0), (3, .int 1), (0, .ref 64), (1, .int a1), (2, .int a2)]) (S' := []) (M' := sm g u) [pm_o (.istore_n 3), pm_oi (.iconst 0) 0, pm_o (.istore 4)] (by decide +kernel) rfl ?_
    refine pm_loc [2, 3, 4, 1, 0] rfl ?_
    exact w_Md_isSame_24 l h0 D hT N a1 a2 1 0 h
def K_Md_noTypes_8 (N : Nat) (g : pm_s) : Nat → Int32 → pm_J → Option (pm_J)
  | 0, _, _ => none
  | n + 1, x1, u => if 8192 ≤ x1 then some u else if pm_ok x1 8192 = true then K_Md_noTypes_8 N g  n (x1 + 1) (wi u 76 x1.toNatClampNeg (-1)) else none
set_option maxHeartbeats 4000000 in
set_option maxRecDepth 100000 in
theorem w_Md_noTypes_8 (l : Launch) (h0 : Nat) (D : pm_D) {g : pm_s} (hT : sh_T g) {N : Nat} {u0 : pm_J} {out : pm_J} {p : Program} {e : Env} {R : Room} {s : State} {m : MethodId} {args : Array Value} {below : List Frame} {meth : Method} {c : Code} : ∀ (n : Nat) (x1 : Int32) (u : pm_J), K_Md_noTypes_8 N g n x1 u = some out → pm_V (p, l, e, R, s, m, args, below, meth, c) m_Md_noTypes h0 D (g.1, g.2.1, g.1, g.2.1, 0) (pm_E (p, l, e, R, s, m, args, below, meth, c) h0 D (sm g u0) none (sm g out)) 8 [(0, .ref 64), (1, .int x1)] [] (sm g u) := by
  intro n
  induction n with
  | zero => intro x1 u h; cases h
  | succ n ih =>
    intro x1 u h
    rw [K_Md_noTypes_8] at h
    refine pm_blk (pc' := 12) (L' := [(0, .ref 64), (1, .int x1)]) (S' := [.int 8192, .int x1]) (M' := sm g u) [pm_o (.iload_n 1), pm_oi (.sipush 8192) 8192] (by decide +kernel) rfl ?_
    refine pm_ic_ge (off := 16) 28 (by decide +kernel) (by decide) (fun hc1 => ?_) (fun hc1 => ?_)
    · rw [if_pos hc1] at h
      have h9 := Option.some.inj h
      subst h9
      exact pm_retv rfl (by decide +kernel) rfl rfl
    · rw [if_neg hc1] at h
      refine pm_blk (pc' := 21) (L' := [(0, .ref 64), (1, .int x1)]) (S' := [.int (-1), .int x1, .ref 76]) (M' := sm g u) [pm_o (.aload_n 0), pm_of (.getfield 50) 12 17 2, pm_o (.iload_n 1), pm_oi (.iconst (-1)) (-1)] (by decide +kernel) rfl ?_
      obtain ⟨ho2, h⟩ := pm_ifs h
      refine pm_iast (by decide +kernel) rfl  (pm_ok_in ho2) ?_
      refine pm_blk (pc' := 25) (L' := [(1, .int (x1 + 1)), (0, .ref 64)]) (S' := []) (M' := sm g (wi u 76 x1.toNatClampNeg (-1))) [pm_oi (.iinc 1 1) 1] (by decide +kernel) rfl ?_
      refine pm_goto (off := -17) 8 (by decide +kernel) (by decide) ?_
      refine pm_loc [1, 0] rfl ?_
      exact ih (x1 + 1) (wi u 76 x1.toNatClampNeg (-1)) h
def F_Md_noTypes (N : Nat) (g : pm_s) (u : pm_J) : Option (pm_J) := K_Md_noTypes_8 N g N 0 (wi u 64 18 6)
set_option maxHeartbeats 4000000 in
set_option maxRecDepth 100000 in
theorem c_Md_noTypes (l : Launch) (h0 : Nat) (D : pm_D) {g : pm_s} {u : pm_J} (hT : sh_T g) {N : Nat} {out : pm_J} (h : F_Md_noTypes N g u = some out) : pm_C l h0 D m_Md_noTypes (0) [.ref 64] (sm g u) none (sm g out) := by
  unfold F_Md_noTypes at h
  refine pm_met (by decide +kernel) (Nat.le_of_ble_eq_true rfl) (Nat.le_refl _) (Nat.le_refl _) ?_
  intro p e R s m args below meth c
  refine pm_blk (pc' := 8) (L' := [(1, .int 0), (0, .ref 64)]) (S' := []) (M' := sm g (wi u 64 18 6)) [pm_o (.aload_n 0), pm_oi (.bipush 6) 6, pm_of (.putfield 240) 12 18 0, pm_oi (.iconst 0) 0, pm_o (.istore_n 1)] (by decide +kernel) rfl ?_
  refine pm_loc [1, 0] rfl ?_
  exact w_Md_noTypes_8 l h0 D hT N 0 (wi u 64 18 6) h
def K_Md_typeOf_160 (N : Nat) (g : pm_s) (x1 : Int32) (x2 : Int32) (x3 : Int32) (x5 : Int32) (t0 : Int32) (t1 : Int32) (u : pm_J) : Option (Int32 × pm_J) := if pm_ok t1 100000 = true then if (x1 == 0 || x1 == 1) = true then if pm_ok x5 100000 = true then if pm_ok x5 100000 = true then if pm_ok x5 100000 = true then if pm_ok x2 100000 = true then if pm_ok x3 100000 = true then if pm_ok x5 100000 = true then some (x5, (wi (wi (wi (wi (wi (wi u 74 t1.toNatClampNeg t0) 70 x5.toNatClampNeg x1) 71 x5.toNatClampNeg x2) 72 x5.toNatClampNeg x3) 73 x5.toNatClampNeg ((u.1 73 x2.toNatClampNeg) ||| (u.1 73 x3.toNatClampNeg))) 64 18 ((u.1 64 18) + 1))) else none else none else none else none else none else none else none else none
set_option maxHeartbeats 4000000 in
set_option maxRecDepth 100000 in
theorem w_Md_typeOf_160 (l : Launch) (h0 : Nat) (D : pm_D) {g : pm_s} (hT : sh_T g) {N : Nat} {u0 : pm_J} {out : Int32 × pm_J} {p : Program} {e : Env} {R : Room} {s : State} {m : MethodId} {args : Array Value} {below : List Frame} {meth : Method} {c : Code} : ∀ (x1 : Int32) (x2 : Int32) (x3 : Int32) (x5 : Int32) (t0 : Int32) (t1 : Int32) (u : pm_J), K_Md_typeOf_160 N g x1 x2 x3 x5 t0 t1 u = some out → pm_V (p, l, e, R, s, m, args, below, meth, c) m_Md_typeOf h0 D (g.1, g.2.1, g.1, g.2.1, 0) (pm_E (p, l, e, R, s, m, args, below, meth, c) h0 D (sm g u0) (some (.int out.1)) (sm g out.2)) 160 [(0, .ref 64), (1, .int x1), (2, .int x2), (3, .int x3), (5, .int x5)] [.int t0, .int t1, .ref 74] (sm g u) := by
    intro x1 x2 x3 x5 t0 t1 u h
    unfold K_Md_typeOf_160 at h
    obtain ⟨ho12, h⟩ := pm_ifs h
    refine pm_iast (by decide +kernel) rfl  (pm_ok_in ho12) ?_
    refine pm_blk (pc' := 168) (L' := [(0, .ref 64), (1, .int x1), (2, .int x2), (3, .int x3), (5, .int x5)]) (S' := [.int x1, .int x5, .ref 70]) (M' := sm g (wi u 74 t1.toNatClampNeg t0)) [pm_o (.aload_n 0), pm_of (.getfield 31) 12 11 2, pm_o (.iload 5), pm_o (.iload_n 1)] (by decide +kernel) rfl ?_
    obtain ⟨hz13, h⟩ := pm_ifs h
    obtain ⟨ho14, h⟩ := pm_ifs h
    refine pm_zast (by decide +kernel) rfl hz13 (pm_ok_in ho14) ?_
    refine pm_blk (pc' := 176) (L' := [(0, .ref 64), (1, .int x1), (2, .int x2), (3, .int x3), (5, .int x5)]) (S' := [.int x2, .int x5, .ref 71]) (M' := sm g (wi (wi u 74 t1.toNatClampNeg t0) 70 x5.toNatClampNeg x1)) [pm_o (.aload_n 0), pm_of (.getfield 35) 12 12 2, pm_o (.iload 5), pm_o (.iload_n 2)] (by decide +kernel) rfl ?_
    obtain ⟨ho15, h⟩ := pm_ifs h
    refine pm_iast (by decide +kernel) rfl  (pm_ok_in ho15) ?_
    refine pm_blk (pc' := 184) (L' := [(0, .ref 64), (1, .int x1), (2, .int x2), (3, .int x3), (5, .int x5)]) (S' := [.int x3, .int x5, .ref 72]) (M' := sm g (wi (wi (wi u 74 t1.toNatClampNeg t0) 70 x5.toNatClampNeg x1) 71 x5.toNatClampNeg x2)) [pm_o (.aload_n 0), pm_of (.getfield 38) 12 13 2, pm_o (.iload 5), pm_o (.iload_n 3)] (by decide +kernel) rfl ?_
    obtain ⟨ho16, h⟩ := pm_ifs h
    refine pm_iast (by decide +kernel) rfl  (pm_ok_in ho16) ?_
    refine pm_blk (pc' := 196) (L' := [(0, .ref 64), (1, .int x1), (2, .int x2), (3, .int x3), (5, .int x5)]) (S' := [.int x2, .ref 73, .int x5, .ref 73]) (M' := sm g (wi (wi (wi (wi u 74 t1.toNatClampNeg t0) 70 x5.toNatClampNeg x1) 71 x5.toNatClampNeg x2) 72 x5.toNatClampNeg x3)) [pm_o (.aload_n 0), pm_of (.getfield 41) 12 14 2, pm_o (.iload 5), pm_o (.aload_n 0), pm_of (.getfield 41) 12 14 2, pm_o (.iload_n 2)] (by decide +kernel) rfl ?_
    obtain ⟨ho17, h⟩ := pm_ifs h
    refine pm_iald (by decide +kernel) rfl (pm_ok_in ho17) ?_
    refine pm_blk (pc' := 202) (L' := [(0, .ref 64), (1, .int x1), (2, .int x2), (3, .int x3), (5, .int x5)]) (S' := [.int x3, .ref 73, .int (u.1 73 x2.toNatClampNeg), .int x5, .ref 73]) (M' := sm g (wi (wi (wi (wi u 74 t1.toNatClampNeg t0) 70 x5.toNatClampNeg x1) 71 x5.toNatClampNeg x2) 72 x5.toNatClampNeg x3)) [pm_o (.aload_n 0), pm_of (.getfield 41) 12 14 2, pm_o (.iload_n 3)] (by decide +kernel) rfl ?_
    obtain ⟨ho18, h⟩ := pm_ifs h
    refine pm_iald (by decide +kernel) rfl (pm_ok_in ho18) ?_
    refine pm_blk (pc' := 204) (L' := [(0, .ref 64), (1, .int x1), (2, .int x2), (3, .int x3), (5, .int x5)]) (S' := [.int ((u.1 73 x2.toNatClampNeg) ||| (u.1 73 x3.toNatClampNeg)), .int x5, .ref 73]) (M' := sm g (wi (wi (wi (wi u 74 t1.toNatClampNeg t0) 70 x5.toNatClampNeg x1) 71 x5.toNatClampNeg x2) 72 x5.toNatClampNeg x3)) [pm_o .ior] (by decide +kernel) rfl ?_
    obtain ⟨ho19, h⟩ := pm_ifs h
    refine pm_iast (by decide +kernel) rfl  (pm_ok_in ho19) ?_
    refine pm_blk (pc' := 217) (L' := [(0, .ref 64), (1, .int x1), (2, .int x2), (3, .int x3), (5, .int x5)]) (S' := [.int x5]) (M' := sm g (wi (wi (wi (wi (wi (wi u 74 t1.toNatClampNeg t0) 70 x5.toNatClampNeg x1) 71 x5.toNatClampNeg x2) 72 x5.toNatClampNeg x3) 73 x5.toNatClampNeg ((u.1 73 x2.toNatClampNeg) ||| (u.1 73 x3.toNatClampNeg))) 64 18 ((u.1 64 18) + 1))) [pm_o (.aload_n 0), pm_o .dup, pm_of (.getfield 240) 12 18 0, pm_oi (.iconst 1) 1, pm_o .iadd, pm_of (.putfield 240) 12 18 0, pm_o (.iload 5)] (by decide +kernel) rfl ?_
    have h9 := Option.some.inj h
    subst h9
    exact pm_reti rfl (by decide +kernel) rfl rfl rfl
def K_Md_typeOf_34 (N : Nat) (g : pm_s) : Nat → Int32 → Int32 → Int32 → Int32 → Int32 → pm_J → Option (Int32 × pm_J)
  | 0, _, _, _, _, _, _ => none
  | n + 1, x1, x2, x3, x4, x5, u => if x5 < 0 then if pm_ok x4 8192 = true then if pm_ok (u.1 64 18) 100000 = true then if pm_ok x4 8192 = true then if pm_ok x2 100000 = true then if pm_ok x3 100000 = true then if ((u.1 74 x2.toNatClampNeg) + (u.1 74 x3.toNatClampNeg)) ≤ 1000 then if pm_ok x2 100000 = true then if pm_ok x3 100000 = true then K_Md_typeOf_160 N g x1 x2 x3 (u.1 64 18) ((u.1 74 x2.toNatClampNeg) + (u.1 74 x3.toNatClampNeg)) (u.1 64 18) (wi (wi u 75 ((u.1 64 18).toNatClampNeg) (u.1 76 x4.toNatClampNeg)) 76 x4.toNatClampNeg (u.1 64 18)) else none else none else K_Md_typeOf_160 N g x1 x2 x3 (u.1 64 18) 1000 (u.1 64 18) (wi (wi u 75 ((u.1 64 18).toNatClampNeg) (u.1 76 x4.toNatClampNeg)) 76 x4.toNatClampNeg (u.1 64 18)) else none else none else none else none else none else if pm_ok x5 100000 = true then if (u.1 70 x5.toNatClampNeg) = x1 then if pm_ok x5 100000 = true then if (u.1 71 x5.toNatClampNeg) = x2 then if pm_ok x5 100000 = true then if (u.1 72 x5.toNatClampNeg) = x3 then some (x5, u) else if pm_ok x5 100000 = true then K_Md_typeOf_34 N g  n x1 x2 x3 x4 (u.1 75 x5.toNatClampNeg) u else none else none else if pm_ok x5 100000 = true then K_Md_typeOf_34 N g  n x1 x2 x3 x4 (u.1 75 x5.toNatClampNeg) u else none else none else if pm_ok x5 100000 = true then K_Md_typeOf_34 N g  n x1 x2 x3 x4 (u.1 75 x5.toNatClampNeg) u else none else none
set_option maxHeartbeats 4000000 in
set_option maxRecDepth 100000 in
theorem w_Md_typeOf_34 (l : Launch) (h0 : Nat) (D : pm_D) {g : pm_s} (hT : sh_T g) {N : Nat} {u0 : pm_J} {out : Int32 × pm_J} {p : Program} {e : Env} {R : Room} {s : State} {m : MethodId} {args : Array Value} {below : List Frame} {meth : Method} {c : Code} : ∀ (n : Nat) (x1 : Int32) (x2 : Int32) (x3 : Int32) (x4 : Int32) (x5 : Int32) (u : pm_J), K_Md_typeOf_34 N g n x1 x2 x3 x4 x5 u = some out → pm_V (p, l, e, R, s, m, args, below, meth, c) m_Md_typeOf h0 D (g.1, g.2.1, g.1, g.2.1, 0) (pm_E (p, l, e, R, s, m, args, below, meth, c) h0 D (sm g u0) (some (.int out.1)) (sm g out.2)) 34 [(0, .ref 64), (1, .int x1), (2, .int x2), (3, .int x3), (4, .int x4), (5, .int x5)] [] (sm g u) := by
  intro n
  induction n with
  | zero => intro x1 x2 x3 x4 x5 u h; cases h
  | succ n ih =>
    intro x1 x2 x3 x4 x5 u h
    rw [K_Md_typeOf_34] at h
    refine pm_blk (pc' := 36) (L' := [(0, .ref 64), (1, .int x1), (2, .int x2), (3, .int x3), (4, .int x4), (5, .int x5)]) (S' := [.int x5]) (M' := sm g u) [pm_o (.iload 5)] (by decide +kernel) rfl ?_
    refine pm_if_lt (off := 51) 87 (by decide +kernel) (by decide) (fun hc3 => ?_) (fun hc3 => ?_)
    · rw [if_pos hc3] at h
      refine pm_blk (pc' := 105) (L' := [(5, .int (u.1 64 18)), (0, .ref 64), (1, .int x1), (2, .int x2), (3, .int x3), (4, .int x4)]) (S' := [.int x4, .ref 76, .int (u.1 64 18), .ref 75]) (M' := sm g u) [pm_o (.aload_n 0), pm_of (.getfield 240) 12 18 0, pm_o (.istore 5), pm_o (.aload_n 0), pm_of (.getfield 47) 12 16 2, pm_o (.iload 5), pm_o (.aload_n 0), pm_of (.getfield 50) 12 17 2, pm_o (.iload 4)] (by decide +kernel) rfl ?_
      obtain ⟨ho4, h⟩ := pm_ifs h
      refine pm_iald (by decide +kernel) rfl (pm_ok_in ho4) ?_
      refine pm_blk (pc' := 106) (L' := [(5, .int (u.1 64 18)), (0, .ref 64), (1, .int x1), (2, .int x2), (3, .int x3), (4, .int x4)]) (S' := [.int (u.1 76 x4.toNatClampNeg), .int (u.1 64 18), .ref 75]) (M' := sm g u) [] (by decide +kernel) rfl ?_
      obtain ⟨ho5, h⟩ := pm_ifs h
      refine pm_iast (by decide +kernel) rfl  (pm_ok_in ho5) ?_
      refine pm_blk (pc' := 115) (L' := [(5, .int (u.1 64 18)), (0, .ref 64), (1, .int x1), (2, .int x2), (3, .int x3), (4, .int x4)]) (S' := [.int (u.1 64 18), .int x4, .ref 76]) (M' := sm g (wi u 75 ((u.1 64 18).toNatClampNeg) (u.1 76 x4.toNatClampNeg))) [pm_o (.aload_n 0), pm_of (.getfield 50) 12 17 2, pm_o (.iload 4), pm_o (.iload 5)] (by decide +kernel) rfl ?_
      obtain ⟨ho6, h⟩ := pm_ifs h
      refine pm_iast (by decide +kernel) rfl  (pm_ok_in ho6) ?_
      refine pm_blk (pc' := 127) (L' := [(5, .int (u.1 64 18)), (0, .ref 64), (1, .int x1), (2, .int x2), (3, .int x3), (4, .int x4)]) (S' := [.int x2, .ref 74, .int (u.1 64 18), .ref 74]) (M' := sm g (wi (wi u 75 ((u.1 64 18).toNatClampNeg) (u.1 76 x4.toNatClampNeg)) 76 x4.toNatClampNeg (u.1 64 18))) [pm_o (.aload_n 0), pm_of (.getfield 44) 12 15 2, pm_o (.iload 5), pm_o (.aload_n 0), pm_of (.getfield 44) 12 15 2, pm_o (.iload_n 2)] (by decide +kernel) rfl ?_
      obtain ⟨ho7, h⟩ := pm_ifs h
      refine pm_iald (by decide +kernel) rfl (pm_ok_in ho7) ?_
      refine pm_blk (pc' := 133) (L' := [(5, .int (u.1 64 18)), (0, .ref 64), (1, .int x1), (2, .int x2), (3, .int x3), (4, .int x4)]) (S' := [.int x3, .ref 74, .int (u.1 74 x2.toNatClampNeg), .int (u.1 64 18), .ref 74]) (M' := sm g (wi (wi u 75 ((u.1 64 18).toNatClampNeg) (u.1 76 x4.toNatClampNeg)) 76 x4.toNatClampNeg (u.1 64 18))) [pm_o (.aload_n 0), pm_of (.getfield 44) 12 15 2, pm_o (.iload_n 3)] (by decide +kernel) rfl ?_
      obtain ⟨ho8, h⟩ := pm_ifs h
      refine pm_iald (by decide +kernel) rfl (pm_ok_in ho8) ?_
      refine pm_blk (pc' := 138) (L' := [(5, .int (u.1 64 18)), (0, .ref 64), (1, .int x1), (2, .int x2), (3, .int x3), (4, .int x4)]) (S' := [.int 1000, .int ((u.1 74 x2.toNatClampNeg) + (u.1 74 x3.toNatClampNeg)), .int (u.1 64 18), .ref 74]) (M' := sm g (wi (wi u 75 ((u.1 64 18).toNatClampNeg) (u.1 76 x4.toNatClampNeg)) 76 x4.toNatClampNeg (u.1 64 18))) [pm_o .iadd, pm_oi (.sipush 1000) 1000] (by decide +kernel) rfl ?_
      refine pm_ic_le (off := 9) 147 (by decide +kernel) (by decide) (fun hc9 => ?_) (fun hc9 => ?_)
      · rw [if_pos hc9] at h
        refine pm_blk (pc' := 152) (L' := [(5, .int (u.1 64 18)), (0, .ref 64), (1, .int x1), (2, .int x2), (3, .int x3), (4, .int x4)]) (S' := [.int x2, .ref 74, .int (u.1 64 18), .ref 74]) (M' := sm g (wi (wi u 75 ((u.1 64 18).toNatClampNeg) (u.1 76 x4.toNatClampNeg)) 76 x4.toNatClampNeg (u.1 64 18))) [pm_o (.aload_n 0), pm_of (.getfield 44) 12 15 2, pm_o (.iload_n 2)] (by decide +kernel) rfl ?_
        obtain ⟨ho10, h⟩ := pm_ifs h
        refine pm_iald (by decide +kernel) rfl (pm_ok_in ho10) ?_
        refine pm_blk (pc' := 158) (L' := [(5, .int (u.1 64 18)), (0, .ref 64), (1, .int x1), (2, .int x2), (3, .int x3), (4, .int x4)]) (S' := [.int x3, .ref 74, .int (u.1 74 x2.toNatClampNeg), .int (u.1 64 18), .ref 74]) (M' := sm g (wi (wi u 75 ((u.1 64 18).toNatClampNeg) (u.1 76 x4.toNatClampNeg)) 76 x4.toNatClampNeg (u.1 64 18))) [pm_o (.aload_n 0), pm_of (.getfield 44) 12 15 2, pm_o (.iload_n 3)] (by decide +kernel) rfl ?_
        obtain ⟨ho11, h⟩ := pm_ifs h
        refine pm_iald (by decide +kernel) rfl (pm_ok_in ho11) ?_
        refine pm_blk (pc' := 160) (L' := [(5, .int (u.1 64 18)), (0, .ref 64), (1, .int x1), (2, .int x2), (3, .int x3), (4, .int x4)]) (S' := [.int ((u.1 74 x2.toNatClampNeg) + (u.1 74 x3.toNatClampNeg)), .int (u.1 64 18), .ref 74]) (M' := sm g (wi (wi u 75 ((u.1 64 18).toNatClampNeg) (u.1 76 x4.toNatClampNeg)) 76 x4.toNatClampNeg (u.1 64 18))) [pm_o .iadd] (by decide +kernel) rfl ?_
        refine pm_loc [1, 2, 3, 4, 0] rfl ?_
        exact w_Md_typeOf_160 l h0 D hT x1 x2 x3 (u.1 64 18) ((u.1 74 x2.toNatClampNeg) + (u.1 74 x3.toNatClampNeg)) (u.1 64 18) (wi (wi u 75 ((u.1 64 18).toNatClampNeg) (u.1 76 x4.toNatClampNeg)) 76 x4.toNatClampNeg (u.1 64 18)) h
      · rw [if_neg hc9] at h
        refine pm_blk (pc' := 144) (L' := [(5, .int (u.1 64 18)), (0, .ref 64), (1, .int x1), (2, .int x2), (3, .int x3), (4, .int x4)]) (S' := [.int 1000, .int (u.1 64 18), .ref 74]) (M' := sm g (wi (wi u 75 ((u.1 64 18).toNatClampNeg) (u.1 76 x4.toNatClampNeg)) 76 x4.toNatClampNeg (u.1 64 18))) [pm_oi (.sipush 1000) 1000] (by decide +kernel) rfl ?_
        refine pm_goto (off := 16) 160 (by decide +kernel) (by decide) ?_
        refine pm_loc [1, 2, 3, 4, 0] rfl ?_
        exact w_Md_typeOf_160 l h0 D hT x1 x2 x3 (u.1 64 18) 1000 (u.1 64 18) (wi (wi u 75 ((u.1 64 18).toNatClampNeg) (u.1 76 x4.toNatClampNeg)) 76 x4.toNatClampNeg (u.1 64 18)) h
    · rw [if_neg hc3] at h
      refine pm_blk (pc' := 45) (L' := [(0, .ref 64), (1, .int x1), (2, .int x2), (3, .int x3), (4, .int x4), (5, .int x5)]) (S' := [.int x5, .ref 70]) (M' := sm g u) [pm_o (.aload_n 0), pm_of (.getfield 31) 12 11 2, pm_o (.iload 5)] (by decide +kernel) rfl ?_
      obtain ⟨ho20, h⟩ := pm_ifs h
      refine pm_zald (by decide +kernel) rfl (pm_ok_in ho20) ?_
      refine pm_blk (pc' := 47) (L' := [(0, .ref 64), (1, .int x1), (2, .int x2), (3, .int x3), (4, .int x4), (5, .int x5)]) (S' := [.int x1, .int (u.1 70 x5.toNatClampNeg)]) (M' := sm g u) [pm_o (.iload_n 1)] (by decide +kernel) rfl ?_
      refine pm_ic_ne (off := 28) 75 (by decide +kernel) (by decide) (fun hc21 => ?_) (fun hc21 => ?_)
      · rw [if_neg hc21] at h
        refine pm_blk (pc' := 81) (L' := [(0, .ref 64), (1, .int x1), (2, .int x2), (3, .int x3), (4, .int x4), (5, .int x5)]) (S' := [.int x5, .ref 75]) (M' := sm g u) [pm_o (.aload_n 0), pm_of (.getfield 47) 12 16 2, pm_o (.iload 5)] (by decide +kernel) rfl ?_
        obtain ⟨ho22, h⟩ := pm_ifs h
        refine pm_iald (by decide +kernel) rfl (pm_ok_in ho22) ?_
        refine pm_blk (pc' := 84) (L' := [(5, .int (u.1 75 x5.toNatClampNeg)), (0, .ref 64), (1, .int x1), (2, .int x2), (3, .int x3), (4, .int x4)]) (S' := []) (M' := sm g u) [pm_o (.istore 5)] (by decide +kernel) rfl ?_
        refine pm_goto (off := -50) 34 (by decide +kernel) (by decide) ?_
        refine pm_loc [1, 2, 3, 4, 5, 0] rfl ?_
        exact ih x1 x2 x3 x4 (u.1 75 x5.toNatClampNeg) u h
      · rw [if_pos hc21] at h
        refine pm_blk (pc' := 56) (L' := [(0, .ref 64), (1, .int x1), (2, .int x2), (3, .int x3), (4, .int x4), (5, .int x5)]) (S' := [.int x5, .ref 71]) (M' := sm g u) [pm_o (.aload_n 0), pm_of (.getfield 35) 12 12 2, pm_o (.iload 5)] (by decide +kernel) rfl ?_
        obtain ⟨ho23, h⟩ := pm_ifs h
        refine pm_iald (by decide +kernel) rfl (pm_ok_in ho23) ?_
        refine pm_blk (pc' := 58) (L' := [(0, .ref 64), (1, .int x1), (2, .int x2), (3, .int x3), (4, .int x4), (5, .int x5)]) (S' := [.int x2, .int (u.1 71 x5.toNatClampNeg)]) (M' := sm g u) [pm_o (.iload_n 2)] (by decide +kernel) rfl ?_
        refine pm_ic_ne (off := 17) 75 (by decide +kernel) (by decide) (fun hc24 => ?_) (fun hc24 => ?_)
        · rw [if_neg hc24] at h
          refine pm_blk (pc' := 81) (L' := [(0, .ref 64), (1, .int x1), (2, .int x2), (3, .int x3), (4, .int x4), (5, .int x5)]) (S' := [.int x5, .ref 75]) (M' := sm g u) [pm_o (.aload_n 0), pm_of (.getfield 47) 12 16 2, pm_o (.iload 5)] (by decide +kernel) rfl ?_
          obtain ⟨ho25, h⟩ := pm_ifs h
          refine pm_iald (by decide +kernel) rfl (pm_ok_in ho25) ?_
          refine pm_blk (pc' := 84) (L' := [(5, .int (u.1 75 x5.toNatClampNeg)), (0, .ref 64), (1, .int x1), (2, .int x2), (3, .int x3), (4, .int x4)]) (S' := []) (M' := sm g u) [pm_o (.istore 5)] (by decide +kernel) rfl ?_
          refine pm_goto (off := -50) 34 (by decide +kernel) (by decide) ?_
          refine pm_loc [1, 2, 3, 4, 5, 0] rfl ?_
          exact ih x1 x2 x3 x4 (u.1 75 x5.toNatClampNeg) u h
        · rw [if_pos hc24] at h
          refine pm_blk (pc' := 67) (L' := [(0, .ref 64), (1, .int x1), (2, .int x2), (3, .int x3), (4, .int x4), (5, .int x5)]) (S' := [.int x5, .ref 72]) (M' := sm g u) [pm_o (.aload_n 0), pm_of (.getfield 38) 12 13 2, pm_o (.iload 5)] (by decide +kernel) rfl ?_
          obtain ⟨ho26, h⟩ := pm_ifs h
          refine pm_iald (by decide +kernel) rfl (pm_ok_in ho26) ?_
          refine pm_blk (pc' := 69) (L' := [(0, .ref 64), (1, .int x1), (2, .int x2), (3, .int x3), (4, .int x4), (5, .int x5)]) (S' := [.int x3, .int (u.1 72 x5.toNatClampNeg)]) (M' := sm g u) [pm_o (.iload_n 3)] (by decide +kernel) rfl ?_
          refine pm_ic_ne (off := 6) 75 (by decide +kernel) (by decide) (fun hc27 => ?_) (fun hc27 => ?_)
          · rw [if_neg hc27] at h
            refine pm_blk (pc' := 81) (L' := [(0, .ref 64), (1, .int x1), (2, .int x2), (3, .int x3), (4, .int x4), (5, .int x5)]) (S' := [.int x5, .ref 75]) (M' := sm g u) [pm_o (.aload_n 0), pm_of (.getfield 47) 12 16 2, pm_o (.iload 5)] (by decide +kernel) rfl ?_
            obtain ⟨ho28, h⟩ := pm_ifs h
            refine pm_iald (by decide +kernel) rfl (pm_ok_in ho28) ?_
            refine pm_blk (pc' := 84) (L' := [(5, .int (u.1 75 x5.toNatClampNeg)), (0, .ref 64), (1, .int x1), (2, .int x2), (3, .int x3), (4, .int x4)]) (S' := []) (M' := sm g u) [pm_o (.istore 5)] (by decide +kernel) rfl ?_
            refine pm_goto (off := -50) 34 (by decide +kernel) (by decide) ?_
            refine pm_loc [1, 2, 3, 4, 5, 0] rfl ?_
            exact ih x1 x2 x3 x4 (u.1 75 x5.toNatClampNeg) u h
          · rw [if_pos hc27] at h
            refine pm_blk (pc' := 74) (L' := [(0, .ref 64), (1, .int x1), (2, .int x2), (3, .int x3), (4, .int x4), (5, .int x5)]) (S' := [.int x5]) (M' := sm g u) [pm_o (.iload 5)] (by decide +kernel) rfl ?_
            have h9 := Option.some.inj h
            subst h9
            exact pm_reti rfl (by decide +kernel) rfl rfl rfl
def K_Md_typeOf_18 (N : Nat) (g : pm_s) (x1 : Int32) (x2 : Int32) (x3 : Int32) (t0 : Int32) (t1 : Int32) (u : pm_J) : Option (Int32 × pm_J) := if pm_ok ((t1 + t0) - (t1 + t0) / 8192 * 8192) 8192 = true then K_Md_typeOf_34 N g N x1 x2 x3 ((t1 + t0) - (t1 + t0) / 8192 * 8192) (u.1 76 (((t1 + t0) - (t1 + t0) / 8192 * 8192).toNatClampNeg)) u else none
set_option maxHeartbeats 4000000 in
set_option maxRecDepth 100000 in
theorem w_Md_typeOf_18 (l : Launch) (h0 : Nat) (D : pm_D) {g : pm_s} (hT : sh_T g) {N : Nat} {u0 : pm_J} {out : Int32 × pm_J} {p : Program} {e : Env} {R : Room} {s : State} {m : MethodId} {args : Array Value} {below : List Frame} {meth : Method} {c : Code} : ∀ (x1 : Int32) (x2 : Int32) (x3 : Int32) (t0 : Int32) (t1 : Int32) (u : pm_J), K_Md_typeOf_18 N g x1 x2 x3 t0 t1 u = some out → pm_V (p, l, e, R, s, m, args, below, meth, c) m_Md_typeOf h0 D (g.1, g.2.1, g.1, g.2.1, 0) (pm_E (p, l, e, R, s, m, args, below, meth, c) h0 D (sm g u0) (some (.int out.1)) (sm g out.2)) 18 [(0, .ref 64), (1, .int x1), (2, .int x2), (3, .int x3)] [.int t0, .int t1] (sm g u) := by
    intro x1 x2 x3 t0 t1 u h
    unfold K_Md_typeOf_18 at h
    refine pm_blk (pc' := 22) (L' := [(0, .ref 64), (1, .int x1), (2, .int x2), (3, .int x3)]) (S' := [.int 8192, .int (t1 + t0)]) (M' := sm g u) [pm_o .iadd, pm_oi (.sipush 8192) 8192] (by decide +kernel) rfl ?_
    refine pm_irem (by decide +kernel) (by decide +kernel) ?_
    refine pm_blk (pc' := 31) (L' := [(4, .int ((t1 + t0) - (t1 + t0) / 8192 * 8192)), (0, .ref 64), (1, .int x1), (2, .int x2), (3, .int x3)]) (S' := [.int ((t1 + t0) - (t1 + t0) / 8192 * 8192), .ref 76]) (M' := sm g u) [pm_o (.istore 4), pm_o (.aload_n 0), pm_of (.getfield 50) 12 17 2, pm_o (.iload 4)] (by decide +kernel) rfl ?_
    obtain ⟨ho2, h⟩ := pm_ifs h
    refine pm_iald (by decide +kernel) rfl (pm_ok_in ho2) ?_
    refine pm_blk (pc' := 34) (L' := [(5, .int (u.1 76 (((t1 + t0) - (t1 + t0) / 8192 * 8192).toNatClampNeg))), (4, .int ((t1 + t0) - (t1 + t0) / 8192 * 8192)), (0, .ref 64), (1, .int x1), (2, .int x2), (3, .int x3)]) (S' := []) (M' := sm g u) [pm_o (.istore 5)] (by decide +kernel) rfl ?_
    refine pm_loc [2, 3, 4, 5, 1, 0] rfl ?_
    exact w_Md_typeOf_34 l h0 D hT N x1 x2 x3 ((t1 + t0) - (t1 + t0) / 8192 * 8192) (u.1 76 (((t1 + t0) - (t1 + t0) / 8192 * 8192).toNatClampNeg)) u h
def F_Md_typeOf (N : Nat) (a1 : Int32) (a2 : Int32) (a3 : Int32) (g : pm_s) (u : pm_J) : Option (Int32 × pm_J) := if a1 = 0 then K_Md_typeOf_18 N g a1 a2 a3 0 ((31 * a2) + (7 * a3)) u else K_Md_typeOf_18 N g a1 a2 a3 1 ((31 * a2) + (7 * a3)) u
set_option maxHeartbeats 4000000 in
set_option maxRecDepth 100000 in
theorem c_Md_typeOf (l : Launch) (h0 : Nat) (D : pm_D) {g : pm_s} {u : pm_J} (hT : sh_T g) {N : Nat} {a1 : Int32} {a2 : Int32} {a3 : Int32} {out : Int32 × pm_J} (h : F_Md_typeOf N a1 a2 a3 g u = some out) : pm_C l h0 D m_Md_typeOf (0) [.ref 64, .int a1, .int a2, .int a3] (sm g u) (some (.int out.1)) (sm g out.2) := by
  unfold F_Md_typeOf at h
  refine pm_met (by decide +kernel) (Nat.le_of_ble_eq_true rfl) (Nat.le_refl _) (Nat.le_refl _) ?_
  intro p e R s m args below meth c
  refine pm_blk (pc' := 10) (L' := [(0, .ref 64), (1, .int a1), (2, .int a2), (3, .int a3)]) (S' := [.int a1, .int ((31 * a2) + (7 * a3))]) (M' := sm g u) [pm_oi (.bipush 31) 31, pm_o (.iload_n 2), pm_o .imul, pm_oi (.bipush 7) 7, pm_o (.iload_n 3), pm_o .imul, pm_o .iadd, pm_o (.iload_n 1)] (by decide +kernel) rfl ?_
  refine pm_if_eq (off := 7) 17 (by decide +kernel) (by decide) (fun hc1 => ?_) (fun hc1 => ?_)
  · rw [if_pos hc1] at h
    refine pm_blk (pc' := 18) (L' := [(0, .ref 64), (1, .int a1), (2, .int a2), (3, .int a3)]) (S' := [.int 0, .int ((31 * a2) + (7 * a3))]) (M' := sm g u) [pm_oi (.iconst 0) 0] (by decide +kernel) rfl ?_
    refine pm_loc [0, 1, 2, 3] rfl ?_
    exact w_Md_typeOf_18 l h0 D hT a1 a2 a3 0 ((31 * a2) + (7 * a3)) u h
  · rw [if_neg hc1] at h
    refine pm_blk (pc' := 14) (L' := [(0, .ref 64), (1, .int a1), (2, .int a2), (3, .int a3)]) (S' := [.int 1, .int ((31 * a2) + (7 * a3))]) (M' := sm g u) [pm_oi (.iconst 1) 1] (by decide +kernel) rfl ?_
    refine pm_goto (off := 4) 18 (by decide +kernel) (by decide) ?_
    refine pm_loc [0, 1, 2, 3] rfl ?_
    exact w_Md_typeOf_18 l h0 D hT a1 a2 a3 1 ((31 * a2) + (7 * a3)) u h
def K_Md_mark_31 (N : Nat) (g : pm_s) : Nat → Int32 → pm_J → Option (pm_J)
  | 0, _, _ => none
  | n + 1, x2, u => if x2 < 6 then some u else if pm_ok x2 100000 = true then if (u.1 102 x2.toNatClampNeg) = 0 then K_Md_mark_31 N g  n (x2 + (-1)) u else if pm_ok x2 100000 = true then if pm_ok (u.1 71 x2.toNatClampNeg) 100000 = true then if pm_ok x2 100000 = true then if pm_ok (u.1 72 x2.toNatClampNeg) 100000 = true then K_Md_mark_31 N g  n (x2 + (-1)) (wi (wi u 102 ((u.1 71 x2.toNatClampNeg).toNatClampNeg) 1) 102 ((u.1 72 x2.toNatClampNeg).toNatClampNeg) 1) else none else none else none else none else none
set_option maxHeartbeats 4000000 in
set_option maxRecDepth 100000 in
theorem w_Md_mark_31 (l : Launch) (h0 : Nat) (D : pm_D) {g : pm_s} (hT : sh_T g) {N : Nat} {u0 : pm_J} {out : pm_J} {p : Program} {e : Env} {R : Room} {s : State} {m : MethodId} {args : Array Value} {below : List Frame} {meth : Method} {c : Code} : ∀ (n : Nat) (x2 : Int32) (u : pm_J), K_Md_mark_31 N g n x2 u = some out → pm_V (p, l, e, R, s, m, args, below, meth, c) m_Md_mark h0 D (g.1, g.2.1, g.1, g.2.1, 0) (pm_E (p, l, e, R, s, m, args, below, meth, c) h0 D (sm g u0) none (sm g out)) 31 [(0, .ref 64), (2, .int x2)] [] (sm g u) := by
  intro n
  induction n with
  | zero => intro x2 u h; cases h
  | succ n ih =>
    intro x2 u h
    rw [K_Md_mark_31] at h
    refine pm_blk (pc' := 34) (L' := [(0, .ref 64), (2, .int x2)]) (S' := [.int 6, .int x2]) (M' := sm g u) [pm_o (.iload_n 2), pm_oi (.bipush 6) 6] (by decide +kernel) rfl ?_
    refine pm_ic_lt (off := 42) 76 (by decide +kernel) (by decide) (fun hc2 => ?_) (fun hc2 => ?_)
    · rw [if_pos hc2] at h
      have h9 := Option.some.inj h
      subst h9
      exact pm_retv rfl (by decide +kernel) rfl rfl
    · rw [if_neg hc2] at h
      refine pm_blk (pc' := 42) (L' := [(0, .ref 64), (2, .int x2)]) (S' := [.int x2, .ref 102]) (M' := sm g u) [pm_o (.aload_n 0), pm_of (.getfield 128) 12 48 2, pm_o (.iload_n 2)] (by decide +kernel) rfl ?_
      obtain ⟨ho3, h⟩ := pm_ifs h
      refine pm_zald (by decide +kernel) rfl (pm_ok_in ho3) ?_
      refine pm_blk (pc' := 43) (L' := [(0, .ref 64), (2, .int x2)]) (S' := [.int (u.1 102 x2.toNatClampNeg)]) (M' := sm g u) [] (by decide +kernel) rfl ?_
      refine pm_if_eq (off := 27) 70 (by decide +kernel) (by decide) (fun hc4 => ?_) (fun hc4 => ?_)
      · rw [if_pos hc4] at h
        refine pm_blk (pc' := 73) (L' := [(2, .int (x2 + (-1))), (0, .ref 64)]) (S' := []) (M' := sm g u) [pm_oi (.iinc 2 (-1)) (-1)] (by decide +kernel) rfl ?_
        refine pm_goto (off := -42) 31 (by decide +kernel) (by decide) ?_
        refine pm_loc [1, 0] rfl ?_
        exact ih (x2 + (-1)) u h
      · rw [if_neg hc4] at h
        refine pm_blk (pc' := 55) (L' := [(0, .ref 64), (2, .int x2)]) (S' := [.int x2, .ref 71, .ref 102]) (M' := sm g u) [pm_o (.aload_n 0), pm_of (.getfield 128) 12 48 2, pm_o (.aload_n 0), pm_of (.getfield 35) 12 12 2, pm_o (.iload_n 2)] (by decide +kernel) rfl ?_
        obtain ⟨ho5, h⟩ := pm_ifs h
        refine pm_iald (by decide +kernel) rfl (pm_ok_in ho5) ?_
        refine pm_blk (pc' := 57) (L' := [(0, .ref 64), (2, .int x2)]) (S' := [.int 1, .int (u.1 71 x2.toNatClampNeg), .ref 102]) (M' := sm g u) [pm_oi (.iconst 1) 1] (by decide +kernel) rfl ?_
        obtain ⟨ho6, h⟩ := pm_ifs h
        refine pm_zast (by decide +kernel) rfl rfl (pm_ok_in ho6) ?_
        refine pm_blk (pc' := 67) (L' := [(0, .ref 64), (2, .int x2)]) (S' := [.int x2, .ref 72, .ref 102]) (M' := sm g (wi u 102 ((u.1 71 x2.toNatClampNeg).toNatClampNeg) 1)) [pm_o (.aload_n 0), pm_of (.getfield 128) 12 48 2, pm_o (.aload_n 0), pm_of (.getfield 38) 12 13 2, pm_o (.iload_n 2)] (by decide +kernel) rfl ?_
        obtain ⟨ho7, h⟩ := pm_ifs h
        refine pm_iald (by decide +kernel) rfl (pm_ok_in ho7) ?_
        refine pm_blk (pc' := 69) (L' := [(0, .ref 64), (2, .int x2)]) (S' := [.int 1, .int (u.1 72 x2.toNatClampNeg), .ref 102]) (M' := sm g (wi u 102 ((u.1 71 x2.toNatClampNeg).toNatClampNeg) 1)) [pm_oi (.iconst 1) 1] (by decide +kernel) rfl ?_
        obtain ⟨ho8, h⟩ := pm_ifs h
        refine pm_zast (by decide +kernel) rfl rfl (pm_ok_in ho8) ?_
        refine pm_blk (pc' := 73) (L' := [(2, .int (x2 + (-1))), (0, .ref 64)]) (S' := []) (M' := sm g (wi (wi u 102 ((u.1 71 x2.toNatClampNeg).toNatClampNeg) 1) 102 ((u.1 72 x2.toNatClampNeg).toNatClampNeg) 1)) [pm_oi (.iinc 2 (-1)) (-1)] (by decide +kernel) rfl ?_
        refine pm_goto (off := -42) 31 (by decide +kernel) (by decide) ?_
        refine pm_loc [1, 0] rfl ?_
        exact ih (x2 + (-1)) (wi (wi u 102 ((u.1 71 x2.toNatClampNeg).toNatClampNeg) 1) 102 ((u.1 72 x2.toNatClampNeg).toNatClampNeg) 1) h
def K_Md_mark_2 (N : Nat) (g : pm_s) : Nat → Int32 → Int32 → pm_J → Option (pm_J)
  | 0, _, _, _ => none
  | n + 1, x1, x2, u => if x1 < x2 then K_Md_mark_31 N g N x1 u else if x2 = x1 then if pm_ok x2 100000 = true then K_Md_mark_2 N g  n x1 (x2 + 1) (wi u 102 x2.toNatClampNeg 1) else none else if pm_ok x2 100000 = true then K_Md_mark_2 N g  n x1 (x2 + 1) (wi u 102 x2.toNatClampNeg 0) else none
set_option maxHeartbeats 4000000 in
set_option maxRecDepth 100000 in
theorem w_Md_mark_2 (l : Launch) (h0 : Nat) (D : pm_D) {g : pm_s} (hT : sh_T g) {N : Nat} {u0 : pm_J} {out : pm_J} {p : Program} {e : Env} {R : Room} {s : State} {m : MethodId} {args : Array Value} {below : List Frame} {meth : Method} {c : Code} : ∀ (n : Nat) (x1 : Int32) (x2 : Int32) (u : pm_J), K_Md_mark_2 N g n x1 x2 u = some out → pm_V (p, l, e, R, s, m, args, below, meth, c) m_Md_mark h0 D (g.1, g.2.1, g.1, g.2.1, 0) (pm_E (p, l, e, R, s, m, args, below, meth, c) h0 D (sm g u0) none (sm g out)) 2 [(0, .ref 64), (1, .int x1), (2, .int x2)] [] (sm g u) := by
  intro n
  induction n with
  | zero => intro x1 x2 u h; cases h
  | succ n ih =>
    intro x1 x2 u h
    rw [K_Md_mark_2] at h
    refine pm_blk (pc' := 4) (L' := [(0, .ref 64), (1, .int x1), (2, .int x2)]) (S' := [.int x1, .int x2]) (M' := sm g u) [pm_o (.iload_n 2), pm_o (.iload_n 1)] (by decide +kernel) rfl ?_
    refine pm_ic_gt (off := 25) 29 (by decide +kernel) (by decide) (fun hc1 => ?_) (fun hc1 => ?_)
    · rw [if_pos hc1] at h
      refine pm_blk (pc' := 31) (L' := [(2, .int x1), (0, .ref 64), (1, .int x1)]) (S' := []) (M' := sm g u) [pm_o (.iload_n 1), pm_o (.istore_n 2)] (by decide +kernel) rfl ?_
      refine pm_loc [1, 0] rfl ?_
      exact w_Md_mark_31 l h0 D hT N x1 u h
    · rw [if_neg hc1] at h
      refine pm_blk (pc' := 14) (L' := [(0, .ref 64), (1, .int x1), (2, .int x2)]) (S' := [.int x1, .int x2, .int x2, .ref 102]) (M' := sm g u) [pm_o (.aload_n 0), pm_of (.getfield 128) 12 48 2, pm_o (.iload_n 2), pm_o (.iload_n 2), pm_o (.iload_n 1)] (by decide +kernel) rfl ?_
      refine pm_ic_ne (off := 7) 21 (by decide +kernel) (by decide) (fun hc9 => ?_) (fun hc9 => ?_)
      · rw [if_neg hc9] at h
        refine pm_blk (pc' := 22) (L' := [(0, .ref 64), (1, .int x1), (2, .int x2)]) (S' := [.int 0, .int x2, .ref 102]) (M' := sm g u) [pm_oi (.iconst 0) 0] (by decide +kernel) rfl ?_
        obtain ⟨ho10, h⟩ := pm_ifs h
        refine pm_zast (by decide +kernel) rfl rfl (pm_ok_in ho10) ?_
        refine pm_blk (pc' := 26) (L' := [(2, .int (x2 + 1)), (0, .ref 64), (1, .int x1)]) (S' := []) (M' := sm g (wi u 102 x2.toNatClampNeg 0)) [pm_oi (.iinc 2 1) 1] (by decide +kernel) rfl ?_
        refine pm_goto (off := -24) 2 (by decide +kernel) (by decide) ?_
        refine pm_loc [1, 2, 0] rfl ?_
        exact ih x1 (x2 + 1) (wi u 102 x2.toNatClampNeg 0) h
      · rw [if_pos hc9] at h
        refine pm_blk (pc' := 18) (L' := [(0, .ref 64), (1, .int x1), (2, .int x2)]) (S' := [.int 1, .int x2, .ref 102]) (M' := sm g u) [pm_oi (.iconst 1) 1] (by decide +kernel) rfl ?_
        refine pm_goto (off := 4) 22 (by decide +kernel) (by decide) ?_
        obtain ⟨ho11, h⟩ := pm_ifs h
        refine pm_zast (by decide +kernel) rfl rfl (pm_ok_in ho11) ?_
        refine pm_blk (pc' := 26) (L' := [(2, .int (x2 + 1)), (0, .ref 64), (1, .int x1)]) (S' := []) (M' := sm g (wi u 102 x2.toNatClampNeg 1)) [pm_oi (.iinc 2 1) 1] (by decide +kernel) rfl ?_
        refine pm_goto (off := -24) 2 (by decide +kernel) (by decide) ?_
        refine pm_loc [1, 2, 0] rfl ?_
        exact ih x1 (x2 + 1) (wi u 102 x2.toNatClampNeg 1) h
def F_Md_mark (N : Nat) (a1 : Int32) (g : pm_s) (u : pm_J) : Option (pm_J) := K_Md_mark_2 N g N a1 0 u
set_option maxHeartbeats 4000000 in
set_option maxRecDepth 100000 in
theorem c_Md_mark (l : Launch) (h0 : Nat) (D : pm_D) {g : pm_s} {u : pm_J} (hT : sh_T g) {N : Nat} {a1 : Int32} {out : pm_J} (h : F_Md_mark N a1 g u = some out) : pm_C l h0 D m_Md_mark (0) [.ref 64, .int a1] (sm g u) none (sm g out) := by
  unfold F_Md_mark at h
  refine pm_met (by decide +kernel) (Nat.le_of_ble_eq_true rfl) (Nat.le_refl _) (Nat.le_refl _) ?_
  intro p e R s m args below meth c
  refine pm_blk (pc' := 2) (L' := [(2, .int 0), (0, .ref 64), (1, .int a1)]) (S' := []) (M' := sm g u) [pm_oi (.iconst 0) 0, pm_o (.istore_n 2)] (by decide +kernel) rfl ?_
  refine pm_loc [1, 2, 0] rfl ?_
  exact w_Md_mark_2 l h0 D hT N a1 0 u h
def K_Md_filled_82 (N : Nat) (g : pm_s) : Nat → Int32 → Int32 → pm_J → Option (Int32 × pm_J)
  | 0, _, _, _ => none
  | n + 1, x1, x3, u => if x1 < x3 then if pm_ok x1 100000 = true then some (u.1 101 x1.toNatClampNeg, u) else none else if pm_ok x3 100000 = true then if (u.1 102 x3.toNatClampNeg) = 0 then K_Md_filled_82 N g  n x1 (x3 + 1) u else if pm_ok x3 100000 = true then if (u.1 73 x3.toNatClampNeg) = 0 then K_Md_filled_82 N g  n x1 (x3 + 1) u else if pm_ok x3 100000 = true then if pm_ok x3 100000 = true then if pm_ok (u.1 71 x3.toNatClampNeg) 100000 = true then if pm_ok x3 100000 = true then if pm_ok (u.1 72 x3.toNatClampNeg) 100000 = true then (F_Md_typeOf N (u.1 70 x3.toNatClampNeg) (u.1 101 ((u.1 71 x3.toNatClampNeg).toNatClampNeg)) (u.1 101 ((u.1 72 x3.toNatClampNeg).toNatClampNeg)) g u).bind fun q16 => if pm_ok x3 100000 = true then K_Md_filled_82 N g  n x1 (x3 + 1) (wi q16.2 101 x3.toNatClampNeg q16.1) else none else none else none else none else none else none else none else none
set_option maxHeartbeats 4000000 in
set_option maxRecDepth 100000 in
theorem w_Md_filled_82 (l : Launch) (h0 : Nat) (D : pm_D) {g : pm_s} (hT : sh_T g) {N : Nat} {u0 : pm_J} {out : Int32 × pm_J} {p : Program} {e : Env} {R : Room} {s : State} {m : MethodId} {args : Array Value} {below : List Frame} {meth : Method} {c : Code} : ∀ (n : Nat) (x1 : Int32) (x3 : Int32) (u : pm_J), K_Md_filled_82 N g n x1 x3 u = some out → pm_V (p, l, e, R, s, m, args, below, meth, c) m_Md_filled h0 D (g.1, g.2.1, g.1, g.2.1, 1) (pm_E (p, l, e, R, s, m, args, below, meth, c) h0 D (sm g u0) (some (.int out.1)) (sm g out.2)) 82 [(0, .ref 64), (1, .int x1), (3, .int x3)] [] (sm g u) := by
  intro n
  induction n with
  | zero => intro x1 x3 u h; cases h
  | succ n ih =>
    intro x1 x3 u h
    rw [K_Md_filled_82] at h
    refine pm_blk (pc' := 84) (L' := [(0, .ref 64), (1, .int x1), (3, .int x3)]) (S' := [.int x1, .int x3]) (M' := sm g u) [pm_o (.iload_n 3), pm_o (.iload_n 1)] (by decide +kernel) rfl ?_
    refine pm_ic_gt (off := 65) 149 (by decide +kernel) (by decide) (fun hc5 => ?_) (fun hc5 => ?_)
    · rw [if_pos hc5] at h
      refine pm_blk (pc' := 154) (L' := [(0, .ref 64), (1, .int x1), (3, .int x3)]) (S' := [.int x1, .ref 101]) (M' := sm g u) [pm_o (.aload_n 0), pm_of (.getfield 125) 12 47 2, pm_o (.iload_n 1)] (by decide +kernel) rfl ?_
      obtain ⟨ho6, h⟩ := pm_ifs h
      refine pm_iald (by decide +kernel) rfl (pm_ok_in ho6) ?_
      refine pm_blk (pc' := 155) (L' := [(0, .ref 64), (1, .int x1), (3, .int x3)]) (S' := [.int (u.1 101 x1.toNatClampNeg)]) (M' := sm g u) [] (by decide +kernel) rfl ?_
      have h9 := Option.some.inj h
      subst h9
      exact pm_reti rfl (by decide +kernel) rfl rfl rfl
    · rw [if_neg hc5] at h
      refine pm_blk (pc' := 92) (L' := [(0, .ref 64), (1, .int x1), (3, .int x3)]) (S' := [.int x3, .ref 102]) (M' := sm g u) [pm_o (.aload_n 0), pm_of (.getfield 128) 12 48 2, pm_o (.iload_n 3)] (by decide +kernel) rfl ?_
      obtain ⟨ho7, h⟩ := pm_ifs h
      refine pm_zald (by decide +kernel) rfl (pm_ok_in ho7) ?_
      refine pm_blk (pc' := 93) (L' := [(0, .ref 64), (1, .int x1), (3, .int x3)]) (S' := [.int (u.1 102 x3.toNatClampNeg)]) (M' := sm g u) [] (by decide +kernel) rfl ?_
      refine pm_if_eq (off := 50) 143 (by decide +kernel) (by decide) (fun hc8 => ?_) (fun hc8 => ?_)
      · rw [if_pos hc8] at h
        refine pm_blk (pc' := 146) (L' := [(3, .int (x3 + 1)), (0, .ref 64), (1, .int x1)]) (S' := []) (M' := sm g u) [pm_oi (.iinc 3 1) 1] (by decide +kernel) rfl ?_
        refine pm_goto (off := -64) 82 (by decide +kernel) (by decide) ?_
        refine pm_loc [1, 2, 0] rfl ?_
        exact ih x1 (x3 + 1) u h
      · rw [if_neg hc8] at h
        refine pm_blk (pc' := 101) (L' := [(0, .ref 64), (1, .int x1), (3, .int x3)]) (S' := [.int x3, .ref 73]) (M' := sm g u) [pm_o (.aload_n 0), pm_of (.getfield 41) 12 14 2, pm_o (.iload_n 3)] (by decide +kernel) rfl ?_
        obtain ⟨ho9, h⟩ := pm_ifs h
        refine pm_iald (by decide +kernel) rfl (pm_ok_in ho9) ?_
        refine pm_blk (pc' := 102) (L' := [(0, .ref 64), (1, .int x1), (3, .int x3)]) (S' := [.int (u.1 73 x3.toNatClampNeg)]) (M' := sm g u) [] (by decide +kernel) rfl ?_
        refine pm_if_eq (off := 41) 143 (by decide +kernel) (by decide) (fun hc10 => ?_) (fun hc10 => ?_)
        · rw [if_pos hc10] at h
          refine pm_blk (pc' := 146) (L' := [(3, .int (x3 + 1)), (0, .ref 64), (1, .int x1)]) (S' := []) (M' := sm g u) [pm_oi (.iinc 3 1) 1] (by decide +kernel) rfl ?_
          refine pm_goto (off := -64) 82 (by decide +kernel) (by decide) ?_
          refine pm_loc [1, 2, 0] rfl ?_
          exact ih x1 (x3 + 1) u h
        · rw [if_neg hc10] at h
          refine pm_blk (pc' := 116) (L' := [(0, .ref 64), (1, .int x1), (3, .int x3)]) (S' := [.int x3, .ref 70, .ref 64, .int x3, .ref 101]) (M' := sm g u) [pm_o (.aload_n 0), pm_of (.getfield 125) 12 47 2, pm_o (.iload_n 3), pm_o (.aload_n 0), pm_o (.aload_n 0), pm_of (.getfield 31) 12 11 2, pm_o (.iload_n 3)] (by decide +kernel) rfl ?_
          obtain ⟨ho11, h⟩ := pm_ifs h
          refine pm_zald (by decide +kernel) rfl (pm_ok_in ho11) ?_
          refine pm_blk (pc' := 126) (L' := [(0, .ref 64), (1, .int x1), (3, .int x3)]) (S' := [.int x3, .ref 71, .ref 101, .int (u.1 70 x3.toNatClampNeg), .ref 64, .int x3, .ref 101]) (M' := sm g u) [pm_o (.aload_n 0), pm_of (.getfield 125) 12 47 2, pm_o (.aload_n 0), pm_of (.getfield 35) 12 12 2, pm_o (.iload_n 3)] (by decide +kernel) rfl ?_
          obtain ⟨ho12, h⟩ := pm_ifs h
          refine pm_iald (by decide +kernel) rfl (pm_ok_in ho12) ?_
          refine pm_blk (pc' := 127) (L' := [(0, .ref 64), (1, .int x1), (3, .int x3)]) (S' := [.int (u.1 71 x3.toNatClampNeg), .ref 101, .int (u.1 70 x3.toNatClampNeg), .ref 64, .int x3, .ref 101]) (M' := sm g u) [] (by decide +kernel) rfl ?_
          obtain ⟨ho13, h⟩ := pm_ifs h
          refine pm_iald (by decide +kernel) rfl (pm_ok_in ho13) ?_
          refine pm_blk (pc' := 137) (L' := [(0, .ref 64), (1, .int x1), (3, .int x3)]) (S' := [.int x3, .ref 72, .ref 101, .int (u.1 101 ((u.1 71 x3.toNatClampNeg).toNatClampNeg)), .int (u.1 70 x3.toNatClampNeg), .ref 64, .int x3, .ref 101]) (M' := sm g u) [pm_o (.aload_n 0), pm_of (.getfield 125) 12 47 2, pm_o (.aload_n 0), pm_of (.getfield 38) 12 13 2, pm_o (.iload_n 3)] (by decide +kernel) rfl ?_
          obtain ⟨ho14, h⟩ := pm_ifs h
          refine pm_iald (by decide +kernel) rfl (pm_ok_in ho14) ?_
          refine pm_blk (pc' := 138) (L' := [(0, .ref 64), (1, .int x1), (3, .int x3)]) (S' := [.int (u.1 72 x3.toNatClampNeg), .ref 101, .int (u.1 101 ((u.1 71 x3.toNatClampNeg).toNatClampNeg)), .int (u.1 70 x3.toNatClampNeg), .ref 64, .int x3, .ref 101]) (M' := sm g u) [] (by decide +kernel) rfl ?_
          obtain ⟨ho15, h⟩ := pm_ifs h
          refine pm_iald (by decide +kernel) rfl (pm_ok_in ho15) ?_
          refine pm_blk (pc' := 139) (L' := [(0, .ref 64), (1, .int x1), (3, .int x3)]) (S' := [.int (u.1 101 ((u.1 72 x3.toNatClampNeg).toNatClampNeg)), .int (u.1 101 ((u.1 71 x3.toNatClampNeg).toNatClampNeg)), .int (u.1 70 x3.toNatClampNeg), .ref 64, .int x3, .ref 101]) (M' := sm g u) [] (by decide +kernel) rfl ?_
          obtain ⟨q16, hq16, h⟩ := pm_bd h
          refine pm_cV (idx := 345) m_Md_typeOf (c_Md_typeOf l h0 D hT hq16) (As := [.int (u.1 70 x3.toNatClampNeg), .int (u.1 101 ((u.1 71 x3.toNatClampNeg).toNatClampNeg)), .int (u.1 101 ((u.1 72 x3.toNatClampNeg).toNatClampNeg))]) (S0 := [.int x3, .ref 101]) rfl (by decide +kernel) k_Md_typeOf l_Md_345 (Nat.le_of_ble_eq_true rfl) (Nat.le_of_ble_eq_true rfl) (Nat.le_refl _) (Nat.le_refl _) ?_
          refine pm_blk (pc' := 142) (L' := [(0, .ref 64), (1, .int x1), (3, .int x3)]) (S' := [.int q16.1, .int x3, .ref 101]) (M' := sm g q16.2) [] (by decide +kernel) rfl ?_
          obtain ⟨ho17, h⟩ := pm_ifs h
          refine pm_iast (by decide +kernel) rfl  (pm_ok_in ho17) ?_
          refine pm_blk (pc' := 146) (L' := [(3, .int (x3 + 1)), (0, .ref 64), (1, .int x1)]) (S' := []) (M' := sm g (wi q16.2 101 x3.toNatClampNeg q16.1)) [pm_oi (.iinc 3 1) 1] (by decide +kernel) rfl ?_
          refine pm_goto (off := -64) 82 (by decide +kernel) (by decide) ?_
          refine pm_loc [1, 2, 0] rfl ?_
          exact ih x1 (x3 + 1) (wi q16.2 101 x3.toNatClampNeg q16.1) h
def K_Md_filled_13 (N : Nat) (g : pm_s) : Nat → Int32 → Int32 → Int32 → pm_J → Option (Int32 × pm_J)
  | 0, _, _, _, _ => none
  | n + 1, x1, x2, x3, u => if x1 < x3 then (F_Md_mark N x1 g u).bind fun q4 => K_Md_filled_82 N g N x1 6 q4 else if 2 ≤ x3 then if 6 ≤ x3 then if pm_ok x3 100000 = true then if (u.1 73 x3.toNatClampNeg) = 0 then if pm_ok x3 100000 = true then K_Md_filled_13 N g  n x1 x2 (x3 + 1) (wi u 101 x3.toNatClampNeg x3) else none else if pm_ok x3 100000 = true then K_Md_filled_13 N g  n x1 x2 (x3 + 1) (wi u 101 x3.toNatClampNeg (-1)) else none else none else if pm_ok (((4 * x2) + x3) - 2) 9600 = true then if pm_ok x3 100000 = true then K_Md_filled_13 N g  n x1 x2 (x3 + 1) (wi u 101 x3.toNatClampNeg (u.1 90 ((((4 * x2) + x3) - 2).toNatClampNeg))) else none else none else if pm_ok x3 100000 = true then K_Md_filled_13 N g  n x1 x2 (x3 + 1) (wi u 101 x3.toNatClampNeg x3) else none
set_option maxHeartbeats 4000000 in
set_option maxRecDepth 100000 in
theorem w_Md_filled_13 (l : Launch) (h0 : Nat) (D : pm_D) {g : pm_s} (hT : sh_T g) {N : Nat} {u0 : pm_J} {out : Int32 × pm_J} {p : Program} {e : Env} {R : Room} {s : State} {m : MethodId} {args : Array Value} {below : List Frame} {meth : Method} {c : Code} : ∀ (n : Nat) (x1 : Int32) (x2 : Int32) (x3 : Int32) (u : pm_J), K_Md_filled_13 N g n x1 x2 x3 u = some out → pm_V (p, l, e, R, s, m, args, below, meth, c) m_Md_filled h0 D (g.1, g.2.1, g.1, g.2.1, 1) (pm_E (p, l, e, R, s, m, args, below, meth, c) h0 D (sm g u0) (some (.int out.1)) (sm g out.2)) 13 [(0, .ref 64), (1, .int x1), (2, .int x2), (3, .int x3)] [] (sm g u) := by
  intro n
  induction n with
  | zero => intro x1 x2 x3 u h; cases h
  | succ n ih =>
    intro x1 x2 x3 u h
    rw [K_Md_filled_13] at h
    refine pm_blk (pc' := 15) (L' := [(0, .ref 64), (1, .int x1), (2, .int x2), (3, .int x3)]) (S' := [.int x1, .int x3]) (M' := sm g u) [pm_o (.iload_n 3), pm_o (.iload_n 1)] (by decide +kernel) rfl ?_
    refine pm_ic_gt (off := 59) 74 (by decide +kernel) (by decide) (fun hc3 => ?_) (fun hc3 => ?_)
    · rw [if_pos hc3] at h
      refine pm_blk (pc' := 76) (L' := [(0, .ref 64), (1, .int x1), (2, .int x2), (3, .int x3)]) (S' := [.int x1, .ref 64]) (M' := sm g u) [pm_o (.aload_n 0), pm_o (.iload_n 1)] (by decide +kernel) rfl ?_
      obtain ⟨q4, hq4, h⟩ := pm_bd h
      refine pm_cV (idx := 341) m_Md_mark (c_Md_mark l h0 D hT hq4) (As := [.int x1]) (S0 := []) rfl (by decide +kernel) k_Md_mark l_Md_341 (Nat.le_of_ble_eq_true rfl) (Nat.le_of_ble_eq_true rfl) (Nat.le_refl _) (Nat.le_refl _) ?_
      refine pm_blk (pc' := 82) (L' := [(3, .int 6), (0, .ref 64), (1, .int x1), (2, .int x2)]) (S' := []) (M' := sm g q4) [pm_oi (.bipush 6) 6, pm_o (.istore_n 3)] (by decide +kernel) rfl ?_
      refine pm_loc [1, 2, 0] rfl ?_
      exact w_Md_filled_82 l h0 D hT N x1 6 q4 h
    · rw [if_neg hc3] at h
      refine pm_blk (pc' := 25) (L' := [(0, .ref 64), (1, .int x1), (2, .int x2), (3, .int x3)]) (S' := [.int 2, .int x3, .int x3, .ref 101]) (M' := sm g u) [pm_o (.aload_n 0), pm_of (.getfield 125) 12 47 2, pm_o (.iload_n 3), pm_o (.iload_n 3), pm_oi (.iconst 2) 2] (by decide +kernel) rfl ?_
      refine pm_ic_ge (off := 7) 32 (by decide +kernel) (by decide) (fun hc18 => ?_) (fun hc18 => ?_)
      · rw [if_pos hc18] at h
        refine pm_blk (pc' := 35) (L' := [(0, .ref 64), (1, .int x1), (2, .int x2), (3, .int x3)]) (S' := [.int 6, .int x3, .int x3, .ref 101]) (M' := sm g u) [pm_o (.iload_n 3), pm_oi (.bipush 6) 6] (by decide +kernel) rfl ?_
        refine pm_ic_ge (off := 18) 53 (by decide +kernel) (by decide) (fun hc19 => ?_) (fun hc19 => ?_)
        · rw [if_pos hc19] at h
          refine pm_blk (pc' := 58) (L' := [(0, .ref 64), (1, .int x1), (2, .int x2), (3, .int x3)]) (S' := [.int x3, .ref 73, .int x3, .ref 101]) (M' := sm g u) [pm_o (.aload_n 0), pm_of (.getfield 41) 12 14 2, pm_o (.iload_n 3)] (by decide +kernel) rfl ?_
          obtain ⟨ho20, h⟩ := pm_ifs h
          refine pm_iald (by decide +kernel) rfl (pm_ok_in ho20) ?_
          refine pm_blk (pc' := 59) (L' := [(0, .ref 64), (1, .int x1), (2, .int x2), (3, .int x3)]) (S' := [.int (u.1 73 x3.toNatClampNeg), .int x3, .ref 101]) (M' := sm g u) [] (by decide +kernel) rfl ?_
          refine pm_if_ne (off := 7) 66 (by decide +kernel) (by decide) (fun hc21 => ?_) (fun hc21 => ?_)
          · rw [if_neg hc21] at h
            refine pm_blk (pc' := 67) (L' := [(0, .ref 64), (1, .int x1), (2, .int x2), (3, .int x3)]) (S' := [.int (-1), .int x3, .ref 101]) (M' := sm g u) [pm_oi (.iconst (-1)) (-1)] (by decide +kernel) rfl ?_
            obtain ⟨ho22, h⟩ := pm_ifs h
            refine pm_iast (by decide +kernel) rfl  (pm_ok_in ho22) ?_
            refine pm_blk (pc' := 71) (L' := [(3, .int (x3 + 1)), (0, .ref 64), (1, .int x1), (2, .int x2)]) (S' := []) (M' := sm g (wi u 101 x3.toNatClampNeg (-1))) [pm_oi (.iinc 3 1) 1] (by decide +kernel) rfl ?_
            refine pm_goto (off := -58) 13 (by decide +kernel) (by decide) ?_
            refine pm_loc [1, 2, 3, 0] rfl ?_
            exact ih x1 x2 (x3 + 1) (wi u 101 x3.toNatClampNeg (-1)) h
          · rw [if_pos hc21] at h
            refine pm_blk (pc' := 63) (L' := [(0, .ref 64), (1, .int x1), (2, .int x2), (3, .int x3)]) (S' := [.int x3, .int x3, .ref 101]) (M' := sm g u) [pm_o (.iload_n 3)] (by decide +kernel) rfl ?_
            refine pm_goto (off := 4) 67 (by decide +kernel) (by decide) ?_
            obtain ⟨ho23, h⟩ := pm_ifs h
            refine pm_iast (by decide +kernel) rfl  (pm_ok_in ho23) ?_
            refine pm_blk (pc' := 71) (L' := [(3, .int (x3 + 1)), (0, .ref 64), (1, .int x1), (2, .int x2)]) (S' := []) (M' := sm g (wi u 101 x3.toNatClampNeg x3)) [pm_oi (.iinc 3 1) 1] (by decide +kernel) rfl ?_
            refine pm_goto (off := -58) 13 (by decide +kernel) (by decide) ?_
            refine pm_loc [1, 2, 3, 0] rfl ?_
            exact ih x1 x2 (x3 + 1) (wi u 101 x3.toNatClampNeg x3) h
        · rw [if_neg hc19] at h
          refine pm_blk (pc' := 49) (L' := [(0, .ref 64), (1, .int x1), (2, .int x2), (3, .int x3)]) (S' := [.int (((4 * x2) + x3) - 2), .ref 90, .int x3, .ref 101]) (M' := sm g u) [pm_o (.aload_n 0), pm_of (.getfield 92) 12 32 2, pm_oi (.iconst 4) 4, pm_o (.iload_n 2), pm_o .imul, pm_o (.iload_n 3), pm_o .iadd, pm_oi (.iconst 2) 2, pm_o .isub] (by decide +kernel) rfl ?_
          obtain ⟨ho24, h⟩ := pm_ifs h
          refine pm_iald (by decide +kernel) rfl (pm_ok_in ho24) ?_
          refine pm_blk (pc' := 50) (L' := [(0, .ref 64), (1, .int x1), (2, .int x2), (3, .int x3)]) (S' := [.int (u.1 90 ((((4 * x2) + x3) - 2).toNatClampNeg)), .int x3, .ref 101]) (M' := sm g u) [] (by decide +kernel) rfl ?_
          refine pm_goto (off := 17) 67 (by decide +kernel) (by decide) ?_
          obtain ⟨ho25, h⟩ := pm_ifs h
          refine pm_iast (by decide +kernel) rfl  (pm_ok_in ho25) ?_
          refine pm_blk (pc' := 71) (L' := [(3, .int (x3 + 1)), (0, .ref 64), (1, .int x1), (2, .int x2)]) (S' := []) (M' := sm g (wi u 101 x3.toNatClampNeg (u.1 90 ((((4 * x2) + x3) - 2).toNatClampNeg)))) [pm_oi (.iinc 3 1) 1] (by decide +kernel) rfl ?_
          refine pm_goto (off := -58) 13 (by decide +kernel) (by decide) ?_
          refine pm_loc [1, 2, 3, 0] rfl ?_
          exact ih x1 x2 (x3 + 1) (wi u 101 x3.toNatClampNeg (u.1 90 ((((4 * x2) + x3) - 2).toNatClampNeg))) h
      · rw [if_neg hc18] at h
        refine pm_blk (pc' := 29) (L' := [(0, .ref 64), (1, .int x1), (2, .int x2), (3, .int x3)]) (S' := [.int x3, .int x3, .ref 101]) (M' := sm g u) [pm_o (.iload_n 3)] (by decide +kernel) rfl ?_
        refine pm_goto (off := 38) 67 (by decide +kernel) (by decide) ?_
        obtain ⟨ho26, h⟩ := pm_ifs h
        refine pm_iast (by decide +kernel) rfl  (pm_ok_in ho26) ?_
        refine pm_blk (pc' := 71) (L' := [(3, .int (x3 + 1)), (0, .ref 64), (1, .int x1), (2, .int x2)]) (S' := []) (M' := sm g (wi u 101 x3.toNatClampNeg x3)) [pm_oi (.iinc 3 1) 1] (by decide +kernel) rfl ?_
        refine pm_goto (off := -58) 13 (by decide +kernel) (by decide) ?_
        refine pm_loc [1, 2, 3, 0] rfl ?_
        exact ih x1 x2 (x3 + 1) (wi u 101 x3.toNatClampNeg x3) h
def F_Md_filled (N : Nat) (a1 : Int32) (a2 : Int32) (g : pm_s) (u : pm_J) : Option (Int32 × pm_J) := if pm_ok a1 100000 = true then if (u.1 73 a1.toNatClampNeg) = 0 then some (a1, u) else K_Md_filled_13 N g N a1 a2 0 u else none
set_option maxHeartbeats 4000000 in
set_option maxRecDepth 100000 in
theorem c_Md_filled (l : Launch) (h0 : Nat) (D : pm_D) {g : pm_s} {u : pm_J} (hT : sh_T g) {N : Nat} {a1 : Int32} {a2 : Int32} {out : Int32 × pm_J} (h : F_Md_filled N a1 a2 g u = some out) : pm_C l h0 D m_Md_filled (1) [.ref 64, .int a1, .int a2] (sm g u) (some (.int out.1)) (sm g out.2) := by
  unfold F_Md_filled at h
  refine pm_met (by decide +kernel) (Nat.le_of_ble_eq_true rfl) (Nat.le_refl _) (Nat.le_refl _) ?_
  intro p e R s m args below meth c
  refine pm_blk (pc' := 5) (L' := [(0, .ref 64), (1, .int a1), (2, .int a2)]) (S' := [.int a1, .ref 73]) (M' := sm g u) [pm_o (.aload_n 0), pm_of (.getfield 41) 12 14 2, pm_o (.iload_n 1)] (by decide +kernel) rfl ?_
  obtain ⟨ho1, h⟩ := pm_ifs h
  refine pm_iald (by decide +kernel) rfl (pm_ok_in ho1) ?_
  refine pm_blk (pc' := 6) (L' := [(0, .ref 64), (1, .int a1), (2, .int a2)]) (S' := [.int (u.1 73 a1.toNatClampNeg)]) (M' := sm g u) [] (by decide +kernel) rfl ?_
  refine pm_if_ne (off := 5) 11 (by decide +kernel) (by decide) (fun hc2 => ?_) (fun hc2 => ?_)
  · rw [if_neg hc2] at h
    refine pm_blk (pc' := 13) (L' := [(3, .int 0), (0, .ref 64), (1, .int a1), (2, .int a2)]) (S' := []) (M' := sm g u) [pm_oi (.iconst 0) 0, pm_o (.istore_n 3)] (by decide +kernel) rfl ?_
    refine pm_loc [1, 2, 3, 0] rfl ?_
    exact w_Md_filled_13 l h0 D hT N a1 a2 0 u h
  · rw [if_pos hc2] at h
    refine pm_blk (pc' := 10) (L' := [(0, .ref 64), (1, .int a1), (2, .int a2)]) (S' := [.int a1]) (M' := sm g u) [pm_o (.iload_n 1)] (by decide +kernel) rfl ?_
    have h9 := Option.some.inj h
    subst h9
    exact pm_reti rfl (by decide +kernel) rfl rfl rfl
def K_Md_fits_102 (N : Nat) (g : pm_s) (k17 : Int32 → Int32 → pm_J → Option (Int32 × pm_J)) (x3 : Int32) (x4 : Int32) (x5 : Int32) (x6 : Int32) (u : pm_J) : Option (Int32 × pm_J) := if pm_ok x5 100000 = true then if (u.1 73 x5.toNatClampNeg) = 0 then if x5 = x6 then k17 x3 x4 u else some (0, u) else if x6 < 6 then some (0, u) else if pm_ok x5 100000 = true then if pm_ok x6 100000 = true then if (u.1 70 x5.toNatClampNeg) = (u.1 70 x6.toNatClampNeg) then if pm_ok x5 100000 = true then if pm_ok x4 400 = true then if pm_ok x6 100000 = true then if pm_ok x4 400 = true then if pm_ok x5 100000 = true then if pm_ok (x4 + 1) 400 = true then if pm_ok x6 100000 = true then if pm_ok (x4 + 1) 400 = true then k17 x3 (x4 + 2) (wi (wi (wi (wi u 103 x4.toNatClampNeg (u.1 72 x5.toNatClampNeg)) 104 x4.toNatClampNeg (u.1 72 x6.toNatClampNeg)) 103 ((x4 + 1).toNatClampNeg) (u.1 71 x5.toNatClampNeg)) 104 ((x4 + 1).toNatClampNeg) (u.1 71 x6.toNatClampNeg)) else none else none else none else none else none else none else none else none else some (0, u) else none else none else none
set_option maxHeartbeats 4000000 in
set_option maxRecDepth 100000 in
theorem w_Md_fits_102 (l : Launch) (h0 : Nat) (D : pm_D) {g : pm_s} (hT : sh_T g) {N : Nat} {u0 : pm_J} {out : Int32 × pm_J} {p : Program} {e : Env} {R : Room} {s : State} {m : MethodId} {args : Array Value} {below : List Frame} {meth : Method} {c : Code} {k17 : Int32 → Int32 → pm_J → Option (Int32 × pm_J)} (hk17 : ∀ (x3 : Int32) (x4 : Int32) (u : pm_J), k17 x3 x4 u = some out → pm_V (p, l, e, R, s, m, args, below, meth, c) m_Md_fits h0 D (g.1, g.2.1, g.1, g.2.1, 0) (pm_E (p, l, e, R, s, m, args, below, meth, c) h0 D (sm g u0) (some (.int out.1)) (sm g out.2)) 17 [(0, .ref 64), (3, .int x3), (4, .int x4)] [] (sm g u)) : ∀ (x3 : Int32) (x4 : Int32) (x5 : Int32) (x6 : Int32) (u : pm_J), K_Md_fits_102 N g k17 x3 x4 x5 x6 u = some out → pm_V (p, l, e, R, s, m, args, below, meth, c) m_Md_fits h0 D (g.1, g.2.1, g.1, g.2.1, 0) (pm_E (p, l, e, R, s, m, args, below, meth, c) h0 D (sm g u0) (some (.int out.1)) (sm g out.2)) 102 [(0, .ref 64), (3, .int x3), (4, .int x4), (5, .int x5), (6, .int x6)] [] (sm g u) := by
    intro x3 x4 x5 x6 u h
    unfold K_Md_fits_102 at h
    refine pm_blk (pc' := 108) (L' := [(0, .ref 64), (3, .int x3), (4, .int x4), (5, .int x5), (6, .int x6)]) (S' := [.int x5, .ref 73]) (M' := sm g u) [pm_o (.aload_n 0), pm_of (.getfield 41) 12 14 2, pm_o (.iload 5)] (by decide +kernel) rfl ?_
    obtain ⟨ho7, h⟩ := pm_ifs h
    refine pm_iald (by decide +kernel) rfl (pm_ok_in ho7) ?_
    refine pm_blk (pc' := 109) (L' := [(0, .ref 64), (3, .int x3), (4, .int x4), (5, .int x5), (6, .int x6)]) (S' := [.int (u.1 73 x5.toNatClampNeg)]) (M' := sm g u) [] (by decide +kernel) rfl ?_
    refine pm_if_ne (off := 12) 121 (by decide +kernel) (by decide) (fun hc8 => ?_) (fun hc8 => ?_)
    · rw [if_neg hc8] at h
      refine pm_blk (pc' := 125) (L' := [(0, .ref 64), (3, .int x3), (4, .int x4), (5, .int x5), (6, .int x6)]) (S' := [.int 6, .int x6]) (M' := sm g u) [pm_o (.iload 6), pm_oi (.bipush 6) 6] (by decide +kernel) rfl ?_
      refine pm_ic_lt (off := 20) 145 (by decide +kernel) (by decide) (fun hc9 => ?_) (fun hc9 => ?_)
      · rw [if_pos hc9] at h
        refine pm_blk (pc' := 146) (L' := [(0, .ref 64), (3, .int x3), (4, .int x4), (5, .int x5), (6, .int x6)]) (S' := [.int 0]) (M' := sm g u) [pm_oi (.iconst 0) 0] (by decide +kernel) rfl ?_
        have h9 := Option.some.inj h
        subst h9
        exact pm_retz rfl (by decide +kernel) rfl rfl rfl rfl
      · rw [if_neg hc9] at h
        refine pm_blk (pc' := 134) (L' := [(0, .ref 64), (3, .int x3), (4, .int x4), (5, .int x5), (6, .int x6)]) (S' := [.int x5, .ref 70]) (M' := sm g u) [pm_o (.aload_n 0), pm_of (.getfield 31) 12 11 2, pm_o (.iload 5)] (by decide +kernel) rfl ?_
        obtain ⟨ho10, h⟩ := pm_ifs h
        refine pm_zald (by decide +kernel) rfl (pm_ok_in ho10) ?_
        refine pm_blk (pc' := 141) (L' := [(0, .ref 64), (3, .int x3), (4, .int x4), (5, .int x5), (6, .int x6)]) (S' := [.int x6, .ref 70, .int (u.1 70 x5.toNatClampNeg)]) (M' := sm g u) [pm_o (.aload_n 0), pm_of (.getfield 31) 12 11 2, pm_o (.iload 6)] (by decide +kernel) rfl ?_
        obtain ⟨ho11, h⟩ := pm_ifs h
        refine pm_zald (by decide +kernel) rfl (pm_ok_in ho11) ?_
        refine pm_blk (pc' := 142) (L' := [(0, .ref 64), (3, .int x3), (4, .int x4), (5, .int x5), (6, .int x6)]) (S' := [.int (u.1 70 x6.toNatClampNeg), .int (u.1 70 x5.toNatClampNeg)]) (M' := sm g u) [] (by decide +kernel) rfl ?_
        refine pm_ic_eq (off := 5) 147 (by decide +kernel) (by decide) (fun hc12 => ?_) (fun hc12 => ?_)
        · rw [if_pos hc12] at h
          refine pm_blk (pc' := 159) (L' := [(0, .ref 64), (3, .int x3), (4, .int x4), (5, .int x5), (6, .int x6)]) (S' := [.int x5, .ref 72, .int x4, .ref 103]) (M' := sm g u) [pm_o (.aload_n 0), pm_of (.getfield 131) 12 49 2, pm_o (.iload 4), pm_o (.aload_n 0), pm_of (.getfield 38) 12 13 2, pm_o (.iload 5)] (by decide +kernel) rfl ?_
          obtain ⟨ho13, h⟩ := pm_ifs h
          refine pm_iald (by decide +kernel) rfl (pm_ok_in ho13) ?_
          refine pm_blk (pc' := 160) (L' := [(0, .ref 64), (3, .int x3), (4, .int x4), (5, .int x5), (6, .int x6)]) (S' := [.int (u.1 72 x5.toNatClampNeg), .int x4, .ref 103]) (M' := sm g u) [] (by decide +kernel) rfl ?_
          obtain ⟨ho14, h⟩ := pm_ifs h
          refine pm_iast (by decide +kernel) rfl  (pm_ok_in ho14) ?_
          refine pm_blk (pc' := 173) (L' := [(0, .ref 64), (3, .int x3), (4, .int x4), (5, .int x5), (6, .int x6)]) (S' := [.int x6, .ref 72, .int x4, .ref 104]) (M' := sm g (wi u 103 x4.toNatClampNeg (u.1 72 x5.toNatClampNeg))) [pm_o (.aload_n 0), pm_of (.getfield 134) 12 50 2, pm_o (.iload 4), pm_o (.aload_n 0), pm_of (.getfield 38) 12 13 2, pm_o (.iload 6)] (by decide +kernel) rfl ?_
          obtain ⟨ho15, h⟩ := pm_ifs h
          refine pm_iald (by decide +kernel) rfl (pm_ok_in ho15) ?_
          refine pm_blk (pc' := 174) (L' := [(0, .ref 64), (3, .int x3), (4, .int x4), (5, .int x5), (6, .int x6)]) (S' := [.int (u.1 72 x6.toNatClampNeg), .int x4, .ref 104]) (M' := sm g (wi u 103 x4.toNatClampNeg (u.1 72 x5.toNatClampNeg))) [] (by decide +kernel) rfl ?_
          obtain ⟨ho16, h⟩ := pm_ifs h
          refine pm_iast (by decide +kernel) rfl  (pm_ok_in ho16) ?_
          refine pm_blk (pc' := 189) (L' := [(0, .ref 64), (3, .int x3), (4, .int x4), (5, .int x5), (6, .int x6)]) (S' := [.int x5, .ref 71, .int (x4 + 1), .ref 103]) (M' := sm g (wi (wi u 103 x4.toNatClampNeg (u.1 72 x5.toNatClampNeg)) 104 x4.toNatClampNeg (u.1 72 x6.toNatClampNeg))) [pm_o (.aload_n 0), pm_of (.getfield 131) 12 49 2, pm_o (.iload 4), pm_oi (.iconst 1) 1, pm_o .iadd, pm_o (.aload_n 0), pm_of (.getfield 35) 12 12 2, pm_o (.iload 5)] (by decide +kernel) rfl ?_
          obtain ⟨ho17, h⟩ := pm_ifs h
          refine pm_iald (by decide +kernel) rfl (pm_ok_in ho17) ?_
          refine pm_blk (pc' := 190) (L' := [(0, .ref 64), (3, .int x3), (4, .int x4), (5, .int x5), (6, .int x6)]) (S' := [.int (u.1 71 x5.toNatClampNeg), .int (x4 + 1), .ref 103]) (M' := sm g (wi (wi u 103 x4.toNatClampNeg (u.1 72 x5.toNatClampNeg)) 104 x4.toNatClampNeg (u.1 72 x6.toNatClampNeg))) [] (by decide +kernel) rfl ?_
          obtain ⟨ho18, h⟩ := pm_ifs h
          refine pm_iast (by decide +kernel) rfl  (pm_ok_in ho18) ?_
          refine pm_blk (pc' := 205) (L' := [(0, .ref 64), (3, .int x3), (4, .int x4), (5, .int x5), (6, .int x6)]) (S' := [.int x6, .ref 71, .int (x4 + 1), .ref 104]) (M' := sm g (wi (wi (wi u 103 x4.toNatClampNeg (u.1 72 x5.toNatClampNeg)) 104 x4.toNatClampNeg (u.1 72 x6.toNatClampNeg)) 103 ((x4 + 1).toNatClampNeg) (u.1 71 x5.toNatClampNeg))) [pm_o (.aload_n 0), pm_of (.getfield 134) 12 50 2, pm_o (.iload 4), pm_oi (.iconst 1) 1, pm_o .iadd, pm_o (.aload_n 0), pm_of (.getfield 35) 12 12 2, pm_o (.iload 6)] (by decide +kernel) rfl ?_
          obtain ⟨ho19, h⟩ := pm_ifs h
          refine pm_iald (by decide +kernel) rfl (pm_ok_in ho19) ?_
          refine pm_blk (pc' := 206) (L' := [(0, .ref 64), (3, .int x3), (4, .int x4), (5, .int x5), (6, .int x6)]) (S' := [.int (u.1 71 x6.toNatClampNeg), .int (x4 + 1), .ref 104]) (M' := sm g (wi (wi (wi u 103 x4.toNatClampNeg (u.1 72 x5.toNatClampNeg)) 104 x4.toNatClampNeg (u.1 72 x6.toNatClampNeg)) 103 ((x4 + 1).toNatClampNeg) (u.1 71 x5.toNatClampNeg))) [] (by decide +kernel) rfl ?_
          obtain ⟨ho20, h⟩ := pm_ifs h
          refine pm_iast (by decide +kernel) rfl  (pm_ok_in ho20) ?_
          refine pm_blk (pc' := 210) (L' := [(4, .int (x4 + 2)), (0, .ref 64), (3, .int x3), (5, .int x5), (6, .int x6)]) (S' := []) (M' := sm g (wi (wi (wi (wi u 103 x4.toNatClampNeg (u.1 72 x5.toNatClampNeg)) 104 x4.toNatClampNeg (u.1 72 x6.toNatClampNeg)) 103 ((x4 + 1).toNatClampNeg) (u.1 71 x5.toNatClampNeg)) 104 ((x4 + 1).toNatClampNeg) (u.1 71 x6.toNatClampNeg))) [pm_oi (.iinc 4 2) 2] (by decide +kernel) rfl ?_
          refine pm_goto (off := -193) 17 (by decide +kernel) (by decide) ?_
          refine pm_loc [1, 2, 0] rfl ?_
          exact hk17 x3 (x4 + 2) (wi (wi (wi (wi u 103 x4.toNatClampNeg (u.1 72 x5.toNatClampNeg)) 104 x4.toNatClampNeg (u.1 72 x6.toNatClampNeg)) 103 ((x4 + 1).toNatClampNeg) (u.1 71 x5.toNatClampNeg)) 104 ((x4 + 1).toNatClampNeg) (u.1 71 x6.toNatClampNeg)) h
        · rw [if_neg hc12] at h
          refine pm_blk (pc' := 146) (L' := [(0, .ref 64), (3, .int x3), (4, .int x4), (5, .int x5), (6, .int x6)]) (S' := [.int 0]) (M' := sm g u) [pm_oi (.iconst 0) 0] (by decide +kernel) rfl ?_
          have h9 := Option.some.inj h
          subst h9
          exact pm_retz rfl (by decide +kernel) rfl rfl rfl rfl
    · rw [if_pos hc8] at h
      refine pm_blk (pc' := 116) (L' := [(0, .ref 64), (3, .int x3), (4, .int x4), (5, .int x5), (6, .int x6)]) (S' := [.int x6, .int x5]) (M' := sm g u) [pm_o (.iload 5), pm_o (.iload 6)] (by decide +kernel) rfl ?_
      refine pm_ic_eq (off := 94) 210 (by decide +kernel) (by decide) (fun hc21 => ?_) (fun hc21 => ?_)
      · rw [if_pos hc21] at h
        refine pm_goto (off := -193) 17 (by decide +kernel) (by decide) ?_
        refine pm_loc [0, 1, 2] rfl ?_
        exact hk17 x3 x4 u h
      · rw [if_neg hc21] at h
        refine pm_blk (pc' := 120) (L' := [(0, .ref 64), (3, .int x3), (4, .int x4), (5, .int x5), (6, .int x6)]) (S' := [.int 0]) (M' := sm g u) [pm_oi (.iconst 0) 0] (by decide +kernel) rfl ?_
        have h9 := Option.some.inj h
        subst h9
        exact pm_retz rfl (by decide +kernel) rfl rfl rfl rfl
def K_Md_fits_17 (N : Nat) (g : pm_s) : Nat → Int32 → Int32 → pm_J → Option (Int32 × pm_J)
  | 0, _, _, _ => none
  | n + 1, x3, x4, u => if x4 ≤ 0 then some (1, u) else if pm_ok (x4 + (-1)) 400 = true then if pm_ok (x4 + (-1)) 400 = true then if (u.1 103 ((x4 + (-1)).toNatClampNeg)) < 2 then K_Md_fits_102 N g (K_Md_fits_17 N g  n) x3 (x4 + (-1)) (u.1 103 ((x4 + (-1)).toNatClampNeg)) (u.1 104 ((x4 + (-1)).toNatClampNeg)) u else if 6 ≤ (u.1 103 ((x4 + (-1)).toNatClampNeg)) then K_Md_fits_102 N g (K_Md_fits_17 N g  n) x3 (x4 + (-1)) (u.1 103 ((x4 + (-1)).toNatClampNeg)) (u.1 104 ((x4 + (-1)).toNatClampNeg)) u else if pm_ok (((4 * x3) + (u.1 103 ((x4 + (-1)).toNatClampNeg))) - 2) 9600 = true then if (u.1 90 ((((4 * x3) + (u.1 103 ((x4 + (-1)).toNatClampNeg))) - 2).toNatClampNeg)) < 0 then if pm_ok (((4 * x3) + (u.1 103 ((x4 + (-1)).toNatClampNeg))) - 2) 9600 = true then K_Md_fits_17 N g  n x3 (x4 + (-1)) (wi u 90 ((((4 * x3) + (u.1 103 ((x4 + (-1)).toNatClampNeg))) - 2).toNatClampNeg) (u.1 104 ((x4 + (-1)).toNatClampNeg))) else none else if pm_ok (((4 * x3) + (u.1 103 ((x4 + (-1)).toNatClampNeg))) - 2) 9600 = true then if (u.1 90 ((((4 * x3) + (u.1 103 ((x4 + (-1)).toNatClampNeg))) - 2).toNatClampNeg)) = (u.1 104 ((x4 + (-1)).toNatClampNeg)) then if pm_ok (((4 * x3) + (u.1 103 ((x4 + (-1)).toNatClampNeg))) - 2) 9600 = true then K_Md_fits_17 N g  n x3 (x4 + (-1)) (wi u 90 ((((4 * x3) + (u.1 103 ((x4 + (-1)).toNatClampNeg))) - 2).toNatClampNeg) (u.1 104 ((x4 + (-1)).toNatClampNeg))) else none else some (0, u) else none else none else none else none
set_option maxHeartbeats 4000000 in
set_option maxRecDepth 100000 in
theorem w_Md_fits_17 (l : Launch) (h0 : Nat) (D : pm_D) {g : pm_s} (hT : sh_T g) {N : Nat} {u0 : pm_J} {out : Int32 × pm_J} {p : Program} {e : Env} {R : Room} {s : State} {m : MethodId} {args : Array Value} {below : List Frame} {meth : Method} {c : Code} : ∀ (n : Nat) (x3 : Int32) (x4 : Int32) (u : pm_J), K_Md_fits_17 N g n x3 x4 u = some out → pm_V (p, l, e, R, s, m, args, below, meth, c) m_Md_fits h0 D (g.1, g.2.1, g.1, g.2.1, 0) (pm_E (p, l, e, R, s, m, args, below, meth, c) h0 D (sm g u0) (some (.int out.1)) (sm g out.2)) 17 [(0, .ref 64), (3, .int x3), (4, .int x4)] [] (sm g u) := by
  intro n
  induction n with
  | zero => intro x3 x4 u h; cases h
  | succ n ih =>
    intro x3 x4 u h
    rw [K_Md_fits_17] at h
    refine pm_blk (pc' := 19) (L' := [(0, .ref 64), (3, .int x3), (4, .int x4)]) (S' := [.int x4]) (M' := sm g u) [pm_o (.iload 4)] (by decide +kernel) rfl ?_
    refine pm_if_le (off := 194) 213 (by decide +kernel) (by decide) (fun hc3 => ?_) (fun hc3 => ?_)
    · rw [if_pos hc3] at h
      refine pm_blk (pc' := 214) (L' := [(0, .ref 64), (3, .int x3), (4, .int x4)]) (S' := [.int 1]) (M' := sm g u) [pm_oi (.iconst 1) 1] (by decide +kernel) rfl ?_
      have h9 := Option.some.inj h
      subst h9
      exact pm_retz rfl (by decide +kernel) rfl rfl rfl rfl
    · rw [if_neg hc3] at h
      refine pm_blk (pc' := 31) (L' := [(4, .int (x4 + (-1))), (0, .ref 64), (3, .int x3)]) (S' := [.int (x4 + (-1)), .ref 103]) (M' := sm g u) [pm_oi (.iinc 4 (-1)) (-1), pm_o (.aload_n 0), pm_of (.getfield 131) 12 49 2, pm_o (.iload 4)] (by decide +kernel) rfl ?_
      obtain ⟨ho4, h⟩ := pm_ifs h
      refine pm_iald (by decide +kernel) rfl (pm_ok_in ho4) ?_
      refine pm_blk (pc' := 40) (L' := [(5, .int (u.1 103 ((x4 + (-1)).toNatClampNeg))), (4, .int (x4 + (-1))), (0, .ref 64), (3, .int x3)]) (S' := [.int (x4 + (-1)), .ref 104]) (M' := sm g u) [pm_o (.istore 5), pm_o (.aload_n 0), pm_of (.getfield 134) 12 50 2, pm_o (.iload 4)] (by decide +kernel) rfl ?_
      obtain ⟨ho5, h⟩ := pm_ifs h
      refine pm_iald (by decide +kernel) rfl (pm_ok_in ho5) ?_
      refine pm_blk (pc' := 46) (L' := [(6, .int (u.1 104 ((x4 + (-1)).toNatClampNeg))), (5, .int (u.1 103 ((x4 + (-1)).toNatClampNeg))), (4, .int (x4 + (-1))), (0, .ref 64), (3, .int x3)]) (S' := [.int 2, .int (u.1 103 ((x4 + (-1)).toNatClampNeg))]) (M' := sm g u) [pm_o (.istore 6), pm_o (.iload 5), pm_oi (.iconst 2) 2] (by decide +kernel) rfl ?_
      refine pm_ic_lt (off := 56) 102 (by decide +kernel) (by decide) (fun hc6 => ?_) (fun hc6 => ?_)
      · rw [if_pos hc6] at h
        refine pm_loc [3, 4, 2, 1, 0] rfl ?_
        exact w_Md_fits_102 l h0 D hT ih x3 (x4 + (-1)) (u.1 103 ((x4 + (-1)).toNatClampNeg)) (u.1 104 ((x4 + (-1)).toNatClampNeg)) u h
      · rw [if_neg hc6] at h
        refine pm_blk (pc' := 53) (L' := [(6, .int (u.1 104 ((x4 + (-1)).toNatClampNeg))), (5, .int (u.1 103 ((x4 + (-1)).toNatClampNeg))), (4, .int (x4 + (-1))), (0, .ref 64), (3, .int x3)]) (S' := [.int 6, .int (u.1 103 ((x4 + (-1)).toNatClampNeg))]) (M' := sm g u) [pm_o (.iload 5), pm_oi (.bipush 6) 6] (by decide +kernel) rfl ?_
        refine pm_ic_ge (off := 49) 102 (by decide +kernel) (by decide) (fun hc22 => ?_) (fun hc22 => ?_)
        · rw [if_pos hc22] at h
          refine pm_loc [3, 4, 2, 1, 0] rfl ?_
          exact w_Md_fits_102 l h0 D hT ih x3 (x4 + (-1)) (u.1 103 ((x4 + (-1)).toNatClampNeg)) (u.1 104 ((x4 + (-1)).toNatClampNeg)) u h
        · rw [if_neg hc22] at h
          refine pm_blk (pc' := 72) (L' := [(7, .int (((4 * x3) + (u.1 103 ((x4 + (-1)).toNatClampNeg))) - 2)), (6, .int (u.1 104 ((x4 + (-1)).toNatClampNeg))), (5, .int (u.1 103 ((x4 + (-1)).toNatClampNeg))), (4, .int (x4 + (-1))), (0, .ref 64), (3, .int x3)]) (S' := [.int (((4 * x3) + (u.1 103 ((x4 + (-1)).toNatClampNeg))) - 2), .ref 90]) (M' := sm g u) [pm_oi (.iconst 4) 4, pm_o (.iload_n 3), pm_o .imul, pm_o (.iload 5), pm_o .iadd, pm_oi (.iconst 2) 2, pm_o .isub, pm_o (.istore 7), pm_o (.aload_n 0), pm_of (.getfield 92) 12 32 2, pm_o (.iload 7)] (by decide +kernel) rfl ?_
          obtain ⟨ho23, h⟩ := pm_ifs h
          refine pm_iald (by decide +kernel) rfl (pm_ok_in ho23) ?_
          refine pm_blk (pc' := 73) (L' := [(7, .int (((4 * x3) + (u.1 103 ((x4 + (-1)).toNatClampNeg))) - 2)), (6, .int (u.1 104 ((x4 + (-1)).toNatClampNeg))), (5, .int (u.1 103 ((x4 + (-1)).toNatClampNeg))), (4, .int (x4 + (-1))), (0, .ref 64), (3, .int x3)]) (S' := [.int (u.1 90 ((((4 * x3) + (u.1 103 ((x4 + (-1)).toNatClampNeg))) - 2).toNatClampNeg))]) (M' := sm g u) [] (by decide +kernel) rfl ?_
          refine pm_if_lt (off := 17) 90 (by decide +kernel) (by decide) (fun hc24 => ?_) (fun hc24 => ?_)
          · rw [if_pos hc24] at h
            refine pm_blk (pc' := 98) (L' := [(7, .int (((4 * x3) + (u.1 103 ((x4 + (-1)).toNatClampNeg))) - 2)), (6, .int (u.1 104 ((x4 + (-1)).toNatClampNeg))), (5, .int (u.1 103 ((x4 + (-1)).toNatClampNeg))), (4, .int (x4 + (-1))), (0, .ref 64), (3, .int x3)]) (S' := [.int (u.1 104 ((x4 + (-1)).toNatClampNeg)), .int (((4 * x3) + (u.1 103 ((x4 + (-1)).toNatClampNeg))) - 2), .ref 90]) (M' := sm g u) [pm_o (.aload_n 0), pm_of (.getfield 92) 12 32 2, pm_o (.iload 7), pm_o (.iload 6)] (by decide +kernel) rfl ?_
            obtain ⟨ho25, h⟩ := pm_ifs h
            refine pm_iast (by decide +kernel) rfl  (pm_ok_in ho25) ?_
            refine pm_blk (pc' := 99) (L' := [(7, .int (((4 * x3) + (u.1 103 ((x4 + (-1)).toNatClampNeg))) - 2)), (6, .int (u.1 104 ((x4 + (-1)).toNatClampNeg))), (5, .int (u.1 103 ((x4 + (-1)).toNatClampNeg))), (4, .int (x4 + (-1))), (0, .ref 64), (3, .int x3)]) (S' := []) (M' := sm g (wi u 90 ((((4 * x3) + (u.1 103 ((x4 + (-1)).toNatClampNeg))) - 2).toNatClampNeg) (u.1 104 ((x4 + (-1)).toNatClampNeg)))) [] (by decide +kernel) rfl ?_
            refine pm_goto (off := 111) 210 (by decide +kernel) (by decide) ?_
            refine pm_goto (off := -193) 17 (by decide +kernel) (by decide) ?_
            refine pm_loc [4, 5, 3] rfl ?_
            exact ih x3 (x4 + (-1)) (wi u 90 ((((4 * x3) + (u.1 103 ((x4 + (-1)).toNatClampNeg))) - 2).toNatClampNeg) (u.1 104 ((x4 + (-1)).toNatClampNeg))) h
          · rw [if_neg hc24] at h
            refine pm_blk (pc' := 82) (L' := [(7, .int (((4 * x3) + (u.1 103 ((x4 + (-1)).toNatClampNeg))) - 2)), (6, .int (u.1 104 ((x4 + (-1)).toNatClampNeg))), (5, .int (u.1 103 ((x4 + (-1)).toNatClampNeg))), (4, .int (x4 + (-1))), (0, .ref 64), (3, .int x3)]) (S' := [.int (((4 * x3) + (u.1 103 ((x4 + (-1)).toNatClampNeg))) - 2), .ref 90]) (M' := sm g u) [pm_o (.aload_n 0), pm_of (.getfield 92) 12 32 2, pm_o (.iload 7)] (by decide +kernel) rfl ?_
            obtain ⟨ho26, h⟩ := pm_ifs h
            refine pm_iald (by decide +kernel) rfl (pm_ok_in ho26) ?_
            refine pm_blk (pc' := 85) (L' := [(7, .int (((4 * x3) + (u.1 103 ((x4 + (-1)).toNatClampNeg))) - 2)), (6, .int (u.1 104 ((x4 + (-1)).toNatClampNeg))), (5, .int (u.1 103 ((x4 + (-1)).toNatClampNeg))), (4, .int (x4 + (-1))), (0, .ref 64), (3, .int x3)]) (S' := [.int (u.1 104 ((x4 + (-1)).toNatClampNeg)), .int (u.1 90 ((((4 * x3) + (u.1 103 ((x4 + (-1)).toNatClampNeg))) - 2).toNatClampNeg))]) (M' := sm g u) [pm_o (.iload 6)] (by decide +kernel) rfl ?_
            refine pm_ic_eq (off := 5) 90 (by decide +kernel) (by decide) (fun hc27 => ?_) (fun hc27 => ?_)
            · rw [if_pos hc27] at h
              refine pm_blk (pc' := 98) (L' := [(7, .int (((4 * x3) + (u.1 103 ((x4 + (-1)).toNatClampNeg))) - 2)), (6, .int (u.1 104 ((x4 + (-1)).toNatClampNeg))), (5, .int (u.1 103 ((x4 + (-1)).toNatClampNeg))), (4, .int (x4 + (-1))), (0, .ref 64), (3, .int x3)]) (S' := [.int (u.1 104 ((x4 + (-1)).toNatClampNeg)), .int (((4 * x3) + (u.1 103 ((x4 + (-1)).toNatClampNeg))) - 2), .ref 90]) (M' := sm g u) [pm_o (.aload_n 0), pm_of (.getfield 92) 12 32 2, pm_o (.iload 7), pm_o (.iload 6)] (by decide +kernel) rfl ?_
              obtain ⟨ho28, h⟩ := pm_ifs h
              refine pm_iast (by decide +kernel) rfl  (pm_ok_in ho28) ?_
              refine pm_blk (pc' := 99) (L' := [(7, .int (((4 * x3) + (u.1 103 ((x4 + (-1)).toNatClampNeg))) - 2)), (6, .int (u.1 104 ((x4 + (-1)).toNatClampNeg))), (5, .int (u.1 103 ((x4 + (-1)).toNatClampNeg))), (4, .int (x4 + (-1))), (0, .ref 64), (3, .int x3)]) (S' := []) (M' := sm g (wi u 90 ((((4 * x3) + (u.1 103 ((x4 + (-1)).toNatClampNeg))) - 2).toNatClampNeg) (u.1 104 ((x4 + (-1)).toNatClampNeg)))) [] (by decide +kernel) rfl ?_
              refine pm_goto (off := 111) 210 (by decide +kernel) (by decide) ?_
              refine pm_goto (off := -193) 17 (by decide +kernel) (by decide) ?_
              refine pm_loc [4, 5, 3] rfl ?_
              exact ih x3 (x4 + (-1)) (wi u 90 ((((4 * x3) + (u.1 103 ((x4 + (-1)).toNatClampNeg))) - 2).toNatClampNeg) (u.1 104 ((x4 + (-1)).toNatClampNeg))) h
            · rw [if_neg hc27] at h
              refine pm_blk (pc' := 89) (L' := [(7, .int (((4 * x3) + (u.1 103 ((x4 + (-1)).toNatClampNeg))) - 2)), (6, .int (u.1 104 ((x4 + (-1)).toNatClampNeg))), (5, .int (u.1 103 ((x4 + (-1)).toNatClampNeg))), (4, .int (x4 + (-1))), (0, .ref 64), (3, .int x3)]) (S' := [.int 0]) (M' := sm g u) [pm_oi (.iconst 0) 0] (by decide +kernel) rfl ?_
              have h9 := Option.some.inj h
              subst h9
              exact pm_retz rfl (by decide +kernel) rfl rfl rfl rfl
def F_Md_fits (N : Nat) (a1 : Int32) (a2 : Int32) (a3 : Int32) (g : pm_s) (u : pm_J) : Option (Int32 × pm_J) := if pm_ok 0 400 = true then if pm_ok 0 400 = true then K_Md_fits_17 N g N a3 1 (wi (wi u 103 0 a1) 104 0 a2) else none else none
set_option maxHeartbeats 4000000 in
set_option maxRecDepth 100000 in
theorem c_Md_fits (l : Launch) (h0 : Nat) (D : pm_D) {g : pm_s} {u : pm_J} (hT : sh_T g) {N : Nat} {a1 : Int32} {a2 : Int32} {a3 : Int32} {out : Int32 × pm_J} (h : F_Md_fits N a1 a2 a3 g u = some out) : pm_C l h0 D m_Md_fits (0) [.ref 64, .int a1, .int a2, .int a3] (sm g u) (some (.int out.1)) (sm g out.2) := by
  unfold F_Md_fits at h
  refine pm_met (by decide +kernel) (Nat.le_of_ble_eq_true rfl) (Nat.le_refl _) (Nat.le_refl _) ?_
  intro p e R s m args below meth c
  refine pm_blk (pc' := 9) (L' := [(4, .int 1), (0, .ref 64), (1, .int a1), (2, .int a2), (3, .int a3)]) (S' := [.int a1, .int 0, .ref 103]) (M' := sm g u) [pm_oi (.iconst 1) 1, pm_o (.istore 4), pm_o (.aload_n 0), pm_of (.getfield 131) 12 49 2, pm_oi (.iconst 0) 0, pm_o (.iload_n 1)] (by decide +kernel) rfl ?_
  obtain ⟨ho1, h⟩ := pm_ifs h
  refine pm_iast (by decide +kernel) rfl  (pm_ok_in ho1) ?_
  refine pm_blk (pc' := 16) (L' := [(4, .int 1), (0, .ref 64), (1, .int a1), (2, .int a2), (3, .int a3)]) (S' := [.int a2, .int 0, .ref 104]) (M' := sm g (wi u 103 0 a1)) [pm_o (.aload_n 0), pm_of (.getfield 134) 12 50 2, pm_oi (.iconst 0) 0, pm_o (.iload_n 2)] (by decide +kernel) rfl ?_
  obtain ⟨ho2, h⟩ := pm_ifs h
  refine pm_iast (by decide +kernel) rfl  (pm_ok_in ho2) ?_
  refine pm_blk (pc' := 17) (L' := [(4, .int 1), (0, .ref 64), (1, .int a1), (2, .int a2), (3, .int a3)]) (S' := []) (M' := sm g (wi (wi u 103 0 a1) 104 0 a2)) [] (by decide +kernel) rfl ?_
  refine pm_loc [1, 4, 0] rfl ?_
  exact w_Md_fits_17 l h0 D hT N a3 1 (wi (wi u 103 0 a1) 104 0 a2) h
def F_Md_stop (a1 : Int32) (a2 : Int32) (g : pm_s) (u : pm_J) : Option (pm_J) := if pm_ok a2 902 = true then (F_Md_fails a1 (u.1 67 a2.toNatClampNeg) g u).bind fun q2 => if (q2.1 == 0 || q2.1 == 1) = true then some (wi q2.2 64 52 q2.1) else none else none
set_option maxHeartbeats 4000000 in
set_option maxRecDepth 100000 in
theorem c_Md_stop (l : Launch) (h0 : Nat) (D : pm_D) {g : pm_s} {u : pm_J} (hT : sh_T g) {a1 : Int32} {a2 : Int32} {out : pm_J} (h : F_Md_stop a1 a2 g u = some out) : pm_C l h0 D m_Md_stop (1) [.ref 64, .int a1, .int a2] (sm g u) none (sm g out) := by
  unfold F_Md_stop at h
  refine pm_met (by decide +kernel) (Nat.le_of_ble_eq_true rfl) (Nat.le_refl _) (Nat.le_refl _) ?_
  intro p e R s m args below meth c
  refine pm_blk (pc' := 8) (L' := [(0, .ref 64), (1, .int a1), (2, .int a2)]) (S' := [.int a2, .ref 67, .int a1, .ref 64, .ref 64]) (M' := sm g u) [pm_o (.aload_n 0), pm_o (.aload_n 0), pm_o (.iload_n 1), pm_o (.aload_n 0), pm_of (.getfield 20) 12 7 2, pm_o (.iload_n 2)] (by decide +kernel) rfl ?_
  obtain ⟨ho1, h⟩ := pm_ifs h
  refine pm_iald (by decide +kernel) rfl (pm_ok_in ho1) ?_
  refine pm_blk (pc' := 9) (L' := [(0, .ref 64), (1, .int a1), (2, .int a2)]) (S' := [.int (u.1 67 a2.toNatClampNeg), .int a1, .ref 64, .ref 64]) (M' := sm g u) [] (by decide +kernel) rfl ?_
  obtain ⟨q2, hq2, h⟩ := pm_bd h
  refine pm_cV (idx := 337) m_Md_fails (c_Md_fails l h0 D hT hq2) (As := [.int a1, .int (u.1 67 a2.toNatClampNeg)]) (S0 := [.ref 64]) rfl (by decide +kernel) k_Md_fails l_Md_337 (Nat.le_of_ble_eq_true rfl) (Nat.le_of_ble_eq_true rfl) (Nat.le_refl _) (Nat.le_refl _) ?_
  refine pm_blk (pc' := 12) (L' := [(0, .ref 64), (1, .int a1), (2, .int a2)]) (S' := [.int q2.1, .ref 64]) (M' := sm g q2.2) [] (by decide +kernel) rfl ?_
  obtain ⟨hz3, h⟩ := pm_ifs h
  refine pm_puti (idx := 349) (v1 := 0) (v2 := 0) (ci := 12) (k := 52) (t := 3) (by decide +kernel) (by decide +kernel) rfl (Or.inr ⟨rfl, hz3⟩) ?_
  refine pm_blk (pc' := 15) (L' := [(0, .ref 64), (1, .int a1), (2, .int a2)]) (S' := []) (M' := sm g (wi q2.2 64 52 q2.1)) [] (by decide +kernel) rfl ?_
  have h9 := Option.some.inj h
  subst h9
  exact pm_retv rfl (by decide +kernel) rfl rfl
def K_Md_expect_29 (N : Nat) (g : pm_s) (u : pm_J) : Option (pm_J) := if (u.1 64 52) = 0 then some (wi u 64 51 ((u.1 64 51) + 0)) else some (wi u 64 51 ((u.1 64 51) + 1))
set_option maxHeartbeats 4000000 in
set_option maxRecDepth 100000 in
theorem w_Md_expect_29 (l : Launch) (h0 : Nat) (D : pm_D) {g : pm_s} (hT : sh_T g) {N : Nat} {u0 : pm_J} {out : pm_J} {p : Program} {e : Env} {R : Room} {s : State} {m : MethodId} {args : Array Value} {below : List Frame} {meth : Method} {c : Code} : ∀  (u : pm_J), K_Md_expect_29 N g u = some out → pm_V (p, l, e, R, s, m, args, below, meth, c) m_Md_expect h0 D (g.1, g.2.1, g.1, g.2.1, 2) (pm_E (p, l, e, R, s, m, args, below, meth, c) h0 D (sm g u0) none (sm g out)) 29 [(0, .ref 64)] [] (sm g u) := by
    intro u h
    unfold K_Md_expect_29 at h
    refine pm_blk (pc' := 38) (L' := [(0, .ref 64)]) (S' := [.int (u.1 64 52), .int (u.1 64 51), .ref 64]) (M' := sm g u) [pm_o (.aload_n 0), pm_o .dup, pm_of (.getfield 352) 12 51 0, pm_o (.aload_n 0), pm_of (.getfield 349) 12 52 3] (by decide +kernel) rfl ?_
    refine pm_if_eq (off := 7) 45 (by decide +kernel) (by decide) (fun hc2 => ?_) (fun hc2 => ?_)
    · rw [if_pos hc2] at h
      refine pm_blk (pc' := 50) (L' := [(0, .ref 64)]) (S' := []) (M' := sm g (wi u 64 51 ((u.1 64 51) + 0))) [pm_oi (.iconst 0) 0, pm_o .iadd, pm_of (.putfield 352) 12 51 0] (by decide +kernel) rfl ?_
      have h9 := Option.some.inj h
      subst h9
      exact pm_retv rfl (by decide +kernel) rfl rfl
    · rw [if_neg hc2] at h
      refine pm_blk (pc' := 42) (L' := [(0, .ref 64)]) (S' := [.int 1, .int (u.1 64 51), .ref 64]) (M' := sm g u) [pm_oi (.iconst 1) 1] (by decide +kernel) rfl ?_
      refine pm_goto (off := 4) 46 (by decide +kernel) (by decide) ?_
      refine pm_blk (pc' := 50) (L' := [(0, .ref 64)]) (S' := []) (M' := sm g (wi u 64 51 ((u.1 64 51) + 1))) [pm_o .iadd, pm_of (.putfield 352) 12 51 0] (by decide +kernel) rfl ?_
      have h9 := Option.some.inj h
      subst h9
      exact pm_retv rfl (by decide +kernel) rfl rfl
def F_Md_expect (N : Nat) (a1 : Int32) (g : pm_s) (u : pm_J) : Option (pm_J) := if (u.1 64 52) = 0 then K_Md_expect_29 N g  u else if pm_ok (u.1 64 51) 902 = true then if (u.1 66 ((u.1 64 51).toNatClampNeg)) = a1 then K_Md_expect_29 N g  u else (F_Md_stop 2 (u.1 64 51) g u).bind fun q5 => K_Md_expect_29 N g  q5 else none
set_option maxHeartbeats 4000000 in
set_option maxRecDepth 100000 in
theorem c_Md_expect (l : Launch) (h0 : Nat) (D : pm_D) {g : pm_s} {u : pm_J} (hT : sh_T g) {N : Nat} {a1 : Int32} {out : pm_J} (h : F_Md_expect N a1 g u = some out) : pm_C l h0 D m_Md_expect (2) [.ref 64, .int a1] (sm g u) none (sm g out) := by
  unfold F_Md_expect at h
  refine pm_met (by decide +kernel) (Nat.le_of_ble_eq_true rfl) (Nat.le_refl _) (Nat.le_refl _) ?_
  intro p e R s m args below meth c
  refine pm_blk (pc' := 4) (L' := [(0, .ref 64), (1, .int a1)]) (S' := [.int (u.1 64 52)]) (M' := sm g u) [pm_o (.aload_n 0), pm_of (.getfield 349) 12 52 3] (by decide +kernel) rfl ?_
  refine pm_if_eq (off := 25) 29 (by decide +kernel) (by decide) (fun hc1 => ?_) (fun hc1 => ?_)
  · rw [if_pos hc1] at h
    refine pm_loc [0] rfl ?_
    exact w_Md_expect_29 l h0 D hT  u h
  · rw [if_neg hc1] at h
    refine pm_blk (pc' := 15) (L' := [(0, .ref 64), (1, .int a1)]) (S' := [.int (u.1 64 51), .ref 66]) (M' := sm g u) [pm_o (.aload_n 0), pm_of (.getfield 17) 12 6 2, pm_o (.aload_n 0), pm_of (.getfield 352) 12 51 0] (by decide +kernel) rfl ?_
    obtain ⟨ho3, h⟩ := pm_ifs h
    refine pm_iald (by decide +kernel) rfl (pm_ok_in ho3) ?_
    refine pm_blk (pc' := 17) (L' := [(0, .ref 64), (1, .int a1)]) (S' := [.int a1, .int (u.1 66 ((u.1 64 51).toNatClampNeg))]) (M' := sm g u) [pm_o (.iload_n 1)] (by decide +kernel) rfl ?_
    refine pm_ic_eq (off := 12) 29 (by decide +kernel) (by decide) (fun hc4 => ?_) (fun hc4 => ?_)
    · rw [if_pos hc4] at h
      refine pm_loc [0] rfl ?_
      exact w_Md_expect_29 l h0 D hT  u h
    · rw [if_neg hc4] at h
      refine pm_blk (pc' := 26) (L' := [(0, .ref 64), (1, .int a1)]) (S' := [.int (u.1 64 51), .int 2, .ref 64]) (M' := sm g u) [pm_o (.aload_n 0), pm_oi (.iconst 2) 2, pm_o (.aload_n 0), pm_of (.getfield 352) 12 51 0] (by decide +kernel) rfl ?_
      obtain ⟨q5, hq5, h⟩ := pm_bd h
      refine pm_cV (idx := 355) m_Md_stop (c_Md_stop l h0 D hT hq5) (As := [.int 2, .int (u.1 64 51)]) (S0 := []) rfl (by decide +kernel) k_Md_stop l_Md_355 (Nat.le_of_ble_eq_true rfl) (Nat.le_of_ble_eq_true rfl) (Nat.le_refl _) (Nat.le_refl _) ?_
      refine pm_blk (pc' := 29) (L' := [(0, .ref 64), (1, .int a1)]) (S' := []) (M' := sm g q5) [] (by decide +kernel) rfl ?_
      refine pm_loc [0] rfl ?_
      exact w_Md_expect_29 l h0 D hT  q5 h
