def K_Md_declare_54 (N : Nat) (g : pm_s) (u : pm_J) : Option (Int32 × pm_J) := if (u.1 64 52) = 0 then some ((u.1 64 64) - 1, u) else some (((u.1 64 64) + 1) - 1, (wi (wi u 64 64 ((u.1 64 64) + 1)) 64 51 ((u.1 64 51) + 1)))
set_option maxHeartbeats 4000000 in
set_option maxRecDepth 100000 in
theorem w_Md_declare_54 (l : Launch) (h0 : Nat) (D : pm_D) {g : pm_s} (hT : sh_T g) {N : Nat} {u0 : pm_J} {out : Int32 × pm_J} {p : Program} {e : Env} {R : Room} {s : State} {m : MethodId} {args : Array Value} {below : List Frame} {meth : Method} {c : Code} : ∀  (u : pm_J), K_Md_declare_54 N g u = some out → pm_V (p, l, e, R, s, m, args, below, meth, c) m_Md_declare h0 D (g.1, g.2.1, g.1, g.2.1, 2) (pm_E (p, l, e, R, s, m, args, below, meth, c) h0 D (sm g u0) (some (.int out.1)) (sm g out.2)) 54 [(0, .ref 64)] [] (sm g u) := by
    intro u h
    unfold K_Md_declare_54 at h
    refine pm_blk (pc' := 58) (L' := [(0, .ref 64)]) (S' := [.int (u.1 64 52)]) (M' := sm g u) [pm_o (.aload_n 0), pm_of (.getfield 349) 12 52 3] (by decide +kernel) rfl ?_
    refine pm_if_eq (off := 23) 81 (by decide +kernel) (by decide) (fun hc3 => ?_) (fun hc3 => ?_)
    · rw [if_pos hc3] at h
      refine pm_blk (pc' := 87) (L' := [(0, .ref 64)]) (S' := [.int ((u.1 64 64) - 1)]) (M' := sm g u) [pm_o (.aload_n 0), pm_of (.getfield 359) 12 64 0, pm_oi (.iconst 1) 1, pm_o .isub] (by decide +kernel) rfl ?_
      have h9 := Option.some.inj h
      subst h9
      exact pm_reti rfl (by decide +kernel) rfl rfl rfl
    · rw [if_neg hc3] at h
      refine pm_blk (pc' := 87) (L' := [(0, .ref 64)]) (S' := [.int (((u.1 64 64) + 1) - 1)]) (M' := sm g (wi (wi u 64 64 ((u.1 64 64) + 1)) 64 51 ((u.1 64 51) + 1))) [pm_o (.aload_n 0), pm_o .dup, pm_of (.getfield 359) 12 64 0, pm_oi (.iconst 1) 1, pm_o .iadd, pm_of (.putfield 359) 12 64 0, pm_o (.aload_n 0), pm_o .dup, pm_of (.getfield 352) 12 51 0, pm_oi (.iconst 1) 1, pm_o .iadd, pm_of (.putfield 352) 12 51 0, pm_o (.aload_n 0), pm_of (.getfield 359) 12 64 0, pm_oi (.iconst 1) 1, pm_o .isub] (by decide +kernel) rfl ?_
      have h9 := Option.some.inj h
      subst h9
      exact pm_reti rfl (by decide +kernel) rfl rfl rfl
def K_Md_declare_29 (N : Nat) (g : pm_s) (u : pm_J) : Option (Int32 × pm_J) := if (u.1 64 52) = 0 then K_Md_declare_54 N g  u else if (u.1 64 64) = 24 then (F_Md_stop 4 (u.1 64 51) g u).bind fun q5 => K_Md_declare_54 N g  q5 else K_Md_declare_54 N g  u
set_option maxHeartbeats 4000000 in
set_option maxRecDepth 100000 in
theorem w_Md_declare_29 (l : Launch) (h0 : Nat) (D : pm_D) {g : pm_s} (hT : sh_T g) {N : Nat} {u0 : pm_J} {out : Int32 × pm_J} {p : Program} {e : Env} {R : Room} {s : State} {m : MethodId} {args : Array Value} {below : List Frame} {meth : Method} {c : Code} : ∀  (u : pm_J), K_Md_declare_29 N g u = some out → pm_V (p, l, e, R, s, m, args, below, meth, c) m_Md_declare h0 D (g.1, g.2.1, g.1, g.2.1, 2) (pm_E (p, l, e, R, s, m, args, below, meth, c) h0 D (sm g u0) (some (.int out.1)) (sm g out.2)) 29 [(0, .ref 64)] [] (sm g u) := by
    intro u h
    unfold K_Md_declare_29 at h
    refine pm_blk (pc' := 33) (L' := [(0, .ref 64)]) (S' := [.int (u.1 64 52)]) (M' := sm g u) [pm_o (.aload_n 0), pm_of (.getfield 349) 12 52 3] (by decide +kernel) rfl ?_
    refine pm_if_eq (off := 21) 54 (by decide +kernel) (by decide) (fun hc2 => ?_) (fun hc2 => ?_)
    · rw [if_pos hc2] at h
      refine pm_loc [0] rfl ?_
      exact w_Md_declare_54 l h0 D hT  u h
    · rw [if_neg hc2] at h
      refine pm_blk (pc' := 42) (L' := [(0, .ref 64)]) (S' := [.int 24, .int (u.1 64 64)]) (M' := sm g u) [pm_o (.aload_n 0), pm_of (.getfield 359) 12 64 0, pm_oi (.bipush 24) 24] (by decide +kernel) rfl ?_
      refine pm_ic_ne (off := 12) 54 (by decide +kernel) (by decide) (fun hc4 => ?_) (fun hc4 => ?_)
      · rw [if_neg hc4] at h
        refine pm_loc [0] rfl ?_
        exact w_Md_declare_54 l h0 D hT  u h
      · rw [if_pos hc4] at h
        refine pm_blk (pc' := 51) (L' := [(0, .ref 64)]) (S' := [.int (u.1 64 51), .int 4, .ref 64]) (M' := sm g u) [pm_o (.aload_n 0), pm_oi (.iconst 4) 4, pm_o (.aload_n 0), pm_of (.getfield 352) 12 51 0] (by decide +kernel) rfl ?_
        obtain ⟨q5, hq5, h⟩ := pm_bd h
        refine pm_cV (idx := 355) m_Md_stop (c_Md_stop l h0 D hT hq5) (As := [.int 4, .int (u.1 64 51)]) (S0 := []) rfl (by decide +kernel) k_Md_stop l_Md_355 (Nat.le_of_ble_eq_true rfl) (Nat.le_of_ble_eq_true rfl) (Nat.le_refl _) (Nat.le_refl _) ?_
        refine pm_blk (pc' := 54) (L' := [(0, .ref 64)]) (S' := []) (M' := sm g q5) [] (by decide +kernel) rfl ?_
        refine pm_loc [0] rfl ?_
        exact w_Md_declare_54 l h0 D hT  q5 h
def F_Md_declare (N : Nat) (g : pm_s) (u : pm_J) : Option (Int32 × pm_J) := if (u.1 64 52) = 0 then K_Md_declare_29 N g  u else if pm_ok (u.1 64 51) 902 = true then if (u.1 66 ((u.1 64 51).toNatClampNeg)) = 1 then K_Md_declare_29 N g  u else (F_Md_stop 2 (u.1 64 51) g u).bind fun q8 => K_Md_declare_29 N g  q8 else none
set_option maxHeartbeats 4000000 in
set_option maxRecDepth 100000 in
theorem c_Md_declare (l : Launch) (h0 : Nat) (D : pm_D) {g : pm_s} {u : pm_J} (hT : sh_T g) {N : Nat} {out : Int32 × pm_J} (h : F_Md_declare N g u = some out) : pm_C l h0 D m_Md_declare (2) [.ref 64] (sm g u) (some (.int out.1)) (sm g out.2) := by
  unfold F_Md_declare at h
  refine pm_met (by decide +kernel) (Nat.le_of_ble_eq_true rfl) (Nat.le_refl _) (Nat.le_refl _) ?_
  intro p e R s m args below meth c
  refine pm_blk (pc' := 4) (L' := [(0, .ref 64)]) (S' := [.int (u.1 64 52)]) (M' := sm g u) [pm_o (.aload_n 0), pm_of (.getfield 349) 12 52 3] (by decide +kernel) rfl ?_
  refine pm_if_eq (off := 25) 29 (by decide +kernel) (by decide) (fun hc1 => ?_) (fun hc1 => ?_)
  · rw [if_pos hc1] at h
    refine pm_loc [0] rfl ?_
    exact w_Md_declare_29 l h0 D hT  u h
  · rw [if_neg hc1] at h
    refine pm_blk (pc' := 15) (L' := [(0, .ref 64)]) (S' := [.int (u.1 64 51), .ref 66]) (M' := sm g u) [pm_o (.aload_n 0), pm_of (.getfield 17) 12 6 2, pm_o (.aload_n 0), pm_of (.getfield 352) 12 51 0] (by decide +kernel) rfl ?_
    obtain ⟨ho6, h⟩ := pm_ifs h
    refine pm_iald (by decide +kernel) rfl (pm_ok_in ho6) ?_
    refine pm_blk (pc' := 17) (L' := [(0, .ref 64)]) (S' := [.int 1, .int (u.1 66 ((u.1 64 51).toNatClampNeg))]) (M' := sm g u) [pm_oi (.iconst 1) 1] (by decide +kernel) rfl ?_
    refine pm_ic_eq (off := 12) 29 (by decide +kernel) (by decide) (fun hc7 => ?_) (fun hc7 => ?_)
    · rw [if_pos hc7] at h
      refine pm_loc [0] rfl ?_
      exact w_Md_declare_29 l h0 D hT  u h
    · rw [if_neg hc7] at h
      refine pm_blk (pc' := 26) (L' := [(0, .ref 64)]) (S' := [.int (u.1 64 51), .int 2, .ref 64]) (M' := sm g u) [pm_o (.aload_n 0), pm_oi (.iconst 2) 2, pm_o (.aload_n 0), pm_of (.getfield 352) 12 51 0] (by decide +kernel) rfl ?_
      obtain ⟨q8, hq8, h⟩ := pm_bd h
      refine pm_cV (idx := 355) m_Md_stop (c_Md_stop l h0 D hT hq8) (As := [.int 2, .int (u.1 64 51)]) (S0 := []) rfl (by decide +kernel) k_Md_stop l_Md_355 (Nat.le_of_ble_eq_true rfl) (Nat.le_of_ble_eq_true rfl) (Nat.le_refl _) (Nat.le_refl _) ?_
      refine pm_blk (pc' := 29) (L' := [(0, .ref 64)]) (S' := []) (M' := sm g q8) [] (by decide +kernel) rfl ?_
      refine pm_loc [0] rfl ?_
      exact w_Md_declare_29 l h0 D hT  q8 h
def F_Md_enter (a1 : Int32) (a2 : Int32) (g : pm_s) (u : pm_J) : Option (pm_J) := if pm_ok (u.1 64 67) 64 = true then if pm_ok (u.1 64 67) 64 = true then some (wi (wi (wi u 110 ((u.1 64 67).toNatClampNeg) a1) 111 ((u.1 64 67).toNatClampNeg) a2) 64 67 ((u.1 64 67) + 1)) else none else none
set_option maxHeartbeats 4000000 in
set_option maxRecDepth 100000 in
theorem c_Md_enter (l : Launch) (h0 : Nat) (D : pm_D) {g : pm_s} {u : pm_J} (hT : sh_T g) {a1 : Int32} {a2 : Int32} {out : pm_J} (h : F_Md_enter a1 a2 g u = some out) : pm_C l h0 D m_Md_enter (0) [.ref 64, .int a1, .int a2] (sm g u) none (sm g out) := by
  unfold F_Md_enter at h
  refine pm_met (by decide +kernel) (Nat.le_of_ble_eq_true rfl) (Nat.le_refl _) (Nat.le_refl _) ?_
  intro p e R s m args below meth c
  refine pm_blk (pc' := 9) (L' := [(0, .ref 64), (1, .int a1), (2, .int a2)]) (S' := [.int a1, .int (u.1 64 67), .ref 110]) (M' := sm g u) [pm_o (.aload_n 0), pm_of (.getfield 152) 12 65 2, pm_o (.aload_n 0), pm_of (.getfield 362) 12 67 0, pm_o (.iload_n 1)] (by decide +kernel) rfl ?_
  obtain ⟨ho1, h⟩ := pm_ifs h
  refine pm_iast (by decide +kernel) rfl  (pm_ok_in ho1) ?_
  refine pm_blk (pc' := 19) (L' := [(0, .ref 64), (1, .int a1), (2, .int a2)]) (S' := [.int a2, .int (u.1 64 67), .ref 111]) (M' := sm g (wi u 110 ((u.1 64 67).toNatClampNeg) a1)) [pm_o (.aload_n 0), pm_of (.getfield 155) 12 66 2, pm_o (.aload_n 0), pm_of (.getfield 362) 12 67 0, pm_o (.iload_n 2)] (by decide +kernel) rfl ?_
  obtain ⟨ho2, h⟩ := pm_ifs h
  refine pm_iast (by decide +kernel) rfl  (pm_ok_in ho2) ?_
  refine pm_blk (pc' := 30) (L' := [(0, .ref 64), (1, .int a1), (2, .int a2)]) (S' := []) (M' := sm g (wi (wi (wi u 110 ((u.1 64 67).toNatClampNeg) a1) 111 ((u.1 64 67).toNatClampNeg) a2) 64 67 ((u.1 64 67) + 1))) [pm_o (.aload_n 0), pm_o .dup, pm_of (.getfield 362) 12 67 0, pm_oi (.iconst 1) 1, pm_o .iadd, pm_of (.putfield 362) 12 67 0] (by decide +kernel) rfl ?_
  have h9 := Option.some.inj h
  subst h9
  exact pm_retv rfl (by decide +kernel) rfl rfl
def K_Md_localNamed_4 (N : Nat) (g : pm_s) (u : pm_J) : Nat → Int32 → Int32 → Int32 → Option (Int32)
  | 0, _, _, _ => none
  | n + 1, x1, x2, x3 => if (u.1 64 67) ≤ x3 then some x2 else if pm_ok x3 64 = true then (F_Md_isSame N (u.1 111 x3.toNatClampNeg) x1 g u).bind fun q3 => if q3 = 0 then K_Md_localNamed_4 N g u  n x1 x2 (x3 + 1) else if pm_ok x3 64 = true then K_Md_localNamed_4 N g u  n x1 (u.1 110 x3.toNatClampNeg) (x3 + 1) else none else none
set_option maxHeartbeats 4000000 in
set_option maxRecDepth 100000 in
theorem w_Md_localNamed_4 (l : Launch) (h0 : Nat) (D : pm_D) {g : pm_s} (hT : sh_T g) {N : Nat} {u : pm_J} {out : Int32} {p : Program} {e : Env} {R : Room} {s : State} {m : MethodId} {args : Array Value} {below : List Frame} {meth : Method} {c : Code} : ∀ (n : Nat) (x1 : Int32) (x2 : Int32) (x3 : Int32), K_Md_localNamed_4 N g u n x1 x2 x3 = some out → pm_V (p, l, e, R, s, m, args, below, meth, c) m_Md_localNamed h0 D (g.1, g.2.1, g.1, g.2.1, 1) (pm_E (p, l, e, R, s, m, args, below, meth, c) h0 D (sm g u) (some (.int out)) (sm g u)) 4 [(0, .ref 64), (1, .int x1), (2, .int x2), (3, .int x3)] [] (sm g u) := by
  intro n
  induction n with
  | zero => intro x1 x2 x3 h; cases h
  | succ n ih =>
    intro x1 x2 x3 h
    rw [K_Md_localNamed_4] at h
    refine pm_blk (pc' := 9) (L' := [(0, .ref 64), (1, .int x1), (2, .int x2), (3, .int x3)]) (S' := [.int (u.1 64 67), .int x3]) (M' := sm g u) [pm_o (.iload_n 3), pm_o (.aload_n 0), pm_of (.getfield 362) 12 67 0] (by decide +kernel) rfl ?_
    refine pm_ic_ge (off := 34) 43 (by decide +kernel) (by decide) (fun hc1 => ?_) (fun hc1 => ?_)
    · rw [if_pos hc1] at h
      refine pm_blk (pc' := 44) (L' := [(0, .ref 64), (1, .int x1), (2, .int x2), (3, .int x3)]) (S' := [.int x2]) (M' := sm g u) [pm_o (.iload_n 2)] (by decide +kernel) rfl ?_
      have h9 := Option.some.inj h
      subst h9
      exact pm_reti rfl (by decide +kernel) rfl rfl rfl
    · rw [if_neg hc1] at h
      refine pm_blk (pc' := 18) (L' := [(0, .ref 64), (1, .int x1), (2, .int x2), (3, .int x3)]) (S' := [.int x3, .ref 111, .ref 64]) (M' := sm g u) [pm_o (.aload_n 0), pm_o (.aload_n 0), pm_of (.getfield 155) 12 66 2, pm_o (.iload_n 3)] (by decide +kernel) rfl ?_
      obtain ⟨ho2, h⟩ := pm_ifs h
      refine pm_iald (by decide +kernel) rfl (pm_ok_in ho2) ?_
      refine pm_blk (pc' := 20) (L' := [(0, .ref 64), (1, .int x1), (2, .int x2), (3, .int x3)]) (S' := [.int x1, .int (u.1 111 x3.toNatClampNeg), .ref 64]) (M' := sm g u) [pm_o (.iload_n 1)] (by decide +kernel) rfl ?_
      obtain ⟨q3, hq3, h⟩ := pm_bd h
      refine pm_cV (idx := 365) m_Md_isSame (c_Md_isSame l h0 D hT hq3) (As := [.int (u.1 111 x3.toNatClampNeg), .int x1]) (S0 := []) rfl (by decide +kernel) k_Md_isSame l_Md_365 (Nat.le_of_ble_eq_true rfl) (Nat.le_of_ble_eq_true rfl) (Nat.le_refl _) (Nat.le_refl _) ?_
      refine pm_blk (pc' := 23) (L' := [(0, .ref 64), (1, .int x1), (2, .int x2), (3, .int x3)]) (S' := [.int q3]) (M' := sm g u) [] (by decide +kernel) rfl ?_
      refine pm_if_eq (off := 12) 35 (by decide +kernel) (by decide) (fun hc4 => ?_) (fun hc4 => ?_)
      · rw [if_pos hc4] at h
        refine pm_blk (pc' := 40) (L' := [(3, .int (x3 + 1)), (2, .int x2), (0, .ref 64), (1, .int x1)]) (S' := []) (M' := sm g u) [pm_o (.iload_n 2), pm_o (.istore_n 2), pm_oi (.iinc 3 1) 1] (by decide +kernel) rfl ?_
        refine pm_goto (off := -36) 4 (by decide +kernel) (by decide) ?_
        refine pm_loc [2, 3, 1, 0] rfl ?_
        exact ih x1 x2 (x3 + 1) h
      · rw [if_neg hc4] at h
        refine pm_blk (pc' := 31) (L' := [(0, .ref 64), (1, .int x1), (2, .int x2), (3, .int x3)]) (S' := [.int x3, .ref 110]) (M' := sm g u) [pm_o (.aload_n 0), pm_of (.getfield 152) 12 65 2, pm_o (.iload_n 3)] (by decide +kernel) rfl ?_
        obtain ⟨ho5, h⟩ := pm_ifs h
        refine pm_iald (by decide +kernel) rfl (pm_ok_in ho5) ?_
        refine pm_blk (pc' := 32) (L' := [(0, .ref 64), (1, .int x1), (2, .int x2), (3, .int x3)]) (S' := [.int (u.1 110 x3.toNatClampNeg)]) (M' := sm g u) [] (by decide +kernel) rfl ?_
        refine pm_goto (off := 4) 36 (by decide +kernel) (by decide) ?_
        refine pm_blk (pc' := 40) (L' := [(3, .int (x3 + 1)), (2, .int (u.1 110 x3.toNatClampNeg)), (0, .ref 64), (1, .int x1)]) (S' := []) (M' := sm g u) [pm_o (.istore_n 2), pm_oi (.iinc 3 1) 1] (by decide +kernel) rfl ?_
        refine pm_goto (off := -36) 4 (by decide +kernel) (by decide) ?_
        refine pm_loc [2, 3, 1, 0] rfl ?_
        exact ih x1 (u.1 110 x3.toNatClampNeg) (x3 + 1) h
def F_Md_localNamed (N : Nat) (a1 : Int32) (g : pm_s) (u : pm_J) : Option (Int32) := K_Md_localNamed_4 N g u N a1 (-1) 0
set_option maxHeartbeats 4000000 in
set_option maxRecDepth 100000 in
theorem c_Md_localNamed (l : Launch) (h0 : Nat) (D : pm_D) {g : pm_s} {u : pm_J} (hT : sh_T g) {N : Nat} {a1 : Int32} {out : Int32} (h : F_Md_localNamed N a1 g u = some out) : pm_C l h0 D m_Md_localNamed (1) [.ref 64, .int a1] (sm g u) (some (.int out)) (sm g u) := by
  unfold F_Md_localNamed at h
  refine pm_met (by decide +kernel) (Nat.le_of_ble_eq_true rfl) (Nat.le_refl _) (Nat.le_refl _) ?_
  intro p e R s m args below meth c
  refine pm_blk (pc' := 4) (L' := [(3, .int 0), (2, .int (-1)), (0, .ref 64), (1, .int a1)]) (S' := []) (M' := sm g u) [pm_oi (.iconst (-1)) (-1), pm_o (.istore_n 2), pm_oi (.iconst 0) 0, pm_o (.istore_n 3)] (by decide +kernel) rfl ?_
  refine pm_loc [2, 3, 1, 0] rfl ?_
  exact w_Md_localNamed_4 l h0 D hT N a1 (-1) 0 h
def F_Md_later (a1 : Int32) (a2 : Int32) (a3 : Int32) (g : pm_s) (u : pm_J) : Option (pm_J) := if pm_ok (u.1 64 56) 6000 = true then if pm_ok (u.1 64 56) 6000 = true then if pm_ok (u.1 64 56) 6000 = true then some (wi (wi (wi (wi u 105 ((u.1 64 56).toNatClampNeg) a1) 106 ((u.1 64 56).toNatClampNeg) a2) 107 ((u.1 64 56).toNatClampNeg) a3) 64 56 ((u.1 64 56) + 1)) else none else none else none
set_option maxHeartbeats 4000000 in
set_option maxRecDepth 100000 in
theorem c_Md_later (l : Launch) (h0 : Nat) (D : pm_D) {g : pm_s} {u : pm_J} (hT : sh_T g) {a1 : Int32} {a2 : Int32} {a3 : Int32} {out : pm_J} (h : F_Md_later a1 a2 a3 g u = some out) : pm_C l h0 D m_Md_later (0) [.ref 64, .int a1, .int a2, .int a3] (sm g u) none (sm g out) := by
  unfold F_Md_later at h
  refine pm_met (by decide +kernel) (Nat.le_of_ble_eq_true rfl) (Nat.le_refl _) (Nat.le_refl _) ?_
  intro p e R s m args below meth c
  refine pm_blk (pc' := 9) (L' := [(0, .ref 64), (1, .int a1), (2, .int a2), (3, .int a3)]) (S' := [.int a1, .int (u.1 64 56), .ref 105]) (M' := sm g u) [pm_o (.aload_n 0), pm_of (.getfield 137) 12 53 2, pm_o (.aload_n 0), pm_of (.getfield 368) 12 56 0, pm_o (.iload_n 1)] (by decide +kernel) rfl ?_
  obtain ⟨ho1, h⟩ := pm_ifs h
  refine pm_iast (by decide +kernel) rfl  (pm_ok_in ho1) ?_
  refine pm_blk (pc' := 19) (L' := [(0, .ref 64), (1, .int a1), (2, .int a2), (3, .int a3)]) (S' := [.int a2, .int (u.1 64 56), .ref 106]) (M' := sm g (wi u 105 ((u.1 64 56).toNatClampNeg) a1)) [pm_o (.aload_n 0), pm_of (.getfield 140) 12 54 2, pm_o (.aload_n 0), pm_of (.getfield 368) 12 56 0, pm_o (.iload_n 2)] (by decide +kernel) rfl ?_
  obtain ⟨ho2, h⟩ := pm_ifs h
  refine pm_iast (by decide +kernel) rfl  (pm_ok_in ho2) ?_
  refine pm_blk (pc' := 29) (L' := [(0, .ref 64), (1, .int a1), (2, .int a2), (3, .int a3)]) (S' := [.int a3, .int (u.1 64 56), .ref 107]) (M' := sm g (wi (wi u 105 ((u.1 64 56).toNatClampNeg) a1) 106 ((u.1 64 56).toNatClampNeg) a2)) [pm_o (.aload_n 0), pm_of (.getfield 143) 12 55 2, pm_o (.aload_n 0), pm_of (.getfield 368) 12 56 0, pm_o (.iload_n 3)] (by decide +kernel) rfl ?_
  obtain ⟨ho3, h⟩ := pm_ifs h
  refine pm_iast (by decide +kernel) rfl  (pm_ok_in ho3) ?_
  refine pm_blk (pc' := 40) (L' := [(0, .ref 64), (1, .int a1), (2, .int a2), (3, .int a3)]) (S' := []) (M' := sm g (wi (wi (wi (wi u 105 ((u.1 64 56).toNatClampNeg) a1) 106 ((u.1 64 56).toNatClampNeg) a2) 107 ((u.1 64 56).toNatClampNeg) a3) 64 56 ((u.1 64 56) + 1))) [pm_o (.aload_n 0), pm_o .dup, pm_of (.getfield 368) 12 56 0, pm_oi (.iconst 1) 1, pm_o .iadd, pm_of (.putfield 368) 12 56 0] (by decide +kernel) rfl ?_
  have h9 := Option.some.inj h
  subst h9
  exact pm_retv rfl (by decide +kernel) rfl rfl
def F_Md_take (g : pm_s) (u : pm_J) : Option (Int32 × pm_J) := if pm_ok ((u.1 64 58) - 1) 2400 = true then some (u.1 108 (((u.1 64 58) - 1).toNatClampNeg), (wi u 64 58 ((u.1 64 58) - 1))) else none
set_option maxHeartbeats 4000000 in
set_option maxRecDepth 100000 in
theorem c_Md_take (l : Launch) (h0 : Nat) (D : pm_D) {g : pm_s} {u : pm_J} (hT : sh_T g) {out : Int32 × pm_J} (h : F_Md_take g u = some out) : pm_C l h0 D m_Md_take (0) [.ref 64] (sm g u) (some (.int out.1)) (sm g out.2) := by
  unfold F_Md_take at h
  refine pm_met (by decide +kernel) (Nat.le_of_ble_eq_true rfl) (Nat.le_refl _) (Nat.le_refl _) ?_
  intro p e R s m args below meth c
  refine pm_blk (pc' := 18) (L' := [(0, .ref 64)]) (S' := [.int ((u.1 64 58) - 1), .ref 108]) (M' := sm g (wi u 64 58 ((u.1 64 58) - 1))) [pm_o (.aload_n 0), pm_o .dup, pm_of (.getfield 371) 12 58 0, pm_oi (.iconst 1) 1, pm_o .isub, pm_of (.putfield 371) 12 58 0, pm_o (.aload_n 0), pm_of (.getfield 146) 12 57 2, pm_o (.aload_n 0), pm_of (.getfield 371) 12 58 0] (by decide +kernel) rfl ?_
  obtain ⟨ho1, h⟩ := pm_ifs h
  refine pm_iald (by decide +kernel) rfl (pm_ok_in ho1) ?_
  refine pm_blk (pc' := 19) (L' := [(0, .ref 64)]) (S' := [.int (u.1 108 (((u.1 64 58) - 1).toNatClampNeg))]) (M' := sm g (wi u 64 58 ((u.1 64 58) - 1))) [] (by decide +kernel) rfl ?_
  have h9 := Option.some.inj h
  subst h9
  exact pm_reti rfl (by decide +kernel) rfl rfl rfl
def F_Md_give (a1 : Int32) (g : pm_s) (u : pm_J) : Option (pm_J) := if pm_ok (u.1 64 58) 2400 = true then some (wi (wi u 108 ((u.1 64 58).toNatClampNeg) a1) 64 58 ((u.1 64 58) + 1)) else none
set_option maxHeartbeats 4000000 in
set_option maxRecDepth 100000 in
theorem c_Md_give (l : Launch) (h0 : Nat) (D : pm_D) {g : pm_s} {u : pm_J} (hT : sh_T g) {a1 : Int32} {out : pm_J} (h : F_Md_give a1 g u = some out) : pm_C l h0 D m_Md_give (0) [.ref 64, .int a1] (sm g u) none (sm g out) := by
  unfold F_Md_give at h
  refine pm_met (by decide +kernel) (Nat.le_of_ble_eq_true rfl) (Nat.le_refl _) (Nat.le_refl _) ?_
  intro p e R s m args below meth c
  refine pm_blk (pc' := 9) (L' := [(0, .ref 64), (1, .int a1)]) (S' := [.int a1, .int (u.1 64 58), .ref 108]) (M' := sm g u) [pm_o (.aload_n 0), pm_of (.getfield 146) 12 57 2, pm_o (.aload_n 0), pm_of (.getfield 371) 12 58 0, pm_o (.iload_n 1)] (by decide +kernel) rfl ?_
  obtain ⟨ho1, h⟩ := pm_ifs h
  refine pm_iast (by decide +kernel) rfl  (pm_ok_in ho1) ?_
  refine pm_blk (pc' := 20) (L' := [(0, .ref 64), (1, .int a1)]) (S' := []) (M' := sm g (wi (wi u 108 ((u.1 64 58).toNatClampNeg) a1) 64 58 ((u.1 64 58) + 1))) [pm_o (.aload_n 0), pm_o .dup, pm_of (.getfield 371) 12 58 0, pm_oi (.iconst 1) 1, pm_o .iadd, pm_of (.putfield 371) 12 58 0] (by decide +kernel) rfl ?_
  have h9 := Option.some.inj h
  subst h9
  exact pm_retv rfl (by decide +kernel) rfl rfl
def F_Md_takeType (g : pm_s) (u : pm_J) : Option (Int32 × pm_J) := if pm_ok ((u.1 64 60) - 1) 900 = true then some (u.1 109 (((u.1 64 60) - 1).toNatClampNeg), (wi u 64 60 ((u.1 64 60) - 1))) else none
set_option maxHeartbeats 4000000 in
set_option maxRecDepth 100000 in
theorem c_Md_takeType (l : Launch) (h0 : Nat) (D : pm_D) {g : pm_s} {u : pm_J} (hT : sh_T g) {out : Int32 × pm_J} (h : F_Md_takeType g u = some out) : pm_C l h0 D m_Md_takeType (0) [.ref 64] (sm g u) (some (.int out.1)) (sm g out.2) := by
  unfold F_Md_takeType at h
  refine pm_met (by decide +kernel) (Nat.le_of_ble_eq_true rfl) (Nat.le_refl _) (Nat.le_refl _) ?_
  intro p e R s m args below meth c
  refine pm_blk (pc' := 18) (L' := [(0, .ref 64)]) (S' := [.int ((u.1 64 60) - 1), .ref 109]) (M' := sm g (wi u 64 60 ((u.1 64 60) - 1))) [pm_o (.aload_n 0), pm_o .dup, pm_of (.getfield 374) 12 60 0, pm_oi (.iconst 1) 1, pm_o .isub, pm_of (.putfield 374) 12 60 0, pm_o (.aload_n 0), pm_of (.getfield 149) 12 59 2, pm_o (.aload_n 0), pm_of (.getfield 374) 12 60 0] (by decide +kernel) rfl ?_
  obtain ⟨ho1, h⟩ := pm_ifs h
  refine pm_iald (by decide +kernel) rfl (pm_ok_in ho1) ?_
  refine pm_blk (pc' := 19) (L' := [(0, .ref 64)]) (S' := [.int (u.1 109 (((u.1 64 60) - 1).toNatClampNeg))]) (M' := sm g (wi u 64 60 ((u.1 64 60) - 1))) [] (by decide +kernel) rfl ?_
  have h9 := Option.some.inj h
  subst h9
  exact pm_reti rfl (by decide +kernel) rfl rfl rfl
def F_Md_giveType (a1 : Int32) (g : pm_s) (u : pm_J) : Option (pm_J) := if pm_ok (u.1 64 60) 900 = true then some (wi (wi u 109 ((u.1 64 60).toNatClampNeg) a1) 64 60 ((u.1 64 60) + 1)) else none
set_option maxHeartbeats 4000000 in
set_option maxRecDepth 100000 in
theorem c_Md_giveType (l : Launch) (h0 : Nat) (D : pm_D) {g : pm_s} {u : pm_J} (hT : sh_T g) {a1 : Int32} {out : pm_J} (h : F_Md_giveType a1 g u = some out) : pm_C l h0 D m_Md_giveType (0) [.ref 64, .int a1] (sm g u) none (sm g out) := by
  unfold F_Md_giveType at h
  refine pm_met (by decide +kernel) (Nat.le_of_ble_eq_true rfl) (Nat.le_refl _) (Nat.le_refl _) ?_
  intro p e R s m args below meth c
  refine pm_blk (pc' := 9) (L' := [(0, .ref 64), (1, .int a1)]) (S' := [.int a1, .int (u.1 64 60), .ref 109]) (M' := sm g u) [pm_o (.aload_n 0), pm_of (.getfield 149) 12 59 2, pm_o (.aload_n 0), pm_of (.getfield 374) 12 60 0, pm_o (.iload_n 1)] (by decide +kernel) rfl ?_
  obtain ⟨ho1, h⟩ := pm_ifs h
  refine pm_iast (by decide +kernel) rfl  (pm_ok_in ho1) ?_
  refine pm_blk (pc' := 20) (L' := [(0, .ref 64), (1, .int a1)]) (S' := []) (M' := sm g (wi (wi u 109 ((u.1 64 60).toNatClampNeg) a1) 64 60 ((u.1 64 60) + 1))) [pm_o (.aload_n 0), pm_o .dup, pm_of (.getfield 374) 12 60 0, pm_oi (.iconst 1) 1, pm_o .iadd, pm_of (.putfield 374) 12 60 0] (by decide +kernel) rfl ?_
  have h9 := Option.some.inj h
  subst h9
  exact pm_retv rfl (by decide +kernel) rfl rfl
def K_Md_node_137 (N : Nat) (g : pm_s) : Nat → Int32 → Int32 → pm_J → Option (Int32 × pm_J)
  | 0, _, _, _ => none
  | n + 1, x6, x7, u => if 4 ≤ x7 then some (x6, (wi u 64 33 ((u.1 64 33) + 1))) else if pm_ok ((4 * x6) + x7) 9600 = true then K_Md_node_137 N g  n x6 (x7 + 1) (wi u 90 (((4 * x6) + x7).toNatClampNeg) (-1)) else none
set_option maxHeartbeats 4000000 in
set_option maxRecDepth 100000 in
theorem w_Md_node_137 (l : Launch) (h0 : Nat) (D : pm_D) {g : pm_s} (hT : sh_T g) {N : Nat} {u0 : pm_J} {out : Int32 × pm_J} {p : Program} {e : Env} {R : Room} {s : State} {m : MethodId} {args : Array Value} {below : List Frame} {meth : Method} {c : Code} : ∀ (n : Nat) (x6 : Int32) (x7 : Int32) (u : pm_J), K_Md_node_137 N g n x6 x7 u = some out → pm_V (p, l, e, R, s, m, args, below, meth, c) m_Md_node h0 D (g.1, g.2.1, g.1, g.2.1, 0) (pm_E (p, l, e, R, s, m, args, below, meth, c) h0 D (sm g u0) (some (.int out.1)) (sm g out.2)) 137 [(0, .ref 64), (6, .int x6), (7, .int x7)] [] (sm g u) := by
  intro n
  induction n with
  | zero => intro x6 x7 u h; cases h
  | succ n ih =>
    intro x6 x7 u h
    rw [K_Md_node_137] at h
    refine pm_blk (pc' := 140) (L' := [(0, .ref 64), (6, .int x6), (7, .int x7)]) (S' := [.int 4, .int x7]) (M' := sm g u) [pm_o (.iload 7), pm_oi (.iconst 4) 4] (by decide +kernel) rfl ?_
    refine pm_ic_ge (off := 22) 162 (by decide +kernel) (by decide) (fun hc16 => ?_) (fun hc16 => ?_)
    · rw [if_pos hc16] at h
      refine pm_blk (pc' := 174) (L' := [(0, .ref 64), (6, .int x6), (7, .int x7)]) (S' := [.int x6]) (M' := sm g (wi u 64 33 ((u.1 64 33) + 1))) [pm_o (.aload_n 0), pm_o .dup, pm_of (.getfield 377) 12 33 0, pm_oi (.iconst 1) 1, pm_o .iadd, pm_of (.putfield 377) 12 33 0, pm_o (.iload 6)] (by decide +kernel) rfl ?_
      have h9 := Option.some.inj h
      subst h9
      exact pm_reti rfl (by decide +kernel) rfl rfl rfl
    · rw [if_neg hc16] at h
      refine pm_blk (pc' := 155) (L' := [(0, .ref 64), (6, .int x6), (7, .int x7)]) (S' := [.int (-1), .int ((4 * x6) + x7), .ref 90]) (M' := sm g u) [pm_o (.aload_n 0), pm_of (.getfield 92) 12 32 2, pm_oi (.iconst 4) 4, pm_o (.iload 6), pm_o .imul, pm_o (.iload 7), pm_o .iadd, pm_oi (.iconst (-1)) (-1)] (by decide +kernel) rfl ?_
      obtain ⟨ho17, h⟩ := pm_ifs h
      refine pm_iast (by decide +kernel) rfl  (pm_ok_in ho17) ?_
      refine pm_blk (pc' := 159) (L' := [(7, .int (x7 + 1)), (0, .ref 64), (6, .int x6)]) (S' := []) (M' := sm g (wi u 90 (((4 * x6) + x7).toNatClampNeg) (-1))) [pm_oi (.iinc 7 1) 1] (by decide +kernel) rfl ?_
      refine pm_goto (off := -22) 137 (by decide +kernel) (by decide) ?_
      refine pm_loc [1, 2, 0] rfl ?_
      exact ih x6 (x7 + 1) (wi u 90 (((4 * x6) + x7).toNatClampNeg) (-1)) h
def F_Md_node (N : Nat) (a1 : Int32) (a2 : Int32) (a3 : Int32) (a4 : Int32) (a5 : Int32) (g : pm_s) (u : pm_J) : Option (Int32 × pm_J) := if pm_ok (u.1 64 33) 2400 = true then if pm_ok (u.1 64 33) 2400 = true then if pm_ok (u.1 64 33) 2400 = true then if pm_ok (u.1 64 33) 2400 = true then if pm_ok (u.1 64 33) 2400 = true then if pm_ok (u.1 64 33) 2400 = true then if pm_ok (u.1 64 33) 2400 = true then if pm_ok (u.1 64 33) 2400 = true then if pm_ok (u.1 64 33) 2400 = true then if pm_ok (u.1 64 33) 2400 = true then if pm_ok (u.1 64 33) 2400 = true then if pm_ok (u.1 64 33) 2400 = true then if pm_ok (u.1 64 33) 2400 = true then if a3 < 0 then if pm_ok (u.1 64 33) 2400 = true then K_Md_node_137 N g N (u.1 64 33) 0 (wi (wi (wi (wi (wi (wi (wi (wi (wi (wi (wi (wi (wi (wi u 77 ((u.1 64 33).toNatClampNeg) a1) 78 ((u.1 64 33).toNatClampNeg) a2) 79 ((u.1 64 33).toNatClampNeg) a3) 80 ((u.1 64 33).toNatClampNeg) a4) 81 ((u.1 64 33).toNatClampNeg) a5) 82 ((u.1 64 33).toNatClampNeg) (-1)) 83 ((u.1 64 33).toNatClampNeg) (-1)) 84 ((u.1 64 33).toNatClampNeg) 0) 86 ((u.1 64 33).toNatClampNeg) (-1)) 87 ((u.1 64 33).toNatClampNeg) (-1)) 88 ((u.1 64 33).toNatClampNeg) (-1)) 89 ((u.1 64 33).toNatClampNeg) 0) 112 ((u.1 64 33).toNatClampNeg) 0) 85 ((u.1 64 33).toNatClampNeg) (u.1 64 33)) else none else if pm_ok a3 2400 = true then if pm_ok (u.1 64 33) 2400 = true then K_Md_node_137 N g N (u.1 64 33) 0 (wi (wi (wi (wi (wi (wi (wi (wi (wi (wi (wi (wi (wi (wi u 77 ((u.1 64 33).toNatClampNeg) a1) 78 ((u.1 64 33).toNatClampNeg) a2) 79 ((u.1 64 33).toNatClampNeg) a3) 80 ((u.1 64 33).toNatClampNeg) a4) 81 ((u.1 64 33).toNatClampNeg) a5) 82 ((u.1 64 33).toNatClampNeg) (-1)) 83 ((u.1 64 33).toNatClampNeg) (-1)) 84 ((u.1 64 33).toNatClampNeg) 0) 86 ((u.1 64 33).toNatClampNeg) (-1)) 87 ((u.1 64 33).toNatClampNeg) (-1)) 88 ((u.1 64 33).toNatClampNeg) (-1)) 89 ((u.1 64 33).toNatClampNeg) 0) 112 ((u.1 64 33).toNatClampNeg) 0) 85 ((u.1 64 33).toNatClampNeg) (u.1 85 a3.toNatClampNeg)) else none else none else none else none else none else none else none else none else none else none else none else none else none else none else none
set_option maxHeartbeats 4000000 in
set_option maxRecDepth 100000 in
theorem c_Md_node (l : Launch) (h0 : Nat) (D : pm_D) {g : pm_s} {u : pm_J} (hT : sh_T g) {N : Nat} {a1 : Int32} {a2 : Int32} {a3 : Int32} {a4 : Int32} {a5 : Int32} {out : Int32 × pm_J} (h : F_Md_node N a1 a2 a3 a4 a5 g u = some out) : pm_C l h0 D m_Md_node (0) [.ref 64, .int a1, .int a2, .int a3, .int a4, .int a5] (sm g u) (some (.int out.1)) (sm g out.2) := by
  unfold F_Md_node at h
  refine pm_met (by decide +kernel) (Nat.le_of_ble_eq_true rfl) (Nat.le_refl _) (Nat.le_refl _) ?_
  intro p e R s m args below meth c
  refine pm_blk (pc' := 13) (L' := [(6, .int (u.1 64 33)), (0, .ref 64), (1, .int a1), (2, .int a2), (3, .int a3), (4, .int a4), (5, .int a5)]) (S' := [.int a1, .int (u.1 64 33), .ref 77]) (M' := sm g u) [pm_o (.aload_n 0), pm_of (.getfield 377) 12 33 0, pm_o (.istore 6), pm_o (.aload_n 0), pm_of (.getfield 53) 12 19 2, pm_o (.iload 6), pm_o (.iload_n 1)] (by decide +kernel) rfl ?_
  obtain ⟨ho1, h⟩ := pm_ifs h
  refine pm_iast (by decide +kernel) rfl  (pm_ok_in ho1) ?_
  refine pm_blk (pc' := 21) (L' := [(6, .int (u.1 64 33)), (0, .ref 64), (1, .int a1), (2, .int a2), (3, .int a3), (4, .int a4), (5, .int a5)]) (S' := [.int a2, .int (u.1 64 33), .ref 78]) (M' := sm g (wi u 77 ((u.1 64 33).toNatClampNeg) a1)) [pm_o (.aload_n 0), pm_of (.getfield 56) 12 20 2, pm_o (.iload 6), pm_o (.iload_n 2)] (by decide +kernel) rfl ?_
  obtain ⟨ho2, h⟩ := pm_ifs h
  refine pm_iast (by decide +kernel) rfl  (pm_ok_in ho2) ?_
  refine pm_blk (pc' := 29) (L' := [(6, .int (u.1 64 33)), (0, .ref 64), (1, .int a1), (2, .int a2), (3, .int a3), (4, .int a4), (5, .int a5)]) (S' := [.int a3, .int (u.1 64 33), .ref 79]) (M' := sm g (wi (wi u 77 ((u.1 64 33).toNatClampNeg) a1) 78 ((u.1 64 33).toNatClampNeg) a2)) [pm_o (.aload_n 0), pm_of (.getfield 59) 12 21 2, pm_o (.iload 6), pm_o (.iload_n 3)] (by decide +kernel) rfl ?_
  obtain ⟨ho3, h⟩ := pm_ifs h
  refine pm_iast (by decide +kernel) rfl  (pm_ok_in ho3) ?_
  refine pm_blk (pc' := 38) (L' := [(6, .int (u.1 64 33)), (0, .ref 64), (1, .int a1), (2, .int a2), (3, .int a3), (4, .int a4), (5, .int a5)]) (S' := [.int a4, .int (u.1 64 33), .ref 80]) (M' := sm g (wi (wi (wi u 77 ((u.1 64 33).toNatClampNeg) a1) 78 ((u.1 64 33).toNatClampNeg) a2) 79 ((u.1 64 33).toNatClampNeg) a3)) [pm_o (.aload_n 0), pm_of (.getfield 62) 12 22 2, pm_o (.iload 6), pm_o (.iload 4)] (by decide +kernel) rfl ?_
  obtain ⟨ho4, h⟩ := pm_ifs h
  refine pm_iast (by decide +kernel) rfl  (pm_ok_in ho4) ?_
  refine pm_blk (pc' := 47) (L' := [(6, .int (u.1 64 33)), (0, .ref 64), (1, .int a1), (2, .int a2), (3, .int a3), (4, .int a4), (5, .int a5)]) (S' := [.int a5, .int (u.1 64 33), .ref 81]) (M' := sm g (wi (wi (wi (wi u 77 ((u.1 64 33).toNatClampNeg) a1) 78 ((u.1 64 33).toNatClampNeg) a2) 79 ((u.1 64 33).toNatClampNeg) a3) 80 ((u.1 64 33).toNatClampNeg) a4)) [pm_o (.aload_n 0), pm_of (.getfield 65) 12 23 2, pm_o (.iload 6), pm_o (.iload 5)] (by decide +kernel) rfl ?_
  obtain ⟨ho5, h⟩ := pm_ifs h
  refine pm_iast (by decide +kernel) rfl  (pm_ok_in ho5) ?_
  refine pm_blk (pc' := 55) (L' := [(6, .int (u.1 64 33)), (0, .ref 64), (1, .int a1), (2, .int a2), (3, .int a3), (4, .int a4), (5, .int a5)]) (S' := [.int (-1), .int (u.1 64 33), .ref 82]) (M' := sm g (wi (wi (wi (wi (wi u 77 ((u.1 64 33).toNatClampNeg) a1) 78 ((u.1 64 33).toNatClampNeg) a2) 79 ((u.1 64 33).toNatClampNeg) a3) 80 ((u.1 64 33).toNatClampNeg) a4) 81 ((u.1 64 33).toNatClampNeg) a5)) [pm_o (.aload_n 0), pm_of (.getfield 68) 12 24 2, pm_o (.iload 6), pm_oi (.iconst (-1)) (-1)] (by decide +kernel) rfl ?_
  obtain ⟨ho6, h⟩ := pm_ifs h
  refine pm_iast (by decide +kernel) rfl  (pm_ok_in ho6) ?_
  refine pm_blk (pc' := 63) (L' := [(6, .int (u.1 64 33)), (0, .ref 64), (1, .int a1), (2, .int a2), (3, .int a3), (4, .int a4), (5, .int a5)]) (S' := [.int (-1), .int (u.1 64 33), .ref 83]) (M' := sm g (wi (wi (wi (wi (wi (wi u 77 ((u.1 64 33).toNatClampNeg) a1) 78 ((u.1 64 33).toNatClampNeg) a2) 79 ((u.1 64 33).toNatClampNeg) a3) 80 ((u.1 64 33).toNatClampNeg) a4) 81 ((u.1 64 33).toNatClampNeg) a5) 82 ((u.1 64 33).toNatClampNeg) (-1))) [pm_o (.aload_n 0), pm_of (.getfield 71) 12 25 2, pm_o (.iload 6), pm_oi (.iconst (-1)) (-1)] (by decide +kernel) rfl ?_
  obtain ⟨ho7, h⟩ := pm_ifs h
  refine pm_iast (by decide +kernel) rfl  (pm_ok_in ho7) ?_
  refine pm_blk (pc' := 71) (L' := [(6, .int (u.1 64 33)), (0, .ref 64), (1, .int a1), (2, .int a2), (3, .int a3), (4, .int a4), (5, .int a5)]) (S' := [.int 0, .int (u.1 64 33), .ref 84]) (M' := sm g (wi (wi (wi (wi (wi (wi (wi u 77 ((u.1 64 33).toNatClampNeg) a1) 78 ((u.1 64 33).toNatClampNeg) a2) 79 ((u.1 64 33).toNatClampNeg) a3) 80 ((u.1 64 33).toNatClampNeg) a4) 81 ((u.1 64 33).toNatClampNeg) a5) 82 ((u.1 64 33).toNatClampNeg) (-1)) 83 ((u.1 64 33).toNatClampNeg) (-1))) [pm_o (.aload_n 0), pm_of (.getfield 74) 12 26 2, pm_o (.iload 6), pm_oi (.iconst 0) 0] (by decide +kernel) rfl ?_
  obtain ⟨ho8, h⟩ := pm_ifs h
  refine pm_iast (by decide +kernel) rfl  (pm_ok_in ho8) ?_
  refine pm_blk (pc' := 79) (L' := [(6, .int (u.1 64 33)), (0, .ref 64), (1, .int a1), (2, .int a2), (3, .int a3), (4, .int a4), (5, .int a5)]) (S' := [.int (-1), .int (u.1 64 33), .ref 86]) (M' := sm g (wi (wi (wi (wi (wi (wi (wi (wi u 77 ((u.1 64 33).toNatClampNeg) a1) 78 ((u.1 64 33).toNatClampNeg) a2) 79 ((u.1 64 33).toNatClampNeg) a3) 80 ((u.1 64 33).toNatClampNeg) a4) 81 ((u.1 64 33).toNatClampNeg) a5) 82 ((u.1 64 33).toNatClampNeg) (-1)) 83 ((u.1 64 33).toNatClampNeg) (-1)) 84 ((u.1 64 33).toNatClampNeg) 0)) [pm_o (.aload_n 0), pm_of (.getfield 80) 12 28 2, pm_o (.iload 6), pm_oi (.iconst (-1)) (-1)] (by decide +kernel) rfl ?_
  obtain ⟨ho9, h⟩ := pm_ifs h
  refine pm_iast (by decide +kernel) rfl  (pm_ok_in ho9) ?_
  refine pm_blk (pc' := 87) (L' := [(6, .int (u.1 64 33)), (0, .ref 64), (1, .int a1), (2, .int a2), (3, .int a3), (4, .int a4), (5, .int a5)]) (S' := [.int (-1), .int (u.1 64 33), .ref 87]) (M' := sm g (wi (wi (wi (wi (wi (wi (wi (wi (wi u 77 ((u.1 64 33).toNatClampNeg) a1) 78 ((u.1 64 33).toNatClampNeg) a2) 79 ((u.1 64 33).toNatClampNeg) a3) 80 ((u.1 64 33).toNatClampNeg) a4) 81 ((u.1 64 33).toNatClampNeg) a5) 82 ((u.1 64 33).toNatClampNeg) (-1)) 83 ((u.1 64 33).toNatClampNeg) (-1)) 84 ((u.1 64 33).toNatClampNeg) 0) 86 ((u.1 64 33).toNatClampNeg) (-1))) [pm_o (.aload_n 0), pm_of (.getfield 83) 12 29 2, pm_o (.iload 6), pm_oi (.iconst (-1)) (-1)] (by decide +kernel) rfl ?_
  obtain ⟨ho10, h⟩ := pm_ifs h
  refine pm_iast (by decide +kernel) rfl  (pm_ok_in ho10) ?_
  refine pm_blk (pc' := 95) (L' := [(6, .int (u.1 64 33)), (0, .ref 64), (1, .int a1), (2, .int a2), (3, .int a3), (4, .int a4), (5, .int a5)]) (S' := [.int (-1), .int (u.1 64 33), .ref 88]) (M' := sm g (wi (wi (wi (wi (wi (wi (wi (wi (wi (wi u 77 ((u.1 64 33).toNatClampNeg) a1) 78 ((u.1 64 33).toNatClampNeg) a2) 79 ((u.1 64 33).toNatClampNeg) a3) 80 ((u.1 64 33).toNatClampNeg) a4) 81 ((u.1 64 33).toNatClampNeg) a5) 82 ((u.1 64 33).toNatClampNeg) (-1)) 83 ((u.1 64 33).toNatClampNeg) (-1)) 84 ((u.1 64 33).toNatClampNeg) 0) 86 ((u.1 64 33).toNatClampNeg) (-1)) 87 ((u.1 64 33).toNatClampNeg) (-1))) [pm_o (.aload_n 0), pm_of (.getfield 86) 12 30 2, pm_o (.iload 6), pm_oi (.iconst (-1)) (-1)] (by decide +kernel) rfl ?_
  obtain ⟨ho11, h⟩ := pm_ifs h
  refine pm_iast (by decide +kernel) rfl  (pm_ok_in ho11) ?_
  refine pm_blk (pc' := 103) (L' := [(6, .int (u.1 64 33)), (0, .ref 64), (1, .int a1), (2, .int a2), (3, .int a3), (4, .int a4), (5, .int a5)]) (S' := [.int 0, .int (u.1 64 33), .ref 89]) (M' := sm g (wi (wi (wi (wi (wi (wi (wi (wi (wi (wi (wi u 77 ((u.1 64 33).toNatClampNeg) a1) 78 ((u.1 64 33).toNatClampNeg) a2) 79 ((u.1 64 33).toNatClampNeg) a3) 80 ((u.1 64 33).toNatClampNeg) a4) 81 ((u.1 64 33).toNatClampNeg) a5) 82 ((u.1 64 33).toNatClampNeg) (-1)) 83 ((u.1 64 33).toNatClampNeg) (-1)) 84 ((u.1 64 33).toNatClampNeg) 0) 86 ((u.1 64 33).toNatClampNeg) (-1)) 87 ((u.1 64 33).toNatClampNeg) (-1)) 88 ((u.1 64 33).toNatClampNeg) (-1))) [pm_o (.aload_n 0), pm_of (.getfield 89) 12 31 2, pm_o (.iload 6), pm_oi (.iconst 0) 0] (by decide +kernel) rfl ?_
  obtain ⟨ho12, h⟩ := pm_ifs h
  refine pm_zast (by decide +kernel) rfl rfl (pm_ok_in ho12) ?_
  refine pm_blk (pc' := 111) (L' := [(6, .int (u.1 64 33)), (0, .ref 64), (1, .int a1), (2, .int a2), (3, .int a3), (4, .int a4), (5, .int a5)]) (S' := [.int 0, .int (u.1 64 33), .ref 112]) (M' := sm g (wi (wi (wi (wi (wi (wi (wi (wi (wi (wi (wi (wi u 77 ((u.1 64 33).toNatClampNeg) a1) 78 ((u.1 64 33).toNatClampNeg) a2) 79 ((u.1 64 33).toNatClampNeg) a3) 80 ((u.1 64 33).toNatClampNeg) a4) 81 ((u.1 64 33).toNatClampNeg) a5) 82 ((u.1 64 33).toNatClampNeg) (-1)) 83 ((u.1 64 33).toNatClampNeg) (-1)) 84 ((u.1 64 33).toNatClampNeg) 0) 86 ((u.1 64 33).toNatClampNeg) (-1)) 87 ((u.1 64 33).toNatClampNeg) (-1)) 88 ((u.1 64 33).toNatClampNeg) (-1)) 89 ((u.1 64 33).toNatClampNeg) 0)) [pm_o (.aload_n 0), pm_of (.getfield 158) 12 68 2, pm_o (.iload 6), pm_oi (.iconst 0) 0] (by decide +kernel) rfl ?_
  obtain ⟨ho13, h⟩ := pm_ifs h
  refine pm_zast (by decide +kernel) rfl rfl (pm_ok_in ho13) ?_
  refine pm_blk (pc' := 119) (L' := [(6, .int (u.1 64 33)), (0, .ref 64), (1, .int a1), (2, .int a2), (3, .int a3), (4, .int a4), (5, .int a5)]) (S' := [.int a3, .int (u.1 64 33), .ref 85]) (M' := sm g (wi (wi (wi (wi (wi (wi (wi (wi (wi (wi (wi (wi (wi u 77 ((u.1 64 33).toNatClampNeg) a1) 78 ((u.1 64 33).toNatClampNeg) a2) 79 ((u.1 64 33).toNatClampNeg) a3) 80 ((u.1 64 33).toNatClampNeg) a4) 81 ((u.1 64 33).toNatClampNeg) a5) 82 ((u.1 64 33).toNatClampNeg) (-1)) 83 ((u.1 64 33).toNatClampNeg) (-1)) 84 ((u.1 64 33).toNatClampNeg) 0) 86 ((u.1 64 33).toNatClampNeg) (-1)) 87 ((u.1 64 33).toNatClampNeg) (-1)) 88 ((u.1 64 33).toNatClampNeg) (-1)) 89 ((u.1 64 33).toNatClampNeg) 0) 112 ((u.1 64 33).toNatClampNeg) 0)) [pm_o (.aload_n 0), pm_of (.getfield 77) 12 27 2, pm_o (.iload 6), pm_o (.iload_n 3)] (by decide +kernel) rfl ?_
  refine pm_if_lt (off := 12) 131 (by decide +kernel) (by decide) (fun hc14 => ?_) (fun hc14 => ?_)
  · rw [if_pos hc14] at h
    refine pm_blk (pc' := 133) (L' := [(6, .int (u.1 64 33)), (0, .ref 64), (1, .int a1), (2, .int a2), (3, .int a3), (4, .int a4), (5, .int a5)]) (S' := [.int (u.1 64 33), .int (u.1 64 33), .ref 85]) (M' := sm g (wi (wi (wi (wi (wi (wi (wi (wi (wi (wi (wi (wi (wi u 77 ((u.1 64 33).toNatClampNeg) a1) 78 ((u.1 64 33).toNatClampNeg) a2) 79 ((u.1 64 33).toNatClampNeg) a3) 80 ((u.1 64 33).toNatClampNeg) a4) 81 ((u.1 64 33).toNatClampNeg) a5) 82 ((u.1 64 33).toNatClampNeg) (-1)) 83 ((u.1 64 33).toNatClampNeg) (-1)) 84 ((u.1 64 33).toNatClampNeg) 0) 86 ((u.1 64 33).toNatClampNeg) (-1)) 87 ((u.1 64 33).toNatClampNeg) (-1)) 88 ((u.1 64 33).toNatClampNeg) (-1)) 89 ((u.1 64 33).toNatClampNeg) 0) 112 ((u.1 64 33).toNatClampNeg) 0)) [pm_o (.iload 6)] (by decide +kernel) rfl ?_
    obtain ⟨ho15, h⟩ := pm_ifs h
    refine pm_iast (by decide +kernel) rfl  (pm_ok_in ho15) ?_
    refine pm_blk (pc' := 137) (L' := [(7, .int 0), (6, .int (u.1 64 33)), (0, .ref 64), (1, .int a1), (2, .int a2), (3, .int a3), (4, .int a4), (5, .int a5)]) (S' := []) (M' := sm g (wi (wi (wi (wi (wi (wi (wi (wi (wi (wi (wi (wi (wi (wi u 77 ((u.1 64 33).toNatClampNeg) a1) 78 ((u.1 64 33).toNatClampNeg) a2) 79 ((u.1 64 33).toNatClampNeg) a3) 80 ((u.1 64 33).toNatClampNeg) a4) 81 ((u.1 64 33).toNatClampNeg) a5) 82 ((u.1 64 33).toNatClampNeg) (-1)) 83 ((u.1 64 33).toNatClampNeg) (-1)) 84 ((u.1 64 33).toNatClampNeg) 0) 86 ((u.1 64 33).toNatClampNeg) (-1)) 87 ((u.1 64 33).toNatClampNeg) (-1)) 88 ((u.1 64 33).toNatClampNeg) (-1)) 89 ((u.1 64 33).toNatClampNeg) 0) 112 ((u.1 64 33).toNatClampNeg) 0) 85 ((u.1 64 33).toNatClampNeg) (u.1 64 33))) [pm_oi (.iconst 0) 0, pm_o (.istore 7)] (by decide +kernel) rfl ?_
    refine pm_loc [2, 1, 0] rfl ?_
    exact w_Md_node_137 l h0 D hT N (u.1 64 33) 0 (wi (wi (wi (wi (wi (wi (wi (wi (wi (wi (wi (wi (wi (wi u 77 ((u.1 64 33).toNatClampNeg) a1) 78 ((u.1 64 33).toNatClampNeg) a2) 79 ((u.1 64 33).toNatClampNeg) a3) 80 ((u.1 64 33).toNatClampNeg) a4) 81 ((u.1 64 33).toNatClampNeg) a5) 82 ((u.1 64 33).toNatClampNeg) (-1)) 83 ((u.1 64 33).toNatClampNeg) (-1)) 84 ((u.1 64 33).toNatClampNeg) 0) 86 ((u.1 64 33).toNatClampNeg) (-1)) 87 ((u.1 64 33).toNatClampNeg) (-1)) 88 ((u.1 64 33).toNatClampNeg) (-1)) 89 ((u.1 64 33).toNatClampNeg) 0) 112 ((u.1 64 33).toNatClampNeg) 0) 85 ((u.1 64 33).toNatClampNeg) (u.1 64 33)) h
  · rw [if_neg hc14] at h
    refine pm_blk (pc' := 127) (L' := [(6, .int (u.1 64 33)), (0, .ref 64), (1, .int a1), (2, .int a2), (3, .int a3), (4, .int a4), (5, .int a5)]) (S' := [.int a3, .ref 85, .int (u.1 64 33), .ref 85]) (M' := sm g (wi (wi (wi (wi (wi (wi (wi (wi (wi (wi (wi (wi (wi u 77 ((u.1 64 33).toNatClampNeg) a1) 78 ((u.1 64 33).toNatClampNeg) a2) 79 ((u.1 64 33).toNatClampNeg) a3) 80 ((u.1 64 33).toNatClampNeg) a4) 81 ((u.1 64 33).toNatClampNeg) a5) 82 ((u.1 64 33).toNatClampNeg) (-1)) 83 ((u.1 64 33).toNatClampNeg) (-1)) 84 ((u.1 64 33).toNatClampNeg) 0) 86 ((u.1 64 33).toNatClampNeg) (-1)) 87 ((u.1 64 33).toNatClampNeg) (-1)) 88 ((u.1 64 33).toNatClampNeg) (-1)) 89 ((u.1 64 33).toNatClampNeg) 0) 112 ((u.1 64 33).toNatClampNeg) 0)) [pm_o (.aload_n 0), pm_of (.getfield 77) 12 27 2, pm_o (.iload_n 3)] (by decide +kernel) rfl ?_
    obtain ⟨ho18, h⟩ := pm_ifs h
    refine pm_iald (by decide +kernel) rfl (pm_ok_in ho18) ?_
    refine pm_blk (pc' := 128) (L' := [(6, .int (u.1 64 33)), (0, .ref 64), (1, .int a1), (2, .int a2), (3, .int a3), (4, .int a4), (5, .int a5)]) (S' := [.int (u.1 85 a3.toNatClampNeg), .int (u.1 64 33), .ref 85]) (M' := sm g (wi (wi (wi (wi (wi (wi (wi (wi (wi (wi (wi (wi (wi u 77 ((u.1 64 33).toNatClampNeg) a1) 78 ((u.1 64 33).toNatClampNeg) a2) 79 ((u.1 64 33).toNatClampNeg) a3) 80 ((u.1 64 33).toNatClampNeg) a4) 81 ((u.1 64 33).toNatClampNeg) a5) 82 ((u.1 64 33).toNatClampNeg) (-1)) 83 ((u.1 64 33).toNatClampNeg) (-1)) 84 ((u.1 64 33).toNatClampNeg) 0) 86 ((u.1 64 33).toNatClampNeg) (-1)) 87 ((u.1 64 33).toNatClampNeg) (-1)) 88 ((u.1 64 33).toNatClampNeg) (-1)) 89 ((u.1 64 33).toNatClampNeg) 0) 112 ((u.1 64 33).toNatClampNeg) 0)) [] (by decide +kernel) rfl ?_
    refine pm_goto (off := 5) 133 (by decide +kernel) (by decide) ?_
    obtain ⟨ho19, h⟩ := pm_ifs h
    refine pm_iast (by decide +kernel) rfl  (pm_ok_in ho19) ?_
    refine pm_blk (pc' := 137) (L' := [(7, .int 0), (6, .int (u.1 64 33)), (0, .ref 64), (1, .int a1), (2, .int a2), (3, .int a3), (4, .int a4), (5, .int a5)]) (S' := []) (M' := sm g (wi (wi (wi (wi (wi (wi (wi (wi (wi (wi (wi (wi (wi (wi u 77 ((u.1 64 33).toNatClampNeg) a1) 78 ((u.1 64 33).toNatClampNeg) a2) 79 ((u.1 64 33).toNatClampNeg) a3) 80 ((u.1 64 33).toNatClampNeg) a4) 81 ((u.1 64 33).toNatClampNeg) a5) 82 ((u.1 64 33).toNatClampNeg) (-1)) 83 ((u.1 64 33).toNatClampNeg) (-1)) 84 ((u.1 64 33).toNatClampNeg) 0) 86 ((u.1 64 33).toNatClampNeg) (-1)) 87 ((u.1 64 33).toNatClampNeg) (-1)) 88 ((u.1 64 33).toNatClampNeg) (-1)) 89 ((u.1 64 33).toNatClampNeg) 0) 112 ((u.1 64 33).toNatClampNeg) 0) 85 ((u.1 64 33).toNatClampNeg) (u.1 85 a3.toNatClampNeg))) [pm_oi (.iconst 0) 0, pm_o (.istore 7)] (by decide +kernel) rfl ?_
    refine pm_loc [2, 1, 0] rfl ?_
    exact w_Md_node_137 l h0 D hT N (u.1 64 33) 0 (wi (wi (wi (wi (wi (wi (wi (wi (wi (wi (wi (wi (wi (wi u 77 ((u.1 64 33).toNatClampNeg) a1) 78 ((u.1 64 33).toNatClampNeg) a2) 79 ((u.1 64 33).toNatClampNeg) a3) 80 ((u.1 64 33).toNatClampNeg) a4) 81 ((u.1 64 33).toNatClampNeg) a5) 82 ((u.1 64 33).toNatClampNeg) (-1)) 83 ((u.1 64 33).toNatClampNeg) (-1)) 84 ((u.1 64 33).toNatClampNeg) 0) 86 ((u.1 64 33).toNatClampNeg) (-1)) 87 ((u.1 64 33).toNatClampNeg) (-1)) 88 ((u.1 64 33).toNatClampNeg) (-1)) 89 ((u.1 64 33).toNatClampNeg) 0) 112 ((u.1 64 33).toNatClampNeg) 0) 85 ((u.1 64 33).toNatClampNeg) (u.1 85 a3.toNatClampNeg)) h
def K_Md_typeTask_68 (N : Nat) (g : pm_s) (u : pm_J) : Option (pm_J) := (F_Md_later 2 0 0 g u).bind fun q3 => (F_Md_later 4 0 0 g q3).bind fun q4 => some q4
set_option maxHeartbeats 4000000 in
set_option maxRecDepth 100000 in
theorem w_Md_typeTask_68 (l : Launch) (h0 : Nat) (D : pm_D) {g : pm_s} (hT : sh_T g) {N : Nat} {u0 : pm_J} {out : pm_J} {p : Program} {e : Env} {R : Room} {s : State} {m : MethodId} {args : Array Value} {below : List Frame} {meth : Method} {c : Code} : ∀  (u : pm_J), K_Md_typeTask_68 N g u = some out → pm_V (p, l, e, R, s, m, args, below, meth, c) m_Md_typeTask h0 D (g.1, g.2.1, g.1, g.2.1, 3) (pm_E (p, l, e, R, s, m, args, below, meth, c) h0 D (sm g u0) none (sm g out)) 68 [(0, .ref 64)] [] (sm g u) := by
    intro u h
    unfold K_Md_typeTask_68 at h
    refine pm_blk (pc' := 72) (L' := [(0, .ref 64)]) (S' := [.int 0, .int 0, .int 2, .ref 64]) (M' := sm g u) [pm_o (.aload_n 0), pm_oi (.iconst 2) 2, pm_oi (.iconst 0) 0, pm_oi (.iconst 0) 0] (by decide +kernel) rfl ?_
    obtain ⟨q3, hq3, h⟩ := pm_bd h
    refine pm_cV (idx := 383) m_Md_later (c_Md_later l h0 D hT hq3) (As := [.int 2, .int 0, .int 0]) (S0 := []) rfl (by decide +kernel) k_Md_later l_Md_383 (Nat.le_of_ble_eq_true rfl) (Nat.le_of_ble_eq_true rfl) (Nat.le_refl _) (Nat.le_refl _) ?_
    refine pm_blk (pc' := 79) (L' := [(0, .ref 64)]) (S' := [.int 0, .int 0, .int 4, .ref 64]) (M' := sm g q3) [pm_o (.aload_n 0), pm_oi (.iconst 4) 4, pm_oi (.iconst 0) 0, pm_oi (.iconst 0) 0] (by decide +kernel) rfl ?_
    obtain ⟨q4, hq4, h⟩ := pm_bd h
    refine pm_cV (idx := 383) m_Md_later (c_Md_later l h0 D hT hq4) (As := [.int 4, .int 0, .int 0]) (S0 := []) rfl (by decide +kernel) k_Md_later l_Md_383 (Nat.le_of_ble_eq_true rfl) (Nat.le_of_ble_eq_true rfl) (Nat.le_refl _) (Nat.le_refl _) ?_
    refine pm_blk (pc' := 82) (L' := [(0, .ref 64)]) (S' := []) (M' := sm g q4) [] (by decide +kernel) rfl ?_
    refine pm_goto (off := 385) 467 (by decide +kernel) (by decide) ?_
    have h9 := Option.some.inj h
    subst h9
    exact pm_retv rfl (by decide +kernel) rfl rfl
def K_Md_typeTask_290 (N : Nat) (g : pm_s) (x2 : Int32) (t0 : Int32) (u : pm_J) : Option (pm_J) := (F_Md_giveType t0 g u).bind fun q25 => (F_Md_later 5 x2 0 g (wi q25 64 51 ((q25.1 64 51) + 1))).bind fun q26 => some q26
set_option maxHeartbeats 4000000 in
set_option maxRecDepth 100000 in
theorem w_Md_typeTask_290 (l : Launch) (h0 : Nat) (D : pm_D) {g : pm_s} (hT : sh_T g) {N : Nat} {u0 : pm_J} {out : pm_J} {p : Program} {e : Env} {R : Room} {s : State} {m : MethodId} {args : Array Value} {below : List Frame} {meth : Method} {c : Code} : ∀ (x2 : Int32) (t0 : Int32) (u : pm_J), K_Md_typeTask_290 N g x2 t0 u = some out → pm_V (p, l, e, R, s, m, args, below, meth, c) m_Md_typeTask h0 D (g.1, g.2.1, g.1, g.2.1, 3) (pm_E (p, l, e, R, s, m, args, below, meth, c) h0 D (sm g u0) none (sm g out)) 290 [(0, .ref 64), (2, .int x2)] [.int t0, .ref 64] (sm g u) := by
    intro x2 t0 u h
    unfold K_Md_typeTask_290 at h
    obtain ⟨q25, hq25, h⟩ := pm_bd h
    refine pm_cV (idx := 391) m_Md_giveType (c_Md_giveType l h0 D hT hq25) (As := [.int t0]) (S0 := []) rfl (by decide +kernel) k_Md_giveType l_Md_391 (Nat.le_of_ble_eq_true rfl) (Nat.le_of_ble_eq_true rfl) (Nat.le_refl _) (Nat.le_refl _) ?_
    refine pm_blk (pc' := 307) (L' := [(0, .ref 64), (2, .int x2)]) (S' := [.int 0, .int x2, .int 5, .ref 64]) (M' := sm g (wi q25 64 51 ((q25.1 64 51) + 1))) [pm_o (.aload_n 0), pm_o .dup, pm_of (.getfield 352) 12 51 0, pm_oi (.iconst 1) 1, pm_o .iadd, pm_of (.putfield 352) 12 51 0, pm_o (.aload_n 0), pm_oi (.iconst 5) 5, pm_o (.iload_n 2), pm_oi (.iconst 0) 0] (by decide +kernel) rfl ?_
    obtain ⟨q26, hq26, h⟩ := pm_bd h
    refine pm_cV (idx := 383) m_Md_later (c_Md_later l h0 D hT hq26) (As := [.int 5, .int x2, .int 0]) (S0 := []) rfl (by decide +kernel) k_Md_later l_Md_383 (Nat.le_of_ble_eq_true rfl) (Nat.le_of_ble_eq_true rfl) (Nat.le_refl _) (Nat.le_refl _) ?_
    refine pm_blk (pc' := 310) (L' := [(0, .ref 64), (2, .int x2)]) (S' := []) (M' := sm g q26) [] (by decide +kernel) rfl ?_
    refine pm_goto (off := 157) 467 (by decide +kernel) (by decide) ?_
    have h9 := Option.some.inj h
    subst h9
    exact pm_retv rfl (by decide +kernel) rfl rfl
def K_Md_typeTask_233 (N : Nat) (g : pm_s) (x2 : Int32) (u : pm_J) : Option (pm_J) := if pm_ok (u.1 64 51) 902 = true then if (u.1 66 ((u.1 64 51).toNatClampNeg)) = 2 then K_Md_typeTask_290 N g x2 0 (wi u 64 63 ((u.1 64 63) + 1)) else if pm_ok (u.1 64 51) 902 = true then if (u.1 66 ((u.1 64 51).toNatClampNeg)) = 3 then K_Md_typeTask_290 N g x2 1 (wi u 64 63 ((u.1 64 63) + 1)) else if pm_ok (u.1 64 51) 902 = true then K_Md_typeTask_290 N g x2 (2 + ((u.2 69 ((u.1 64 51).toNatClampNeg)).toInt32)) (wi u 64 63 ((u.1 64 63) + 1)) else none else none else none
set_option maxHeartbeats 4000000 in
set_option maxRecDepth 100000 in
theorem w_Md_typeTask_233 (l : Launch) (h0 : Nat) (D : pm_D) {g : pm_s} (hT : sh_T g) {N : Nat} {u0 : pm_J} {out : pm_J} {p : Program} {e : Env} {R : Room} {s : State} {m : MethodId} {args : Array Value} {below : List Frame} {meth : Method} {c : Code} : ∀ (x2 : Int32) (u : pm_J), K_Md_typeTask_233 N g x2 u = some out → pm_V (p, l, e, R, s, m, args, below, meth, c) m_Md_typeTask h0 D (g.1, g.2.1, g.1, g.2.1, 3) (pm_E (p, l, e, R, s, m, args, below, meth, c) h0 D (sm g u0) none (sm g out)) 233 [(0, .ref 64), (2, .int x2)] [] (sm g u) := by
    intro x2 u h
    unfold K_Md_typeTask_233 at h
    refine pm_blk (pc' := 252) (L' := [(0, .ref 64), (2, .int x2)]) (S' := [.int (u.1 64 51), .ref 66, .ref 64]) (M' := sm g (wi u 64 63 ((u.1 64 63) + 1))) [pm_o (.aload_n 0), pm_o .dup, pm_of (.getfield 394) 12 63 0, pm_oi (.iconst 1) 1, pm_o .iadd, pm_of (.putfield 394) 12 63 0, pm_o (.aload_n 0), pm_o (.aload_n 0), pm_of (.getfield 17) 12 6 2, pm_o (.aload_n 0), pm_of (.getfield 352) 12 51 0] (by decide +kernel) rfl ?_
    obtain ⟨ho20, h⟩ := pm_ifs h
    refine pm_iald (by decide +kernel) rfl (pm_ok_in ho20) ?_
    refine pm_blk (pc' := 254) (L' := [(0, .ref 64), (2, .int x2)]) (S' := [.int 2, .int (u.1 66 ((u.1 64 51).toNatClampNeg)), .ref 64]) (M' := sm g (wi u 64 63 ((u.1 64 63) + 1))) [pm_oi (.iconst 2) 2] (by decide +kernel) rfl ?_
    refine pm_ic_ne (off := 7) 261 (by decide +kernel) (by decide) (fun hc21 => ?_) (fun hc21 => ?_)
    · rw [if_neg hc21] at h
      refine pm_blk (pc' := 269) (L' := [(0, .ref 64), (2, .int x2)]) (S' := [.int (u.1 64 51), .ref 66, .ref 64]) (M' := sm g (wi u 64 63 ((u.1 64 63) + 1))) [pm_o (.aload_n 0), pm_of (.getfield 17) 12 6 2, pm_o (.aload_n 0), pm_of (.getfield 352) 12 51 0] (by decide +kernel) rfl ?_
      obtain ⟨ho22, h⟩ := pm_ifs h
      refine pm_iald (by decide +kernel) rfl (pm_ok_in ho22) ?_
      refine pm_blk (pc' := 271) (L' := [(0, .ref 64), (2, .int x2)]) (S' := [.int 3, .int (u.1 66 ((u.1 64 51).toNatClampNeg)), .ref 64]) (M' := sm g (wi u 64 63 ((u.1 64 63) + 1))) [pm_oi (.iconst 3) 3] (by decide +kernel) rfl ?_
      refine pm_ic_ne (off := 7) 278 (by decide +kernel) (by decide) (fun hc23 => ?_) (fun hc23 => ?_)
      · rw [if_neg hc23] at h
        refine pm_blk (pc' := 287) (L' := [(0, .ref 64), (2, .int x2)]) (S' := [.int (u.1 64 51), .ref 69, .int 2, .ref 64]) (M' := sm g (wi u 64 63 ((u.1 64 63) + 1))) [pm_oi (.iconst 2) 2, pm_o (.aload_n 0), pm_of (.getfield 26) 12 9 2, pm_o (.aload_n 0), pm_of (.getfield 352) 12 51 0] (by decide +kernel) rfl ?_
        obtain ⟨ho24, h⟩ := pm_ifs h
        refine pm_lald (by decide +kernel) rfl (pm_ok_in ho24) ?_
        refine pm_blk (pc' := 290) (L' := [(0, .ref 64), (2, .int x2)]) (S' := [.int (2 + ((u.2 69 ((u.1 64 51).toNatClampNeg)).toInt32)), .ref 64]) (M' := sm g (wi u 64 63 ((u.1 64 63) + 1))) [pm_o .l2i, pm_o .iadd] (by decide +kernel) rfl ?_
        refine pm_loc [0, 1] rfl ?_
        exact w_Md_typeTask_290 l h0 D hT x2 (2 + ((u.2 69 ((u.1 64 51).toNatClampNeg)).toInt32)) (wi u 64 63 ((u.1 64 63) + 1)) h
      · rw [if_pos hc23] at h
        refine pm_blk (pc' := 275) (L' := [(0, .ref 64), (2, .int x2)]) (S' := [.int 1, .ref 64]) (M' := sm g (wi u 64 63 ((u.1 64 63) + 1))) [pm_oi (.iconst 1) 1] (by decide +kernel) rfl ?_
        refine pm_goto (off := 15) 290 (by decide +kernel) (by decide) ?_
        refine pm_loc [0, 1] rfl ?_
        exact w_Md_typeTask_290 l h0 D hT x2 1 (wi u 64 63 ((u.1 64 63) + 1)) h
    · rw [if_pos hc21] at h
      refine pm_blk (pc' := 258) (L' := [(0, .ref 64), (2, .int x2)]) (S' := [.int 0, .ref 64]) (M' := sm g (wi u 64 63 ((u.1 64 63) + 1))) [pm_oi (.iconst 0) 0] (by decide +kernel) rfl ?_
      refine pm_goto (off := 32) 290 (by decide +kernel) (by decide) ?_
      refine pm_loc [0, 1] rfl ?_
      exact w_Md_typeTask_290 l h0 D hT x2 0 (wi u 64 63 ((u.1 64 63) + 1)) h
def K_Md_typeTask_215 (N : Nat) (g : pm_s) (x2 : Int32) (u : pm_J) : Option (pm_J) := if (u.1 64 63) = 100 then (F_Md_stop 4 (u.1 64 51) g u).bind fun q27 => K_Md_typeTask_233 N g x2 q27 else K_Md_typeTask_233 N g x2 u
set_option maxHeartbeats 4000000 in
set_option maxRecDepth 100000 in
theorem w_Md_typeTask_215 (l : Launch) (h0 : Nat) (D : pm_D) {g : pm_s} (hT : sh_T g) {N : Nat} {u0 : pm_J} {out : pm_J} {p : Program} {e : Env} {R : Room} {s : State} {m : MethodId} {args : Array Value} {below : List Frame} {meth : Method} {c : Code} : ∀ (x2 : Int32) (u : pm_J), K_Md_typeTask_215 N g x2 u = some out → pm_V (p, l, e, R, s, m, args, below, meth, c) m_Md_typeTask h0 D (g.1, g.2.1, g.1, g.2.1, 3) (pm_E (p, l, e, R, s, m, args, below, meth, c) h0 D (sm g u0) none (sm g out)) 215 [(0, .ref 64), (2, .int x2)] [] (sm g u) := by
    intro x2 u h
    unfold K_Md_typeTask_215 at h
    refine pm_blk (pc' := 221) (L' := [(0, .ref 64), (2, .int x2)]) (S' := [.int 100, .int (u.1 64 63)]) (M' := sm g u) [pm_o (.aload_n 0), pm_of (.getfield 394) 12 63 0, pm_oi (.bipush 100) 100] (by decide +kernel) rfl ?_
    refine pm_ic_ne (off := 12) 233 (by decide +kernel) (by decide) (fun hc19 => ?_) (fun hc19 => ?_)
    · rw [if_neg hc19] at h
      refine pm_loc [0, 1] rfl ?_
      exact w_Md_typeTask_233 l h0 D hT x2 u h
    · rw [if_pos hc19] at h
      refine pm_blk (pc' := 230) (L' := [(0, .ref 64), (2, .int x2)]) (S' := [.int (u.1 64 51), .int 4, .ref 64]) (M' := sm g u) [pm_o (.aload_n 0), pm_oi (.iconst 4) 4, pm_o (.aload_n 0), pm_of (.getfield 352) 12 51 0] (by decide +kernel) rfl ?_
      obtain ⟨q27, hq27, h⟩ := pm_bd h
      refine pm_cV (idx := 355) m_Md_stop (c_Md_stop l h0 D hT hq27) (As := [.int 4, .int (u.1 64 51)]) (S0 := []) rfl (by decide +kernel) k_Md_stop l_Md_355 (Nat.le_of_ble_eq_true rfl) (Nat.le_of_ble_eq_true rfl) (Nat.le_refl _) (Nat.le_refl _) ?_
      refine pm_blk (pc' := 233) (L' := [(0, .ref 64), (2, .int x2)]) (S' := []) (M' := sm g q27) [] (by decide +kernel) rfl ?_
      refine pm_loc [0, 1] rfl ?_
      exact w_Md_typeTask_233 l h0 D hT x2 q27 h
def K_Md_typeTask_403 (N : Nat) (g : pm_s) (x2 : Int32) (u : pm_J) : Option (pm_J) := (F_Md_later 6 0 0 g (wi u 64 51 ((u.1 64 51) + 1))).bind fun q42 => (F_Md_later 4 (x2 + 1) 0 g q42).bind fun q43 => some q43
set_option maxHeartbeats 4000000 in
set_option maxRecDepth 100000 in
theorem w_Md_typeTask_403 (l : Launch) (h0 : Nat) (D : pm_D) {g : pm_s} (hT : sh_T g) {N : Nat} {u0 : pm_J} {out : pm_J} {p : Program} {e : Env} {R : Room} {s : State} {m : MethodId} {args : Array Value} {below : List Frame} {meth : Method} {c : Code} : ∀ (x2 : Int32) (u : pm_J), K_Md_typeTask_403 N g x2 u = some out → pm_V (p, l, e, R, s, m, args, below, meth, c) m_Md_typeTask h0 D (g.1, g.2.1, g.1, g.2.1, 3) (pm_E (p, l, e, R, s, m, args, below, meth, c) h0 D (sm g u0) none (sm g out)) 403 [(0, .ref 64), (2, .int x2)] [] (sm g u) := by
    intro x2 u h
    unfold K_Md_typeTask_403 at h
    refine pm_blk (pc' := 418) (L' := [(0, .ref 64), (2, .int x2)]) (S' := [.int 0, .int 0, .int 6, .ref 64]) (M' := sm g (wi u 64 51 ((u.1 64 51) + 1))) [pm_o (.aload_n 0), pm_o .dup, pm_of (.getfield 352) 12 51 0, pm_oi (.iconst 1) 1, pm_o .iadd, pm_of (.putfield 352) 12 51 0, pm_o (.aload_n 0), pm_oi (.bipush 6) 6, pm_oi (.iconst 0) 0, pm_oi (.iconst 0) 0] (by decide +kernel) rfl ?_
    obtain ⟨q42, hq42, h⟩ := pm_bd h
    refine pm_cV (idx := 383) m_Md_later (c_Md_later l h0 D hT hq42) (As := [.int 6, .int 0, .int 0]) (S0 := []) rfl (by decide +kernel) k_Md_later l_Md_383 (Nat.le_of_ble_eq_true rfl) (Nat.le_of_ble_eq_true rfl) (Nat.le_refl _) (Nat.le_refl _) ?_
    refine pm_blk (pc' := 427) (L' := [(0, .ref 64), (2, .int x2)]) (S' := [.int 0, .int (x2 + 1), .int 4, .ref 64]) (M' := sm g q42) [pm_o (.aload_n 0), pm_oi (.iconst 4) 4, pm_o (.iload_n 2), pm_oi (.iconst 1) 1, pm_o .iadd, pm_oi (.iconst 0) 0] (by decide +kernel) rfl ?_
    obtain ⟨q43, hq43, h⟩ := pm_bd h
    refine pm_cV (idx := 383) m_Md_later (c_Md_later l h0 D hT hq43) (As := [.int 4, .int (x2 + 1), .int 0]) (S0 := []) rfl (by decide +kernel) k_Md_later l_Md_383 (Nat.le_of_ble_eq_true rfl) (Nat.le_of_ble_eq_true rfl) (Nat.le_refl _) (Nat.le_refl _) ?_
    refine pm_blk (pc' := 430) (L' := [(0, .ref 64), (2, .int x2)]) (S' := []) (M' := sm g q43) [] (by decide +kernel) rfl ?_
    refine pm_goto (off := 37) 467 (by decide +kernel) (by decide) ?_
    have h9 := Option.some.inj h
    subst h9
    exact pm_retv rfl (by decide +kernel) rfl rfl
def F_Md_typeTask (N : Nat) (a1 : Int32) (a2 : Int32) (g : pm_s) (u : pm_J) : Option (pm_J) := if a1 = 1 then if ((u.1 64 62) + 1) ≤ 20 then K_Md_typeTask_68 N g  (wi u 64 62 ((u.1 64 62) + 1)) else (F_Md_stop 3 (u.1 64 51) g (wi u 64 62 ((u.1 64 62) + 1))).bind fun q5 => K_Md_typeTask_68 N g  q5 else if a1 = 2 then if pm_ok (u.1 64 51) 902 = true then if (u.1 66 ((u.1 64 51).toNatClampNeg)) = 20 then (F_Md_later 3 0 0 g (wi u 64 51 ((u.1 64 51) + 1))).bind fun q9 => (F_Md_later 1 0 0 g q9).bind fun q10 => some q10 else some (wi u 64 62 ((u.1 64 62) - 1)) else none else if a1 = 3 then (F_Md_takeType g (wi u 64 62 ((u.1 64 62) - 1))).bind fun q12 => (F_Md_takeType g q12.2).bind fun q13 => (F_Md_typeOf N 1 q13.1 q12.1 g q13.2).bind fun q14 => (F_Md_giveType q14.1 g q14.2).bind fun q15 => some q15 else if a1 = 4 then if pm_ok (u.1 64 51) 902 = true then if (u.1 66 ((u.1 64 51).toNatClampNeg)) = 2 then K_Md_typeTask_215 N g a2 u else if pm_ok (u.1 64 51) 902 = true then if (u.1 66 ((u.1 64 51).toNatClampNeg)) = 3 then K_Md_typeTask_215 N g a2 u else if pm_ok (u.1 64 51) 902 = true then if (u.1 66 ((u.1 64 51).toNatClampNeg)) = 14 then K_Md_typeTask_215 N g a2 u else if pm_ok (u.1 64 51) 902 = true then if (u.1 66 ((u.1 64 51).toNatClampNeg)) = 15 then (F_Md_later 5 a2 0 g (wi u 64 51 ((u.1 64 51) + 1))).bind fun q35 => (F_Md_later 7 0 0 g q35).bind fun q36 => (F_Md_later 1 0 0 g q36).bind fun q37 => some q37 else (F_Md_stop 2 (u.1 64 51) g u).bind fun q34 => some q34 else none else none else none else none else if a1 = 5 then if pm_ok (u.1 64 51) 902 = true then if (u.1 66 ((u.1 64 51).toNatClampNeg)) = 22 then if a2 = 8 then (F_Md_stop 3 (u.1 64 51) g u).bind fun q44 => K_Md_typeTask_403 N g a2 q44 else K_Md_typeTask_403 N g a2 u else some u else none else if a1 = 6 then (F_Md_takeType g u).bind fun q46 => (F_Md_takeType g q46.2).bind fun q47 => (F_Md_typeOf N 0 q47.1 q46.1 g q47.2).bind fun q48 => (F_Md_giveType q48.1 g q48.2).bind fun q49 => some q49 else (F_Md_expect N 16 g u).bind fun q50 => some q50
set_option maxHeartbeats 4000000 in
set_option maxRecDepth 100000 in
theorem c_Md_typeTask (l : Launch) (h0 : Nat) (D : pm_D) {g : pm_s} {u : pm_J} (hT : sh_T g) {N : Nat} {a1 : Int32} {a2 : Int32} {out : pm_J} (h : F_Md_typeTask N a1 a2 g u = some out) : pm_C l h0 D m_Md_typeTask (3) [.ref 64, .int a1, .int a2] (sm g u) none (sm g out) := by
  unfold F_Md_typeTask at h
  refine pm_met (by decide +kernel) (Nat.le_of_ble_eq_true rfl) (Nat.le_refl _) (Nat.le_refl _) ?_
  intro p e R s m args below meth c
  refine pm_blk (pc' := 1) (L' := [(0, .ref 64), (1, .int a1), (2, .int a2)]) (S' := [.int a1]) (M' := sm g u) [pm_o (.iload_n 1)] (by decide +kernel) rfl ?_
  refine pm_tsw (dflt := 460) (lo := 1) (hi := 6) (offs := #[39, 84, 138, 174, 373, 432]) (len := 39) [(1, 40), (2, 85), (3, 139), (4, 175), (5, 374), (6, 433)] 461 (by decide +kernel) (by decide +kernel) ?_
  by_cases hs1 : a1 = 1
  · rw [if_pos hs1] at h
    rw [pm_sw_pos hs1]
    refine pm_blk (pc' := 56) (L' := [(0, .ref 64), (1, .int a1), (2, .int a2)]) (S' := [.int 20, .int ((u.1 64 62) + 1)]) (M' := sm g (wi u 64 62 ((u.1 64 62) + 1))) [pm_o (.aload_n 0), pm_o .dup, pm_of (.getfield 380) 12 62 0, pm_oi (.iconst 1) 1, pm_o .iadd, pm_of (.putfield 380) 12 62 0, pm_o (.aload_n 0), pm_of (.getfield 380) 12 62 0, pm_oi (.bipush 20) 20] (by decide +kernel) rfl ?_
    refine pm_ic_le (off := 12) 68 (by decide +kernel) (by decide) (fun hc2 => ?_) (fun hc2 => ?_)
    · rw [if_pos hc2] at h
      refine pm_loc [0] rfl ?_
      exact w_Md_typeTask_68 l h0 D hT  (wi u 64 62 ((u.1 64 62) + 1)) h
    · rw [if_neg hc2] at h
      refine pm_blk (pc' := 65) (L' := [(0, .ref 64), (1, .int a1), (2, .int a2)]) (S' := [.int (u.1 64 51), .int 3, .ref 64]) (M' := sm g (wi u 64 62 ((u.1 64 62) + 1))) [pm_o (.aload_n 0), pm_oi (.iconst 3) 3, pm_o (.aload_n 0), pm_of (.getfield 352) 12 51 0] (by decide +kernel) rfl ?_
      obtain ⟨q5, hq5, h⟩ := pm_bd h
      refine pm_cV (idx := 355) m_Md_stop (c_Md_stop l h0 D hT hq5) (As := [.int 3, .int (u.1 64 51)]) (S0 := []) rfl (by decide +kernel) k_Md_stop l_Md_355 (Nat.le_of_ble_eq_true rfl) (Nat.le_of_ble_eq_true rfl) (Nat.le_refl _) (Nat.le_refl _) ?_
      refine pm_blk (pc' := 68) (L' := [(0, .ref 64), (1, .int a1), (2, .int a2)]) (S' := []) (M' := sm g q5) [] (by decide +kernel) rfl ?_
      refine pm_loc [0] rfl ?_
      exact w_Md_typeTask_68 l h0 D hT  q5 h
  rw [if_neg hs1] at h
  rw [pm_sw_neg hs1]
  by_cases hs6 : a1 = 2
  · rw [if_pos hs6] at h
    rw [pm_sw_pos hs6]
    refine pm_blk (pc' := 93) (L' := [(0, .ref 64), (1, .int a1), (2, .int a2)]) (S' := [.int (u.1 64 51), .ref 66]) (M' := sm g u) [pm_o (.aload_n 0), pm_of (.getfield 17) 12 6 2, pm_o (.aload_n 0), pm_of (.getfield 352) 12 51 0] (by decide +kernel) rfl ?_
    obtain ⟨ho7, h⟩ := pm_ifs h
    refine pm_iald (by decide +kernel) rfl (pm_ok_in ho7) ?_
    refine pm_blk (pc' := 96) (L' := [(0, .ref 64), (1, .int a1), (2, .int a2)]) (S' := [.int 20, .int (u.1 66 ((u.1 64 51).toNatClampNeg))]) (M' := sm g u) [pm_oi (.bipush 20) 20] (by decide +kernel) rfl ?_
    refine pm_ic_ne (off := 30) 126 (by decide +kernel) (by decide) (fun hc8 => ?_) (fun hc8 => ?_)
    · rw [if_neg hc8] at h
      refine pm_blk (pc' := 136) (L' := [(0, .ref 64), (1, .int a1), (2, .int a2)]) (S' := []) (M' := sm g (wi u 64 62 ((u.1 64 62) - 1))) [pm_o (.aload_n 0), pm_o .dup, pm_of (.getfield 380) 12 62 0, pm_oi (.iconst 1) 1, pm_o .isub, pm_of (.putfield 380) 12 62 0] (by decide +kernel) rfl ?_
      refine pm_goto (off := 331) 467 (by decide +kernel) (by decide) ?_
      have h9 := Option.some.inj h
      subst h9
      exact pm_retv rfl (by decide +kernel) rfl rfl
    · rw [if_pos hc8] at h
      refine pm_blk (pc' := 113) (L' := [(0, .ref 64), (1, .int a1), (2, .int a2)]) (S' := [.int 0, .int 0, .int 3, .ref 64]) (M' := sm g (wi u 64 51 ((u.1 64 51) + 1))) [pm_o (.aload_n 0), pm_o .dup, pm_of (.getfield 352) 12 51 0, pm_oi (.iconst 1) 1, pm_o .iadd, pm_of (.putfield 352) 12 51 0, pm_o (.aload_n 0), pm_oi (.iconst 3) 3, pm_oi (.iconst 0) 0, pm_oi (.iconst 0) 0] (by decide +kernel) rfl ?_
      obtain ⟨q9, hq9, h⟩ := pm_bd h
      refine pm_cV (idx := 383) m_Md_later (c_Md_later l h0 D hT hq9) (As := [.int 3, .int 0, .int 0]) (S0 := []) rfl (by decide +kernel) k_Md_later l_Md_383 (Nat.le_of_ble_eq_true rfl) (Nat.le_of_ble_eq_true rfl) (Nat.le_refl _) (Nat.le_refl _) ?_
      refine pm_blk (pc' := 120) (L' := [(0, .ref 64), (1, .int a1), (2, .int a2)]) (S' := [.int 0, .int 0, .int 1, .ref 64]) (M' := sm g q9) [pm_o (.aload_n 0), pm_oi (.iconst 1) 1, pm_oi (.iconst 0) 0, pm_oi (.iconst 0) 0] (by decide +kernel) rfl ?_
      obtain ⟨q10, hq10, h⟩ := pm_bd h
      refine pm_cV (idx := 383) m_Md_later (c_Md_later l h0 D hT hq10) (As := [.int 1, .int 0, .int 0]) (S0 := []) rfl (by decide +kernel) k_Md_later l_Md_383 (Nat.le_of_ble_eq_true rfl) (Nat.le_of_ble_eq_true rfl) (Nat.le_refl _) (Nat.le_refl _) ?_
      refine pm_blk (pc' := 123) (L' := [(0, .ref 64), (1, .int a1), (2, .int a2)]) (S' := []) (M' := sm g q10) [] (by decide +kernel) rfl ?_
      refine pm_goto (off := 344) 467 (by decide +kernel) (by decide) ?_
      have h9 := Option.some.inj h
      subst h9
      exact pm_retv rfl (by decide +kernel) rfl rfl
  rw [if_neg hs6] at h
  rw [pm_sw_neg hs6]
  by_cases hs11 : a1 = 3
  · rw [if_pos hs11] at h
    rw [pm_sw_pos hs11]
    refine pm_blk (pc' := 150) (L' := [(0, .ref 64), (1, .int a1), (2, .int a2)]) (S' := [.ref 64]) (M' := sm g (wi u 64 62 ((u.1 64 62) - 1))) [pm_o (.aload_n 0), pm_o .dup, pm_of (.getfield 380) 12 62 0, pm_oi (.iconst 1) 1, pm_o .isub, pm_of (.putfield 380) 12 62 0, pm_o (.aload_n 0)] (by decide +kernel) rfl ?_
    obtain ⟨q12, hq12, h⟩ := pm_bd h
    refine pm_cV (idx := 387) m_Md_takeType (c_Md_takeType l h0 D hT hq12) (As := []) (S0 := []) rfl (by decide +kernel) k_Md_takeType l_Md_387 (Nat.le_of_ble_eq_true rfl) (Nat.le_of_ble_eq_true rfl) (Nat.le_refl _) (Nat.le_refl _) ?_
    refine pm_blk (pc' := 155) (L' := [(3, .int q12.1), (0, .ref 64), (1, .int a1), (2, .int a2)]) (S' := [.ref 64]) (M' := sm g q12.2) [pm_o (.istore_n 3), pm_o (.aload_n 0)] (by decide +kernel) rfl ?_
    obtain ⟨q13, hq13, h⟩ := pm_bd h
    refine pm_cV (idx := 387) m_Md_takeType (c_Md_takeType l h0 D hT hq13) (As := []) (S0 := []) rfl (by decide +kernel) k_Md_takeType l_Md_387 (Nat.le_of_ble_eq_true rfl) (Nat.le_of_ble_eq_true rfl) (Nat.le_refl _) (Nat.le_refl _) ?_
    refine pm_blk (pc' := 166) (L' := [(4, .int q13.1), (3, .int q12.1), (0, .ref 64), (1, .int a1), (2, .int a2)]) (S' := [.int q12.1, .int q13.1, .int 1, .ref 64, .ref 64]) (M' := sm g q13.2) [pm_o (.istore 4), pm_o (.aload_n 0), pm_o (.aload_n 0), pm_oi (.iconst 1) 1, pm_o (.iload 4), pm_o (.iload_n 3)] (by decide +kernel) rfl ?_
    obtain ⟨q14, hq14, h⟩ := pm_bd h
    refine pm_cV (idx := 345) m_Md_typeOf (c_Md_typeOf l h0 D hT hq14) (As := [.int 1, .int q13.1, .int q12.1]) (S0 := [.ref 64]) rfl (by decide +kernel) k_Md_typeOf l_Md_345 (Nat.le_of_ble_eq_true rfl) (Nat.le_of_ble_eq_true rfl) (Nat.le_refl _) (Nat.le_refl _) ?_
    refine pm_blk (pc' := 169) (L' := [(4, .int q13.1), (3, .int q12.1), (0, .ref 64), (1, .int a1), (2, .int a2)]) (S' := [.int q14.1, .ref 64]) (M' := sm g q14.2) [] (by decide +kernel) rfl ?_
    obtain ⟨q15, hq15, h⟩ := pm_bd h
    refine pm_cV (idx := 391) m_Md_giveType (c_Md_giveType l h0 D hT hq15) (As := [.int q14.1]) (S0 := []) rfl (by decide +kernel) k_Md_giveType l_Md_391 (Nat.le_of_ble_eq_true rfl) (Nat.le_of_ble_eq_true rfl) (Nat.le_refl _) (Nat.le_refl _) ?_
    refine pm_blk (pc' := 172) (L' := [(4, .int q13.1), (3, .int q12.1), (0, .ref 64), (1, .int a1), (2, .int a2)]) (S' := []) (M' := sm g q15) [] (by decide +kernel) rfl ?_
    refine pm_goto (off := 295) 467 (by decide +kernel) (by decide) ?_
    have h9 := Option.some.inj h
    subst h9
    exact pm_retv rfl (by decide +kernel) rfl rfl
  rw [if_neg hs11] at h
  rw [pm_sw_neg hs11]
  by_cases hs16 : a1 = 4
  · rw [if_pos hs16] at h
    rw [pm_sw_pos hs16]
    refine pm_blk (pc' := 183) (L' := [(0, .ref 64), (1, .int a1), (2, .int a2)]) (S' := [.int (u.1 64 51), .ref 66]) (M' := sm g u) [pm_o (.aload_n 0), pm_of (.getfield 17) 12 6 2, pm_o (.aload_n 0), pm_of (.getfield 352) 12 51 0] (by decide +kernel) rfl ?_
    obtain ⟨ho17, h⟩ := pm_ifs h
    refine pm_iald (by decide +kernel) rfl (pm_ok_in ho17) ?_
    refine pm_blk (pc' := 185) (L' := [(0, .ref 64), (1, .int a1), (2, .int a2)]) (S' := [.int 2, .int (u.1 66 ((u.1 64 51).toNatClampNeg))]) (M' := sm g u) [pm_oi (.iconst 2) 2] (by decide +kernel) rfl ?_
    refine pm_ic_eq (off := 30) 215 (by decide +kernel) (by decide) (fun hc18 => ?_) (fun hc18 => ?_)
    · rw [if_pos hc18] at h
      refine pm_loc [0, 2] rfl ?_
      exact w_Md_typeTask_215 l h0 D hT a2 u h
    · rw [if_neg hc18] at h
      refine pm_blk (pc' := 196) (L' := [(0, .ref 64), (1, .int a1), (2, .int a2)]) (S' := [.int (u.1 64 51), .ref 66]) (M' := sm g u) [pm_o (.aload_n 0), pm_of (.getfield 17) 12 6 2, pm_o (.aload_n 0), pm_of (.getfield 352) 12 51 0] (by decide +kernel) rfl ?_
      obtain ⟨ho28, h⟩ := pm_ifs h
      refine pm_iald (by decide +kernel) rfl (pm_ok_in ho28) ?_
      refine pm_blk (pc' := 198) (L' := [(0, .ref 64), (1, .int a1), (2, .int a2)]) (S' := [.int 3, .int (u.1 66 ((u.1 64 51).toNatClampNeg))]) (M' := sm g u) [pm_oi (.iconst 3) 3] (by decide +kernel) rfl ?_
      refine pm_ic_eq (off := 17) 215 (by decide +kernel) (by decide) (fun hc29 => ?_) (fun hc29 => ?_)
      · rw [if_pos hc29] at h
        refine pm_loc [0, 2] rfl ?_
        exact w_Md_typeTask_215 l h0 D hT a2 u h
      · rw [if_neg hc29] at h
        refine pm_blk (pc' := 209) (L' := [(0, .ref 64), (1, .int a1), (2, .int a2)]) (S' := [.int (u.1 64 51), .ref 66]) (M' := sm g u) [pm_o (.aload_n 0), pm_of (.getfield 17) 12 6 2, pm_o (.aload_n 0), pm_of (.getfield 352) 12 51 0] (by decide +kernel) rfl ?_
        obtain ⟨ho30, h⟩ := pm_ifs h
        refine pm_iald (by decide +kernel) rfl (pm_ok_in ho30) ?_
        refine pm_blk (pc' := 212) (L' := [(0, .ref 64), (1, .int a1), (2, .int a2)]) (S' := [.int 14, .int (u.1 66 ((u.1 64 51).toNatClampNeg))]) (M' := sm g u) [pm_oi (.bipush 14) 14] (by decide +kernel) rfl ?_
        refine pm_ic_ne (off := 101) 313 (by decide +kernel) (by decide) (fun hc31 => ?_) (fun hc31 => ?_)
        · rw [if_neg hc31] at h
          refine pm_blk (pc' := 321) (L' := [(0, .ref 64), (1, .int a1), (2, .int a2)]) (S' := [.int (u.1 64 51), .ref 66]) (M' := sm g u) [pm_o (.aload_n 0), pm_of (.getfield 17) 12 6 2, pm_o (.aload_n 0), pm_of (.getfield 352) 12 51 0] (by decide +kernel) rfl ?_
          obtain ⟨ho32, h⟩ := pm_ifs h
          refine pm_iald (by decide +kernel) rfl (pm_ok_in ho32) ?_
          refine pm_blk (pc' := 324) (L' := [(0, .ref 64), (1, .int a1), (2, .int a2)]) (S' := [.int 15, .int (u.1 66 ((u.1 64 51).toNatClampNeg))]) (M' := sm g u) [pm_oi (.bipush 15) 15] (by decide +kernel) rfl ?_
          refine pm_ic_ne (off := 38) 362 (by decide +kernel) (by decide) (fun hc33 => ?_) (fun hc33 => ?_)
          · rw [if_neg hc33] at h
            refine pm_blk (pc' := 368) (L' := [(0, .ref 64), (1, .int a1), (2, .int a2)]) (S' := [.int (u.1 64 51), .int 2, .ref 64]) (M' := sm g u) [pm_o (.aload_n 0), pm_oi (.iconst 2) 2, pm_o (.aload_n 0), pm_of (.getfield 352) 12 51 0] (by decide +kernel) rfl ?_
            obtain ⟨q34, hq34, h⟩ := pm_bd h
            refine pm_cV (idx := 355) m_Md_stop (c_Md_stop l h0 D hT hq34) (As := [.int 2, .int (u.1 64 51)]) (S0 := []) rfl (by decide +kernel) k_Md_stop l_Md_355 (Nat.le_of_ble_eq_true rfl) (Nat.le_of_ble_eq_true rfl) (Nat.le_refl _) (Nat.le_refl _) ?_
            refine pm_blk (pc' := 371) (L' := [(0, .ref 64), (1, .int a1), (2, .int a2)]) (S' := []) (M' := sm g q34) [] (by decide +kernel) rfl ?_
            refine pm_goto (off := 96) 467 (by decide +kernel) (by decide) ?_
            have h9 := Option.some.inj h
            subst h9
            exact pm_retv rfl (by decide +kernel) rfl rfl
          · rw [if_pos hc33] at h
            refine pm_blk (pc' := 341) (L' := [(0, .ref 64), (1, .int a1), (2, .int a2)]) (S' := [.int 0, .int a2, .int 5, .ref 64]) (M' := sm g (wi u 64 51 ((u.1 64 51) + 1))) [pm_o (.aload_n 0), pm_o .dup, pm_of (.getfield 352) 12 51 0, pm_oi (.iconst 1) 1, pm_o .iadd, pm_of (.putfield 352) 12 51 0, pm_o (.aload_n 0), pm_oi (.iconst 5) 5, pm_o (.iload_n 2), pm_oi (.iconst 0) 0] (by decide +kernel) rfl ?_
            obtain ⟨q35, hq35, h⟩ := pm_bd h
            refine pm_cV (idx := 383) m_Md_later (c_Md_later l h0 D hT hq35) (As := [.int 5, .int a2, .int 0]) (S0 := []) rfl (by decide +kernel) k_Md_later l_Md_383 (Nat.le_of_ble_eq_true rfl) (Nat.le_of_ble_eq_true rfl) (Nat.le_refl _) (Nat.le_refl _) ?_
            refine pm_blk (pc' := 349) (L' := [(0, .ref 64), (1, .int a1), (2, .int a2)]) (S' := [.int 0, .int 0, .int 7, .ref 64]) (M' := sm g q35) [pm_o (.aload_n 0), pm_oi (.bipush 7) 7, pm_oi (.iconst 0) 0, pm_oi (.iconst 0) 0] (by decide +kernel) rfl ?_
            obtain ⟨q36, hq36, h⟩ := pm_bd h
            refine pm_cV (idx := 383) m_Md_later (c_Md_later l h0 D hT hq36) (As := [.int 7, .int 0, .int 0]) (S0 := []) rfl (by decide +kernel) k_Md_later l_Md_383 (Nat.le_of_ble_eq_true rfl) (Nat.le_of_ble_eq_true rfl) (Nat.le_refl _) (Nat.le_refl _) ?_
            refine pm_blk (pc' := 356) (L' := [(0, .ref 64), (1, .int a1), (2, .int a2)]) (S' := [.int 0, .int 0, .int 1, .ref 64]) (M' := sm g q36) [pm_o (.aload_n 0), pm_oi (.iconst 1) 1, pm_oi (.iconst 0) 0, pm_oi (.iconst 0) 0] (by decide +kernel) rfl ?_
            obtain ⟨q37, hq37, h⟩ := pm_bd h
            refine pm_cV (idx := 383) m_Md_later (c_Md_later l h0 D hT hq37) (As := [.int 1, .int 0, .int 0]) (S0 := []) rfl (by decide +kernel) k_Md_later l_Md_383 (Nat.le_of_ble_eq_true rfl) (Nat.le_of_ble_eq_true rfl) (Nat.le_refl _) (Nat.le_refl _) ?_
            refine pm_blk (pc' := 359) (L' := [(0, .ref 64), (1, .int a1), (2, .int a2)]) (S' := []) (M' := sm g q37) [] (by decide +kernel) rfl ?_
            refine pm_goto (off := 108) 467 (by decide +kernel) (by decide) ?_
            have h9 := Option.some.inj h
            subst h9
            exact pm_retv rfl (by decide +kernel) rfl rfl
        · rw [if_pos hc31] at h
          refine pm_loc [0, 2] rfl ?_
          exact w_Md_typeTask_215 l h0 D hT a2 u h
  rw [if_neg hs16] at h
  rw [pm_sw_neg hs16]
  by_cases hs38 : a1 = 5
  · rw [if_pos hs38] at h
    rw [pm_sw_pos hs38]
    refine pm_blk (pc' := 382) (L' := [(0, .ref 64), (1, .int a1), (2, .int a2)]) (S' := [.int (u.1 64 51), .ref 66]) (M' := sm g u) [pm_o (.aload_n 0), pm_of (.getfield 17) 12 6 2, pm_o (.aload_n 0), pm_of (.getfield 352) 12 51 0] (by decide +kernel) rfl ?_
    obtain ⟨ho39, h⟩ := pm_ifs h
    refine pm_iald (by decide +kernel) rfl (pm_ok_in ho39) ?_
    refine pm_blk (pc' := 385) (L' := [(0, .ref 64), (1, .int a1), (2, .int a2)]) (S' := [.int 22, .int (u.1 66 ((u.1 64 51).toNatClampNeg))]) (M' := sm g u) [pm_oi (.bipush 22) 22] (by decide +kernel) rfl ?_
    refine pm_ic_ne (off := 82) 467 (by decide +kernel) (by decide) (fun hc40 => ?_) (fun hc40 => ?_)
    · rw [if_neg hc40] at h
      have h9 := Option.some.inj h
      subst h9
      exact pm_retv rfl (by decide +kernel) rfl rfl
    · rw [if_pos hc40] at h
      refine pm_blk (pc' := 391) (L' := [(0, .ref 64), (1, .int a1), (2, .int a2)]) (S' := [.int 8, .int a2]) (M' := sm g u) [pm_o (.iload_n 2), pm_oi (.bipush 8) 8] (by decide +kernel) rfl ?_
      refine pm_ic_ne (off := 12) 403 (by decide +kernel) (by decide) (fun hc41 => ?_) (fun hc41 => ?_)
      · rw [if_neg hc41] at h
        refine pm_loc [0, 2] rfl ?_
        exact w_Md_typeTask_403 l h0 D hT a2 u h
      · rw [if_pos hc41] at h
        refine pm_blk (pc' := 400) (L' := [(0, .ref 64), (1, .int a1), (2, .int a2)]) (S' := [.int (u.1 64 51), .int 3, .ref 64]) (M' := sm g u) [pm_o (.aload_n 0), pm_oi (.iconst 3) 3, pm_o (.aload_n 0), pm_of (.getfield 352) 12 51 0] (by decide +kernel) rfl ?_
        obtain ⟨q44, hq44, h⟩ := pm_bd h
        refine pm_cV (idx := 355) m_Md_stop (c_Md_stop l h0 D hT hq44) (As := [.int 3, .int (u.1 64 51)]) (S0 := []) rfl (by decide +kernel) k_Md_stop l_Md_355 (Nat.le_of_ble_eq_true rfl) (Nat.le_of_ble_eq_true rfl) (Nat.le_refl _) (Nat.le_refl _) ?_
        refine pm_blk (pc' := 403) (L' := [(0, .ref 64), (1, .int a1), (2, .int a2)]) (S' := []) (M' := sm g q44) [] (by decide +kernel) rfl ?_
        refine pm_loc [0, 2] rfl ?_
        exact w_Md_typeTask_403 l h0 D hT a2 q44 h
  rw [if_neg hs38] at h
  rw [pm_sw_neg hs38]
  by_cases hs45 : a1 = 6
  · rw [if_pos hs45] at h
    rw [pm_sw_pos hs45]
    refine pm_blk (pc' := 434) (L' := [(0, .ref 64), (1, .int a1), (2, .int a2)]) (S' := [.ref 64]) (M' := sm g u) [pm_o (.aload_n 0)] (by decide +kernel) rfl ?_
    obtain ⟨q46, hq46, h⟩ := pm_bd h
    refine pm_cV (idx := 387) m_Md_takeType (c_Md_takeType l h0 D hT hq46) (As := []) (S0 := []) rfl (by decide +kernel) k_Md_takeType l_Md_387 (Nat.le_of_ble_eq_true rfl) (Nat.le_of_ble_eq_true rfl) (Nat.le_refl _) (Nat.le_refl _) ?_
    refine pm_blk (pc' := 440) (L' := [(5, .int q46.1), (0, .ref 64), (1, .int a1), (2, .int a2)]) (S' := [.ref 64]) (M' := sm g q46.2) [pm_o (.istore 5), pm_o (.aload_n 0)] (by decide +kernel) rfl ?_
    obtain ⟨q47, hq47, h⟩ := pm_bd h
    refine pm_cV (idx := 387) m_Md_takeType (c_Md_takeType l h0 D hT hq47) (As := []) (S0 := []) rfl (by decide +kernel) k_Md_takeType l_Md_387 (Nat.le_of_ble_eq_true rfl) (Nat.le_of_ble_eq_true rfl) (Nat.le_refl _) (Nat.le_refl _) ?_
    refine pm_blk (pc' := 452) (L' := [(6, .int q47.1), (5, .int q46.1), (0, .ref 64), (1, .int a1), (2, .int a2)]) (S' := [.int q46.1, .int q47.1, .int 0, .ref 64, .ref 64]) (M' := sm g q47.2) [pm_o (.istore 6), pm_o (.aload_n 0), pm_o (.aload_n 0), pm_oi (.iconst 0) 0, pm_o (.iload 6), pm_o (.iload 5)] (by decide +kernel) rfl ?_
    obtain ⟨q48, hq48, h⟩ := pm_bd h
    refine pm_cV (idx := 345) m_Md_typeOf (c_Md_typeOf l h0 D hT hq48) (As := [.int 0, .int q47.1, .int q46.1]) (S0 := [.ref 64]) rfl (by decide +kernel) k_Md_typeOf l_Md_345 (Nat.le_of_ble_eq_true rfl) (Nat.le_of_ble_eq_true rfl) (Nat.le_refl _) (Nat.le_refl _) ?_
    refine pm_blk (pc' := 455) (L' := [(6, .int q47.1), (5, .int q46.1), (0, .ref 64), (1, .int a1), (2, .int a2)]) (S' := [.int q48.1, .ref 64]) (M' := sm g q48.2) [] (by decide +kernel) rfl ?_
    obtain ⟨q49, hq49, h⟩ := pm_bd h
    refine pm_cV (idx := 391) m_Md_giveType (c_Md_giveType l h0 D hT hq49) (As := [.int q48.1]) (S0 := []) rfl (by decide +kernel) k_Md_giveType l_Md_391 (Nat.le_of_ble_eq_true rfl) (Nat.le_of_ble_eq_true rfl) (Nat.le_refl _) (Nat.le_refl _) ?_
    refine pm_blk (pc' := 458) (L' := [(6, .int q47.1), (5, .int q46.1), (0, .ref 64), (1, .int a1), (2, .int a2)]) (S' := []) (M' := sm g q49) [] (by decide +kernel) rfl ?_
    refine pm_goto (off := 9) 467 (by decide +kernel) (by decide) ?_
    have h9 := Option.some.inj h
    subst h9
    exact pm_retv rfl (by decide +kernel) rfl rfl
  rw [if_neg hs45] at h
  rw [pm_sw_neg hs45]
  refine pm_pc (pc' := 461) rfl ?_
  refine pm_blk (pc' := 464) (L' := [(0, .ref 64), (1, .int a1), (2, .int a2)]) (S' := [.int 16, .ref 64]) (M' := sm g u) [pm_o (.aload_n 0), pm_oi (.bipush 16) 16] (by decide +kernel) rfl ?_
  obtain ⟨q50, hq50, h⟩ := pm_bd h
  refine pm_cV (idx := 397) m_Md_expect (c_Md_expect l h0 D hT hq50) (As := [.int 16]) (S0 := []) rfl (by decide +kernel) k_Md_expect l_Md_397 (Nat.le_of_ble_eq_true rfl) (Nat.le_of_ble_eq_true rfl) (Nat.le_refl _) (Nat.le_refl _) ?_
  refine pm_blk (pc' := 467) (L' := [(0, .ref 64), (1, .int a1), (2, .int a2)]) (S' := []) (M' := sm g q50) [] (by decide +kernel) rfl ?_
  have h9 := Option.some.inj h
  subst h9
  exact pm_retv rfl (by decide +kernel) rfl rfl
def F_Md_expr (N : Nat) (g : pm_s) (u : pm_J) : Option (pm_J) := if ((u.1 64 61) + 1) ≤ 20 then if pm_ok (u.1 64 51) 902 = true then if (u.1 66 ((u.1 64 51).toNatClampNeg)) = 4 then (F_Md_declare N g (wi (wi u 64 61 ((u.1 64 61) + 1)) 64 51 ((u.1 64 51) + 1))).bind fun q19 => (F_Md_expect N 18 g q19.2).bind fun q20 => (F_Md_later 12 (u.1 64 51) (q19.1 + (100 * ((u.1 64 51) + 1))) g q20).bind fun q21 => (F_Md_later 10 0 0 g q21).bind fun q22 => some q22 else if pm_ok (u.1 64 51) 902 = true then if (u.1 66 ((u.1 64 51).toNatClampNeg)) = 6 then (F_Md_later 13 (u.1 64 51) 0 g (wi (wi u 64 61 ((u.1 64 61) + 1)) 64 51 ((u.1 64 51) + 1))).bind fun q17 => (F_Md_later 10 0 0 g q17).bind fun q18 => some q18 else if pm_ok (u.1 64 51) 902 = true then if (u.1 66 ((u.1 64 51).toNatClampNeg)) = 9 then (F_Md_expect N 15 g (wi (wi u 64 61 ((u.1 64 61) + 1)) 64 51 ((u.1 64 51) + 1))).bind fun q11 => (F_Md_declare N g q11).bind fun q12 => (F_Md_expect N 17 g q12.2).bind fun q13 => (F_Md_later 16 (u.1 64 51) (q12.1 + (100 * (q11.1 64 51))) g q13).bind fun q14 => if (q14.1 64 52) = 0 then some (wi q14 64 63 0) else (F_Md_later 1 0 0 g (wi q14 64 63 0)).bind fun q16 => some q16 else (F_Md_later 19 0 0 g (wi u 64 61 ((u.1 64 61) + 1))).bind fun q8 => (F_Md_later 18 0 0 g q8).bind fun q9 => (F_Md_later 20 0 0 g q9).bind fun q10 => some q10 else none else none else none else (F_Md_stop 3 (u.1 64 51) g (wi u 64 61 ((u.1 64 61) + 1))).bind fun q23 => some q23
set_option maxHeartbeats 4000000 in
set_option maxRecDepth 100000 in
theorem c_Md_expr (l : Launch) (h0 : Nat) (D : pm_D) {g : pm_s} {u : pm_J} (hT : sh_T g) {N : Nat} {out : pm_J} (h : F_Md_expr N g u = some out) : pm_C l h0 D m_Md_expr (3) [.ref 64] (sm g u) none (sm g out) := by
  unfold F_Md_expr at h
  refine pm_met (by decide +kernel) (Nat.le_of_ble_eq_true rfl) (Nat.le_refl _) (Nat.le_refl _) ?_
  intro p e R s m args below meth c
  refine pm_blk (pc' := 16) (L' := [(0, .ref 64)]) (S' := [.int 20, .int ((u.1 64 61) + 1)]) (M' := sm g (wi u 64 61 ((u.1 64 61) + 1))) [pm_o (.aload_n 0), pm_o .dup, pm_of (.getfield 400) 12 61 0, pm_oi (.iconst 1) 1, pm_o .iadd, pm_of (.putfield 400) 12 61 0, pm_o (.aload_n 0), pm_of (.getfield 400) 12 61 0, pm_oi (.bipush 20) 20] (by decide +kernel) rfl ?_
  refine pm_ic_le (off := 13) 29 (by decide +kernel) (by decide) (fun hc1 => ?_) (fun hc1 => ?_)
  · rw [if_pos hc1] at h
    refine pm_blk (pc' := 42) (L' := [(1, .int (u.1 64 51)), (0, .ref 64)]) (S' := [.int (u.1 64 51), .ref 66]) (M' := sm g (wi u 64 61 ((u.1 64 61) + 1))) [pm_o (.aload_n 0), pm_of (.getfield 352) 12 51 0, pm_o (.istore_n 1), pm_o (.aload_n 0), pm_of (.getfield 17) 12 6 2, pm_o (.aload_n 0), pm_of (.getfield 352) 12 51 0] (by decide +kernel) rfl ?_
    obtain ⟨ho2, h⟩ := pm_ifs h
    refine pm_iald (by decide +kernel) rfl (pm_ok_in ho2) ?_
    refine pm_blk (pc' := 44) (L' := [(1, .int (u.1 64 51)), (0, .ref 64)]) (S' := [.int 4, .int (u.1 66 ((u.1 64 51).toNatClampNeg))]) (M' := sm g (wi u 64 61 ((u.1 64 61) + 1))) [pm_oi (.iconst 4) 4] (by decide +kernel) rfl ?_
    refine pm_ic_ne (off := 53) 97 (by decide +kernel) (by decide) (fun hc3 => ?_) (fun hc3 => ?_)
    · rw [if_neg hc3] at h
      refine pm_blk (pc' := 105) (L' := [(1, .int (u.1 64 51)), (0, .ref 64)]) (S' := [.int (u.1 64 51), .ref 66]) (M' := sm g (wi u 64 61 ((u.1 64 61) + 1))) [pm_o (.aload_n 0), pm_of (.getfield 17) 12 6 2, pm_o (.aload_n 0), pm_of (.getfield 352) 12 51 0] (by decide +kernel) rfl ?_
      obtain ⟨ho4, h⟩ := pm_ifs h
      refine pm_iald (by decide +kernel) rfl (pm_ok_in ho4) ?_
      refine pm_blk (pc' := 108) (L' := [(1, .int (u.1 64 51)), (0, .ref 64)]) (S' := [.int 6, .int (u.1 66 ((u.1 64 51).toNatClampNeg))]) (M' := sm g (wi u 64 61 ((u.1 64 61) + 1))) [pm_oi (.bipush 6) 6] (by decide +kernel) rfl ?_
      refine pm_ic_ne (off := 32) 140 (by decide +kernel) (by decide) (fun hc5 => ?_) (fun hc5 => ?_)
      · rw [if_neg hc5] at h
        refine pm_blk (pc' := 148) (L' := [(1, .int (u.1 64 51)), (0, .ref 64)]) (S' := [.int (u.1 64 51), .ref 66]) (M' := sm g (wi u 64 61 ((u.1 64 61) + 1))) [pm_o (.aload_n 0), pm_of (.getfield 17) 12 6 2, pm_o (.aload_n 0), pm_of (.getfield 352) 12 51 0] (by decide +kernel) rfl ?_
        obtain ⟨ho6, h⟩ := pm_ifs h
        refine pm_iald (by decide +kernel) rfl (pm_ok_in ho6) ?_
        refine pm_blk (pc' := 151) (L' := [(1, .int (u.1 64 51)), (0, .ref 64)]) (S' := [.int 9, .int (u.1 66 ((u.1 64 51).toNatClampNeg))]) (M' := sm g (wi u 64 61 ((u.1 64 61) + 1))) [pm_oi (.bipush 9) 9] (by decide +kernel) rfl ?_
        refine pm_ic_ne (off := 70) 221 (by decide +kernel) (by decide) (fun hc7 => ?_) (fun hc7 => ?_)
        · rw [if_neg hc7] at h
          refine pm_blk (pc' := 226) (L' := [(1, .int (u.1 64 51)), (0, .ref 64)]) (S' := [.int 0, .int 0, .int 19, .ref 64]) (M' := sm g (wi u 64 61 ((u.1 64 61) + 1))) [pm_o (.aload_n 0), pm_oi (.bipush 19) 19, pm_oi (.iconst 0) 0, pm_oi (.iconst 0) 0] (by decide +kernel) rfl ?_
          obtain ⟨q8, hq8, h⟩ := pm_bd h
          refine pm_cV (idx := 383) m_Md_later (c_Md_later l h0 D hT hq8) (As := [.int 19, .int 0, .int 0]) (S0 := []) rfl (by decide +kernel) k_Md_later l_Md_383 (Nat.le_of_ble_eq_true rfl) (Nat.le_of_ble_eq_true rfl) (Nat.le_refl _) (Nat.le_refl _) ?_
          refine pm_blk (pc' := 234) (L' := [(1, .int (u.1 64 51)), (0, .ref 64)]) (S' := [.int 0, .int 0, .int 18, .ref 64]) (M' := sm g q8) [pm_o (.aload_n 0), pm_oi (.bipush 18) 18, pm_oi (.iconst 0) 0, pm_oi (.iconst 0) 0] (by decide +kernel) rfl ?_
          obtain ⟨q9, hq9, h⟩ := pm_bd h
          refine pm_cV (idx := 383) m_Md_later (c_Md_later l h0 D hT hq9) (As := [.int 18, .int 0, .int 0]) (S0 := []) rfl (by decide +kernel) k_Md_later l_Md_383 (Nat.le_of_ble_eq_true rfl) (Nat.le_of_ble_eq_true rfl) (Nat.le_refl _) (Nat.le_refl _) ?_
          refine pm_blk (pc' := 242) (L' := [(1, .int (u.1 64 51)), (0, .ref 64)]) (S' := [.int 0, .int 0, .int 20, .ref 64]) (M' := sm g q9) [pm_o (.aload_n 0), pm_oi (.bipush 20) 20, pm_oi (.iconst 0) 0, pm_oi (.iconst 0) 0] (by decide +kernel) rfl ?_
          obtain ⟨q10, hq10, h⟩ := pm_bd h
          refine pm_cV (idx := 383) m_Md_later (c_Md_later l h0 D hT hq10) (As := [.int 20, .int 0, .int 0]) (S0 := []) rfl (by decide +kernel) k_Md_later l_Md_383 (Nat.le_of_ble_eq_true rfl) (Nat.le_of_ble_eq_true rfl) (Nat.le_refl _) (Nat.le_refl _) ?_
          refine pm_blk (pc' := 245) (L' := [(1, .int (u.1 64 51)), (0, .ref 64)]) (S' := []) (M' := sm g q10) [] (by decide +kernel) rfl ?_
          have h9 := Option.some.inj h
          subst h9
          exact pm_retv rfl (by decide +kernel) rfl rfl
        · rw [if_pos hc7] at h
          refine pm_blk (pc' := 167) (L' := [(1, .int (u.1 64 51)), (0, .ref 64)]) (S' := [.int 15, .ref 64]) (M' := sm g (wi (wi u 64 61 ((u.1 64 61) + 1)) 64 51 ((u.1 64 51) + 1))) [pm_o (.aload_n 0), pm_o .dup, pm_of (.getfield 352) 12 51 0, pm_oi (.iconst 1) 1, pm_o .iadd, pm_of (.putfield 352) 12 51 0, pm_o (.aload_n 0), pm_oi (.bipush 15) 15] (by decide +kernel) rfl ?_
          obtain ⟨q11, hq11, h⟩ := pm_bd h
          refine pm_cV (idx := 397) m_Md_expect (c_Md_expect l h0 D hT hq11) (As := [.int 15]) (S0 := []) rfl (by decide +kernel) k_Md_expect l_Md_397 (Nat.le_of_ble_eq_true rfl) (Nat.le_of_ble_eq_true rfl) (Nat.le_refl _) (Nat.le_refl _) ?_
          refine pm_blk (pc' := 176) (L' := [(2, .int (q11.1 64 51)), (1, .int (u.1 64 51)), (0, .ref 64)]) (S' := [.ref 64]) (M' := sm g q11) [pm_o (.aload_n 0), pm_of (.getfield 352) 12 51 0, pm_o (.istore_n 2), pm_o (.aload_n 0)] (by decide +kernel) rfl ?_
          obtain ⟨q12, hq12, h⟩ := pm_bd h
          refine pm_cV (idx := 403) m_Md_declare (c_Md_declare l h0 D hT hq12) (As := []) (S0 := []) rfl (by decide +kernel) k_Md_declare l_Md_403 (Nat.le_of_ble_eq_true rfl) (Nat.le_of_ble_eq_true rfl) (Nat.le_refl _) (Nat.le_refl _) ?_
          refine pm_blk (pc' := 183) (L' := [(3, .int q12.1), (2, .int (q11.1 64 51)), (1, .int (u.1 64 51)), (0, .ref 64)]) (S' := [.int 17, .ref 64]) (M' := sm g q12.2) [pm_o (.istore_n 3), pm_o (.aload_n 0), pm_oi (.bipush 17) 17] (by decide +kernel) rfl ?_
          obtain ⟨q13, hq13, h⟩ := pm_bd h
          refine pm_cV (idx := 397) m_Md_expect (c_Md_expect l h0 D hT hq13) (As := [.int 17]) (S0 := []) rfl (by decide +kernel) k_Md_expect l_Md_397 (Nat.le_of_ble_eq_true rfl) (Nat.le_of_ble_eq_true rfl) (Nat.le_refl _) (Nat.le_refl _) ?_
          refine pm_blk (pc' := 196) (L' := [(3, .int q12.1), (2, .int (q11.1 64 51)), (1, .int (u.1 64 51)), (0, .ref 64)]) (S' := [.int (q12.1 + (100 * (q11.1 64 51))), .int (u.1 64 51), .int 16, .ref 64]) (M' := sm g q13) [pm_o (.aload_n 0), pm_oi (.bipush 16) 16, pm_o (.iload_n 1), pm_o (.iload_n 3), pm_oi (.bipush 100) 100, pm_o (.iload_n 2), pm_o .imul, pm_o .iadd] (by decide +kernel) rfl ?_
          obtain ⟨q14, hq14, h⟩ := pm_bd h
          refine pm_cV (idx := 383) m_Md_later (c_Md_later l h0 D hT hq14) (As := [.int 16, .int (u.1 64 51), .int (q12.1 + (100 * (q11.1 64 51)))]) (S0 := []) rfl (by decide +kernel) k_Md_later l_Md_383 (Nat.le_of_ble_eq_true rfl) (Nat.le_of_ble_eq_true rfl) (Nat.le_refl _) (Nat.le_refl _) ?_
          refine pm_blk (pc' := 208) (L' := [(3, .int q12.1), (2, .int (q11.1 64 51)), (1, .int (u.1 64 51)), (0, .ref 64)]) (S' := [.int (q14.1 64 52)]) (M' := sm g (wi q14 64 63 0)) [pm_o (.aload_n 0), pm_oi (.iconst 0) 0, pm_of (.putfield 394) 12 63 0, pm_o (.aload_n 0), pm_of (.getfield 349) 12 52 3] (by decide +kernel) rfl ?_
          refine pm_if_eq (off := 10) 218 (by decide +kernel) (by decide) (fun hc15 => ?_) (fun hc15 => ?_)
          · rw [if_pos hc15] at h
            refine pm_goto (off := 27) 245 (by decide +kernel) (by decide) ?_
            have h9 := Option.some.inj h
            subst h9
            exact pm_retv rfl (by decide +kernel) rfl rfl
          · rw [if_neg hc15] at h
            refine pm_blk (pc' := 215) (L' := [(3, .int q12.1), (2, .int (q11.1 64 51)), (1, .int (u.1 64 51)), (0, .ref 64)]) (S' := [.int 0, .int 0, .int 1, .ref 64]) (M' := sm g (wi q14 64 63 0)) [pm_o (.aload_n 0), pm_oi (.iconst 1) 1, pm_oi (.iconst 0) 0, pm_oi (.iconst 0) 0] (by decide +kernel) rfl ?_
            obtain ⟨q16, hq16, h⟩ := pm_bd h
            refine pm_cV (idx := 383) m_Md_later (c_Md_later l h0 D hT hq16) (As := [.int 1, .int 0, .int 0]) (S0 := []) rfl (by decide +kernel) k_Md_later l_Md_383 (Nat.le_of_ble_eq_true rfl) (Nat.le_of_ble_eq_true rfl) (Nat.le_refl _) (Nat.le_refl _) ?_
            refine pm_blk (pc' := 218) (L' := [(3, .int q12.1), (2, .int (q11.1 64 51)), (1, .int (u.1 64 51)), (0, .ref 64)]) (S' := []) (M' := sm g q16) [] (by decide +kernel) rfl ?_
            refine pm_goto (off := 27) 245 (by decide +kernel) (by decide) ?_
            have h9 := Option.some.inj h
            subst h9
            exact pm_retv rfl (by decide +kernel) rfl rfl
      · rw [if_pos hc5] at h
        refine pm_blk (pc' := 126) (L' := [(1, .int (u.1 64 51)), (0, .ref 64)]) (S' := [.int 0, .int (u.1 64 51), .int 13, .ref 64]) (M' := sm g (wi (wi u 64 61 ((u.1 64 61) + 1)) 64 51 ((u.1 64 51) + 1))) [pm_o (.aload_n 0), pm_o .dup, pm_of (.getfield 352) 12 51 0, pm_oi (.iconst 1) 1, pm_o .iadd, pm_of (.putfield 352) 12 51 0, pm_o (.aload_n 0), pm_oi (.bipush 13) 13, pm_o (.iload_n 1), pm_oi (.iconst 0) 0] (by decide +kernel) rfl ?_
        obtain ⟨q17, hq17, h⟩ := pm_bd h
        refine pm_cV (idx := 383) m_Md_later (c_Md_later l h0 D hT hq17) (As := [.int 13, .int (u.1 64 51), .int 0]) (S0 := []) rfl (by decide +kernel) k_Md_later l_Md_383 (Nat.le_of_ble_eq_true rfl) (Nat.le_of_ble_eq_true rfl) (Nat.le_refl _) (Nat.le_refl _) ?_
        refine pm_blk (pc' := 134) (L' := [(1, .int (u.1 64 51)), (0, .ref 64)]) (S' := [.int 0, .int 0, .int 10, .ref 64]) (M' := sm g q17) [pm_o (.aload_n 0), pm_oi (.bipush 10) 10, pm_oi (.iconst 0) 0, pm_oi (.iconst 0) 0] (by decide +kernel) rfl ?_
        obtain ⟨q18, hq18, h⟩ := pm_bd h
        refine pm_cV (idx := 383) m_Md_later (c_Md_later l h0 D hT hq18) (As := [.int 10, .int 0, .int 0]) (S0 := []) rfl (by decide +kernel) k_Md_later l_Md_383 (Nat.le_of_ble_eq_true rfl) (Nat.le_of_ble_eq_true rfl) (Nat.le_refl _) (Nat.le_refl _) ?_
        refine pm_blk (pc' := 137) (L' := [(1, .int (u.1 64 51)), (0, .ref 64)]) (S' := []) (M' := sm g q18) [] (by decide +kernel) rfl ?_
        refine pm_goto (off := 108) 245 (by decide +kernel) (by decide) ?_
        have h9 := Option.some.inj h
        subst h9
        exact pm_retv rfl (by decide +kernel) rfl rfl
    · rw [if_pos hc3] at h
      refine pm_blk (pc' := 63) (L' := [(2, .int ((u.1 64 51) + 1)), (1, .int (u.1 64 51)), (0, .ref 64)]) (S' := [.ref 64]) (M' := sm g (wi (wi u 64 61 ((u.1 64 61) + 1)) 64 51 ((u.1 64 51) + 1))) [pm_o (.aload_n 0), pm_o .dup, pm_of (.getfield 352) 12 51 0, pm_oi (.iconst 1) 1, pm_o .iadd, pm_of (.putfield 352) 12 51 0, pm_o (.aload_n 0), pm_of (.getfield 352) 12 51 0, pm_o (.istore_n 2), pm_o (.aload_n 0)] (by decide +kernel) rfl ?_
      obtain ⟨q19, hq19, h⟩ := pm_bd h
      refine pm_cV (idx := 403) m_Md_declare (c_Md_declare l h0 D hT hq19) (As := []) (S0 := []) rfl (by decide +kernel) k_Md_declare l_Md_403 (Nat.le_of_ble_eq_true rfl) (Nat.le_of_ble_eq_true rfl) (Nat.le_refl _) (Nat.le_refl _) ?_
      refine pm_blk (pc' := 70) (L' := [(3, .int q19.1), (2, .int ((u.1 64 51) + 1)), (1, .int (u.1 64 51)), (0, .ref 64)]) (S' := [.int 18, .ref 64]) (M' := sm g q19.2) [pm_o (.istore_n 3), pm_o (.aload_n 0), pm_oi (.bipush 18) 18] (by decide +kernel) rfl ?_
      obtain ⟨q20, hq20, h⟩ := pm_bd h
      refine pm_cV (idx := 397) m_Md_expect (c_Md_expect l h0 D hT hq20) (As := [.int 18]) (S0 := []) rfl (by decide +kernel) k_Md_expect l_Md_397 (Nat.le_of_ble_eq_true rfl) (Nat.le_of_ble_eq_true rfl) (Nat.le_refl _) (Nat.le_refl _) ?_
      refine pm_blk (pc' := 83) (L' := [(3, .int q19.1), (2, .int ((u.1 64 51) + 1)), (1, .int (u.1 64 51)), (0, .ref 64)]) (S' := [.int (q19.1 + (100 * ((u.1 64 51) + 1))), .int (u.1 64 51), .int 12, .ref 64]) (M' := sm g q20) [pm_o (.aload_n 0), pm_oi (.bipush 12) 12, pm_o (.iload_n 1), pm_o (.iload_n 3), pm_oi (.bipush 100) 100, pm_o (.iload_n 2), pm_o .imul, pm_o .iadd] (by decide +kernel) rfl ?_
      obtain ⟨q21, hq21, h⟩ := pm_bd h
      refine pm_cV (idx := 383) m_Md_later (c_Md_later l h0 D hT hq21) (As := [.int 12, .int (u.1 64 51), .int (q19.1 + (100 * ((u.1 64 51) + 1)))]) (S0 := []) rfl (by decide +kernel) k_Md_later l_Md_383 (Nat.le_of_ble_eq_true rfl) (Nat.le_of_ble_eq_true rfl) (Nat.le_refl _) (Nat.le_refl _) ?_
      refine pm_blk (pc' := 91) (L' := [(3, .int q19.1), (2, .int ((u.1 64 51) + 1)), (1, .int (u.1 64 51)), (0, .ref 64)]) (S' := [.int 0, .int 0, .int 10, .ref 64]) (M' := sm g q21) [pm_o (.aload_n 0), pm_oi (.bipush 10) 10, pm_oi (.iconst 0) 0, pm_oi (.iconst 0) 0] (by decide +kernel) rfl ?_
      obtain ⟨q22, hq22, h⟩ := pm_bd h
      refine pm_cV (idx := 383) m_Md_later (c_Md_later l h0 D hT hq22) (As := [.int 10, .int 0, .int 0]) (S0 := []) rfl (by decide +kernel) k_Md_later l_Md_383 (Nat.le_of_ble_eq_true rfl) (Nat.le_of_ble_eq_true rfl) (Nat.le_refl _) (Nat.le_refl _) ?_
      refine pm_blk (pc' := 94) (L' := [(3, .int q19.1), (2, .int ((u.1 64 51) + 1)), (1, .int (u.1 64 51)), (0, .ref 64)]) (S' := []) (M' := sm g q22) [] (by decide +kernel) rfl ?_
      refine pm_goto (off := 151) 245 (by decide +kernel) (by decide) ?_
      have h9 := Option.some.inj h
      subst h9
      exact pm_retv rfl (by decide +kernel) rfl rfl
  · rw [if_neg hc1] at h
    refine pm_blk (pc' := 25) (L' := [(0, .ref 64)]) (S' := [.int (u.1 64 51), .int 3, .ref 64]) (M' := sm g (wi u 64 61 ((u.1 64 61) + 1))) [pm_o (.aload_n 0), pm_oi (.iconst 3) 3, pm_o (.aload_n 0), pm_of (.getfield 352) 12 51 0] (by decide +kernel) rfl ?_
    obtain ⟨q23, hq23, h⟩ := pm_bd h
    refine pm_cV (idx := 355) m_Md_stop (c_Md_stop l h0 D hT hq23) (As := [.int 3, .int (u.1 64 51)]) (S0 := []) rfl (by decide +kernel) k_Md_stop l_Md_355 (Nat.le_of_ble_eq_true rfl) (Nat.le_of_ble_eq_true rfl) (Nat.le_refl _) (Nat.le_refl _) ?_
    refine pm_blk (pc' := 28) (L' := [(0, .ref 64)]) (S' := []) (M' := sm g q23) [] (by decide +kernel) rfl ?_
    have h9 := Option.some.inj h
    subst h9
    exact pm_retv rfl (by decide +kernel) rfl rfl
def K_Md_lettersOfParameters_4 (N : Nat) (g : pm_s) (u : pm_J) : Nat → Int32 → Int32 → Option (Int32)
  | 0, _, _ => none
  | n + 1, x1, x2 => if pm_ok (u.1 64 44) 30 = true then if (u.1 92 ((u.1 64 44).toNatClampNeg)) ≤ x2 then some x1 else if pm_ok ((6 * (u.1 64 44)) + x2) 180 = true then if pm_ok (u.1 99 (((6 * (u.1 64 44)) + x2).toNatClampNeg)) 100000 = true then K_Md_lettersOfParameters_4 N g u  n (x1 ||| (u.1 73 ((u.1 99 (((6 * (u.1 64 44)) + x2).toNatClampNeg)).toNatClampNeg))) (x2 + 1) else none else none else none
set_option maxHeartbeats 4000000 in
set_option maxRecDepth 100000 in
theorem w_Md_lettersOfParameters_4 (l : Launch) (h0 : Nat) (D : pm_D) {g : pm_s} (hT : sh_T g) {N : Nat} {u : pm_J} {out : Int32} {p : Program} {e : Env} {R : Room} {s : State} {m : MethodId} {args : Array Value} {below : List Frame} {meth : Method} {c : Code} : ∀ (n : Nat) (x1 : Int32) (x2 : Int32), K_Md_lettersOfParameters_4 N g u n x1 x2 = some out → pm_V (p, l, e, R, s, m, args, below, meth, c) m_Md_lettersOfParameters h0 D (g.1, g.2.1, g.1, g.2.1, 0) (pm_E (p, l, e, R, s, m, args, below, meth, c) h0 D (sm g u) (some (.int out)) (sm g u)) 4 [(0, .ref 64), (1, .int x1), (2, .int x2)] [] (sm g u) := by
  intro n
  induction n with
  | zero => intro x1 x2 h; cases h
  | succ n ih =>
    intro x1 x2 h
    rw [K_Md_lettersOfParameters_4] at h
    refine pm_blk (pc' := 13) (L' := [(0, .ref 64), (1, .int x1), (2, .int x2)]) (S' := [.int (u.1 64 44), .ref 92, .int x2]) (M' := sm g u) [pm_o (.iload_n 2), pm_o (.aload_n 0), pm_of (.getfield 98) 12 35 2, pm_o (.aload_n 0), pm_of (.getfield 256) 12 44 0] (by decide +kernel) rfl ?_
    obtain ⟨ho1, h⟩ := pm_ifs h
    refine pm_iald (by decide +kernel) rfl (pm_ok_in ho1) ?_
    refine pm_blk (pc' := 14) (L' := [(0, .ref 64), (1, .int x1), (2, .int x2)]) (S' := [.int (u.1 92 ((u.1 64 44).toNatClampNeg)), .int x2]) (M' := sm g u) [] (by decide +kernel) rfl ?_
    refine pm_ic_ge (off := 31) 45 (by decide +kernel) (by decide) (fun hc2 => ?_) (fun hc2 => ?_)
    · rw [if_pos hc2] at h
      refine pm_blk (pc' := 46) (L' := [(0, .ref 64), (1, .int x1), (2, .int x2)]) (S' := [.int x1]) (M' := sm g u) [pm_o (.iload_n 1)] (by decide +kernel) rfl ?_
      have h9 := Option.some.inj h
      subst h9
      exact pm_reti rfl (by decide +kernel) rfl rfl rfl
    · rw [if_neg hc2] at h
      refine pm_blk (pc' := 35) (L' := [(0, .ref 64), (1, .int x1), (2, .int x2)]) (S' := [.int ((6 * (u.1 64 44)) + x2), .ref 99, .ref 73, .int x1]) (M' := sm g u) [pm_o (.iload_n 1), pm_o (.aload_n 0), pm_of (.getfield 41) 12 14 2, pm_o (.aload_n 0), pm_of (.getfield 119) 12 42 2, pm_oi (.bipush 6) 6, pm_o (.aload_n 0), pm_of (.getfield 256) 12 44 0, pm_o .imul, pm_o (.iload_n 2), pm_o .iadd] (by decide +kernel) rfl ?_
      obtain ⟨ho3, h⟩ := pm_ifs h
      refine pm_iald (by decide +kernel) rfl (pm_ok_in ho3) ?_
      refine pm_blk (pc' := 36) (L' := [(0, .ref 64), (1, .int x1), (2, .int x2)]) (S' := [.int (u.1 99 (((6 * (u.1 64 44)) + x2).toNatClampNeg)), .ref 73, .int x1]) (M' := sm g u) [] (by decide +kernel) rfl ?_
      obtain ⟨ho4, h⟩ := pm_ifs h
      refine pm_iald (by decide +kernel) rfl (pm_ok_in ho4) ?_
      refine pm_blk (pc' := 42) (L' := [(2, .int (x2 + 1)), (1, .int (x1 ||| (u.1 73 ((u.1 99 (((6 * (u.1 64 44)) + x2).toNatClampNeg)).toNatClampNeg)))), (0, .ref 64)]) (S' := []) (M' := sm g u) [pm_o .ior, pm_o (.istore_n 1), pm_oi (.iinc 2 1) 1] (by decide +kernel) rfl ?_
      refine pm_goto (off := -38) 4 (by decide +kernel) (by decide) ?_
      refine pm_loc [2, 1, 0] rfl ?_
      exact ih (x1 ||| (u.1 73 ((u.1 99 (((6 * (u.1 64 44)) + x2).toNatClampNeg)).toNatClampNeg))) (x2 + 1) h
def F_Md_lettersOfParameters (N : Nat) (g : pm_s) (u : pm_J) : Option (Int32) := K_Md_lettersOfParameters_4 N g u N 0 0
set_option maxHeartbeats 4000000 in
set_option maxRecDepth 100000 in
theorem c_Md_lettersOfParameters (l : Launch) (h0 : Nat) (D : pm_D) {g : pm_s} {u : pm_J} (hT : sh_T g) {N : Nat} {out : Int32} (h : F_Md_lettersOfParameters N g u = some out) : pm_C l h0 D m_Md_lettersOfParameters (0) [.ref 64] (sm g u) (some (.int out)) (sm g u) := by
  unfold F_Md_lettersOfParameters at h
  refine pm_met (by decide +kernel) (Nat.le_of_ble_eq_true rfl) (Nat.le_refl _) (Nat.le_refl _) ?_
  intro p e R s m args below meth c
  refine pm_blk (pc' := 4) (L' := [(2, .int 0), (1, .int 0), (0, .ref 64)]) (S' := []) (M' := sm g u) [pm_oi (.iconst 0) 0, pm_o (.istore_n 1), pm_oi (.iconst 0) 0, pm_o (.istore_n 2)] (by decide +kernel) rfl ?_
  refine pm_loc [2, 1, 0] rfl ?_
  exact w_Md_lettersOfParameters_4 l h0 D hT N 0 0 h
def F_Md_wrong (a1 : Int32) (g : pm_s) (u : pm_J) : Option (pm_J) := if pm_ok (u.1 64 44) 30 = true then if (u.1 97 ((u.1 64 44).toNatClampNeg)) < 0 then if pm_ok (u.1 64 44) 30 = true then some (wi u 97 ((u.1 64 44).toNatClampNeg) a1) else none else if pm_ok (u.1 64 44) 30 = true then if (u.1 97 ((u.1 64 44).toNatClampNeg)) ≤ a1 then some u else if pm_ok (u.1 64 44) 30 = true then some (wi u 97 ((u.1 64 44).toNatClampNeg) a1) else none else none else none
set_option maxHeartbeats 4000000 in
set_option maxRecDepth 100000 in
theorem c_Md_wrong (l : Launch) (h0 : Nat) (D : pm_D) {g : pm_s} {u : pm_J} (hT : sh_T g) {a1 : Int32} {out : pm_J} (h : F_Md_wrong a1 g u = some out) : pm_C l h0 D m_Md_wrong (0) [.ref 64, .int a1] (sm g u) none (sm g out) := by
  unfold F_Md_wrong at h
  refine pm_met (by decide +kernel) (Nat.le_of_ble_eq_true rfl) (Nat.le_refl _) (Nat.le_refl _) ?_
  intro p e R s m args below meth c
  refine pm_blk (pc' := 8) (L' := [(0, .ref 64), (1, .int a1)]) (S' := [.int (u.1 64 44), .ref 97]) (M' := sm g u) [pm_o (.aload_n 0), pm_of (.getfield 113) 12 40 2, pm_o (.aload_n 0), pm_of (.getfield 256) 12 44 0] (by decide +kernel) rfl ?_
  obtain ⟨ho1, h⟩ := pm_ifs h
  refine pm_iald (by decide +kernel) rfl (pm_ok_in ho1) ?_
  refine pm_blk (pc' := 9) (L' := [(0, .ref 64), (1, .int a1)]) (S' := [.int (u.1 97 ((u.1 64 44).toNatClampNeg))]) (M' := sm g u) [] (by decide +kernel) rfl ?_
  refine pm_if_lt (off := 16) 25 (by decide +kernel) (by decide) (fun hc2 => ?_) (fun hc2 => ?_)
  · rw [if_pos hc2] at h
    refine pm_blk (pc' := 34) (L' := [(0, .ref 64), (1, .int a1)]) (S' := [.int a1, .int (u.1 64 44), .ref 97]) (M' := sm g u) [pm_o (.aload_n 0), pm_of (.getfield 113) 12 40 2, pm_o (.aload_n 0), pm_of (.getfield 256) 12 44 0, pm_o (.iload_n 1)] (by decide +kernel) rfl ?_
    obtain ⟨ho3, h⟩ := pm_ifs h
    refine pm_iast (by decide +kernel) rfl  (pm_ok_in ho3) ?_
    refine pm_blk (pc' := 35) (L' := [(0, .ref 64), (1, .int a1)]) (S' := []) (M' := sm g (wi u 97 ((u.1 64 44).toNatClampNeg) a1)) [] (by decide +kernel) rfl ?_
    have h9 := Option.some.inj h
    subst h9
    exact pm_retv rfl (by decide +kernel) rfl rfl
  · rw [if_neg hc2] at h
    refine pm_blk (pc' := 21) (L' := [(0, .ref 64), (1, .int a1)]) (S' := [.int (u.1 64 44), .ref 97, .int a1]) (M' := sm g u) [pm_o (.iload_n 1), pm_o (.aload_n 0), pm_of (.getfield 113) 12 40 2, pm_o (.aload_n 0), pm_of (.getfield 256) 12 44 0] (by decide +kernel) rfl ?_
    obtain ⟨ho4, h⟩ := pm_ifs h
    refine pm_iald (by decide +kernel) rfl (pm_ok_in ho4) ?_
    refine pm_blk (pc' := 22) (L' := [(0, .ref 64), (1, .int a1)]) (S' := [.int (u.1 97 ((u.1 64 44).toNatClampNeg)), .int a1]) (M' := sm g u) [] (by decide +kernel) rfl ?_
    refine pm_ic_ge (off := 13) 35 (by decide +kernel) (by decide) (fun hc5 => ?_) (fun hc5 => ?_)
    · rw [if_pos hc5] at h
      have h9 := Option.some.inj h
      subst h9
      exact pm_retv rfl (by decide +kernel) rfl rfl
    · rw [if_neg hc5] at h
      refine pm_blk (pc' := 34) (L' := [(0, .ref 64), (1, .int a1)]) (S' := [.int a1, .int (u.1 64 44), .ref 97]) (M' := sm g u) [pm_o (.aload_n 0), pm_of (.getfield 113) 12 40 2, pm_o (.aload_n 0), pm_of (.getfield 256) 12 44 0, pm_o (.iload_n 1)] (by decide +kernel) rfl ?_
      obtain ⟨ho6, h⟩ := pm_ifs h
      refine pm_iast (by decide +kernel) rfl  (pm_ok_in ho6) ?_
      refine pm_blk (pc' := 35) (L' := [(0, .ref 64), (1, .int a1)]) (S' := []) (M' := sm g (wi u 97 ((u.1 64 44).toNatClampNeg) a1)) [] (by decide +kernel) rfl ?_
      have h9 := Option.some.inj h
      subst h9
      exact pm_retv rfl (by decide +kernel) rfl rfl
def K_Md_checkLetters_7 (N : Nat) (g : pm_s) : Nat → Int32 → Int32 → pm_J → Option (pm_J)
  | 0, _, _, _ => none
  | n + 1, x2, x3, u => if (u.1 64 51) ≤ x3 then some u else if pm_ok x3 902 = true then if (u.1 66 x3.toNatClampNeg) = 14 then if pm_ok x3 902 = true then if ((x2 >>> (((u.2 69 x3.toNatClampNeg).toInt32) &&& 31)) &&& 1) = 0 then (F_Md_wrong x3 g u).bind fun q7 => K_Md_checkLetters_7 N g  n x2 (x3 + 1) q7 else K_Md_checkLetters_7 N g  n x2 (x3 + 1) u else none else K_Md_checkLetters_7 N g  n x2 (x3 + 1) u else none
set_option maxHeartbeats 4000000 in
set_option maxRecDepth 100000 in
theorem w_Md_checkLetters_7 (l : Launch) (h0 : Nat) (D : pm_D) {g : pm_s} (hT : sh_T g) {N : Nat} {u0 : pm_J} {out : pm_J} {p : Program} {e : Env} {R : Room} {s : State} {m : MethodId} {args : Array Value} {below : List Frame} {meth : Method} {c : Code} : ∀ (n : Nat) (x2 : Int32) (x3 : Int32) (u : pm_J), K_Md_checkLetters_7 N g n x2 x3 u = some out → pm_V (p, l, e, R, s, m, args, below, meth, c) m_Md_checkLetters h0 D (g.1, g.2.1, g.1, g.2.1, 1) (pm_E (p, l, e, R, s, m, args, below, meth, c) h0 D (sm g u0) none (sm g out)) 7 [(0, .ref 64), (2, .int x2), (3, .int x3)] [] (sm g u) := by
  intro n
  induction n with
  | zero => intro x2 x3 u h; cases h
  | succ n ih =>
    intro x2 x3 u h
    rw [K_Md_checkLetters_7] at h
    refine pm_blk (pc' := 12) (L' := [(0, .ref 64), (2, .int x2), (3, .int x3)]) (S' := [.int (u.1 64 51), .int x3]) (M' := sm g u) [pm_o (.iload_n 3), pm_o (.aload_n 0), pm_of (.getfield 352) 12 51 0] (by decide +kernel) rfl ?_
    refine pm_ic_ge (off := 39) 51 (by decide +kernel) (by decide) (fun hc2 => ?_) (fun hc2 => ?_)
    · rw [if_pos hc2] at h
      have h9 := Option.some.inj h
      subst h9
      exact pm_retv rfl (by decide +kernel) rfl rfl
    · rw [if_neg hc2] at h
      refine pm_blk (pc' := 20) (L' := [(0, .ref 64), (2, .int x2), (3, .int x3)]) (S' := [.int x3, .ref 66]) (M' := sm g u) [pm_o (.aload_n 0), pm_of (.getfield 17) 12 6 2, pm_o (.iload_n 3)] (by decide +kernel) rfl ?_
      obtain ⟨ho3, h⟩ := pm_ifs h
      refine pm_iald (by decide +kernel) rfl (pm_ok_in ho3) ?_
      refine pm_blk (pc' := 23) (L' := [(0, .ref 64), (2, .int x2), (3, .int x3)]) (S' := [.int 14, .int (u.1 66 x3.toNatClampNeg)]) (M' := sm g u) [pm_oi (.bipush 14) 14] (by decide +kernel) rfl ?_
      refine pm_ic_ne (off := 22) 45 (by decide +kernel) (by decide) (fun hc4 => ?_) (fun hc4 => ?_)
      · rw [if_neg hc4] at h
        refine pm_blk (pc' := 48) (L' := [(3, .int (x3 + 1)), (0, .ref 64), (2, .int x2)]) (S' := []) (M' := sm g u) [pm_oi (.iinc 3 1) 1] (by decide +kernel) rfl ?_
        refine pm_goto (off := -41) 7 (by decide +kernel) (by decide) ?_
        refine pm_loc [1, 2, 0] rfl ?_
        exact ih x2 (x3 + 1) u h
      · rw [if_pos hc4] at h
        refine pm_blk (pc' := 32) (L' := [(0, .ref 64), (2, .int x2), (3, .int x3)]) (S' := [.int x3, .ref 69, .int x2]) (M' := sm g u) [pm_o (.iload_n 2), pm_o (.aload_n 0), pm_of (.getfield 26) 12 9 2, pm_o (.iload_n 3)] (by decide +kernel) rfl ?_
        obtain ⟨ho5, h⟩ := pm_ifs h
        refine pm_lald (by decide +kernel) rfl (pm_ok_in ho5) ?_
        refine pm_blk (pc' := 37) (L' := [(0, .ref 64), (2, .int x2), (3, .int x3)]) (S' := [.int ((x2 >>> (((u.2 69 x3.toNatClampNeg).toInt32) &&& 31)) &&& 1)]) (M' := sm g u) [pm_o .l2i, pm_o .ishr, pm_oi (.iconst 1) 1, pm_o .iand] (by decide +kernel) rfl ?_
        refine pm_if_ne (off := 8) 45 (by decide +kernel) (by decide) (fun hc6 => ?_) (fun hc6 => ?_)
        · rw [if_neg hc6] at h
          refine pm_blk (pc' := 48) (L' := [(3, .int (x3 + 1)), (0, .ref 64), (2, .int x2)]) (S' := []) (M' := sm g u) [pm_oi (.iinc 3 1) 1] (by decide +kernel) rfl ?_
          refine pm_goto (off := -41) 7 (by decide +kernel) (by decide) ?_
          refine pm_loc [1, 2, 0] rfl ?_
          exact ih x2 (x3 + 1) u h
        · rw [if_pos hc6] at h
          refine pm_blk (pc' := 42) (L' := [(0, .ref 64), (2, .int x2), (3, .int x3)]) (S' := [.int x3, .ref 64]) (M' := sm g u) [pm_o (.aload_n 0), pm_o (.iload_n 3)] (by decide +kernel) rfl ?_
          obtain ⟨q7, hq7, h⟩ := pm_bd h
          refine pm_cV (idx := 441) m_Md_wrong (c_Md_wrong l h0 D hT hq7) (As := [.int x3]) (S0 := []) rfl (by decide +kernel) k_Md_wrong l_Md_441 (Nat.le_of_ble_eq_true rfl) (Nat.le_of_ble_eq_true rfl) (Nat.le_refl _) (Nat.le_refl _) ?_
          refine pm_blk (pc' := 48) (L' := [(3, .int (x3 + 1)), (0, .ref 64), (2, .int x2)]) (S' := []) (M' := sm g q7) [pm_oi (.iinc 3 1) 1] (by decide +kernel) rfl ?_
          refine pm_goto (off := -41) 7 (by decide +kernel) (by decide) ?_
          refine pm_loc [1, 2, 0] rfl ?_
          exact ih x2 (x3 + 1) q7 h
def F_Md_checkLetters (N : Nat) (a1 : Int32) (g : pm_s) (u : pm_J) : Option (pm_J) := (F_Md_lettersOfParameters N g u).bind fun q1 => K_Md_checkLetters_7 N g N q1 a1 u
set_option maxHeartbeats 4000000 in
set_option maxRecDepth 100000 in
theorem c_Md_checkLetters (l : Launch) (h0 : Nat) (D : pm_D) {g : pm_s} {u : pm_J} (hT : sh_T g) {N : Nat} {a1 : Int32} {out : pm_J} (h : F_Md_checkLetters N a1 g u = some out) : pm_C l h0 D m_Md_checkLetters (1) [.ref 64, .int a1] (sm g u) none (sm g out) := by
  unfold F_Md_checkLetters at h
  refine pm_met (by decide +kernel) (Nat.le_of_ble_eq_true rfl) (Nat.le_refl _) (Nat.le_refl _) ?_
  intro p e R s m args below meth c
  refine pm_blk (pc' := 1) (L' := [(0, .ref 64), (1, .int a1)]) (S' := [.ref 64]) (M' := sm g u) [pm_o (.aload_n 0)] (by decide +kernel) rfl ?_
  obtain ⟨q1, hq1, h⟩ := pm_bd h
  refine pm_cV (idx := 438) m_Md_lettersOfParameters (c_Md_lettersOfParameters l h0 D hT hq1) (As := []) (S0 := []) rfl (by decide +kernel) k_Md_lettersOfParameters l_Md_438 (Nat.le_of_ble_eq_true rfl) (Nat.le_of_ble_eq_true rfl) (Nat.le_refl _) (Nat.le_refl _) ?_
  refine pm_blk (pc' := 7) (L' := [(3, .int a1), (2, .int q1), (0, .ref 64), (1, .int a1)]) (S' := []) (M' := sm g u) [pm_o (.istore_n 2), pm_o (.iload_n 1), pm_o (.istore_n 3)] (by decide +kernel) rfl ?_
  refine pm_loc [2, 1, 0] rfl ?_
  exact w_Md_checkLetters_7 l h0 D hT N q1 a1 u h
def F_Md_checkFnType (N : Nat) (a1 : Int32) (a2 : Int32) (g : pm_s) (u : pm_J) : Option (pm_J) := (F_Md_checkLetters N (a2 + 2) g u).bind fun q1 => some q1
set_option maxHeartbeats 4000000 in
set_option maxRecDepth 100000 in
theorem c_Md_checkFnType (l : Launch) (h0 : Nat) (D : pm_D) {g : pm_s} {u : pm_J} (hT : sh_T g) {N : Nat} {a1 : Int32} {a2 : Int32} {out : pm_J} (h : F_Md_checkFnType N a1 a2 g u = some out) : pm_C l h0 D m_Md_checkFnType (2) [.ref 64, .int a1, .int a2] (sm g u) none (sm g out) := by
  unfold F_Md_checkFnType at h
  refine pm_met (by decide +kernel) (Nat.le_of_ble_eq_true rfl) (Nat.le_refl _) (Nat.le_refl _) ?_
  intro p e R s m args below meth c
  refine pm_blk (pc' := 4) (L' := [(0, .ref 64), (1, .int a1), (2, .int a2)]) (S' := [.int (a2 + 2), .ref 64]) (M' := sm g u) [pm_o (.aload_n 0), pm_o (.iload_n 2), pm_oi (.iconst 2) 2, pm_o .iadd] (by decide +kernel) rfl ?_
  obtain ⟨q1, hq1, h⟩ := pm_bd h
  refine pm_cV (idx := 444) m_Md_checkLetters (c_Md_checkLetters l h0 D hT hq1) (As := [.int (a2 + 2)]) (S0 := []) rfl (by decide +kernel) k_Md_checkLetters l_Md_444 (Nat.le_of_ble_eq_true rfl) (Nat.le_of_ble_eq_true rfl) (Nat.le_refl _) (Nat.le_refl _) ?_
  refine pm_blk (pc' := 7) (L' := [(0, .ref 64), (1, .int a1), (2, .int a2)]) (S' := []) (M' := sm g q1) [] (by decide +kernel) rfl ?_
  have h9 := Option.some.inj h
  subst h9
  exact pm_retv rfl (by decide +kernel) rfl rfl
def K_Md_row_24 (N : Nat) (g : pm_s) : Nat → Int32 → Int32 → Int32 → pm_J → Option (pm_J)
  | 0, _, _, _, _ => none
  | n + 1, x1, x3, x4, u => if x1 ≤ (x4 + 1) then if pm_ok ((u.1 64 58) - x1) 2400 = true then if pm_ok x3 2400 = true then (F_Md_node N 30 (u.1 78 x3.toNatClampNeg) x3 (u.1 108 (((u.1 64 58) - x1).toNatClampNeg)) (-1) g (wi u 64 58 ((u.1 64 58) - (x1 + 1)))).bind fun q7 => if pm_ok q7.1 2400 = true then (F_Md_give q7.1 g (wi q7.2 84 q7.1.toNatClampNeg x1)).bind fun q9 => some q9 else none else none else none else if pm_ok (((u.1 64 58) - x1) + x4) 2400 = true then if pm_ok ((((u.1 64 58) - x1) + x4) + 1) 2400 = true then if pm_ok (u.1 108 ((((u.1 64 58) - x1) + x4).toNatClampNeg)) 2400 = true then K_Md_row_24 N g  n x1 x3 (x4 + 1) (wi u 83 ((u.1 108 ((((u.1 64 58) - x1) + x4).toNatClampNeg)).toNatClampNeg) (u.1 108 (((((u.1 64 58) - x1) + x4) + 1).toNatClampNeg))) else none else none else none
set_option maxHeartbeats 4000000 in
set_option maxRecDepth 100000 in
theorem w_Md_row_24 (l : Launch) (h0 : Nat) (D : pm_D) {g : pm_s} (hT : sh_T g) {N : Nat} {u0 : pm_J} {out : pm_J} {p : Program} {e : Env} {R : Room} {s : State} {m : MethodId} {args : Array Value} {below : List Frame} {meth : Method} {c : Code} : ∀ (n : Nat) (x1 : Int32) (x3 : Int32) (x4 : Int32) (u : pm_J), K_Md_row_24 N g n x1 x3 x4 u = some out → pm_V (p, l, e, R, s, m, args, below, meth, c) m_Md_row h0 D (g.1, g.2.1, g.1, g.2.1, 1) (pm_E (p, l, e, R, s, m, args, below, meth, c) h0 D (sm g u0) none (sm g out)) 24 [(0, .ref 64), (1, .int x1), (3, .int x3), (4, .int x4)] [] (sm g u) := by
  intro n
  induction n with
  | zero => intro x1 x3 x4 u h; cases h
  | succ n ih =>
    intro x1 x3 x4 u h
    rw [K_Md_row_24] at h
    refine pm_blk (pc' := 29) (L' := [(0, .ref 64), (1, .int x1), (3, .int x3), (4, .int x4)]) (S' := [.int x1, .int (x4 + 1)]) (M' := sm g u) [pm_o (.iload 4), pm_oi (.iconst 1) 1, pm_o .iadd, pm_o (.iload_n 1)] (by decide +kernel) rfl ?_
    refine pm_ic_ge (off := 44) 73 (by decide +kernel) (by decide) (fun hc4 => ?_) (fun hc4 => ?_)
    · rw [if_pos hc4] at h
      refine pm_blk (pc' := 83) (L' := [(0, .ref 64), (1, .int x1), (3, .int x3), (4, .int x4)]) (S' := [.int ((u.1 64 58) - x1), .ref 108]) (M' := sm g u) [pm_o (.aload_n 0), pm_of (.getfield 146) 12 57 2, pm_o (.aload_n 0), pm_of (.getfield 371) 12 58 0, pm_o (.iload_n 1), pm_o .isub] (by decide +kernel) rfl ?_
      obtain ⟨ho5, h⟩ := pm_ifs h
      refine pm_iald (by decide +kernel) rfl (pm_ok_in ho5) ?_
      refine pm_blk (pc' := 106) (L' := [(4, .int (u.1 108 (((u.1 64 58) - x1).toNatClampNeg))), (0, .ref 64), (1, .int x1), (3, .int x3)]) (S' := [.int x3, .ref 78, .int 30, .ref 64]) (M' := sm g (wi u 64 58 ((u.1 64 58) - (x1 + 1)))) [pm_o (.istore 4), pm_o (.aload_n 0), pm_o .dup, pm_of (.getfield 371) 12 58 0, pm_o (.iload_n 1), pm_oi (.iconst 1) 1, pm_o .iadd, pm_o .isub, pm_of (.putfield 371) 12 58 0, pm_o (.aload_n 0), pm_oi (.bipush 30) 30, pm_o (.aload_n 0), pm_of (.getfield 56) 12 20 2, pm_o (.iload_n 3)] (by decide +kernel) rfl ?_
      obtain ⟨ho6, h⟩ := pm_ifs h
      refine pm_iald (by decide +kernel) rfl (pm_ok_in ho6) ?_
      refine pm_blk (pc' := 111) (L' := [(4, .int (u.1 108 (((u.1 64 58) - x1).toNatClampNeg))), (0, .ref 64), (1, .int x1), (3, .int x3)]) (S' := [.int (-1), .int (u.1 108 (((u.1 64 58) - x1).toNatClampNeg)), .int x3, .int (u.1 78 x3.toNatClampNeg), .int 30, .ref 64]) (M' := sm g (wi u 64 58 ((u.1 64 58) - (x1 + 1)))) [pm_o (.iload_n 3), pm_o (.iload 4), pm_oi (.iconst (-1)) (-1)] (by decide +kernel) rfl ?_
      obtain ⟨q7, hq7, h⟩ := pm_bd h
      refine pm_cV (idx := 415) m_Md_node (c_Md_node l h0 D hT hq7) (As := [.int 30, .int (u.1 78 x3.toNatClampNeg), .int x3, .int (u.1 108 (((u.1 64 58) - x1).toNatClampNeg)), .int (-1)]) (S0 := []) rfl (by decide +kernel) k_Md_node l_Md_415 (Nat.le_of_ble_eq_true rfl) (Nat.le_of_ble_eq_true rfl) (Nat.le_refl _) (Nat.le_refl _) ?_
      refine pm_blk (pc' := 123) (L' := [(5, .int q7.1), (4, .int (u.1 108 (((u.1 64 58) - x1).toNatClampNeg))), (0, .ref 64), (1, .int x1), (3, .int x3)]) (S' := [.int x1, .int q7.1, .ref 84]) (M' := sm g q7.2) [pm_o (.istore 5), pm_o (.aload_n 0), pm_of (.getfield 74) 12 26 2, pm_o (.iload 5), pm_o (.iload_n 1)] (by decide +kernel) rfl ?_
      obtain ⟨ho8, h⟩ := pm_ifs h
      refine pm_iast (by decide +kernel) rfl  (pm_ok_in ho8) ?_
      refine pm_blk (pc' := 127) (L' := [(5, .int q7.1), (4, .int (u.1 108 (((u.1 64 58) - x1).toNatClampNeg))), (0, .ref 64), (1, .int x1), (3, .int x3)]) (S' := [.int q7.1, .ref 64]) (M' := sm g (wi q7.2 84 q7.1.toNatClampNeg x1)) [pm_o (.aload_n 0), pm_o (.iload 5)] (by decide +kernel) rfl ?_
      obtain ⟨q9, hq9, h⟩ := pm_bd h
      refine pm_cV (idx := 419) m_Md_give (c_Md_give l h0 D hT hq9) (As := [.int q7.1]) (S0 := []) rfl (by decide +kernel) k_Md_give l_Md_419 (Nat.le_of_ble_eq_true rfl) (Nat.le_of_ble_eq_true rfl) (Nat.le_refl _) (Nat.le_refl _) ?_
      refine pm_blk (pc' := 130) (L' := [(5, .int q7.1), (4, .int (u.1 108 (((u.1 64 58) - x1).toNatClampNeg))), (0, .ref 64), (1, .int x1), (3, .int x3)]) (S' := []) (M' := sm g q9) [] (by decide +kernel) rfl ?_
      have h9 := Option.some.inj h
      subst h9
      exact pm_retv rfl (by decide +kernel) rfl rfl
    · rw [if_neg hc4] at h
      refine pm_blk (pc' := 49) (L' := [(0, .ref 64), (1, .int x1), (3, .int x3), (4, .int x4)]) (S' := [.int (((u.1 64 58) - x1) + x4), .ref 108, .ref 83]) (M' := sm g u) [pm_o (.aload_n 0), pm_of (.getfield 71) 12 25 2, pm_o (.aload_n 0), pm_of (.getfield 146) 12 57 2, pm_o (.aload_n 0), pm_of (.getfield 371) 12 58 0, pm_o (.iload_n 1), pm_o .isub, pm_o (.iload 4), pm_o .iadd] (by decide +kernel) rfl ?_
      obtain ⟨ho10, h⟩ := pm_ifs h
      refine pm_iald (by decide +kernel) rfl (pm_ok_in ho10) ?_
      refine pm_blk (pc' := 65) (L' := [(0, .ref 64), (1, .int x1), (3, .int x3), (4, .int x4)]) (S' := [.int ((((u.1 64 58) - x1) + x4) + 1), .ref 108, .int (u.1 108 ((((u.1 64 58) - x1) + x4).toNatClampNeg)), .ref 83]) (M' := sm g u) [pm_o (.aload_n 0), pm_of (.getfield 146) 12 57 2, pm_o (.aload_n 0), pm_of (.getfield 371) 12 58 0, pm_o (.iload_n 1), pm_o .isub, pm_o (.iload 4), pm_o .iadd, pm_oi (.iconst 1) 1, pm_o .iadd] (by decide +kernel) rfl ?_
      obtain ⟨ho11, h⟩ := pm_ifs h
      refine pm_iald (by decide +kernel) rfl (pm_ok_in ho11) ?_
      refine pm_blk (pc' := 66) (L' := [(0, .ref 64), (1, .int x1), (3, .int x3), (4, .int x4)]) (S' := [.int (u.1 108 (((((u.1 64 58) - x1) + x4) + 1).toNatClampNeg)), .int (u.1 108 ((((u.1 64 58) - x1) + x4).toNatClampNeg)), .ref 83]) (M' := sm g u) [] (by decide +kernel) rfl ?_
      obtain ⟨ho12, h⟩ := pm_ifs h
      refine pm_iast (by decide +kernel) rfl  (pm_ok_in ho12) ?_
      refine pm_blk (pc' := 70) (L' := [(4, .int (x4 + 1)), (0, .ref 64), (1, .int x1), (3, .int x3)]) (S' := []) (M' := sm g (wi u 83 ((u.1 108 ((((u.1 64 58) - x1) + x4).toNatClampNeg)).toNatClampNeg) (u.1 108 (((((u.1 64 58) - x1) + x4) + 1).toNatClampNeg)))) [pm_oi (.iinc 4 1) 1] (by decide +kernel) rfl ?_
      refine pm_goto (off := -46) 24 (by decide +kernel) (by decide) ?_
      refine pm_loc [1, 2, 3, 0] rfl ?_
      exact ih x1 x3 (x4 + 1) (wi u 83 ((u.1 108 ((((u.1 64 58) - x1) + x4).toNatClampNeg)).toNatClampNeg) (u.1 108 (((((u.1 64 58) - x1) + x4) + 1).toNatClampNeg))) h
def F_Md_row (N : Nat) (a1 : Int32) (a2 : Int32) (g : pm_s) (u : pm_J) : Option (pm_J) := if pm_ok (((u.1 64 58) - a1) - 1) 2400 = true then if (a2 == 0 || a2 == 1) = true then if pm_ok (u.1 108 ((((u.1 64 58) - a1) - 1).toNatClampNeg)) 2400 = true then K_Md_row_24 N g N a1 (u.1 108 ((((u.1 64 58) - a1) - 1).toNatClampNeg)) 0 (wi u 112 ((u.1 108 ((((u.1 64 58) - a1) - 1).toNatClampNeg)).toNatClampNeg) a2) else none else none else none
set_option maxHeartbeats 4000000 in
set_option maxRecDepth 100000 in
theorem c_Md_row (l : Launch) (h0 : Nat) (D : pm_D) {g : pm_s} {u : pm_J} (hT : sh_T g) {N : Nat} {a1 : Int32} {a2 : Int32} {out : pm_J} (h : F_Md_row N a1 a2 g u = some out) : pm_C l h0 D m_Md_row (1) [.ref 64, .int a1, .int a2] (sm g u) none (sm g out) := by
  unfold F_Md_row at h
  refine pm_met (by decide +kernel) (Nat.le_of_ble_eq_true rfl) (Nat.le_refl _) (Nat.le_refl _) ?_
  intro p e R s m args below meth c
  refine pm_blk (pc' := 12) (L' := [(0, .ref 64), (1, .int a1), (2, .int a2)]) (S' := [.int (((u.1 64 58) - a1) - 1), .ref 108]) (M' := sm g u) [pm_o (.aload_n 0), pm_of (.getfield 146) 12 57 2, pm_o (.aload_n 0), pm_of (.getfield 371) 12 58 0, pm_o (.iload_n 1), pm_o .isub, pm_oi (.iconst 1) 1, pm_o .isub] (by decide +kernel) rfl ?_
  obtain ⟨ho1, h⟩ := pm_ifs h
  refine pm_iald (by decide +kernel) rfl (pm_ok_in ho1) ?_
  refine pm_blk (pc' := 20) (L' := [(3, .int (u.1 108 ((((u.1 64 58) - a1) - 1).toNatClampNeg))), (0, .ref 64), (1, .int a1), (2, .int a2)]) (S' := [.int a2, .int (u.1 108 ((((u.1 64 58) - a1) - 1).toNatClampNeg)), .ref 112]) (M' := sm g u) [pm_o (.istore_n 3), pm_o (.aload_n 0), pm_of (.getfield 158) 12 68 2, pm_o (.iload_n 3), pm_o (.iload_n 2)] (by decide +kernel) rfl ?_
  obtain ⟨hz2, h⟩ := pm_ifs h
  obtain ⟨ho3, h⟩ := pm_ifs h
  refine pm_zast (by decide +kernel) rfl hz2 (pm_ok_in ho3) ?_
  refine pm_blk (pc' := 24) (L' := [(4, .int 0), (3, .int (u.1 108 ((((u.1 64 58) - a1) - 1).toNatClampNeg))), (0, .ref 64), (1, .int a1), (2, .int a2)]) (S' := []) (M' := sm g (wi u 112 ((u.1 108 ((((u.1 64 58) - a1) - 1).toNatClampNeg)).toNatClampNeg) a2)) [pm_oi (.iconst 0) 0, pm_o (.istore 4)] (by decide +kernel) rfl ?_
  refine pm_loc [2, 3, 1, 0] rfl ?_
  exact w_Md_row_24 l h0 D hT N a1 (u.1 108 ((((u.1 64 58) - a1) - 1).toNatClampNeg)) 0 (wi u 112 ((u.1 108 ((((u.1 64 58) - a1) - 1).toNatClampNeg)).toNatClampNeg) a2) h
def K_Md_atom_97 (N : Nat) (g : pm_s) (x2 : Int32) (t0 : Int32) (t1 : Int32) (u : pm_J) : Option (pm_J) := if pm_ok t1 2400 = true then (F_Md_give x2 g (wi u 82 t1.toNatClampNeg t0)).bind fun q7 => some (wi q7 64 51 ((q7.1 64 51) + 1)) else none
set_option maxHeartbeats 4000000 in
set_option maxRecDepth 100000 in
theorem w_Md_atom_97 (l : Launch) (h0 : Nat) (D : pm_D) {g : pm_s} (hT : sh_T g) {N : Nat} {u0 : pm_J} {out : pm_J} {p : Program} {e : Env} {R : Room} {s : State} {m : MethodId} {args : Array Value} {below : List Frame} {meth : Method} {c : Code} : ∀ (x2 : Int32) (t0 : Int32) (t1 : Int32) (u : pm_J), K_Md_atom_97 N g x2 t0 t1 u = some out → pm_V (p, l, e, R, s, m, args, below, meth, c) m_Md_atom h0 D (g.1, g.2.1, g.1, g.2.1, 2) (pm_E (p, l, e, R, s, m, args, below, meth, c) h0 D (sm g u0) none (sm g out)) 97 [(0, .ref 64), (2, .int x2)] [.int t0, .int t1, .ref 82] (sm g u) := by
    intro x2 t0 t1 u h
    unfold K_Md_atom_97 at h
    obtain ⟨ho6, h⟩ := pm_ifs h
    refine pm_iast (by decide +kernel) rfl  (pm_ok_in ho6) ?_
    refine pm_blk (pc' := 100) (L' := [(0, .ref 64), (2, .int x2)]) (S' := [.int x2, .ref 64]) (M' := sm g (wi u 82 t1.toNatClampNeg t0)) [pm_o (.aload_n 0), pm_o (.iload_n 2)] (by decide +kernel) rfl ?_
    obtain ⟨q7, hq7, h⟩ := pm_bd h
    refine pm_cV (idx := 419) m_Md_give (c_Md_give l h0 D hT hq7) (As := [.int x2]) (S0 := []) rfl (by decide +kernel) k_Md_give l_Md_419 (Nat.le_of_ble_eq_true rfl) (Nat.le_of_ble_eq_true rfl) (Nat.le_refl _) (Nat.le_refl _) ?_
    refine pm_blk (pc' := 113) (L' := [(0, .ref 64), (2, .int x2)]) (S' := []) (M' := sm g (wi q7 64 51 ((q7.1 64 51) + 1))) [pm_o (.aload_n 0), pm_o .dup, pm_of (.getfield 352) 12 51 0, pm_oi (.iconst 1) 1, pm_o .iadd, pm_of (.putfield 352) 12 51 0] (by decide +kernel) rfl ?_
    refine pm_goto (off := 12) 125 (by decide +kernel) (by decide) ?_
    have h9 := Option.some.inj h
    subst h9
    exact pm_retv rfl (by decide +kernel) rfl rfl
def K_Md_atom_62 (N : Nat) (g : pm_s) (x1 : Int32) (u : pm_J) : Option (pm_J) := (F_Md_node N x1 (u.1 64 51) (-1) (-1) (-1) g u).bind fun q4 => if x1 = 1 then (F_Md_localNamed N (q4.2.1 64 51) g q4.2).bind fun q8 => K_Md_atom_97 N g q4.1 q8 q4.1 q4.2 else K_Md_atom_97 N g q4.1 (-1) q4.1 q4.2
set_option maxHeartbeats 4000000 in
set_option maxRecDepth 100000 in
theorem w_Md_atom_62 (l : Launch) (h0 : Nat) (D : pm_D) {g : pm_s} (hT : sh_T g) {N : Nat} {u0 : pm_J} {out : pm_J} {p : Program} {e : Env} {R : Room} {s : State} {m : MethodId} {args : Array Value} {below : List Frame} {meth : Method} {c : Code} : ∀ (x1 : Int32) (u : pm_J), K_Md_atom_62 N g x1 u = some out → pm_V (p, l, e, R, s, m, args, below, meth, c) m_Md_atom h0 D (g.1, g.2.1, g.1, g.2.1, 2) (pm_E (p, l, e, R, s, m, args, below, meth, c) h0 D (sm g u0) none (sm g out)) 62 [(0, .ref 64), (1, .int x1)] [] (sm g u) := by
    intro x1 u h
    unfold K_Md_atom_62 at h
    refine pm_blk (pc' := 71) (L' := [(0, .ref 64), (1, .int x1)]) (S' := [.int (-1), .int (-1), .int (-1), .int (u.1 64 51), .int x1, .ref 64]) (M' := sm g u) [pm_o (.aload_n 0), pm_o (.iload_n 1), pm_o (.aload_n 0), pm_of (.getfield 352) 12 51 0, pm_oi (.iconst (-1)) (-1), pm_oi (.iconst (-1)) (-1), pm_oi (.iconst (-1)) (-1)] (by decide +kernel) rfl ?_
    obtain ⟨q4, hq4, h⟩ := pm_bd h
    refine pm_cV (idx := 415) m_Md_node (c_Md_node l h0 D hT hq4) (As := [.int x1, .int (u.1 64 51), .int (-1), .int (-1), .int (-1)]) (S0 := []) rfl (by decide +kernel) k_Md_node l_Md_415 (Nat.le_of_ble_eq_true rfl) (Nat.le_of_ble_eq_true rfl) (Nat.le_refl _) (Nat.le_refl _) ?_
    refine pm_blk (pc' := 82) (L' := [(2, .int q4.1), (0, .ref 64), (1, .int x1)]) (S' := [.int 1, .int x1, .int q4.1, .ref 82]) (M' := sm g q4.2) [pm_o (.istore_n 2), pm_o (.aload_n 0), pm_of (.getfield 68) 12 24 2, pm_o (.iload_n 2), pm_o (.iload_n 1), pm_oi (.iconst 1) 1] (by decide +kernel) rfl ?_
    refine pm_ic_ne (off := 14) 96 (by decide +kernel) (by decide) (fun hc5 => ?_) (fun hc5 => ?_)
    · rw [if_neg hc5] at h
      refine pm_blk (pc' := 97) (L' := [(2, .int q4.1), (0, .ref 64), (1, .int x1)]) (S' := [.int (-1), .int q4.1, .ref 82]) (M' := sm g q4.2) [pm_oi (.iconst (-1)) (-1)] (by decide +kernel) rfl ?_
      refine pm_loc [1, 0] rfl ?_
      exact w_Md_atom_97 l h0 D hT q4.1 (-1) q4.1 q4.2 h
    · rw [if_pos hc5] at h
      refine pm_blk (pc' := 90) (L' := [(2, .int q4.1), (0, .ref 64), (1, .int x1)]) (S' := [.int (q4.2.1 64 51), .ref 64, .int q4.1, .ref 82]) (M' := sm g q4.2) [pm_o (.aload_n 0), pm_o (.aload_n 0), pm_of (.getfield 352) 12 51 0] (by decide +kernel) rfl ?_
      obtain ⟨q8, hq8, h⟩ := pm_bd h
      refine pm_cV (idx := 435) m_Md_localNamed (c_Md_localNamed l h0 D hT hq8) (As := [.int (q4.2.1 64 51)]) (S0 := [.int q4.1, .ref 82]) rfl (by decide +kernel) k_Md_localNamed l_Md_435 (Nat.le_of_ble_eq_true rfl) (Nat.le_of_ble_eq_true rfl) (Nat.le_refl _) (Nat.le_refl _) ?_
      refine pm_blk (pc' := 93) (L' := [(2, .int q4.1), (0, .ref 64), (1, .int x1)]) (S' := [.int q8, .int q4.1, .ref 82]) (M' := sm g q4.2) [] (by decide +kernel) rfl ?_
      refine pm_goto (off := 4) 97 (by decide +kernel) (by decide) ?_
      refine pm_loc [1, 0] rfl ?_
      exact w_Md_atom_97 l h0 D hT q4.1 q8 q4.1 q4.2 h
def F_Md_atom (N : Nat) (g : pm_s) (u : pm_J) : Option (pm_J) := if pm_ok (u.1 64 51) 902 = true then if (u.1 66 ((u.1 64 51).toNatClampNeg)) = 15 then (F_Md_later 26 0 0 g (wi u 64 51 ((u.1 64 51) + 1))).bind fun q12 => (F_Md_later 10 0 0 g q12).bind fun q13 => some q13 else if (u.1 66 ((u.1 64 51).toNatClampNeg)) = 12 then K_Md_atom_62 N g (u.1 66 ((u.1 64 51).toNatClampNeg)) u else if (u.1 66 ((u.1 64 51).toNatClampNeg)) = 13 then K_Md_atom_62 N g (u.1 66 ((u.1 64 51).toNatClampNeg)) u else if (u.1 66 ((u.1 64 51).toNatClampNeg)) = 1 then K_Md_atom_62 N g (u.1 66 ((u.1 64 51).toNatClampNeg)) u else (F_Md_stop 2 (u.1 64 51) g u).bind fun q11 => some q11 else none
set_option maxHeartbeats 4000000 in
set_option maxRecDepth 100000 in
theorem c_Md_atom (l : Launch) (h0 : Nat) (D : pm_D) {g : pm_s} {u : pm_J} (hT : sh_T g) {N : Nat} {out : pm_J} (h : F_Md_atom N g u = some out) : pm_C l h0 D m_Md_atom (2) [.ref 64] (sm g u) none (sm g out) := by
  unfold F_Md_atom at h
  refine pm_met (by decide +kernel) (Nat.le_of_ble_eq_true rfl) (Nat.le_refl _) (Nat.le_refl _) ?_
  intro p e R s m args below meth c
  refine pm_blk (pc' := 8) (L' := [(0, .ref 64)]) (S' := [.int (u.1 64 51), .ref 66]) (M' := sm g u) [pm_o (.aload_n 0), pm_of (.getfield 17) 12 6 2, pm_o (.aload_n 0), pm_of (.getfield 352) 12 51 0] (by decide +kernel) rfl ?_
  obtain ⟨ho1, h⟩ := pm_ifs h
  refine pm_iald (by decide +kernel) rfl (pm_ok_in ho1) ?_
  refine pm_blk (pc' := 13) (L' := [(1, .int (u.1 66 ((u.1 64 51).toNatClampNeg))), (0, .ref 64)]) (S' := [.int 15, .int (u.1 66 ((u.1 64 51).toNatClampNeg))]) (M' := sm g u) [pm_o (.istore_n 1), pm_o (.iload_n 1), pm_oi (.bipush 15) 15] (by decide +kernel) rfl ?_
  refine pm_ic_ne (off := 32) 45 (by decide +kernel) (by decide) (fun hc2 => ?_) (fun hc2 => ?_)
  · rw [if_neg hc2] at h
    refine pm_blk (pc' := 48) (L' := [(1, .int (u.1 66 ((u.1 64 51).toNatClampNeg))), (0, .ref 64)]) (S' := [.int 12, .int (u.1 66 ((u.1 64 51).toNatClampNeg))]) (M' := sm g u) [pm_o (.iload_n 1), pm_oi (.bipush 12) 12] (by decide +kernel) rfl ?_
    refine pm_ic_eq (off := 14) 62 (by decide +kernel) (by decide) (fun hc3 => ?_) (fun hc3 => ?_)
    · rw [if_pos hc3] at h
      refine pm_loc [1, 0] rfl ?_
      exact w_Md_atom_62 l h0 D hT (u.1 66 ((u.1 64 51).toNatClampNeg)) u h
    · rw [if_neg hc3] at h
      refine pm_blk (pc' := 54) (L' := [(1, .int (u.1 66 ((u.1 64 51).toNatClampNeg))), (0, .ref 64)]) (S' := [.int 13, .int (u.1 66 ((u.1 64 51).toNatClampNeg))]) (M' := sm g u) [pm_o (.iload_n 1), pm_oi (.bipush 13) 13] (by decide +kernel) rfl ?_
      refine pm_ic_eq (off := 8) 62 (by decide +kernel) (by decide) (fun hc9 => ?_) (fun hc9 => ?_)
      · rw [if_pos hc9] at h
        refine pm_loc [1, 0] rfl ?_
        exact w_Md_atom_62 l h0 D hT (u.1 66 ((u.1 64 51).toNatClampNeg)) u h
      · rw [if_neg hc9] at h
        refine pm_blk (pc' := 59) (L' := [(1, .int (u.1 66 ((u.1 64 51).toNatClampNeg))), (0, .ref 64)]) (S' := [.int 1, .int (u.1 66 ((u.1 64 51).toNatClampNeg))]) (M' := sm g u) [pm_o (.iload_n 1), pm_oi (.iconst 1) 1] (by decide +kernel) rfl ?_
        refine pm_ic_ne (off := 57) 116 (by decide +kernel) (by decide) (fun hc10 => ?_) (fun hc10 => ?_)
        · rw [if_neg hc10] at h
          refine pm_blk (pc' := 122) (L' := [(1, .int (u.1 66 ((u.1 64 51).toNatClampNeg))), (0, .ref 64)]) (S' := [.int (u.1 64 51), .int 2, .ref 64]) (M' := sm g u) [pm_o (.aload_n 0), pm_oi (.iconst 2) 2, pm_o (.aload_n 0), pm_of (.getfield 352) 12 51 0] (by decide +kernel) rfl ?_
          obtain ⟨q11, hq11, h⟩ := pm_bd h
          refine pm_cV (idx := 355) m_Md_stop (c_Md_stop l h0 D hT hq11) (As := [.int 2, .int (u.1 64 51)]) (S0 := []) rfl (by decide +kernel) k_Md_stop l_Md_355 (Nat.le_of_ble_eq_true rfl) (Nat.le_of_ble_eq_true rfl) (Nat.le_refl _) (Nat.le_refl _) ?_
          refine pm_blk (pc' := 125) (L' := [(1, .int (u.1 66 ((u.1 64 51).toNatClampNeg))), (0, .ref 64)]) (S' := []) (M' := sm g q11) [] (by decide +kernel) rfl ?_
          have h9 := Option.some.inj h
          subst h9
          exact pm_retv rfl (by decide +kernel) rfl rfl
        · rw [if_pos hc10] at h
          refine pm_loc [1, 0] rfl ?_
          exact w_Md_atom_62 l h0 D hT (u.1 66 ((u.1 64 51).toNatClampNeg)) u h
  · rw [if_pos hc2] at h
    refine pm_blk (pc' := 31) (L' := [(1, .int (u.1 66 ((u.1 64 51).toNatClampNeg))), (0, .ref 64)]) (S' := [.int 0, .int 0, .int 26, .ref 64]) (M' := sm g (wi u 64 51 ((u.1 64 51) + 1))) [pm_o (.aload_n 0), pm_o .dup, pm_of (.getfield 352) 12 51 0, pm_oi (.iconst 1) 1, pm_o .iadd, pm_of (.putfield 352) 12 51 0, pm_o (.aload_n 0), pm_oi (.bipush 26) 26, pm_oi (.iconst 0) 0, pm_oi (.iconst 0) 0] (by decide +kernel) rfl ?_
    obtain ⟨q12, hq12, h⟩ := pm_bd h
    refine pm_cV (idx := 383) m_Md_later (c_Md_later l h0 D hT hq12) (As := [.int 26, .int 0, .int 0]) (S0 := []) rfl (by decide +kernel) k_Md_later l_Md_383 (Nat.le_of_ble_eq_true rfl) (Nat.le_of_ble_eq_true rfl) (Nat.le_refl _) (Nat.le_refl _) ?_
    refine pm_blk (pc' := 39) (L' := [(1, .int (u.1 66 ((u.1 64 51).toNatClampNeg))), (0, .ref 64)]) (S' := [.int 0, .int 0, .int 10, .ref 64]) (M' := sm g q12) [pm_o (.aload_n 0), pm_oi (.bipush 10) 10, pm_oi (.iconst 0) 0, pm_oi (.iconst 0) 0] (by decide +kernel) rfl ?_
    obtain ⟨q13, hq13, h⟩ := pm_bd h
    refine pm_cV (idx := 383) m_Md_later (c_Md_later l h0 D hT hq13) (As := [.int 10, .int 0, .int 0]) (S0 := []) rfl (by decide +kernel) k_Md_later l_Md_383 (Nat.le_of_ble_eq_true rfl) (Nat.le_of_ble_eq_true rfl) (Nat.le_refl _) (Nat.le_refl _) ?_
    refine pm_blk (pc' := 42) (L' := [(1, .int (u.1 66 ((u.1 64 51).toNatClampNeg))), (0, .ref 64)]) (S' := []) (M' := sm g q13) [] (by decide +kernel) rfl ?_
    refine pm_goto (off := 83) 125 (by decide +kernel) (by decide) ?_
    have h9 := Option.some.inj h
    subst h9
    exact pm_retv rfl (by decide +kernel) rfl rfl
def K_Md_sumTask_168 (N : Nat) (g : pm_s) (x2 : Int32) (u : pm_J) : Option (pm_J) := (F_Md_later 21 (x2 + 1) 0 g u).bind fun q13 => (F_Md_later 22 (q13.1 64 51) 0 g q13).bind fun q14 => (F_Md_later 23 0 0 g q14).bind fun q15 => some (wi q15 64 51 ((q15.1 64 51) + 1))
set_option maxHeartbeats 4000000 in
set_option maxRecDepth 100000 in
theorem w_Md_sumTask_168 (l : Launch) (h0 : Nat) (D : pm_D) {g : pm_s} (hT : sh_T g) {N : Nat} {u0 : pm_J} {out : pm_J} {p : Program} {e : Env} {R : Room} {s : State} {m : MethodId} {args : Array Value} {below : List Frame} {meth : Method} {c : Code} : ∀ (x2 : Int32) (u : pm_J), K_Md_sumTask_168 N g x2 u = some out → pm_V (p, l, e, R, s, m, args, below, meth, c) m_Md_sumTask h0 D (g.1, g.2.1, g.1, g.2.1, 3) (pm_E (p, l, e, R, s, m, args, below, meth, c) h0 D (sm g u0) none (sm g out)) 168 [(0, .ref 64), (2, .int x2)] [] (sm g u) := by
    intro x2 u h
    unfold K_Md_sumTask_168 at h
    refine pm_blk (pc' := 175) (L' := [(0, .ref 64), (2, .int x2)]) (S' := [.int 0, .int (x2 + 1), .int 21, .ref 64]) (M' := sm g u) [pm_o (.aload_n 0), pm_oi (.bipush 21) 21, pm_o (.iload_n 2), pm_oi (.iconst 1) 1, pm_o .iadd, pm_oi (.iconst 0) 0] (by decide +kernel) rfl ?_
    obtain ⟨q13, hq13, h⟩ := pm_bd h
    refine pm_cV (idx := 383) m_Md_later (c_Md_later l h0 D hT hq13) (As := [.int 21, .int (x2 + 1), .int 0]) (S0 := []) rfl (by decide +kernel) k_Md_later l_Md_383 (Nat.le_of_ble_eq_true rfl) (Nat.le_of_ble_eq_true rfl) (Nat.le_refl _) (Nat.le_refl _) ?_
    refine pm_blk (pc' := 186) (L' := [(0, .ref 64), (2, .int x2)]) (S' := [.int 0, .int (q13.1 64 51), .int 22, .ref 64]) (M' := sm g q13) [pm_o (.aload_n 0), pm_oi (.bipush 22) 22, pm_o (.aload_n 0), pm_of (.getfield 352) 12 51 0, pm_oi (.iconst 0) 0] (by decide +kernel) rfl ?_
    obtain ⟨q14, hq14, h⟩ := pm_bd h
    refine pm_cV (idx := 383) m_Md_later (c_Md_later l h0 D hT hq14) (As := [.int 22, .int (q13.1 64 51), .int 0]) (S0 := []) rfl (by decide +kernel) k_Md_later l_Md_383 (Nat.le_of_ble_eq_true rfl) (Nat.le_of_ble_eq_true rfl) (Nat.le_refl _) (Nat.le_refl _) ?_
    refine pm_blk (pc' := 194) (L' := [(0, .ref 64), (2, .int x2)]) (S' := [.int 0, .int 0, .int 23, .ref 64]) (M' := sm g q14) [pm_o (.aload_n 0), pm_oi (.bipush 23) 23, pm_oi (.iconst 0) 0, pm_oi (.iconst 0) 0] (by decide +kernel) rfl ?_
    obtain ⟨q15, hq15, h⟩ := pm_bd h
    refine pm_cV (idx := 383) m_Md_later (c_Md_later l h0 D hT hq15) (As := [.int 23, .int 0, .int 0]) (S0 := []) rfl (by decide +kernel) k_Md_later l_Md_383 (Nat.le_of_ble_eq_true rfl) (Nat.le_of_ble_eq_true rfl) (Nat.le_refl _) (Nat.le_refl _) ?_
    refine pm_blk (pc' := 207) (L' := [(0, .ref 64), (2, .int x2)]) (S' := []) (M' := sm g (wi q15 64 51 ((q15.1 64 51) + 1))) [pm_o (.aload_n 0), pm_o .dup, pm_of (.getfield 352) 12 51 0, pm_oi (.iconst 1) 1, pm_o .iadd, pm_of (.putfield 352) 12 51 0] (by decide +kernel) rfl ?_
    refine pm_goto (off := 356) 563 (by decide +kernel) (by decide) ?_
    have h9 := Option.some.inj h
    subst h9
    exact pm_retv rfl (by decide +kernel) rfl rfl
def K_Md_sumTask_273 (N : Nat) (g : pm_s) (u : pm_J) : Option (pm_J) := (F_Md_later 28 (u.1 64 51) 0 g u).bind fun q30 => (F_Md_later 25 0 0 g q30).bind fun q31 => some (wi q31 64 51 ((q31.1 64 51) + 1))
set_option maxHeartbeats 4000000 in
set_option maxRecDepth 100000 in
theorem w_Md_sumTask_273 (l : Launch) (h0 : Nat) (D : pm_D) {g : pm_s} (hT : sh_T g) {N : Nat} {u0 : pm_J} {out : pm_J} {p : Program} {e : Env} {R : Room} {s : State} {m : MethodId} {args : Array Value} {below : List Frame} {meth : Method} {c : Code} : ∀  (u : pm_J), K_Md_sumTask_273 N g u = some out → pm_V (p, l, e, R, s, m, args, below, meth, c) m_Md_sumTask h0 D (g.1, g.2.1, g.1, g.2.1, 3) (pm_E (p, l, e, R, s, m, args, below, meth, c) h0 D (sm g u0) none (sm g out)) 273 [(0, .ref 64)] [] (sm g u) := by
    intro u h
    unfold K_Md_sumTask_273 at h
    refine pm_blk (pc' := 281) (L' := [(0, .ref 64)]) (S' := [.int 0, .int (u.1 64 51), .int 28, .ref 64]) (M' := sm g u) [pm_o (.aload_n 0), pm_oi (.bipush 28) 28, pm_o (.aload_n 0), pm_of (.getfield 352) 12 51 0, pm_oi (.iconst 0) 0] (by decide +kernel) rfl ?_
    obtain ⟨q30, hq30, h⟩ := pm_bd h
    refine pm_cV (idx := 383) m_Md_later (c_Md_later l h0 D hT hq30) (As := [.int 28, .int (u.1 64 51), .int 0]) (S0 := []) rfl (by decide +kernel) k_Md_later l_Md_383 (Nat.le_of_ble_eq_true rfl) (Nat.le_of_ble_eq_true rfl) (Nat.le_refl _) (Nat.le_refl _) ?_
    refine pm_blk (pc' := 289) (L' := [(0, .ref 64)]) (S' := [.int 0, .int 0, .int 25, .ref 64]) (M' := sm g q30) [pm_o (.aload_n 0), pm_oi (.bipush 25) 25, pm_oi (.iconst 0) 0, pm_oi (.iconst 0) 0] (by decide +kernel) rfl ?_
    obtain ⟨q31, hq31, h⟩ := pm_bd h
    refine pm_cV (idx := 383) m_Md_later (c_Md_later l h0 D hT hq31) (As := [.int 25, .int 0, .int 0]) (S0 := []) rfl (by decide +kernel) k_Md_later l_Md_383 (Nat.le_of_ble_eq_true rfl) (Nat.le_of_ble_eq_true rfl) (Nat.le_refl _) (Nat.le_refl _) ?_
    refine pm_blk (pc' := 302) (L' := [(0, .ref 64)]) (S' := []) (M' := sm g (wi q31 64 51 ((q31.1 64 51) + 1))) [pm_o (.aload_n 0), pm_o .dup, pm_of (.getfield 352) 12 51 0, pm_oi (.iconst 1) 1, pm_o .iadd, pm_of (.putfield 352) 12 51 0] (by decide +kernel) rfl ?_
    refine pm_goto (off := 261) 563 (by decide +kernel) (by decide) ?_
    have h9 := Option.some.inj h
    subst h9
    exact pm_retv rfl (by decide +kernel) rfl rfl
def K_Md_sumTask_329 (N : Nat) (g : pm_s) (t0 : Int32) (t1 : Int32) (u : pm_J) : Option (pm_J) := (F_Md_later t1 t0 0 g u).bind fun q36 => (F_Md_later 25 0 0 g q36).bind fun q37 => some q37
set_option maxHeartbeats 4000000 in
set_option maxRecDepth 100000 in
theorem w_Md_sumTask_329 (l : Launch) (h0 : Nat) (D : pm_D) {g : pm_s} (hT : sh_T g) {N : Nat} {u0 : pm_J} {out : pm_J} {p : Program} {e : Env} {R : Room} {s : State} {m : MethodId} {args : Array Value} {below : List Frame} {meth : Method} {c : Code} : ∀ (t0 : Int32) (t1 : Int32) (u : pm_J), K_Md_sumTask_329 N g t0 t1 u = some out → pm_V (p, l, e, R, s, m, args, below, meth, c) m_Md_sumTask h0 D (g.1, g.2.1, g.1, g.2.1, 3) (pm_E (p, l, e, R, s, m, args, below, meth, c) h0 D (sm g u0) none (sm g out)) 329 [(0, .ref 64)] [.int t0, .int t1, .ref 64] (sm g u) := by
    intro t0 t1 u h
    unfold K_Md_sumTask_329 at h
    refine pm_blk (pc' := 330) (L' := [(0, .ref 64)]) (S' := [.int 0, .int t0, .int t1, .ref 64]) (M' := sm g u) [pm_oi (.iconst 0) 0] (by decide +kernel) rfl ?_
    obtain ⟨q36, hq36, h⟩ := pm_bd h
    refine pm_cV (idx := 383) m_Md_later (c_Md_later l h0 D hT hq36) (As := [.int t1, .int t0, .int 0]) (S0 := []) rfl (by decide +kernel) k_Md_later l_Md_383 (Nat.le_of_ble_eq_true rfl) (Nat.le_of_ble_eq_true rfl) (Nat.le_refl _) (Nat.le_refl _) ?_
    refine pm_blk (pc' := 338) (L' := [(0, .ref 64)]) (S' := [.int 0, .int 0, .int 25, .ref 64]) (M' := sm g q36) [pm_o (.aload_n 0), pm_oi (.bipush 25) 25, pm_oi (.iconst 0) 0, pm_oi (.iconst 0) 0] (by decide +kernel) rfl ?_
    obtain ⟨q37, hq37, h⟩ := pm_bd h
    refine pm_cV (idx := 383) m_Md_later (c_Md_later l h0 D hT hq37) (As := [.int 25, .int 0, .int 0]) (S0 := []) rfl (by decide +kernel) k_Md_later l_Md_383 (Nat.le_of_ble_eq_true rfl) (Nat.le_of_ble_eq_true rfl) (Nat.le_refl _) (Nat.le_refl _) ?_
    refine pm_blk (pc' := 341) (L' := [(0, .ref 64)]) (S' := []) (M' := sm g q37) [] (by decide +kernel) rfl ?_
    refine pm_goto (off := 222) 563 (by decide +kernel) (by decide) ?_
    have h9 := Option.some.inj h
    subst h9
    exact pm_retv rfl (by decide +kernel) rfl rfl
def K_Md_sumTask_425 (N : Nat) (g : pm_s) (x2 : Int32) (x3 : Int32) (u : pm_J) : Option (pm_J) := (F_Md_later 24 x2 (x3 + 1) g u).bind fun q42 => (F_Md_later 25 0 0 g q42).bind fun q43 => some q43
set_option maxHeartbeats 4000000 in
set_option maxRecDepth 100000 in
theorem w_Md_sumTask_425 (l : Launch) (h0 : Nat) (D : pm_D) {g : pm_s} (hT : sh_T g) {N : Nat} {u0 : pm_J} {out : pm_J} {p : Program} {e : Env} {R : Room} {s : State} {m : MethodId} {args : Array Value} {below : List Frame} {meth : Method} {c : Code} : ∀ (x2 : Int32) (x3 : Int32) (u : pm_J), K_Md_sumTask_425 N g x2 x3 u = some out → pm_V (p, l, e, R, s, m, args, below, meth, c) m_Md_sumTask h0 D (g.1, g.2.1, g.1, g.2.1, 3) (pm_E (p, l, e, R, s, m, args, below, meth, c) h0 D (sm g u0) none (sm g out)) 425 [(0, .ref 64), (2, .int x2), (3, .int x3)] [] (sm g u) := by
    intro x2 x3 u h
    unfold K_Md_sumTask_425 at h
    refine pm_blk (pc' := 432) (L' := [(0, .ref 64), (2, .int x2), (3, .int x3)]) (S' := [.int (x3 + 1), .int x2, .int 24, .ref 64]) (M' := sm g u) [pm_o (.aload_n 0), pm_oi (.bipush 24) 24, pm_o (.iload_n 2), pm_o (.iload_n 3), pm_oi (.iconst 1) 1, pm_o .iadd] (by decide +kernel) rfl ?_
    obtain ⟨q42, hq42, h⟩ := pm_bd h
    refine pm_cV (idx := 383) m_Md_later (c_Md_later l h0 D hT hq42) (As := [.int 24, .int x2, .int (x3 + 1)]) (S0 := []) rfl (by decide +kernel) k_Md_later l_Md_383 (Nat.le_of_ble_eq_true rfl) (Nat.le_of_ble_eq_true rfl) (Nat.le_refl _) (Nat.le_refl _) ?_
    refine pm_blk (pc' := 440) (L' := [(0, .ref 64), (2, .int x2), (3, .int x3)]) (S' := [.int 0, .int 0, .int 25, .ref 64]) (M' := sm g q42) [pm_o (.aload_n 0), pm_oi (.bipush 25) 25, pm_oi (.iconst 0) 0, pm_oi (.iconst 0) 0] (by decide +kernel) rfl ?_
    obtain ⟨q43, hq43, h⟩ := pm_bd h
    refine pm_cV (idx := 383) m_Md_later (c_Md_later l h0 D hT hq43) (As := [.int 25, .int 0, .int 0]) (S0 := []) rfl (by decide +kernel) k_Md_later l_Md_383 (Nat.le_of_ble_eq_true rfl) (Nat.le_of_ble_eq_true rfl) (Nat.le_refl _) (Nat.le_refl _) ?_
    refine pm_blk (pc' := 443) (L' := [(0, .ref 64), (2, .int x2), (3, .int x3)]) (S' := []) (M' := sm g q43) [] (by decide +kernel) rfl ?_
    refine pm_goto (off := 120) 563 (by decide +kernel) (by decide) ?_
    have h9 := Option.some.inj h
    subst h9
    exact pm_retv rfl (by decide +kernel) rfl rfl
def K_Md_sumTask_529 (N : Nat) (g : pm_s) (x2 : Int32) (u : pm_J) : Option (pm_J) := (F_Md_expect N 16 g u).bind fun q71 => (F_Md_take g q71).bind fun q72 => (F_Md_take g q72.2).bind fun q73 => (F_Md_node N 32 x2 q73.1 q72.1 (-1) g q73.2).bind fun q74 => (F_Md_give q74.1 g q74.2).bind fun q75 => some q75
set_option maxHeartbeats 4000000 in
set_option maxRecDepth 100000 in
theorem w_Md_sumTask_529 (l : Launch) (h0 : Nat) (D : pm_D) {g : pm_s} (hT : sh_T g) {N : Nat} {u0 : pm_J} {out : pm_J} {p : Program} {e : Env} {R : Room} {s : State} {m : MethodId} {args : Array Value} {below : List Frame} {meth : Method} {c : Code} : ∀ (x2 : Int32) (u : pm_J), K_Md_sumTask_529 N g x2 u = some out → pm_V (p, l, e, R, s, m, args, below, meth, c) m_Md_sumTask h0 D (g.1, g.2.1, g.1, g.2.1, 3) (pm_E (p, l, e, R, s, m, args, below, meth, c) h0 D (sm g u0) none (sm g out)) 529 [(0, .ref 64), (2, .int x2)] [] (sm g u) := by
    intro x2 u h
    unfold K_Md_sumTask_529 at h
    refine pm_blk (pc' := 532) (L' := [(0, .ref 64), (2, .int x2)]) (S' := [.int 16, .ref 64]) (M' := sm g u) [pm_o (.aload_n 0), pm_oi (.bipush 16) 16] (by decide +kernel) rfl ?_
    obtain ⟨q71, hq71, h⟩ := pm_bd h
    refine pm_cV (idx := 397) m_Md_expect (c_Md_expect l h0 D hT hq71) (As := [.int 16]) (S0 := []) rfl (by decide +kernel) k_Md_expect l_Md_397 (Nat.le_of_ble_eq_true rfl) (Nat.le_of_ble_eq_true rfl) (Nat.le_refl _) (Nat.le_refl _) ?_
    refine pm_blk (pc' := 536) (L' := [(0, .ref 64), (2, .int x2)]) (S' := [.ref 64]) (M' := sm g q71) [pm_o (.aload_n 0)] (by decide +kernel) rfl ?_
    obtain ⟨q72, hq72, h⟩ := pm_bd h
    refine pm_cV (idx := 412) m_Md_take (c_Md_take l h0 D hT hq72) (As := []) (S0 := []) rfl (by decide +kernel) k_Md_take l_Md_412 (Nat.le_of_ble_eq_true rfl) (Nat.le_of_ble_eq_true rfl) (Nat.le_refl _) (Nat.le_refl _) ?_
    refine pm_blk (pc' := 542) (L' := [(8, .int q72.1), (0, .ref 64), (2, .int x2)]) (S' := [.ref 64]) (M' := sm g q72.2) [pm_o (.istore 8), pm_o (.aload_n 0)] (by decide +kernel) rfl ?_
    obtain ⟨q73, hq73, h⟩ := pm_bd h
    refine pm_cV (idx := 412) m_Md_take (c_Md_take l h0 D hT hq73) (As := []) (S0 := []) rfl (by decide +kernel) k_Md_take l_Md_412 (Nat.le_of_ble_eq_true rfl) (Nat.le_of_ble_eq_true rfl) (Nat.le_refl _) (Nat.le_refl _) ?_
    refine pm_blk (pc' := 557) (L' := [(9, .int q73.1), (8, .int q72.1), (0, .ref 64), (2, .int x2)]) (S' := [.int (-1), .int q72.1, .int q73.1, .int x2, .int 32, .ref 64, .ref 64]) (M' := sm g q73.2) [pm_o (.istore 9), pm_o (.aload_n 0), pm_o (.aload_n 0), pm_oi (.bipush 32) 32, pm_o (.iload_n 2), pm_o (.iload 9), pm_o (.iload 8), pm_oi (.iconst (-1)) (-1)] (by decide +kernel) rfl ?_
    obtain ⟨q74, hq74, h⟩ := pm_bd h
    refine pm_cV (idx := 415) m_Md_node (c_Md_node l h0 D hT hq74) (As := [.int 32, .int x2, .int q73.1, .int q72.1, .int (-1)]) (S0 := [.ref 64]) rfl (by decide +kernel) k_Md_node l_Md_415 (Nat.le_of_ble_eq_true rfl) (Nat.le_of_ble_eq_true rfl) (Nat.le_refl _) (Nat.le_refl _) ?_
    refine pm_blk (pc' := 560) (L' := [(9, .int q73.1), (8, .int q72.1), (0, .ref 64), (2, .int x2)]) (S' := [.int q74.1, .ref 64]) (M' := sm g q74.2) [] (by decide +kernel) rfl ?_
    obtain ⟨q75, hq75, h⟩ := pm_bd h
    refine pm_cV (idx := 419) m_Md_give (c_Md_give l h0 D hT hq75) (As := [.int q74.1]) (S0 := []) rfl (by decide +kernel) k_Md_give l_Md_419 (Nat.le_of_ble_eq_true rfl) (Nat.le_of_ble_eq_true rfl) (Nat.le_refl _) (Nat.le_refl _) ?_
    refine pm_blk (pc' := 563) (L' := [(9, .int q73.1), (8, .int q72.1), (0, .ref 64), (2, .int x2)]) (S' := []) (M' := sm g q75) [] (by decide +kernel) rfl ?_
    have h9 := Option.some.inj h
    subst h9
    exact pm_retv rfl (by decide +kernel) rfl rfl
def F_Md_sumTask (N : Nat) (a1 : Int32) (a2 : Int32) (a3 : Int32) (g : pm_s) (u : pm_J) : Option (pm_J) := if a1 = 18 then if pm_ok (u.1 64 51) 902 = true then if (u.1 66 ((u.1 64 51).toNatClampNeg)) = 25 then (F_Md_later 22 (u.1 64 51) 0 g u).bind fun q4 => (F_Md_later 20 0 0 g q4).bind fun q5 => some (wi q5 64 51 ((q5.1 64 51) + 1)) else some u else none else if a1 = 20 then (F_Md_later 21 0 0 g u).bind fun q7 => (F_Md_later 23 0 0 g q7).bind fun q8 => some q8 else if a1 = 21 then if pm_ok (u.1 64 51) 902 = true then if (u.1 66 ((u.1 64 51).toNatClampNeg)) = 23 then if a2 = 8 then (F_Md_stop 3 (u.1 64 51) g u).bind fun q16 => K_Md_sumTask_168 N g a2 q16 else K_Md_sumTask_168 N g a2 u else if pm_ok (u.1 64 51) 902 = true then if (u.1 66 ((u.1 64 51).toNatClampNeg)) = 24 then if a2 = 8 then (F_Md_stop 3 (u.1 64 51) g u).bind fun q20 => K_Md_sumTask_168 N g a2 q20 else K_Md_sumTask_168 N g a2 u else some u else none else none else if a1 = 22 then (F_Md_take g u).bind fun q22 => (F_Md_take g q22.2).bind fun q23 => if pm_ok a2 902 = true then (F_Md_node N (q23.2.1 66 a2.toNatClampNeg) a2 q23.1 q22.1 (-1) g q23.2).bind fun q25 => (F_Md_give q25.1 g q25.2).bind fun q26 => some q26 else none else if a1 = 23 then if pm_ok (u.1 64 51) 902 = true then if (u.1 66 ((u.1 64 51).toNatClampNeg)) = 10 then K_Md_sumTask_273 N g  u else if pm_ok (u.1 64 51) 902 = true then if (u.1 66 ((u.1 64 51).toNatClampNeg)) = 11 then K_Md_sumTask_273 N g  u else if pm_ok (u.1 64 51) 902 = true then if (u.1 66 ((u.1 64 51).toNatClampNeg)) = 1 then K_Md_sumTask_329 N g (u.1 64 51) 24 u else K_Md_sumTask_329 N g (-1) 24 u else none else none else none else if a1 = 24 then if pm_ok (u.1 64 51) 902 = true then if (u.1 66 ((u.1 64 51).toNatClampNeg)) = 12 then if a3 = 8 then (F_Md_stop 3 (u.1 64 51) g u).bind fun q44 => K_Md_sumTask_425 N g a2 a3 q44 else K_Md_sumTask_425 N g a2 a3 u else if (u.1 66 ((u.1 64 51).toNatClampNeg)) = 13 then if a3 = 8 then (F_Md_stop 3 (u.1 64 51) g u).bind fun q47 => K_Md_sumTask_425 N g a2 a3 q47 else K_Md_sumTask_425 N g a2 a3 u else if (u.1 66 ((u.1 64 51).toNatClampNeg)) = 1 then if a3 = 8 then (F_Md_stop 3 (u.1 64 51) g u).bind fun q50 => K_Md_sumTask_425 N g a2 a3 q50 else K_Md_sumTask_425 N g a2 a3 u else if (u.1 66 ((u.1 64 51).toNatClampNeg)) = 15 then if a3 = 8 then (F_Md_stop 3 (u.1 64 51) g u).bind fun q57 => K_Md_sumTask_425 N g a2 a3 q57 else K_Md_sumTask_425 N g a2 a3 u else if a3 ≤ 0 then some u else if a2 < 0 then (F_Md_row N a3 0 g u).bind fun q54 => some q54 else (F_Md_row N a3 1 g u).bind fun q55 => some q55 else none else if a1 = 25 then (F_Md_atom N g u).bind fun q59 => some q59 else if a1 = 26 then if pm_ok (u.1 64 51) 902 = true then if (u.1 66 ((u.1 64 51).toNatClampNeg)) = 21 then (F_Md_later 27 (u.1 64 51) 0 g u).bind fun q64 => (F_Md_later 10 0 0 g q64).bind fun q65 => some (wi q65 64 51 ((q65.1 64 51) + 1)) else (F_Md_expect N 16 g u).bind fun q63 => some q63 else none else if a1 = 28 then (F_Md_take g u).bind fun q67 => if pm_ok a2 902 = true then (F_Md_node N (q67.2.1 66 a2.toNatClampNeg) a2 q67.1 (-1) (-1) g q67.2).bind fun q69 => (F_Md_give q69.1 g q69.2).bind fun q70 => some q70 else none else K_Md_sumTask_529 N g a2 u
set_option maxHeartbeats 4000000 in
set_option maxRecDepth 100000 in
theorem c_Md_sumTask (l : Launch) (h0 : Nat) (D : pm_D) {g : pm_s} {u : pm_J} (hT : sh_T g) {N : Nat} {a1 : Int32} {a2 : Int32} {a3 : Int32} {out : pm_J} (h : F_Md_sumTask N a1 a2 a3 g u = some out) : pm_C l h0 D m_Md_sumTask (3) [.ref 64, .int a1, .int a2, .int a3] (sm g u) none (sm g out) := by
  unfold F_Md_sumTask at h
  refine pm_met (by decide +kernel) (Nat.le_of_ble_eq_true rfl) (Nat.le_refl _) (Nat.le_refl _) ?_
  intro p e R s m args below meth c
  refine pm_blk (pc' := 1) (L' := [(0, .ref 64), (1, .int a1), (2, .int a2), (3, .int a3)]) (S' := [.int a1]) (M' := sm g u) [pm_o (.iload_n 1)] (by decide +kernel) rfl ?_
  refine pm_tsw (dflt := 528) (lo := 18) (hi := 28) (offs := #[59, 528, 105, 124, 209, 244, 371, 466, 473, 528, 343]) (len := 59) [(18, 60), (20, 106), (21, 125), (22, 210), (23, 245), (24, 372), (25, 467), (26, 474), (28, 344)] 529 (by decide +kernel) (by decide +kernel) ?_
  by_cases hs1 : a1 = 18
  · rw [if_pos hs1] at h
    rw [pm_sw_pos hs1]
    refine pm_blk (pc' := 68) (L' := [(0, .ref 64), (1, .int a1), (2, .int a2), (3, .int a3)]) (S' := [.int (u.1 64 51), .ref 66]) (M' := sm g u) [pm_o (.aload_n 0), pm_of (.getfield 17) 12 6 2, pm_o (.aload_n 0), pm_of (.getfield 352) 12 51 0] (by decide +kernel) rfl ?_
    obtain ⟨ho2, h⟩ := pm_ifs h
    refine pm_iald (by decide +kernel) rfl (pm_ok_in ho2) ?_
    refine pm_blk (pc' := 71) (L' := [(0, .ref 64), (1, .int a1), (2, .int a2), (3, .int a3)]) (S' := [.int 25, .int (u.1 66 ((u.1 64 51).toNatClampNeg))]) (M' := sm g u) [pm_oi (.bipush 25) 25] (by decide +kernel) rfl ?_
    refine pm_ic_ne (off := 492) 563 (by decide +kernel) (by decide) (fun hc3 => ?_) (fun hc3 => ?_)
    · rw [if_neg hc3] at h
      have h9 := Option.some.inj h
      subst h9
      exact pm_retv rfl (by decide +kernel) rfl rfl
    · rw [if_pos hc3] at h
      refine pm_blk (pc' := 82) (L' := [(0, .ref 64), (1, .int a1), (2, .int a2), (3, .int a3)]) (S' := [.int 0, .int (u.1 64 51), .int 22, .ref 64]) (M' := sm g u) [pm_o (.aload_n 0), pm_oi (.bipush 22) 22, pm_o (.aload_n 0), pm_of (.getfield 352) 12 51 0, pm_oi (.iconst 0) 0] (by decide +kernel) rfl ?_
      obtain ⟨q4, hq4, h⟩ := pm_bd h
      refine pm_cV (idx := 383) m_Md_later (c_Md_later l h0 D hT hq4) (As := [.int 22, .int (u.1 64 51), .int 0]) (S0 := []) rfl (by decide +kernel) k_Md_later l_Md_383 (Nat.le_of_ble_eq_true rfl) (Nat.le_of_ble_eq_true rfl) (Nat.le_refl _) (Nat.le_refl _) ?_
      refine pm_blk (pc' := 90) (L' := [(0, .ref 64), (1, .int a1), (2, .int a2), (3, .int a3)]) (S' := [.int 0, .int 0, .int 20, .ref 64]) (M' := sm g q4) [pm_o (.aload_n 0), pm_oi (.bipush 20) 20, pm_oi (.iconst 0) 0, pm_oi (.iconst 0) 0] (by decide +kernel) rfl ?_
      obtain ⟨q5, hq5, h⟩ := pm_bd h
      refine pm_cV (idx := 383) m_Md_later (c_Md_later l h0 D hT hq5) (As := [.int 20, .int 0, .int 0]) (S0 := []) rfl (by decide +kernel) k_Md_later l_Md_383 (Nat.le_of_ble_eq_true rfl) (Nat.le_of_ble_eq_true rfl) (Nat.le_refl _) (Nat.le_refl _) ?_
      refine pm_blk (pc' := 103) (L' := [(0, .ref 64), (1, .int a1), (2, .int a2), (3, .int a3)]) (S' := []) (M' := sm g (wi q5 64 51 ((q5.1 64 51) + 1))) [pm_o (.aload_n 0), pm_o .dup, pm_of (.getfield 352) 12 51 0, pm_oi (.iconst 1) 1, pm_o .iadd, pm_of (.putfield 352) 12 51 0] (by decide +kernel) rfl ?_
      refine pm_goto (off := 460) 563 (by decide +kernel) (by decide) ?_
      have h9 := Option.some.inj h
      subst h9
      exact pm_retv rfl (by decide +kernel) rfl rfl
  rw [if_neg hs1] at h
  rw [pm_sw_neg hs1]
  by_cases hs6 : a1 = 20
  · rw [if_pos hs6] at h
    rw [pm_sw_pos hs6]
    refine pm_blk (pc' := 111) (L' := [(0, .ref 64), (1, .int a1), (2, .int a2), (3, .int a3)]) (S' := [.int 0, .int 0, .int 21, .ref 64]) (M' := sm g u) [pm_o (.aload_n 0), pm_oi (.bipush 21) 21, pm_oi (.iconst 0) 0, pm_oi (.iconst 0) 0] (by decide +kernel) rfl ?_
    obtain ⟨q7, hq7, h⟩ := pm_bd h
    refine pm_cV (idx := 383) m_Md_later (c_Md_later l h0 D hT hq7) (As := [.int 21, .int 0, .int 0]) (S0 := []) rfl (by decide +kernel) k_Md_later l_Md_383 (Nat.le_of_ble_eq_true rfl) (Nat.le_of_ble_eq_true rfl) (Nat.le_refl _) (Nat.le_refl _) ?_
    refine pm_blk (pc' := 119) (L' := [(0, .ref 64), (1, .int a1), (2, .int a2), (3, .int a3)]) (S' := [.int 0, .int 0, .int 23, .ref 64]) (M' := sm g q7) [pm_o (.aload_n 0), pm_oi (.bipush 23) 23, pm_oi (.iconst 0) 0, pm_oi (.iconst 0) 0] (by decide +kernel) rfl ?_
    obtain ⟨q8, hq8, h⟩ := pm_bd h
    refine pm_cV (idx := 383) m_Md_later (c_Md_later l h0 D hT hq8) (As := [.int 23, .int 0, .int 0]) (S0 := []) rfl (by decide +kernel) k_Md_later l_Md_383 (Nat.le_of_ble_eq_true rfl) (Nat.le_of_ble_eq_true rfl) (Nat.le_refl _) (Nat.le_refl _) ?_
    refine pm_blk (pc' := 122) (L' := [(0, .ref 64), (1, .int a1), (2, .int a2), (3, .int a3)]) (S' := []) (M' := sm g q8) [] (by decide +kernel) rfl ?_
    refine pm_goto (off := 441) 563 (by decide +kernel) (by decide) ?_
    have h9 := Option.some.inj h
    subst h9
    exact pm_retv rfl (by decide +kernel) rfl rfl
  rw [if_neg hs6] at h
  rw [pm_sw_neg hs6]
  by_cases hs9 : a1 = 21
  · rw [if_pos hs9] at h
    rw [pm_sw_pos hs9]
    refine pm_blk (pc' := 133) (L' := [(0, .ref 64), (1, .int a1), (2, .int a2), (3, .int a3)]) (S' := [.int (u.1 64 51), .ref 66]) (M' := sm g u) [pm_o (.aload_n 0), pm_of (.getfield 17) 12 6 2, pm_o (.aload_n 0), pm_of (.getfield 352) 12 51 0] (by decide +kernel) rfl ?_
    obtain ⟨ho10, h⟩ := pm_ifs h
    refine pm_iald (by decide +kernel) rfl (pm_ok_in ho10) ?_
    refine pm_blk (pc' := 136) (L' := [(0, .ref 64), (1, .int a1), (2, .int a2), (3, .int a3)]) (S' := [.int 23, .int (u.1 66 ((u.1 64 51).toNatClampNeg))]) (M' := sm g u) [pm_oi (.bipush 23) 23] (by decide +kernel) rfl ?_
    refine pm_ic_eq (off := 17) 153 (by decide +kernel) (by decide) (fun hc11 => ?_) (fun hc11 => ?_)
    · rw [if_pos hc11] at h
      refine pm_blk (pc' := 156) (L' := [(0, .ref 64), (1, .int a1), (2, .int a2), (3, .int a3)]) (S' := [.int 8, .int a2]) (M' := sm g u) [pm_o (.iload_n 2), pm_oi (.bipush 8) 8] (by decide +kernel) rfl ?_
      refine pm_ic_ne (off := 12) 168 (by decide +kernel) (by decide) (fun hc12 => ?_) (fun hc12 => ?_)
      · rw [if_neg hc12] at h
        refine pm_loc [0, 2] rfl ?_
        exact w_Md_sumTask_168 l h0 D hT a2 u h
      · rw [if_pos hc12] at h
        refine pm_blk (pc' := 165) (L' := [(0, .ref 64), (1, .int a1), (2, .int a2), (3, .int a3)]) (S' := [.int (u.1 64 51), .int 3, .ref 64]) (M' := sm g u) [pm_o (.aload_n 0), pm_oi (.iconst 3) 3, pm_o (.aload_n 0), pm_of (.getfield 352) 12 51 0] (by decide +kernel) rfl ?_
        obtain ⟨q16, hq16, h⟩ := pm_bd h
        refine pm_cV (idx := 355) m_Md_stop (c_Md_stop l h0 D hT hq16) (As := [.int 3, .int (u.1 64 51)]) (S0 := []) rfl (by decide +kernel) k_Md_stop l_Md_355 (Nat.le_of_ble_eq_true rfl) (Nat.le_of_ble_eq_true rfl) (Nat.le_refl _) (Nat.le_refl _) ?_
        refine pm_blk (pc' := 168) (L' := [(0, .ref 64), (1, .int a1), (2, .int a2), (3, .int a3)]) (S' := []) (M' := sm g q16) [] (by decide +kernel) rfl ?_
        refine pm_loc [0, 2] rfl ?_
        exact w_Md_sumTask_168 l h0 D hT a2 q16 h
    · rw [if_neg hc11] at h
      refine pm_blk (pc' := 147) (L' := [(0, .ref 64), (1, .int a1), (2, .int a2), (3, .int a3)]) (S' := [.int (u.1 64 51), .ref 66]) (M' := sm g u) [pm_o (.aload_n 0), pm_of (.getfield 17) 12 6 2, pm_o (.aload_n 0), pm_of (.getfield 352) 12 51 0] (by decide +kernel) rfl ?_
      obtain ⟨ho17, h⟩ := pm_ifs h
      refine pm_iald (by decide +kernel) rfl (pm_ok_in ho17) ?_
      refine pm_blk (pc' := 150) (L' := [(0, .ref 64), (1, .int a1), (2, .int a2), (3, .int a3)]) (S' := [.int 24, .int (u.1 66 ((u.1 64 51).toNatClampNeg))]) (M' := sm g u) [pm_oi (.bipush 24) 24] (by decide +kernel) rfl ?_
      refine pm_ic_ne (off := 413) 563 (by decide +kernel) (by decide) (fun hc18 => ?_) (fun hc18 => ?_)
      · rw [if_neg hc18] at h
        have h9 := Option.some.inj h
        subst h9
        exact pm_retv rfl (by decide +kernel) rfl rfl
      · rw [if_pos hc18] at h
        refine pm_blk (pc' := 156) (L' := [(0, .ref 64), (1, .int a1), (2, .int a2), (3, .int a3)]) (S' := [.int 8, .int a2]) (M' := sm g u) [pm_o (.iload_n 2), pm_oi (.bipush 8) 8] (by decide +kernel) rfl ?_
        refine pm_ic_ne (off := 12) 168 (by decide +kernel) (by decide) (fun hc19 => ?_) (fun hc19 => ?_)
        · rw [if_neg hc19] at h
          refine pm_loc [0, 2] rfl ?_
          exact w_Md_sumTask_168 l h0 D hT a2 u h
        · rw [if_pos hc19] at h
          refine pm_blk (pc' := 165) (L' := [(0, .ref 64), (1, .int a1), (2, .int a2), (3, .int a3)]) (S' := [.int (u.1 64 51), .int 3, .ref 64]) (M' := sm g u) [pm_o (.aload_n 0), pm_oi (.iconst 3) 3, pm_o (.aload_n 0), pm_of (.getfield 352) 12 51 0] (by decide +kernel) rfl ?_
          obtain ⟨q20, hq20, h⟩ := pm_bd h
          refine pm_cV (idx := 355) m_Md_stop (c_Md_stop l h0 D hT hq20) (As := [.int 3, .int (u.1 64 51)]) (S0 := []) rfl (by decide +kernel) k_Md_stop l_Md_355 (Nat.le_of_ble_eq_true rfl) (Nat.le_of_ble_eq_true rfl) (Nat.le_refl _) (Nat.le_refl _) ?_
          refine pm_blk (pc' := 168) (L' := [(0, .ref 64), (1, .int a1), (2, .int a2), (3, .int a3)]) (S' := []) (M' := sm g q20) [] (by decide +kernel) rfl ?_
          refine pm_loc [0, 2] rfl ?_
          exact w_Md_sumTask_168 l h0 D hT a2 q20 h
  rw [if_neg hs9] at h
  rw [pm_sw_neg hs9]
  by_cases hs21 : a1 = 22
  · rw [if_pos hs21] at h
    rw [pm_sw_pos hs21]
    refine pm_blk (pc' := 211) (L' := [(0, .ref 64), (1, .int a1), (2, .int a2), (3, .int a3)]) (S' := [.ref 64]) (M' := sm g u) [pm_o (.aload_n 0)] (by decide +kernel) rfl ?_
    obtain ⟨q22, hq22, h⟩ := pm_bd h
    refine pm_cV (idx := 412) m_Md_take (c_Md_take l h0 D hT hq22) (As := []) (S0 := []) rfl (by decide +kernel) k_Md_take l_Md_412 (Nat.le_of_ble_eq_true rfl) (Nat.le_of_ble_eq_true rfl) (Nat.le_refl _) (Nat.le_refl _) ?_
    refine pm_blk (pc' := 217) (L' := [(4, .int q22.1), (0, .ref 64), (1, .int a1), (2, .int a2), (3, .int a3)]) (S' := [.ref 64]) (M' := sm g q22.2) [pm_o (.istore 4), pm_o (.aload_n 0)] (by decide +kernel) rfl ?_
    obtain ⟨q23, hq23, h⟩ := pm_bd h
    refine pm_cV (idx := 412) m_Md_take (c_Md_take l h0 D hT hq23) (As := []) (S0 := []) rfl (by decide +kernel) k_Md_take l_Md_412 (Nat.le_of_ble_eq_true rfl) (Nat.le_of_ble_eq_true rfl) (Nat.le_refl _) (Nat.le_refl _) ?_
    refine pm_blk (pc' := 229) (L' := [(5, .int q23.1), (4, .int q22.1), (0, .ref 64), (1, .int a1), (2, .int a2), (3, .int a3)]) (S' := [.int a2, .ref 66, .ref 64, .ref 64]) (M' := sm g q23.2) [pm_o (.istore 5), pm_o (.aload_n 0), pm_o (.aload_n 0), pm_o (.aload_n 0), pm_of (.getfield 17) 12 6 2, pm_o (.iload_n 2)] (by decide +kernel) rfl ?_
    obtain ⟨ho24, h⟩ := pm_ifs h
    refine pm_iald (by decide +kernel) rfl (pm_ok_in ho24) ?_
    refine pm_blk (pc' := 236) (L' := [(5, .int q23.1), (4, .int q22.1), (0, .ref 64), (1, .int a1), (2, .int a2), (3, .int a3)]) (S' := [.int (-1), .int q22.1, .int q23.1, .int a2, .int (q23.2.1 66 a2.toNatClampNeg), .ref 64, .ref 64]) (M' := sm g q23.2) [pm_o (.iload_n 2), pm_o (.iload 5), pm_o (.iload 4), pm_oi (.iconst (-1)) (-1)] (by decide +kernel) rfl ?_
    obtain ⟨q25, hq25, h⟩ := pm_bd h
    refine pm_cV (idx := 415) m_Md_node (c_Md_node l h0 D hT hq25) (As := [.int (q23.2.1 66 a2.toNatClampNeg), .int a2, .int q23.1, .int q22.1, .int (-1)]) (S0 := [.ref 64]) rfl (by decide +kernel) k_Md_node l_Md_415 (Nat.le_of_ble_eq_true rfl) (Nat.le_of_ble_eq_true rfl) (Nat.le_refl _) (Nat.le_refl _) ?_
    refine pm_blk (pc' := 239) (L' := [(5, .int q23.1), (4, .int q22.1), (0, .ref 64), (1, .int a1), (2, .int a2), (3, .int a3)]) (S' := [.int q25.1, .ref 64]) (M' := sm g q25.2) [] (by decide +kernel) rfl ?_
    obtain ⟨q26, hq26, h⟩ := pm_bd h
    refine pm_cV (idx := 419) m_Md_give (c_Md_give l h0 D hT hq26) (As := [.int q25.1]) (S0 := []) rfl (by decide +kernel) k_Md_give l_Md_419 (Nat.le_of_ble_eq_true rfl) (Nat.le_of_ble_eq_true rfl) (Nat.le_refl _) (Nat.le_refl _) ?_
    refine pm_blk (pc' := 242) (L' := [(5, .int q23.1), (4, .int q22.1), (0, .ref 64), (1, .int a1), (2, .int a2), (3, .int a3)]) (S' := []) (M' := sm g q26) [] (by decide +kernel) rfl ?_
    refine pm_goto (off := 321) 563 (by decide +kernel) (by decide) ?_
    have h9 := Option.some.inj h
    subst h9
    exact pm_retv rfl (by decide +kernel) rfl rfl
  rw [if_neg hs21] at h
  rw [pm_sw_neg hs21]
  by_cases hs27 : a1 = 23
  · rw [if_pos hs27] at h
    rw [pm_sw_pos hs27]
    refine pm_blk (pc' := 253) (L' := [(0, .ref 64), (1, .int a1), (2, .int a2), (3, .int a3)]) (S' := [.int (u.1 64 51), .ref 66]) (M' := sm g u) [pm_o (.aload_n 0), pm_of (.getfield 17) 12 6 2, pm_o (.aload_n 0), pm_of (.getfield 352) 12 51 0] (by decide +kernel) rfl ?_
    obtain ⟨ho28, h⟩ := pm_ifs h
    refine pm_iald (by decide +kernel) rfl (pm_ok_in ho28) ?_
    refine pm_blk (pc' := 256) (L' := [(0, .ref 64), (1, .int a1), (2, .int a2), (3, .int a3)]) (S' := [.int 10, .int (u.1 66 ((u.1 64 51).toNatClampNeg))]) (M' := sm g u) [pm_oi (.bipush 10) 10] (by decide +kernel) rfl ?_
    refine pm_ic_eq (off := 17) 273 (by decide +kernel) (by decide) (fun hc29 => ?_) (fun hc29 => ?_)
    · rw [if_pos hc29] at h
      refine pm_loc [0] rfl ?_
      exact w_Md_sumTask_273 l h0 D hT  u h
    · rw [if_neg hc29] at h
      refine pm_blk (pc' := 267) (L' := [(0, .ref 64), (1, .int a1), (2, .int a2), (3, .int a3)]) (S' := [.int (u.1 64 51), .ref 66]) (M' := sm g u) [pm_o (.aload_n 0), pm_of (.getfield 17) 12 6 2, pm_o (.aload_n 0), pm_of (.getfield 352) 12 51 0] (by decide +kernel) rfl ?_
      obtain ⟨ho32, h⟩ := pm_ifs h
      refine pm_iald (by decide +kernel) rfl (pm_ok_in ho32) ?_
      refine pm_blk (pc' := 270) (L' := [(0, .ref 64), (1, .int a1), (2, .int a2), (3, .int a3)]) (S' := [.int 11, .int (u.1 66 ((u.1 64 51).toNatClampNeg))]) (M' := sm g u) [pm_oi (.bipush 11) 11] (by decide +kernel) rfl ?_
      refine pm_ic_ne (off := 35) 305 (by decide +kernel) (by decide) (fun hc33 => ?_) (fun hc33 => ?_)
      · rw [if_neg hc33] at h
        refine pm_blk (pc' := 316) (L' := [(0, .ref 64), (1, .int a1), (2, .int a2), (3, .int a3)]) (S' := [.int (u.1 64 51), .ref 66, .int 24, .ref 64]) (M' := sm g u) [pm_o (.aload_n 0), pm_oi (.bipush 24) 24, pm_o (.aload_n 0), pm_of (.getfield 17) 12 6 2, pm_o (.aload_n 0), pm_of (.getfield 352) 12 51 0] (by decide +kernel) rfl ?_
        obtain ⟨ho34, h⟩ := pm_ifs h
        refine pm_iald (by decide +kernel) rfl (pm_ok_in ho34) ?_
        refine pm_blk (pc' := 318) (L' := [(0, .ref 64), (1, .int a1), (2, .int a2), (3, .int a3)]) (S' := [.int 1, .int (u.1 66 ((u.1 64 51).toNatClampNeg)), .int 24, .ref 64]) (M' := sm g u) [pm_oi (.iconst 1) 1] (by decide +kernel) rfl ?_
        refine pm_ic_ne (off := 10) 328 (by decide +kernel) (by decide) (fun hc35 => ?_) (fun hc35 => ?_)
        · rw [if_neg hc35] at h
          refine pm_blk (pc' := 329) (L' := [(0, .ref 64), (1, .int a1), (2, .int a2), (3, .int a3)]) (S' := [.int (-1), .int 24, .ref 64]) (M' := sm g u) [pm_oi (.iconst (-1)) (-1)] (by decide +kernel) rfl ?_
          refine pm_loc [0] rfl ?_
          exact w_Md_sumTask_329 l h0 D hT (-1) 24 u h
        · rw [if_pos hc35] at h
          refine pm_blk (pc' := 325) (L' := [(0, .ref 64), (1, .int a1), (2, .int a2), (3, .int a3)]) (S' := [.int (u.1 64 51), .int 24, .ref 64]) (M' := sm g u) [pm_o (.aload_n 0), pm_of (.getfield 352) 12 51 0] (by decide +kernel) rfl ?_
          refine pm_goto (off := 4) 329 (by decide +kernel) (by decide) ?_
          refine pm_loc [0] rfl ?_
          exact w_Md_sumTask_329 l h0 D hT (u.1 64 51) 24 u h
      · rw [if_pos hc33] at h
        refine pm_loc [0] rfl ?_
        exact w_Md_sumTask_273 l h0 D hT  u h
  rw [if_neg hs27] at h
  rw [pm_sw_neg hs27]
  by_cases hs38 : a1 = 24
  · rw [if_pos hs38] at h
    rw [pm_sw_pos hs38]
    refine pm_blk (pc' := 380) (L' := [(0, .ref 64), (1, .int a1), (2, .int a2), (3, .int a3)]) (S' := [.int (u.1 64 51), .ref 66]) (M' := sm g u) [pm_o (.aload_n 0), pm_of (.getfield 17) 12 6 2, pm_o (.aload_n 0), pm_of (.getfield 352) 12 51 0] (by decide +kernel) rfl ?_
    obtain ⟨ho39, h⟩ := pm_ifs h
    refine pm_iald (by decide +kernel) rfl (pm_ok_in ho39) ?_
    refine pm_blk (pc' := 387) (L' := [(7, .int (u.1 66 ((u.1 64 51).toNatClampNeg))), (0, .ref 64), (1, .int a1), (2, .int a2), (3, .int a3)]) (S' := [.int 12, .int (u.1 66 ((u.1 64 51).toNatClampNeg))]) (M' := sm g u) [pm_o (.istore 7), pm_o (.iload 7), pm_oi (.bipush 12) 12] (by decide +kernel) rfl ?_
    refine pm_ic_eq (off := 23) 410 (by decide +kernel) (by decide) (fun hc40 => ?_) (fun hc40 => ?_)
    · rw [if_pos hc40] at h
      refine pm_blk (pc' := 413) (L' := [(7, .int (u.1 66 ((u.1 64 51).toNatClampNeg))), (0, .ref 64), (1, .int a1), (2, .int a2), (3, .int a3)]) (S' := [.int 8, .int a3]) (M' := sm g u) [pm_o (.iload_n 3), pm_oi (.bipush 8) 8] (by decide +kernel) rfl ?_
      refine pm_ic_ne (off := 12) 425 (by decide +kernel) (by decide) (fun hc41 => ?_) (fun hc41 => ?_)
      · rw [if_neg hc41] at h
        refine pm_loc [1, 3, 4] rfl ?_
        exact w_Md_sumTask_425 l h0 D hT a2 a3 u h
      · rw [if_pos hc41] at h
        refine pm_blk (pc' := 422) (L' := [(7, .int (u.1 66 ((u.1 64 51).toNatClampNeg))), (0, .ref 64), (1, .int a1), (2, .int a2), (3, .int a3)]) (S' := [.int (u.1 64 51), .int 3, .ref 64]) (M' := sm g u) [pm_o (.aload_n 0), pm_oi (.iconst 3) 3, pm_o (.aload_n 0), pm_of (.getfield 352) 12 51 0] (by decide +kernel) rfl ?_
        obtain ⟨q44, hq44, h⟩ := pm_bd h
        refine pm_cV (idx := 355) m_Md_stop (c_Md_stop l h0 D hT hq44) (As := [.int 3, .int (u.1 64 51)]) (S0 := []) rfl (by decide +kernel) k_Md_stop l_Md_355 (Nat.le_of_ble_eq_true rfl) (Nat.le_of_ble_eq_true rfl) (Nat.le_refl _) (Nat.le_refl _) ?_
        refine pm_blk (pc' := 425) (L' := [(7, .int (u.1 66 ((u.1 64 51).toNatClampNeg))), (0, .ref 64), (1, .int a1), (2, .int a2), (3, .int a3)]) (S' := []) (M' := sm g q44) [] (by decide +kernel) rfl ?_
        refine pm_loc [1, 3, 4] rfl ?_
        exact w_Md_sumTask_425 l h0 D hT a2 a3 q44 h
    · rw [if_neg hc40] at h
      refine pm_blk (pc' := 394) (L' := [(7, .int (u.1 66 ((u.1 64 51).toNatClampNeg))), (0, .ref 64), (1, .int a1), (2, .int a2), (3, .int a3)]) (S' := [.int 13, .int (u.1 66 ((u.1 64 51).toNatClampNeg))]) (M' := sm g u) [pm_o (.iload 7), pm_oi (.bipush 13) 13] (by decide +kernel) rfl ?_
      refine pm_ic_eq (off := 16) 410 (by decide +kernel) (by decide) (fun hc45 => ?_) (fun hc45 => ?_)
      · rw [if_pos hc45] at h
        refine pm_blk (pc' := 413) (L' := [(7, .int (u.1 66 ((u.1 64 51).toNatClampNeg))), (0, .ref 64), (1, .int a1), (2, .int a2), (3, .int a3)]) (S' := [.int 8, .int a3]) (M' := sm g u) [pm_o (.iload_n 3), pm_oi (.bipush 8) 8] (by decide +kernel) rfl ?_
        refine pm_ic_ne (off := 12) 425 (by decide +kernel) (by decide) (fun hc46 => ?_) (fun hc46 => ?_)
        · rw [if_neg hc46] at h
          refine pm_loc [1, 3, 4] rfl ?_
          exact w_Md_sumTask_425 l h0 D hT a2 a3 u h
        · rw [if_pos hc46] at h
          refine pm_blk (pc' := 422) (L' := [(7, .int (u.1 66 ((u.1 64 51).toNatClampNeg))), (0, .ref 64), (1, .int a1), (2, .int a2), (3, .int a3)]) (S' := [.int (u.1 64 51), .int 3, .ref 64]) (M' := sm g u) [pm_o (.aload_n 0), pm_oi (.iconst 3) 3, pm_o (.aload_n 0), pm_of (.getfield 352) 12 51 0] (by decide +kernel) rfl ?_
          obtain ⟨q47, hq47, h⟩ := pm_bd h
          refine pm_cV (idx := 355) m_Md_stop (c_Md_stop l h0 D hT hq47) (As := [.int 3, .int (u.1 64 51)]) (S0 := []) rfl (by decide +kernel) k_Md_stop l_Md_355 (Nat.le_of_ble_eq_true rfl) (Nat.le_of_ble_eq_true rfl) (Nat.le_refl _) (Nat.le_refl _) ?_
          refine pm_blk (pc' := 425) (L' := [(7, .int (u.1 66 ((u.1 64 51).toNatClampNeg))), (0, .ref 64), (1, .int a1), (2, .int a2), (3, .int a3)]) (S' := []) (M' := sm g q47) [] (by decide +kernel) rfl ?_
          refine pm_loc [1, 3, 4] rfl ?_
          exact w_Md_sumTask_425 l h0 D hT a2 a3 q47 h
      · rw [if_neg hc45] at h
        refine pm_blk (pc' := 400) (L' := [(7, .int (u.1 66 ((u.1 64 51).toNatClampNeg))), (0, .ref 64), (1, .int a1), (2, .int a2), (3, .int a3)]) (S' := [.int 1, .int (u.1 66 ((u.1 64 51).toNatClampNeg))]) (M' := sm g u) [pm_o (.iload 7), pm_oi (.iconst 1) 1] (by decide +kernel) rfl ?_
        refine pm_ic_eq (off := 10) 410 (by decide +kernel) (by decide) (fun hc48 => ?_) (fun hc48 => ?_)
        · rw [if_pos hc48] at h
          refine pm_blk (pc' := 413) (L' := [(7, .int (u.1 66 ((u.1 64 51).toNatClampNeg))), (0, .ref 64), (1, .int a1), (2, .int a2), (3, .int a3)]) (S' := [.int 8, .int a3]) (M' := sm g u) [pm_o (.iload_n 3), pm_oi (.bipush 8) 8] (by decide +kernel) rfl ?_
          refine pm_ic_ne (off := 12) 425 (by decide +kernel) (by decide) (fun hc49 => ?_) (fun hc49 => ?_)
          · rw [if_neg hc49] at h
            refine pm_loc [1, 3, 4] rfl ?_
            exact w_Md_sumTask_425 l h0 D hT a2 a3 u h
          · rw [if_pos hc49] at h
            refine pm_blk (pc' := 422) (L' := [(7, .int (u.1 66 ((u.1 64 51).toNatClampNeg))), (0, .ref 64), (1, .int a1), (2, .int a2), (3, .int a3)]) (S' := [.int (u.1 64 51), .int 3, .ref 64]) (M' := sm g u) [pm_o (.aload_n 0), pm_oi (.iconst 3) 3, pm_o (.aload_n 0), pm_of (.getfield 352) 12 51 0] (by decide +kernel) rfl ?_
            obtain ⟨q50, hq50, h⟩ := pm_bd h
            refine pm_cV (idx := 355) m_Md_stop (c_Md_stop l h0 D hT hq50) (As := [.int 3, .int (u.1 64 51)]) (S0 := []) rfl (by decide +kernel) k_Md_stop l_Md_355 (Nat.le_of_ble_eq_true rfl) (Nat.le_of_ble_eq_true rfl) (Nat.le_refl _) (Nat.le_refl _) ?_
            refine pm_blk (pc' := 425) (L' := [(7, .int (u.1 66 ((u.1 64 51).toNatClampNeg))), (0, .ref 64), (1, .int a1), (2, .int a2), (3, .int a3)]) (S' := []) (M' := sm g q50) [] (by decide +kernel) rfl ?_
            refine pm_loc [1, 3, 4] rfl ?_
            exact w_Md_sumTask_425 l h0 D hT a2 a3 q50 h
        · rw [if_neg hc48] at h
          refine pm_blk (pc' := 407) (L' := [(7, .int (u.1 66 ((u.1 64 51).toNatClampNeg))), (0, .ref 64), (1, .int a1), (2, .int a2), (3, .int a3)]) (S' := [.int 15, .int (u.1 66 ((u.1 64 51).toNatClampNeg))]) (M' := sm g u) [pm_o (.iload 7), pm_oi (.bipush 15) 15] (by decide +kernel) rfl ?_
          refine pm_ic_ne (off := 39) 446 (by decide +kernel) (by decide) (fun hc51 => ?_) (fun hc51 => ?_)
          · rw [if_neg hc51] at h
            refine pm_blk (pc' := 447) (L' := [(7, .int (u.1 66 ((u.1 64 51).toNatClampNeg))), (0, .ref 64), (1, .int a1), (2, .int a2), (3, .int a3)]) (S' := [.int a3]) (M' := sm g u) [pm_o (.iload_n 3)] (by decide +kernel) rfl ?_
            refine pm_if_le (off := 116) 563 (by decide +kernel) (by decide) (fun hc52 => ?_) (fun hc52 => ?_)
            · rw [if_pos hc52] at h
              have h9 := Option.some.inj h
              subst h9
              exact pm_retv rfl (by decide +kernel) rfl rfl
            · rw [if_neg hc52] at h
              refine pm_blk (pc' := 453) (L' := [(7, .int (u.1 66 ((u.1 64 51).toNatClampNeg))), (0, .ref 64), (1, .int a1), (2, .int a2), (3, .int a3)]) (S' := [.int a2, .int a3, .ref 64]) (M' := sm g u) [pm_o (.aload_n 0), pm_o (.iload_n 3), pm_o (.iload_n 2)] (by decide +kernel) rfl ?_
              refine pm_if_lt (off := 7) 460 (by decide +kernel) (by decide) (fun hc53 => ?_) (fun hc53 => ?_)
              · rw [if_pos hc53] at h
                refine pm_blk (pc' := 461) (L' := [(7, .int (u.1 66 ((u.1 64 51).toNatClampNeg))), (0, .ref 64), (1, .int a1), (2, .int a2), (3, .int a3)]) (S' := [.int 0, .int a3, .ref 64]) (M' := sm g u) [pm_oi (.iconst 0) 0] (by decide +kernel) rfl ?_
                obtain ⟨q54, hq54, h⟩ := pm_bd h
                refine pm_cV (idx := 428) m_Md_row (c_Md_row l h0 D hT hq54) (As := [.int a3, .int 0]) (S0 := []) rfl (by decide +kernel) k_Md_row l_Md_428 (Nat.le_of_ble_eq_true rfl) (Nat.le_of_ble_eq_true rfl) (Nat.le_refl _) (Nat.le_refl _) ?_
                refine pm_blk (pc' := 464) (L' := [(7, .int (u.1 66 ((u.1 64 51).toNatClampNeg))), (0, .ref 64), (1, .int a1), (2, .int a2), (3, .int a3)]) (S' := []) (M' := sm g q54) [] (by decide +kernel) rfl ?_
                refine pm_goto (off := 99) 563 (by decide +kernel) (by decide) ?_
                have h9 := Option.some.inj h
                subst h9
                exact pm_retv rfl (by decide +kernel) rfl rfl
              · rw [if_neg hc53] at h
                refine pm_blk (pc' := 457) (L' := [(7, .int (u.1 66 ((u.1 64 51).toNatClampNeg))), (0, .ref 64), (1, .int a1), (2, .int a2), (3, .int a3)]) (S' := [.int 1, .int a3, .ref 64]) (M' := sm g u) [pm_oi (.iconst 1) 1] (by decide +kernel) rfl ?_
                refine pm_goto (off := 4) 461 (by decide +kernel) (by decide) ?_
                obtain ⟨q55, hq55, h⟩ := pm_bd h
                refine pm_cV (idx := 428) m_Md_row (c_Md_row l h0 D hT hq55) (As := [.int a3, .int 1]) (S0 := []) rfl (by decide +kernel) k_Md_row l_Md_428 (Nat.le_of_ble_eq_true rfl) (Nat.le_of_ble_eq_true rfl) (Nat.le_refl _) (Nat.le_refl _) ?_
                refine pm_blk (pc' := 464) (L' := [(7, .int (u.1 66 ((u.1 64 51).toNatClampNeg))), (0, .ref 64), (1, .int a1), (2, .int a2), (3, .int a3)]) (S' := []) (M' := sm g q55) [] (by decide +kernel) rfl ?_
                refine pm_goto (off := 99) 563 (by decide +kernel) (by decide) ?_
                have h9 := Option.some.inj h
                subst h9
                exact pm_retv rfl (by decide +kernel) rfl rfl
          · rw [if_pos hc51] at h
            refine pm_blk (pc' := 413) (L' := [(7, .int (u.1 66 ((u.1 64 51).toNatClampNeg))), (0, .ref 64), (1, .int a1), (2, .int a2), (3, .int a3)]) (S' := [.int 8, .int a3]) (M' := sm g u) [pm_o (.iload_n 3), pm_oi (.bipush 8) 8] (by decide +kernel) rfl ?_
            refine pm_ic_ne (off := 12) 425 (by decide +kernel) (by decide) (fun hc56 => ?_) (fun hc56 => ?_)
            · rw [if_neg hc56] at h
              refine pm_loc [1, 3, 4] rfl ?_
              exact w_Md_sumTask_425 l h0 D hT a2 a3 u h
            · rw [if_pos hc56] at h
              refine pm_blk (pc' := 422) (L' := [(7, .int (u.1 66 ((u.1 64 51).toNatClampNeg))), (0, .ref 64), (1, .int a1), (2, .int a2), (3, .int a3)]) (S' := [.int (u.1 64 51), .int 3, .ref 64]) (M' := sm g u) [pm_o (.aload_n 0), pm_oi (.iconst 3) 3, pm_o (.aload_n 0), pm_of (.getfield 352) 12 51 0] (by decide +kernel) rfl ?_
              obtain ⟨q57, hq57, h⟩ := pm_bd h
              refine pm_cV (idx := 355) m_Md_stop (c_Md_stop l h0 D hT hq57) (As := [.int 3, .int (u.1 64 51)]) (S0 := []) rfl (by decide +kernel) k_Md_stop l_Md_355 (Nat.le_of_ble_eq_true rfl) (Nat.le_of_ble_eq_true rfl) (Nat.le_refl _) (Nat.le_refl _) ?_
              refine pm_blk (pc' := 425) (L' := [(7, .int (u.1 66 ((u.1 64 51).toNatClampNeg))), (0, .ref 64), (1, .int a1), (2, .int a2), (3, .int a3)]) (S' := []) (M' := sm g q57) [] (by decide +kernel) rfl ?_
              refine pm_loc [1, 3, 4] rfl ?_
              exact w_Md_sumTask_425 l h0 D hT a2 a3 q57 h
  rw [if_neg hs38] at h
  rw [pm_sw_neg hs38]
  by_cases hs58 : a1 = 25
  · rw [if_pos hs58] at h
    rw [pm_sw_pos hs58]
    refine pm_blk (pc' := 468) (L' := [(0, .ref 64), (1, .int a1), (2, .int a2), (3, .int a3)]) (S' := [.ref 64]) (M' := sm g u) [pm_o (.aload_n 0)] (by decide +kernel) rfl ?_
    obtain ⟨q59, hq59, h⟩ := pm_bd h
    refine pm_cV (idx := 432) m_Md_atom (c_Md_atom l h0 D hT hq59) (As := []) (S0 := []) rfl (by decide +kernel) k_Md_atom l_Md_432 (Nat.le_of_ble_eq_true rfl) (Nat.le_of_ble_eq_true rfl) (Nat.le_refl _) (Nat.le_refl _) ?_
    refine pm_blk (pc' := 471) (L' := [(0, .ref 64), (1, .int a1), (2, .int a2), (3, .int a3)]) (S' := []) (M' := sm g q59) [] (by decide +kernel) rfl ?_
    refine pm_goto (off := 92) 563 (by decide +kernel) (by decide) ?_
    have h9 := Option.some.inj h
    subst h9
    exact pm_retv rfl (by decide +kernel) rfl rfl
  rw [if_neg hs58] at h
  rw [pm_sw_neg hs58]
  by_cases hs60 : a1 = 26
  · rw [if_pos hs60] at h
    rw [pm_sw_pos hs60]
    refine pm_blk (pc' := 482) (L' := [(0, .ref 64), (1, .int a1), (2, .int a2), (3, .int a3)]) (S' := [.int (u.1 64 51), .ref 66]) (M' := sm g u) [pm_o (.aload_n 0), pm_of (.getfield 17) 12 6 2, pm_o (.aload_n 0), pm_of (.getfield 352) 12 51 0] (by decide +kernel) rfl ?_
    obtain ⟨ho61, h⟩ := pm_ifs h
    refine pm_iald (by decide +kernel) rfl (pm_ok_in ho61) ?_
    refine pm_blk (pc' := 485) (L' := [(0, .ref 64), (1, .int a1), (2, .int a2), (3, .int a3)]) (S' := [.int 21, .int (u.1 66 ((u.1 64 51).toNatClampNeg))]) (M' := sm g u) [pm_oi (.bipush 21) 21] (by decide +kernel) rfl ?_
    refine pm_ic_ne (off := 35) 520 (by decide +kernel) (by decide) (fun hc62 => ?_) (fun hc62 => ?_)
    · rw [if_neg hc62] at h
      refine pm_blk (pc' := 523) (L' := [(0, .ref 64), (1, .int a1), (2, .int a2), (3, .int a3)]) (S' := [.int 16, .ref 64]) (M' := sm g u) [pm_o (.aload_n 0), pm_oi (.bipush 16) 16] (by decide +kernel) rfl ?_
      obtain ⟨q63, hq63, h⟩ := pm_bd h
      refine pm_cV (idx := 397) m_Md_expect (c_Md_expect l h0 D hT hq63) (As := [.int 16]) (S0 := []) rfl (by decide +kernel) k_Md_expect l_Md_397 (Nat.le_of_ble_eq_true rfl) (Nat.le_of_ble_eq_true rfl) (Nat.le_refl _) (Nat.le_refl _) ?_
      refine pm_blk (pc' := 526) (L' := [(0, .ref 64), (1, .int a1), (2, .int a2), (3, .int a3)]) (S' := []) (M' := sm g q63) [] (by decide +kernel) rfl ?_
      refine pm_goto (off := 37) 563 (by decide +kernel) (by decide) ?_
      have h9 := Option.some.inj h
      subst h9
      exact pm_retv rfl (by decide +kernel) rfl rfl
    · rw [if_pos hc62] at h
      refine pm_blk (pc' := 496) (L' := [(0, .ref 64), (1, .int a1), (2, .int a2), (3, .int a3)]) (S' := [.int 0, .int (u.1 64 51), .int 27, .ref 64]) (M' := sm g u) [pm_o (.aload_n 0), pm_oi (.bipush 27) 27, pm_o (.aload_n 0), pm_of (.getfield 352) 12 51 0, pm_oi (.iconst 0) 0] (by decide +kernel) rfl ?_
      obtain ⟨q64, hq64, h⟩ := pm_bd h
      refine pm_cV (idx := 383) m_Md_later (c_Md_later l h0 D hT hq64) (As := [.int 27, .int (u.1 64 51), .int 0]) (S0 := []) rfl (by decide +kernel) k_Md_later l_Md_383 (Nat.le_of_ble_eq_true rfl) (Nat.le_of_ble_eq_true rfl) (Nat.le_refl _) (Nat.le_refl _) ?_
      refine pm_blk (pc' := 504) (L' := [(0, .ref 64), (1, .int a1), (2, .int a2), (3, .int a3)]) (S' := [.int 0, .int 0, .int 10, .ref 64]) (M' := sm g q64) [pm_o (.aload_n 0), pm_oi (.bipush 10) 10, pm_oi (.iconst 0) 0, pm_oi (.iconst 0) 0] (by decide +kernel) rfl ?_
      obtain ⟨q65, hq65, h⟩ := pm_bd h
      refine pm_cV (idx := 383) m_Md_later (c_Md_later l h0 D hT hq65) (As := [.int 10, .int 0, .int 0]) (S0 := []) rfl (by decide +kernel) k_Md_later l_Md_383 (Nat.le_of_ble_eq_true rfl) (Nat.le_of_ble_eq_true rfl) (Nat.le_refl _) (Nat.le_refl _) ?_
      refine pm_blk (pc' := 517) (L' := [(0, .ref 64), (1, .int a1), (2, .int a2), (3, .int a3)]) (S' := []) (M' := sm g (wi q65 64 51 ((q65.1 64 51) + 1))) [pm_o (.aload_n 0), pm_o .dup, pm_of (.getfield 352) 12 51 0, pm_oi (.iconst 1) 1, pm_o .iadd, pm_of (.putfield 352) 12 51 0] (by decide +kernel) rfl ?_
      refine pm_goto (off := 46) 563 (by decide +kernel) (by decide) ?_
      have h9 := Option.some.inj h
      subst h9
      exact pm_retv rfl (by decide +kernel) rfl rfl
  rw [if_neg hs60] at h
  rw [pm_sw_neg hs60]
  by_cases hs66 : a1 = 28
  · rw [if_pos hs66] at h
    rw [pm_sw_pos hs66]
    refine pm_blk (pc' := 345) (L' := [(0, .ref 64), (1, .int a1), (2, .int a2), (3, .int a3)]) (S' := [.ref 64]) (M' := sm g u) [pm_o (.aload_n 0)] (by decide +kernel) rfl ?_
    obtain ⟨q67, hq67, h⟩ := pm_bd h
    refine pm_cV (idx := 412) m_Md_take (c_Md_take l h0 D hT hq67) (As := []) (S0 := []) rfl (by decide +kernel) k_Md_take l_Md_412 (Nat.le_of_ble_eq_true rfl) (Nat.le_of_ble_eq_true rfl) (Nat.le_refl _) (Nat.le_refl _) ?_
    refine pm_blk (pc' := 357) (L' := [(6, .int q67.1), (0, .ref 64), (1, .int a1), (2, .int a2), (3, .int a3)]) (S' := [.int a2, .ref 66, .ref 64, .ref 64]) (M' := sm g q67.2) [pm_o (.istore 6), pm_o (.aload_n 0), pm_o (.aload_n 0), pm_o (.aload_n 0), pm_of (.getfield 17) 12 6 2, pm_o (.iload_n 2)] (by decide +kernel) rfl ?_
    obtain ⟨ho68, h⟩ := pm_ifs h
    refine pm_iald (by decide +kernel) rfl (pm_ok_in ho68) ?_
    refine pm_blk (pc' := 363) (L' := [(6, .int q67.1), (0, .ref 64), (1, .int a1), (2, .int a2), (3, .int a3)]) (S' := [.int (-1), .int (-1), .int q67.1, .int a2, .int (q67.2.1 66 a2.toNatClampNeg), .ref 64, .ref 64]) (M' := sm g q67.2) [pm_o (.iload_n 2), pm_o (.iload 6), pm_oi (.iconst (-1)) (-1), pm_oi (.iconst (-1)) (-1)] (by decide +kernel) rfl ?_
    obtain ⟨q69, hq69, h⟩ := pm_bd h
    refine pm_cV (idx := 415) m_Md_node (c_Md_node l h0 D hT hq69) (As := [.int (q67.2.1 66 a2.toNatClampNeg), .int a2, .int q67.1, .int (-1), .int (-1)]) (S0 := [.ref 64]) rfl (by decide +kernel) k_Md_node l_Md_415 (Nat.le_of_ble_eq_true rfl) (Nat.le_of_ble_eq_true rfl) (Nat.le_refl _) (Nat.le_refl _) ?_
    refine pm_blk (pc' := 366) (L' := [(6, .int q67.1), (0, .ref 64), (1, .int a1), (2, .int a2), (3, .int a3)]) (S' := [.int q69.1, .ref 64]) (M' := sm g q69.2) [] (by decide +kernel) rfl ?_
    obtain ⟨q70, hq70, h⟩ := pm_bd h
    refine pm_cV (idx := 419) m_Md_give (c_Md_give l h0 D hT hq70) (As := [.int q69.1]) (S0 := []) rfl (by decide +kernel) k_Md_give l_Md_419 (Nat.le_of_ble_eq_true rfl) (Nat.le_of_ble_eq_true rfl) (Nat.le_refl _) (Nat.le_refl _) ?_
    refine pm_blk (pc' := 369) (L' := [(6, .int q67.1), (0, .ref 64), (1, .int a1), (2, .int a2), (3, .int a3)]) (S' := []) (M' := sm g q70) [] (by decide +kernel) rfl ?_
    refine pm_goto (off := 194) 563 (by decide +kernel) (by decide) ?_
    have h9 := Option.some.inj h
    subst h9
    exact pm_retv rfl (by decide +kernel) rfl rfl
  rw [if_neg hs66] at h
  rw [pm_sw_neg hs66]
  refine pm_pc (pc' := 529) rfl ?_
  refine pm_loc [0, 2] rfl ?_
  exact w_Md_sumTask_529 l h0 D hT a2 u h
