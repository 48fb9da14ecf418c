def F_Tree_fit (a1 : Int32) (a2 : Int32) (g : pm_s) (u : pm_J) : Option (Int32) := if a1 < 0 then some (-1) else if (u.1 18 10) ≤ a1 then some (-1) else if a2 < 0 then some (-1) else if a2 < 4 then if pm_ok ((a1 * 4) + a2) 7200 = true then some (u.1 28 (((a1 * 4) + a2).toNatClampNeg)) else none else some (-1)
set_option maxHeartbeats 4000000 in
set_option maxRecDepth 100000 in
theorem c_Tree_fit (l : Launch) (h0 : Nat) (D : pm_D) {g : pm_s} {u : pm_J} (hT : sh_T g) {a1 : Int32} {a2 : Int32} {out : Int32} (h : F_Tree_fit a1 a2 g u = some out) : pm_C l h0 D m_Tree_fit (0) [.ref 18, .int a1, .int a2] (sm g u) (some (.int out)) (sm g u) := by
  unfold F_Tree_fit at h
  refine pm_met (by decide +kernel) (Nat.le_of_ble_eq_true rfl) (Nat.le_refl _) (Nat.le_refl _) ?_
  intro p e R s m args below meth c
  refine pm_blk (pc' := 1) (L' := [(0, .ref 18), (1, .int a1), (2, .int a2)]) (S' := [.int a1]) (M' := sm g u) [pm_o (.iload_n 1)] (by decide +kernel) rfl ?_
  refine pm_if_lt (off := 20) 21 (by decide +kernel) (by decide) (fun hc1 => ?_) (fun hc1 => ?_)
  · rw [if_pos hc1] at h
    refine pm_blk (pc' := 22) (L' := [(0, .ref 18), (1, .int a1), (2, .int a2)]) (S' := [.int (-1)]) (M' := sm g u) [pm_oi (.iconst (-1)) (-1)] (by decide +kernel) rfl ?_
    have h9 := Option.some.inj h
    subst h9
    exact pm_reti rfl (by decide +kernel) rfl rfl rfl
  · rw [if_neg hc1] at h
    refine pm_blk (pc' := 9) (L' := [(0, .ref 18), (1, .int a1), (2, .int a2)]) (S' := [.int (u.1 18 10), .int a1]) (M' := sm g u) [pm_o (.iload_n 1), pm_o (.aload_n 0), pm_of (.getfield 46) 10 10 0] (by decide +kernel) rfl ?_
    refine pm_ic_ge (off := 12) 21 (by decide +kernel) (by decide) (fun hc2 => ?_) (fun hc2 => ?_)
    · rw [if_pos hc2] at h
      refine pm_blk (pc' := 22) (L' := [(0, .ref 18), (1, .int a1), (2, .int a2)]) (S' := [.int (-1)]) (M' := sm g u) [pm_oi (.iconst (-1)) (-1)] (by decide +kernel) rfl ?_
      have h9 := Option.some.inj h
      subst h9
      exact pm_reti rfl (by decide +kernel) rfl rfl rfl
    · rw [if_neg hc2] at h
      refine pm_blk (pc' := 13) (L' := [(0, .ref 18), (1, .int a1), (2, .int a2)]) (S' := [.int a2]) (M' := sm g u) [pm_o (.iload_n 2)] (by decide +kernel) rfl ?_
      refine pm_if_lt (off := 8) 21 (by decide +kernel) (by decide) (fun hc3 => ?_) (fun hc3 => ?_)
      · rw [if_pos hc3] at h
        refine pm_blk (pc' := 22) (L' := [(0, .ref 18), (1, .int a1), (2, .int a2)]) (S' := [.int (-1)]) (M' := sm g u) [pm_oi (.iconst (-1)) (-1)] (by decide +kernel) rfl ?_
        have h9 := Option.some.inj h
        subst h9
        exact pm_reti rfl (by decide +kernel) rfl rfl rfl
      · rw [if_neg hc3] at h
        refine pm_blk (pc' := 18) (L' := [(0, .ref 18), (1, .int a1), (2, .int a2)]) (S' := [.int 4, .int a2]) (M' := sm g u) [pm_o (.iload_n 2), pm_oi (.iconst 4) 4] (by decide +kernel) rfl ?_
        refine pm_ic_lt (off := 5) 23 (by decide +kernel) (by decide) (fun hc4 => ?_) (fun hc4 => ?_)
        · rw [if_pos hc4] at h
          refine pm_blk (pc' := 32) (L' := [(0, .ref 18), (1, .int a1), (2, .int a2)]) (S' := [.int ((a1 * 4) + a2), .ref 28]) (M' := sm g u) [pm_o (.aload_n 0), pm_of (.getfield 43) 10 9 2, pm_o (.iload_n 1), pm_oi (.iconst 4) 4, pm_o .imul, pm_o (.iload_n 2), pm_o .iadd] (by decide +kernel) rfl ?_
          obtain ⟨ho5, h⟩ := pm_ifs h
          refine pm_iald (by decide +kernel) rfl (pm_ok_in ho5) ?_
          refine pm_blk (pc' := 33) (L' := [(0, .ref 18), (1, .int a1), (2, .int a2)]) (S' := [.int (u.1 28 (((a1 * 4) + a2).toNatClampNeg))]) (M' := sm g u) [] (by decide +kernel) rfl ?_
          have h9 := Option.some.inj h
          subst h9
          exact pm_reti rfl (by decide +kernel) rfl rfl rfl
        · rw [if_neg hc4] at h
          refine pm_blk (pc' := 22) (L' := [(0, .ref 18), (1, .int a1), (2, .int a2)]) (S' := [.int (-1)]) (M' := sm g u) [pm_oi (.iconst (-1)) (-1)] (by decide +kernel) rfl ?_
          have h9 := Option.some.inj h
          subst h9
          exact pm_reti rfl (by decide +kernel) rfl rfl rfl
def F_Tree_setFit (a1 : Int32) (a2 : Int32) (a3 : Int32) (g : pm_s) (u : pm_J) : Option (pm_J) := if a1 < 0 then some u else if (u.1 18 10) ≤ a1 then some u else if a2 < 0 then some u else if 4 ≤ a2 then some u else if pm_ok ((a1 * 4) + a2) 7200 = true then some (wi u 28 (((a1 * 4) + a2).toNatClampNeg) a3) else none
set_option maxHeartbeats 4000000 in
set_option maxRecDepth 100000 in
theorem c_Tree_setFit (l : Launch) (h0 : Nat) (D : pm_D) {g : pm_s} {u : pm_J} (hT : sh_T g) {a1 : Int32} {a2 : Int32} {a3 : Int32} {out : pm_J} (h : F_Tree_setFit a1 a2 a3 g u = some out) : pm_C l h0 D m_Tree_setFit (0) [.ref 18, .int a1, .int a2, .int a3] (sm g u) none (sm g out) := by
  unfold F_Tree_setFit at h
  refine pm_met (by decide +kernel) (Nat.le_of_ble_eq_true rfl) (Nat.le_refl _) (Nat.le_refl _) ?_
  intro p e R s m args below meth c
  refine pm_blk (pc' := 1) (L' := [(0, .ref 18), (1, .int a1), (2, .int a2), (3, .int a3)]) (S' := [.int a1]) (M' := sm g u) [pm_o (.iload_n 1)] (by decide +kernel) rfl ?_
  refine pm_if_lt (off := 31) 32 (by decide +kernel) (by decide) (fun hc1 => ?_) (fun hc1 => ?_)
  · rw [if_pos hc1] at h
    have h9 := Option.some.inj h
    subst h9
    exact pm_retv rfl (by decide +kernel) rfl rfl
  · rw [if_neg hc1] at h
    refine pm_blk (pc' := 9) (L' := [(0, .ref 18), (1, .int a1), (2, .int a2), (3, .int a3)]) (S' := [.int (u.1 18 10), .int a1]) (M' := sm g u) [pm_o (.iload_n 1), pm_o (.aload_n 0), pm_of (.getfield 46) 10 10 0] (by decide +kernel) rfl ?_
    refine pm_ic_ge (off := 23) 32 (by decide +kernel) (by decide) (fun hc2 => ?_) (fun hc2 => ?_)
    · rw [if_pos hc2] at h
      have h9 := Option.some.inj h
      subst h9
      exact pm_retv rfl (by decide +kernel) rfl rfl
    · rw [if_neg hc2] at h
      refine pm_blk (pc' := 13) (L' := [(0, .ref 18), (1, .int a1), (2, .int a2), (3, .int a3)]) (S' := [.int a2]) (M' := sm g u) [pm_o (.iload_n 2)] (by decide +kernel) rfl ?_
      refine pm_if_lt (off := 19) 32 (by decide +kernel) (by decide) (fun hc3 => ?_) (fun hc3 => ?_)
      · rw [if_pos hc3] at h
        have h9 := Option.some.inj h
        subst h9
        exact pm_retv rfl (by decide +kernel) rfl rfl
      · rw [if_neg hc3] at h
        refine pm_blk (pc' := 18) (L' := [(0, .ref 18), (1, .int a1), (2, .int a2), (3, .int a3)]) (S' := [.int 4, .int a2]) (M' := sm g u) [pm_o (.iload_n 2), pm_oi (.iconst 4) 4] (by decide +kernel) rfl ?_
        refine pm_ic_ge (off := 14) 32 (by decide +kernel) (by decide) (fun hc4 => ?_) (fun hc4 => ?_)
        · rw [if_pos hc4] at h
          have h9 := Option.some.inj h
          subst h9
          exact pm_retv rfl (by decide +kernel) rfl rfl
        · rw [if_neg hc4] at h
          refine pm_blk (pc' := 31) (L' := [(0, .ref 18), (1, .int a1), (2, .int a2), (3, .int a3)]) (S' := [.int a3, .int ((a1 * 4) + a2), .ref 28]) (M' := sm g u) [pm_o (.aload_n 0), pm_of (.getfield 43) 10 9 2, pm_o (.iload_n 1), pm_oi (.iconst 4) 4, pm_o .imul, pm_o (.iload_n 2), pm_o .iadd, pm_o (.iload_n 3)] (by decide +kernel) rfl ?_
          obtain ⟨ho5, h⟩ := pm_ifs h
          refine pm_iast (by decide +kernel) rfl  (pm_ok_in ho5) ?_
          refine pm_blk (pc' := 32) (L' := [(0, .ref 18), (1, .int a1), (2, .int a2), (3, .int a3)]) (S' := []) (M' := sm g (wi u 28 (((a1 * 4) + a2).toNatClampNeg) a3)) [] (by decide +kernel) rfl ?_
          have h9 := Option.some.inj h
          subst h9
          exact pm_retv rfl (by decide +kernel) rfl rfl
def K_Arrays_fill_0_17_5 (N : Nat) (g : pm_s) : Nat → Int32 → Int32 → Int32 → pm_J → Option (pm_J)
  | 0, _, _, _, _ => none
  | n + 1, x1, x2, x3, u => if x3 ≤ x2 then some u else if pm_ok x2 1024 = true then K_Arrays_fill_0_17_5 N g  n x1 (x2 + 1) x3 (wi u 17 x2.toNatClampNeg x1) else none
set_option maxHeartbeats 4000000 in
set_option maxRecDepth 100000 in
theorem w_Arrays_fill_0_17_5 (l : Launch) (h0 : Nat) (D : pm_D) {g : pm_s} (hT : sh_T g) {N : Nat} {u0 : pm_J} {out : pm_J} {p : Program} {e : Env} {R : Room} {s : State} {m : MethodId} {args : Array Value} {below : List Frame} {meth : Method} {c : Code} : ∀ (n : Nat) (x1 : Int32) (x2 : Int32) (x3 : Int32) (u : pm_J), K_Arrays_fill_0_17_5 N g n x1 x2 x3 u = some out → pm_V (p, l, e, R, s, m, args, below, meth, c) m_Arrays_fill_0 h0 D (g.1, g.2.1, g.1, g.2.1, 0) (pm_E (p, l, e, R, s, m, args, below, meth, c) h0 D (sm g u0) none (sm g out)) 5 [(0, .ref 17), (1, .int x1), (2, .int x2), (3, .int x3)] [] (sm g u) := by
  intro n
  induction n with
  | zero => intro x1 x2 x3 u h; cases h
  | succ n ih =>
    intro x1 x2 x3 u h
    rw [K_Arrays_fill_0_17_5] at h
    refine pm_blk (pc' := 7) (L' := [(0, .ref 17), (1, .int x1), (2, .int x2), (3, .int x3)]) (S' := [.int x3, .int x2]) (M' := sm g u) [pm_o (.iload_n 2), pm_o (.iload_n 3)] (by decide +kernel) rfl ?_
    refine pm_ic_ge (off := 13) 20 (by decide +kernel) (by decide) (fun hc1 => ?_) (fun hc1 => ?_)
    · rw [if_pos hc1] at h
      have h9 := Option.some.inj h
      subst h9
      exact pm_retv rfl (by decide +kernel) rfl rfl
    · rw [if_neg hc1] at h
      refine pm_blk (pc' := 13) (L' := [(0, .ref 17), (1, .int x1), (2, .int x2), (3, .int x3)]) (S' := [.int x1, .int x2, .ref 17]) (M' := sm g u) [pm_o (.aload_n 0), pm_o (.iload_n 2), pm_o (.iload_n 1)] (by decide +kernel) rfl ?_
      obtain ⟨ho2, h⟩ := pm_ifs h
      refine pm_iast (by decide +kernel) rfl  (pm_ok_in ho2) ?_
      refine pm_blk (pc' := 17) (L' := [(2, .int (x2 + 1)), (0, .ref 17), (1, .int x1), (3, .int x3)]) (S' := []) (M' := sm g (wi u 17 x2.toNatClampNeg x1)) [pm_oi (.iinc 2 1) 1] (by decide +kernel) rfl ?_
      refine pm_goto (off := -12) 5 (by decide +kernel) (by decide) ?_
      refine pm_loc [1, 2, 0, 3] rfl ?_
      exact ih x1 (x2 + 1) x3 (wi u 17 x2.toNatClampNeg x1) h
def F_Arrays_fill_0_17 (N : Nat) (a2 : Int32) (g : pm_s) (u : pm_J) : Option (pm_J) := K_Arrays_fill_0_17_5 N g N a2 0 (Nat.toInt32 1024) u
set_option maxHeartbeats 4000000 in
set_option maxRecDepth 100000 in
theorem c_Arrays_fill_0_17 (l : Launch) (h0 : Nat) (D : pm_D) {g : pm_s} {u : pm_J} (hT : sh_T g) {N : Nat} {a2 : Int32} {out : pm_J} (h : F_Arrays_fill_0_17 N a2 g u = some out) : pm_C l h0 D m_Arrays_fill_0 (0) [.ref 17, .int a2] (sm g u) none (sm g out) := by
  unfold F_Arrays_fill_0_17 at h
  refine pm_met (by decide +kernel) (Nat.le_of_ble_eq_true rfl) (Nat.le_refl _) (Nat.le_refl _) ?_
  intro p e R s m args below meth c
  refine pm_blk (pc' := 5) (L' := [(3, .int (Nat.toInt32 1024)), (2, .int 0), (0, .ref 17), (1, .int a2)]) (S' := []) (M' := sm g u) [pm_oi (.iconst 0) 0, pm_o (.istore_n 2), pm_o (.aload_n 0), pm_o .arraylength, pm_o (.istore_n 3)] (by decide +kernel) rfl ?_
  refine pm_loc [2, 3, 1, 0] rfl ?_
  exact w_Arrays_fill_0_17_5 l h0 D hT N a2 0 (Nat.toInt32 1024) u h
def F_Types_clear (N : Nat) (g : pm_s) (u : pm_J) : Option (pm_J) := (F_Arrays_fill_0_17 N (-1) g (wi u 10 7 6)).bind fun q1 => some q1
set_option maxHeartbeats 4000000 in
set_option maxRecDepth 100000 in
theorem c_Types_clear (l : Launch) (h0 : Nat) (D : pm_D) {g : pm_s} {u : pm_J} (hT : sh_T g) {N : Nat} {out : pm_J} (h : F_Types_clear N g u = some out) : pm_C l h0 D m_Types_clear (1) [.ref 10] (sm g u) none (sm g out) := by
  unfold F_Types_clear at h
  refine pm_met (by decide +kernel) (Nat.le_of_ble_eq_true rfl) (Nat.le_refl _) (Nat.le_refl _) ?_
  intro p e R s m args below meth c
  refine pm_blk (pc' := 11) (L' := [(0, .ref 10)]) (S' := [.int (-1), .ref 17]) (M' := sm g (wi u 10 7 6)) [pm_o (.aload_n 0), pm_oi (.bipush 6) 6, pm_of (.putfield 39) 11 7 0, pm_o (.aload_n 0), pm_of (.getfield 30) 11 6 2, pm_oi (.iconst (-1)) (-1)] (by decide +kernel) rfl ?_
  obtain ⟨q1, hq1, h⟩ := pm_bd h
  refine pm_cS (idx := 43) m_Arrays_fill_0 (c_Arrays_fill_0_17 l h0 D hT hq1) (As := [.ref 17, .int (-1)]) (S0 := []) rfl (by decide +kernel) k_Arrays_fill_0 l_Types_43 (Nat.le_of_ble_eq_true rfl) (Nat.le_of_ble_eq_true rfl) (Nat.le_refl _) (Nat.le_refl _) ?_
  refine pm_blk (pc' := 14) (L' := [(0, .ref 10)]) (S' := []) (M' := sm g q1) [] (by decide +kernel) rfl ?_
  have h9 := Option.some.inj h
  subst h9
  exact pm_retv rfl (by decide +kernel) rfl rfl
def F_Types_letter (a1 : Int32) (g : pm_s) (u : pm_J) : Option (Int32) := some (2 + a1)
set_option maxHeartbeats 4000000 in
set_option maxRecDepth 100000 in
theorem c_Types_letter (l : Launch) (h0 : Nat) (D : pm_D) {g : pm_s} {u : pm_J} (hT : sh_T g) {a1 : Int32} {out : Int32} (h : F_Types_letter a1 g u = some out) : pm_C l h0 D m_Types_letter (0) [.ref 10, .int a1] (sm g u) (some (.int out)) (sm g u) := by
  unfold F_Types_letter at h
  refine pm_met (by decide +kernel) (Nat.le_of_ble_eq_true rfl) (Nat.le_refl _) (Nat.le_refl _) ?_
  intro p e R s m args below meth c
  refine pm_blk (pc' := 3) (L' := [(0, .ref 10), (1, .int a1)]) (S' := [.int (2 + a1)]) (M' := sm g u) [pm_oi (.iconst 2) 2, pm_o (.iload_n 1), pm_o .iadd] (by decide +kernel) rfl ?_
  have h9 := Option.some.inj h
  subst h9
  exact pm_reti rfl (by decide +kernel) rfl rfl rfl
def F_Types_letterNumber (a1 : Int32) (g : pm_s) (u : pm_J) : Option (Int32) := some (a1 - 2)
set_option maxHeartbeats 4000000 in
set_option maxRecDepth 100000 in
theorem c_Types_letterNumber (l : Launch) (h0 : Nat) (D : pm_D) {g : pm_s} {u : pm_J} (hT : sh_T g) {a1 : Int32} {out : Int32} (h : F_Types_letterNumber a1 g u = some out) : pm_C l h0 D m_Types_letterNumber (0) [.ref 10, .int a1] (sm g u) (some (.int out)) (sm g u) := by
  unfold F_Types_letterNumber at h
  refine pm_met (by decide +kernel) (Nat.le_of_ble_eq_true rfl) (Nat.le_refl _) (Nat.le_refl _) ?_
  intro p e R s m args below meth c
  refine pm_blk (pc' := 3) (L' := [(0, .ref 10), (1, .int a1)]) (S' := [.int (a1 - 2)]) (M' := sm g u) [pm_o (.iload_n 1), pm_oi (.iconst 2) 2, pm_o .isub] (by decide +kernel) rfl ?_
  have h9 := Option.some.inj h
  subst h9
  exact pm_reti rfl (by decide +kernel) rfl rfl rfl
def F_Types_kind (a1 : Int32) (g : pm_s) (u : pm_J) : Option (Int32) := if a1 < 0 then some (-1) else if (u.1 10 7) ≤ a1 then some (-1) else if pm_ok a1 g.2.2.2 = true then some (u.1 (g.2.2.1 + 0) a1.toNatClampNeg) else none
set_option maxHeartbeats 4000000 in
set_option maxRecDepth 100000 in
theorem c_Types_kind (l : Launch) (h0 : Nat) (D : pm_D) {g : pm_s} {u : pm_J} (hT : sh_T g) {a1 : Int32} {out : Int32} (h : F_Types_kind a1 g u = some out) : pm_C l h0 D m_Types_kind (0) [.ref 10, .int a1] (sm g u) (some (.int out)) (sm g u) := by
  unfold F_Types_kind at h
  refine pm_met (by decide +kernel) (Nat.le_of_ble_eq_true rfl) (Nat.le_refl _) (Nat.le_refl _) ?_
  intro p e R s m args below meth c
  refine pm_blk (pc' := 1) (L' := [(0, .ref 10), (1, .int a1)]) (S' := [.int a1]) (M' := sm g u) [pm_o (.iload_n 1)] (by decide +kernel) rfl ?_
  refine pm_if_lt (off := 20) 21 (by decide +kernel) (by decide) (fun hc1 => ?_) (fun hc1 => ?_)
  · rw [if_pos hc1] at h
    refine pm_blk (pc' := 22) (L' := [(0, .ref 10), (1, .int a1)]) (S' := [.int (-1)]) (M' := sm g u) [pm_oi (.iconst (-1)) (-1)] (by decide +kernel) rfl ?_
    have h9 := Option.some.inj h
    subst h9
    exact pm_reti rfl (by decide +kernel) rfl rfl rfl
  · rw [if_neg hc1] at h
    refine pm_blk (pc' := 9) (L' := [(0, .ref 10), (1, .int a1)]) (S' := [.int (u.1 10 7), .int a1]) (M' := sm g u) [pm_o (.iload_n 1), pm_o (.aload_n 0), pm_of (.getfield 39) 11 7 0] (by decide +kernel) rfl ?_
    refine pm_ic_ge (off := 12) 21 (by decide +kernel) (by decide) (fun hc2 => ?_) (fun hc2 => ?_)
    · rw [if_pos hc2] at h
      refine pm_blk (pc' := 22) (L' := [(0, .ref 10), (1, .int a1)]) (S' := [.int (-1)]) (M' := sm g u) [pm_oi (.iconst (-1)) (-1)] (by decide +kernel) rfl ?_
      have h9 := Option.some.inj h
      subst h9
      exact pm_reti rfl (by decide +kernel) rfl rfl rfl
    · rw [if_neg hc2] at h
      refine pm_blk (pc' := 17) (L' := [(0, .ref 10), (1, .int a1)]) (S' := [.int a1, .ref (g.2.2.1 + 0)]) (M' := sm g u) [pm_o (.aload_n 0), pm_of (.getfield 11) 11 0 2, pm_o (.iload_n 1)] (by decide +kernel) rfl ?_
      obtain ⟨ho3, h⟩ := pm_ifs h
      refine pm_iald (by decide +kernel) (sh_tk hT (by decide)) (by rw [sh_tl hT (by decide)]; exact pm_ok_in ho3) ?_
      refine pm_blk (pc' := 18) (L' := [(0, .ref 10), (1, .int a1)]) (S' := [.int (u.1 (g.2.2.1 + 0) a1.toNatClampNeg)]) (M' := sm g u) [] (by decide +kernel) rfl ?_
      refine pm_goto (off := 4) 22 (by decide +kernel) (by decide) ?_
      have h9 := Option.some.inj h
      subst h9
      exact pm_reti rfl (by decide +kernel) rfl rfl rfl
def F_Types_left (a1 : Int32) (g : pm_s) (u : pm_J) : Option (Int32) := if a1 < 0 then some (-1) else if (u.1 10 7) ≤ a1 then some (-1) else if pm_ok a1 g.2.2.2 = true then some (u.1 (g.2.2.1 + 1) a1.toNatClampNeg) else none
set_option maxHeartbeats 4000000 in
set_option maxRecDepth 100000 in
theorem c_Types_left (l : Launch) (h0 : Nat) (D : pm_D) {g : pm_s} {u : pm_J} (hT : sh_T g) {a1 : Int32} {out : Int32} (h : F_Types_left a1 g u = some out) : pm_C l h0 D m_Types_left (0) [.ref 10, .int a1] (sm g u) (some (.int out)) (sm g u) := by
  unfold F_Types_left at h
  refine pm_met (by decide +kernel) (Nat.le_of_ble_eq_true rfl) (Nat.le_refl _) (Nat.le_refl _) ?_
  intro p e R s m args below meth c
  refine pm_blk (pc' := 1) (L' := [(0, .ref 10), (1, .int a1)]) (S' := [.int a1]) (M' := sm g u) [pm_o (.iload_n 1)] (by decide +kernel) rfl ?_
  refine pm_if_lt (off := 20) 21 (by decide +kernel) (by decide) (fun hc1 => ?_) (fun hc1 => ?_)
  · rw [if_pos hc1] at h
    refine pm_blk (pc' := 22) (L' := [(0, .ref 10), (1, .int a1)]) (S' := [.int (-1)]) (M' := sm g u) [pm_oi (.iconst (-1)) (-1)] (by decide +kernel) rfl ?_
    have h9 := Option.some.inj h
    subst h9
    exact pm_reti rfl (by decide +kernel) rfl rfl rfl
  · rw [if_neg hc1] at h
    refine pm_blk (pc' := 9) (L' := [(0, .ref 10), (1, .int a1)]) (S' := [.int (u.1 10 7), .int a1]) (M' := sm g u) [pm_o (.iload_n 1), pm_o (.aload_n 0), pm_of (.getfield 39) 11 7 0] (by decide +kernel) rfl ?_
    refine pm_ic_ge (off := 12) 21 (by decide +kernel) (by decide) (fun hc2 => ?_) (fun hc2 => ?_)
    · rw [if_pos hc2] at h
      refine pm_blk (pc' := 22) (L' := [(0, .ref 10), (1, .int a1)]) (S' := [.int (-1)]) (M' := sm g u) [pm_oi (.iconst (-1)) (-1)] (by decide +kernel) rfl ?_
      have h9 := Option.some.inj h
      subst h9
      exact pm_reti rfl (by decide +kernel) rfl rfl rfl
    · rw [if_neg hc2] at h
      refine pm_blk (pc' := 17) (L' := [(0, .ref 10), (1, .int a1)]) (S' := [.int a1, .ref (g.2.2.1 + 1)]) (M' := sm g u) [pm_o (.aload_n 0), pm_of (.getfield 15) 11 1 2, pm_o (.iload_n 1)] (by decide +kernel) rfl ?_
      obtain ⟨ho3, h⟩ := pm_ifs h
      refine pm_iald (by decide +kernel) (sh_tk hT (by decide)) (by rw [sh_tl hT (by decide)]; exact pm_ok_in ho3) ?_
      refine pm_blk (pc' := 18) (L' := [(0, .ref 10), (1, .int a1)]) (S' := [.int (u.1 (g.2.2.1 + 1) a1.toNatClampNeg)]) (M' := sm g u) [] (by decide +kernel) rfl ?_
      refine pm_goto (off := 4) 22 (by decide +kernel) (by decide) ?_
      have h9 := Option.some.inj h
      subst h9
      exact pm_reti rfl (by decide +kernel) rfl rfl rfl
def F_Types_right (a1 : Int32) (g : pm_s) (u : pm_J) : Option (Int32) := if a1 < 0 then some (-1) else if (u.1 10 7) ≤ a1 then some (-1) else if pm_ok a1 g.2.2.2 = true then some (u.1 (g.2.2.1 + 2) a1.toNatClampNeg) else none
set_option maxHeartbeats 4000000 in
set_option maxRecDepth 100000 in
theorem c_Types_right (l : Launch) (h0 : Nat) (D : pm_D) {g : pm_s} {u : pm_J} (hT : sh_T g) {a1 : Int32} {out : Int32} (h : F_Types_right a1 g u = some out) : pm_C l h0 D m_Types_right (0) [.ref 10, .int a1] (sm g u) (some (.int out)) (sm g u) := by
  unfold F_Types_right at h
  refine pm_met (by decide +kernel) (Nat.le_of_ble_eq_true rfl) (Nat.le_refl _) (Nat.le_refl _) ?_
  intro p e R s m args below meth c
  refine pm_blk (pc' := 1) (L' := [(0, .ref 10), (1, .int a1)]) (S' := [.int a1]) (M' := sm g u) [pm_o (.iload_n 1)] (by decide +kernel) rfl ?_
  refine pm_if_lt (off := 20) 21 (by decide +kernel) (by decide) (fun hc1 => ?_) (fun hc1 => ?_)
  · rw [if_pos hc1] at h
    refine pm_blk (pc' := 22) (L' := [(0, .ref 10), (1, .int a1)]) (S' := [.int (-1)]) (M' := sm g u) [pm_oi (.iconst (-1)) (-1)] (by decide +kernel) rfl ?_
    have h9 := Option.some.inj h
    subst h9
    exact pm_reti rfl (by decide +kernel) rfl rfl rfl
  · rw [if_neg hc1] at h
    refine pm_blk (pc' := 9) (L' := [(0, .ref 10), (1, .int a1)]) (S' := [.int (u.1 10 7), .int a1]) (M' := sm g u) [pm_o (.iload_n 1), pm_o (.aload_n 0), pm_of (.getfield 39) 11 7 0] (by decide +kernel) rfl ?_
    refine pm_ic_ge (off := 12) 21 (by decide +kernel) (by decide) (fun hc2 => ?_) (fun hc2 => ?_)
    · rw [if_pos hc2] at h
      refine pm_blk (pc' := 22) (L' := [(0, .ref 10), (1, .int a1)]) (S' := [.int (-1)]) (M' := sm g u) [pm_oi (.iconst (-1)) (-1)] (by decide +kernel) rfl ?_
      have h9 := Option.some.inj h
      subst h9
      exact pm_reti rfl (by decide +kernel) rfl rfl rfl
    · rw [if_neg hc2] at h
      refine pm_blk (pc' := 17) (L' := [(0, .ref 10), (1, .int a1)]) (S' := [.int a1, .ref (g.2.2.1 + 2)]) (M' := sm g u) [pm_o (.aload_n 0), pm_of (.getfield 18) 11 2 2, pm_o (.iload_n 1)] (by decide +kernel) rfl ?_
      obtain ⟨ho3, h⟩ := pm_ifs h
      refine pm_iald (by decide +kernel) (sh_tk hT (by decide)) (by rw [sh_tl hT (by decide)]; exact pm_ok_in ho3) ?_
      refine pm_blk (pc' := 18) (L' := [(0, .ref 10), (1, .int a1)]) (S' := [.int (u.1 (g.2.2.1 + 2) a1.toNatClampNeg)]) (M' := sm g u) [] (by decide +kernel) rfl ?_
      refine pm_goto (off := 4) 22 (by decide +kernel) (by decide) ?_
      have h9 := Option.some.inj h
      subst h9
      exact pm_reti rfl (by decide +kernel) rfl rfl rfl
def F_Types_leaves (a1 : Int32) (g : pm_s) (u : pm_J) : Option (Int32) := if a1 < 0 then some 0 else if (u.1 10 7) ≤ a1 then some 0 else if pm_ok a1 g.2.2.2 = true then some (u.1 (g.2.2.1 + 3) a1.toNatClampNeg) else none
set_option maxHeartbeats 4000000 in
set_option maxRecDepth 100000 in
theorem c_Types_leaves (l : Launch) (h0 : Nat) (D : pm_D) {g : pm_s} {u : pm_J} (hT : sh_T g) {a1 : Int32} {out : Int32} (h : F_Types_leaves a1 g u = some out) : pm_C l h0 D m_Types_leaves (0) [.ref 10, .int a1] (sm g u) (some (.int out)) (sm g u) := by
  unfold F_Types_leaves at h
  refine pm_met (by decide +kernel) (Nat.le_of_ble_eq_true rfl) (Nat.le_refl _) (Nat.le_refl _) ?_
  intro p e R s m args below meth c
  refine pm_blk (pc' := 1) (L' := [(0, .ref 10), (1, .int a1)]) (S' := [.int a1]) (M' := sm g u) [pm_o (.iload_n 1)] (by decide +kernel) rfl ?_
  refine pm_if_lt (off := 20) 21 (by decide +kernel) (by decide) (fun hc1 => ?_) (fun hc1 => ?_)
  · rw [if_pos hc1] at h
    refine pm_blk (pc' := 22) (L' := [(0, .ref 10), (1, .int a1)]) (S' := [.int 0]) (M' := sm g u) [pm_oi (.iconst 0) 0] (by decide +kernel) rfl ?_
    have h9 := Option.some.inj h
    subst h9
    exact pm_reti rfl (by decide +kernel) rfl rfl rfl
  · rw [if_neg hc1] at h
    refine pm_blk (pc' := 9) (L' := [(0, .ref 10), (1, .int a1)]) (S' := [.int (u.1 10 7), .int a1]) (M' := sm g u) [pm_o (.iload_n 1), pm_o (.aload_n 0), pm_of (.getfield 39) 11 7 0] (by decide +kernel) rfl ?_
    refine pm_ic_ge (off := 12) 21 (by decide +kernel) (by decide) (fun hc2 => ?_) (fun hc2 => ?_)
    · rw [if_pos hc2] at h
      refine pm_blk (pc' := 22) (L' := [(0, .ref 10), (1, .int a1)]) (S' := [.int 0]) (M' := sm g u) [pm_oi (.iconst 0) 0] (by decide +kernel) rfl ?_
      have h9 := Option.some.inj h
      subst h9
      exact pm_reti rfl (by decide +kernel) rfl rfl rfl
    · rw [if_neg hc2] at h
      refine pm_blk (pc' := 17) (L' := [(0, .ref 10), (1, .int a1)]) (S' := [.int a1, .ref (g.2.2.1 + 3)]) (M' := sm g u) [pm_o (.aload_n 0), pm_of (.getfield 21) 11 3 2, pm_o (.iload_n 1)] (by decide +kernel) rfl ?_
      obtain ⟨ho3, h⟩ := pm_ifs h
      refine pm_iald (by decide +kernel) (sh_tk hT (by decide)) (by rw [sh_tl hT (by decide)]; exact pm_ok_in ho3) ?_
      refine pm_blk (pc' := 18) (L' := [(0, .ref 10), (1, .int a1)]) (S' := [.int (u.1 (g.2.2.1 + 3) a1.toNatClampNeg)]) (M' := sm g u) [] (by decide +kernel) rfl ?_
      refine pm_goto (off := 4) 22 (by decide +kernel) (by decide) ?_
      have h9 := Option.some.inj h
      subst h9
      exact pm_reti rfl (by decide +kernel) rfl rfl rfl
def F_Types_letters (a1 : Int32) (g : pm_s) (u : pm_J) : Option (Int32) := if a1 < 0 then some 0 else if (u.1 10 7) ≤ a1 then some 0 else if pm_ok a1 g.2.2.2 = true then some (u.1 (g.2.2.1 + 4) a1.toNatClampNeg) else none
set_option maxHeartbeats 4000000 in
set_option maxRecDepth 100000 in
theorem c_Types_letters (l : Launch) (h0 : Nat) (D : pm_D) {g : pm_s} {u : pm_J} (hT : sh_T g) {a1 : Int32} {out : Int32} (h : F_Types_letters a1 g u = some out) : pm_C l h0 D m_Types_letters (0) [.ref 10, .int a1] (sm g u) (some (.int out)) (sm g u) := by
  unfold F_Types_letters at h
  refine pm_met (by decide +kernel) (Nat.le_of_ble_eq_true rfl) (Nat.le_refl _) (Nat.le_refl _) ?_
  intro p e R s m args below meth c
  refine pm_blk (pc' := 1) (L' := [(0, .ref 10), (1, .int a1)]) (S' := [.int a1]) (M' := sm g u) [pm_o (.iload_n 1)] (by decide +kernel) rfl ?_
  refine pm_if_lt (off := 20) 21 (by decide +kernel) (by decide) (fun hc1 => ?_) (fun hc1 => ?_)
  · rw [if_pos hc1] at h
    refine pm_blk (pc' := 22) (L' := [(0, .ref 10), (1, .int a1)]) (S' := [.int 0]) (M' := sm g u) [pm_oi (.iconst 0) 0] (by decide +kernel) rfl ?_
    have h9 := Option.some.inj h
    subst h9
    exact pm_reti rfl (by decide +kernel) rfl rfl rfl
  · rw [if_neg hc1] at h
    refine pm_blk (pc' := 9) (L' := [(0, .ref 10), (1, .int a1)]) (S' := [.int (u.1 10 7), .int a1]) (M' := sm g u) [pm_o (.iload_n 1), pm_o (.aload_n 0), pm_of (.getfield 39) 11 7 0] (by decide +kernel) rfl ?_
    refine pm_ic_ge (off := 12) 21 (by decide +kernel) (by decide) (fun hc2 => ?_) (fun hc2 => ?_)
    · rw [if_pos hc2] at h
      refine pm_blk (pc' := 22) (L' := [(0, .ref 10), (1, .int a1)]) (S' := [.int 0]) (M' := sm g u) [pm_oi (.iconst 0) 0] (by decide +kernel) rfl ?_
      have h9 := Option.some.inj h
      subst h9
      exact pm_reti rfl (by decide +kernel) rfl rfl rfl
    · rw [if_neg hc2] at h
      refine pm_blk (pc' := 17) (L' := [(0, .ref 10), (1, .int a1)]) (S' := [.int a1, .ref (g.2.2.1 + 4)]) (M' := sm g u) [pm_o (.aload_n 0), pm_of (.getfield 24) 11 4 2, pm_o (.iload_n 1)] (by decide +kernel) rfl ?_
      obtain ⟨ho3, h⟩ := pm_ifs h
      refine pm_iald (by decide +kernel) (sh_tk hT (by decide)) (by rw [sh_tl hT (by decide)]; exact pm_ok_in ho3) ?_
      refine pm_blk (pc' := 18) (L' := [(0, .ref 10), (1, .int a1)]) (S' := [.int (u.1 (g.2.2.1 + 4) a1.toNatClampNeg)]) (M' := sm g u) [] (by decide +kernel) rfl ?_
      refine pm_goto (off := 4) 22 (by decide +kernel) (by decide) ?_
      have h9 := Option.some.inj h
      subst h9
      exact pm_reti rfl (by decide +kernel) rfl rfl rfl
