def F_Fault_clear_3 (g : pm_s) (u : pm_J) : Option (pm_J) := some (wi (wi u 3 0 0) 3 1 (-1))
set_option maxHeartbeats 4000000 in
set_option maxRecDepth 100000 in
theorem c_Fault_clear_3 (l : Launch) (h0 : Nat) (D : pm_D) {g : pm_s} {u : pm_J} (hT : sh_T g) {out : pm_J} (h : F_Fault_clear_3 g u = some out) : pm_C l h0 D m_Fault_clear (0) [.ref 3] (sm g u) none (sm g out) := by
  unfold F_Fault_clear_3 at h
  refine pm_met (by decide +kernel) (Nat.le_of_ble_eq_true rfl) (Nat.le_refl _) (Nat.le_refl _) ?_
  intro p e R s m args below meth c
  refine pm_blk (pc' := 10) (L' := [(0, .ref 3)]) (S' := []) (M' := sm g (wi (wi u 3 0 0) 3 1 (-1))) [pm_o (.aload_n 0), pm_oi (.iconst 0) 0, pm_of (.putfield 9) 3 0 0, pm_o (.aload_n 0), pm_oi (.iconst (-1)) (-1), pm_of (.putfield 15) 3 1 0] (by decide +kernel) rfl ?_
  have h9 := Option.some.inj h
  subst h9
  exact pm_retv rfl (by decide +kernel) rfl rfl
def F_Fault_clear_4 (g : pm_s) (u : pm_J) : Option (pm_J) := some (wi (wi u 4 0 0) 4 1 (-1))
set_option maxHeartbeats 4000000 in
set_option maxRecDepth 100000 in
theorem c_Fault_clear_4 (l : Launch) (h0 : Nat) (D : pm_D) {g : pm_s} {u : pm_J} (hT : sh_T g) {out : pm_J} (h : F_Fault_clear_4 g u = some out) : pm_C l h0 D m_Fault_clear (0) [.ref 4] (sm g u) none (sm g out) := by
  unfold F_Fault_clear_4 at h
  refine pm_met (by decide +kernel) (Nat.le_of_ble_eq_true rfl) (Nat.le_refl _) (Nat.le_refl _) ?_
  intro p e R s m args below meth c
  refine pm_blk (pc' := 10) (L' := [(0, .ref 4)]) (S' := []) (M' := sm g (wi (wi u 4 0 0) 4 1 (-1))) [pm_o (.aload_n 0), pm_oi (.iconst 0) 0, pm_of (.putfield 9) 3 0 0, pm_o (.aload_n 0), pm_oi (.iconst (-1)) (-1), pm_of (.putfield 15) 3 1 0] (by decide +kernel) rfl ?_
  have h9 := Option.some.inj h
  subst h9
  exact pm_retv rfl (by decide +kernel) rfl rfl
def F_Fault_tell_3 (a1 : Int32) (a2 : Int32) (g : pm_s) (u : pm_J) : Option (pm_J) := if (u.1 3 0) = 0 then some (wi (wi u 3 0 a1) 3 1 a2) else some u
set_option maxHeartbeats 4000000 in
set_option maxRecDepth 100000 in
theorem c_Fault_tell_3 (l : Launch) (h0 : Nat) (D : pm_D) {g : pm_s} {u : pm_J} (hT : sh_T g) {a1 : Int32} {a2 : Int32} {out : pm_J} (h : F_Fault_tell_3 a1 a2 g u = some out) : pm_C l h0 D m_Fault_tell (0) [.ref 3, .int a1, .int a2] (sm g u) none (sm g out) := by
  unfold F_Fault_tell_3 at h
  refine pm_met (by decide +kernel) (Nat.le_of_ble_eq_true rfl) (Nat.le_refl _) (Nat.le_refl _) ?_
  intro p e R s m args below meth c
  refine pm_blk (pc' := 4) (L' := [(0, .ref 3), (1, .int a1), (2, .int a2)]) (S' := [.int (u.1 3 0)]) (M' := sm g u) [pm_o (.aload_n 0), pm_of (.getfield 9) 3 0 0] (by decide +kernel) rfl ?_
  refine pm_if_ne (off := 13) 17 (by decide +kernel) (by decide) (fun hc1 => ?_) (fun hc1 => ?_)
  · rw [if_neg hc1] at h
    have h9 := Option.some.inj h
    subst h9
    exact pm_retv rfl (by decide +kernel) rfl rfl
  · rw [if_pos hc1] at h
    refine pm_blk (pc' := 17) (L' := [(0, .ref 3), (1, .int a1), (2, .int a2)]) (S' := []) (M' := sm g (wi (wi u 3 0 a1) 3 1 a2)) [pm_o (.aload_n 0), pm_o (.iload_n 1), pm_of (.putfield 9) 3 0 0, pm_o (.aload_n 0), pm_o (.iload_n 2), pm_of (.putfield 15) 3 1 0] (by decide +kernel) rfl ?_
    have h9 := Option.some.inj h
    subst h9
    exact pm_retv rfl (by decide +kernel) rfl rfl
def F_Fault_tell_4 (a1 : Int32) (a2 : Int32) (g : pm_s) (u : pm_J) : Option (pm_J) := if (u.1 4 0) = 0 then some (wi (wi u 4 0 a1) 4 1 a2) else some u
set_option maxHeartbeats 4000000 in
set_option maxRecDepth 100000 in
theorem c_Fault_tell_4 (l : Launch) (h0 : Nat) (D : pm_D) {g : pm_s} {u : pm_J} (hT : sh_T g) {a1 : Int32} {a2 : Int32} {out : pm_J} (h : F_Fault_tell_4 a1 a2 g u = some out) : pm_C l h0 D m_Fault_tell (0) [.ref 4, .int a1, .int a2] (sm g u) none (sm g out) := by
  unfold F_Fault_tell_4 at h
  refine pm_met (by decide +kernel) (Nat.le_of_ble_eq_true rfl) (Nat.le_refl _) (Nat.le_refl _) ?_
  intro p e R s m args below meth c
  refine pm_blk (pc' := 4) (L' := [(0, .ref 4), (1, .int a1), (2, .int a2)]) (S' := [.int (u.1 4 0)]) (M' := sm g u) [pm_o (.aload_n 0), pm_of (.getfield 9) 3 0 0] (by decide +kernel) rfl ?_
  refine pm_if_ne (off := 13) 17 (by decide +kernel) (by decide) (fun hc1 => ?_) (fun hc1 => ?_)
  · rw [if_neg hc1] at h
    have h9 := Option.some.inj h
    subst h9
    exact pm_retv rfl (by decide +kernel) rfl rfl
  · rw [if_pos hc1] at h
    refine pm_blk (pc' := 17) (L' := [(0, .ref 4), (1, .int a1), (2, .int a2)]) (S' := []) (M' := sm g (wi (wi u 4 0 a1) 4 1 a2)) [pm_o (.aload_n 0), pm_o (.iload_n 1), pm_of (.putfield 9) 3 0 0, pm_o (.aload_n 0), pm_o (.iload_n 2), pm_of (.putfield 15) 3 1 0] (by decide +kernel) rfl ?_
    have h9 := Option.some.inj h
    subst h9
    exact pm_retv rfl (by decide +kernel) rfl rfl
def F_Fault_isTold_3 (g : pm_s) (u : pm_J) : Option (Int32) := if (u.1 3 0) = 0 then some 0 else some 1
set_option maxHeartbeats 4000000 in
set_option maxRecDepth 100000 in
theorem c_Fault_isTold_3 (l : Launch) (h0 : Nat) (D : pm_D) {g : pm_s} {u : pm_J} (hT : sh_T g) {out : Int32} (h : F_Fault_isTold_3 g u = some out) : pm_C l h0 D m_Fault_isTold (0) [.ref 3] (sm g u) (some (.int out)) (sm g u) := by
  unfold F_Fault_isTold_3 at h
  refine pm_met (by decide +kernel) (Nat.le_of_ble_eq_true rfl) (Nat.le_refl _) (Nat.le_refl _) ?_
  intro p e R s m args below meth c
  refine pm_blk (pc' := 4) (L' := [(0, .ref 3)]) (S' := [.int (u.1 3 0)]) (M' := sm g u) [pm_o (.aload_n 0), pm_of (.getfield 9) 3 0 0] (by decide +kernel) rfl ?_
  refine pm_if_eq (off := 7) 11 (by decide +kernel) (by decide) (fun hc1 => ?_) (fun hc1 => ?_)
  · rw [if_pos hc1] at h
    refine pm_blk (pc' := 12) (L' := [(0, .ref 3)]) (S' := [.int 0]) (M' := sm g u) [pm_oi (.iconst 0) 0] (by decide +kernel) rfl ?_
    have h9 := Option.some.inj h
    subst h9
    exact pm_retz rfl (by decide +kernel) rfl rfl rfl rfl
  · rw [if_neg hc1] at h
    refine pm_blk (pc' := 8) (L' := [(0, .ref 3)]) (S' := [.int 1]) (M' := sm g u) [pm_oi (.iconst 1) 1] (by decide +kernel) rfl ?_
    refine pm_goto (off := 4) 12 (by decide +kernel) (by decide) ?_
    have h9 := Option.some.inj h
    subst h9
    exact pm_retz rfl (by decide +kernel) rfl rfl rfl rfl
def F_Fault_isTold_4 (g : pm_s) (u : pm_J) : Option (Int32) := if (u.1 4 0) = 0 then some 0 else some 1
set_option maxHeartbeats 4000000 in
set_option maxRecDepth 100000 in
theorem c_Fault_isTold_4 (l : Launch) (h0 : Nat) (D : pm_D) {g : pm_s} {u : pm_J} (hT : sh_T g) {out : Int32} (h : F_Fault_isTold_4 g u = some out) : pm_C l h0 D m_Fault_isTold (0) [.ref 4] (sm g u) (some (.int out)) (sm g u) := by
  unfold F_Fault_isTold_4 at h
  refine pm_met (by decide +kernel) (Nat.le_of_ble_eq_true rfl) (Nat.le_refl _) (Nat.le_refl _) ?_
  intro p e R s m args below meth c
  refine pm_blk (pc' := 4) (L' := [(0, .ref 4)]) (S' := [.int (u.1 4 0)]) (M' := sm g u) [pm_o (.aload_n 0), pm_of (.getfield 9) 3 0 0] (by decide +kernel) rfl ?_
  refine pm_if_eq (off := 7) 11 (by decide +kernel) (by decide) (fun hc1 => ?_) (fun hc1 => ?_)
  · rw [if_pos hc1] at h
    refine pm_blk (pc' := 12) (L' := [(0, .ref 4)]) (S' := [.int 0]) (M' := sm g u) [pm_oi (.iconst 0) 0] (by decide +kernel) rfl ?_
    have h9 := Option.some.inj h
    subst h9
    exact pm_retz rfl (by decide +kernel) rfl rfl rfl rfl
  · rw [if_neg hc1] at h
    refine pm_blk (pc' := 8) (L' := [(0, .ref 4)]) (S' := [.int 1]) (M' := sm g u) [pm_oi (.iconst 1) 1] (by decide +kernel) rfl ?_
    refine pm_goto (off := 4) 12 (by decide +kernel) (by decide) ?_
    have h9 := Option.some.inj h
    subst h9
    exact pm_retz rfl (by decide +kernel) rfl rfl rfl rfl
def F_Fault_what_3 (g : pm_s) (u : pm_J) : Option (Int32) := some (u.1 3 0)
set_option maxHeartbeats 4000000 in
set_option maxRecDepth 100000 in
theorem c_Fault_what_3 (l : Launch) (h0 : Nat) (D : pm_D) {g : pm_s} {u : pm_J} (hT : sh_T g) {out : Int32} (h : F_Fault_what_3 g u = some out) : pm_C l h0 D m_Fault_what (0) [.ref 3] (sm g u) (some (.int out)) (sm g u) := by
  unfold F_Fault_what_3 at h
  refine pm_met (by decide +kernel) (Nat.le_of_ble_eq_true rfl) (Nat.le_refl _) (Nat.le_refl _) ?_
  intro p e R s m args below meth c
  refine pm_blk (pc' := 4) (L' := [(0, .ref 3)]) (S' := [.int (u.1 3 0)]) (M' := sm g u) [pm_o (.aload_n 0), pm_of (.getfield 9) 3 0 0] (by decide +kernel) rfl ?_
  have h9 := Option.some.inj h
  subst h9
  exact pm_reti rfl (by decide +kernel) rfl rfl rfl
def F_Fault_what_4 (g : pm_s) (u : pm_J) : Option (Int32) := some (u.1 4 0)
set_option maxHeartbeats 4000000 in
set_option maxRecDepth 100000 in
theorem c_Fault_what_4 (l : Launch) (h0 : Nat) (D : pm_D) {g : pm_s} {u : pm_J} (hT : sh_T g) {out : Int32} (h : F_Fault_what_4 g u = some out) : pm_C l h0 D m_Fault_what (0) [.ref 4] (sm g u) (some (.int out)) (sm g u) := by
  unfold F_Fault_what_4 at h
  refine pm_met (by decide +kernel) (Nat.le_of_ble_eq_true rfl) (Nat.le_refl _) (Nat.le_refl _) ?_
  intro p e R s m args below meth c
  refine pm_blk (pc' := 4) (L' := [(0, .ref 4)]) (S' := [.int (u.1 4 0)]) (M' := sm g u) [pm_o (.aload_n 0), pm_of (.getfield 9) 3 0 0] (by decide +kernel) rfl ?_
  have h9 := Option.some.inj h
  subst h9
  exact pm_reti rfl (by decide +kernel) rfl rfl rfl
def F_Fault_where_3 (g : pm_s) (u : pm_J) : Option (Int32) := some (u.1 3 1)
set_option maxHeartbeats 4000000 in
set_option maxRecDepth 100000 in
theorem c_Fault_where_3 (l : Launch) (h0 : Nat) (D : pm_D) {g : pm_s} {u : pm_J} (hT : sh_T g) {out : Int32} (h : F_Fault_where_3 g u = some out) : pm_C l h0 D m_Fault_where (0) [.ref 3] (sm g u) (some (.int out)) (sm g u) := by
  unfold F_Fault_where_3 at h
  refine pm_met (by decide +kernel) (Nat.le_of_ble_eq_true rfl) (Nat.le_refl _) (Nat.le_refl _) ?_
  intro p e R s m args below meth c
  refine pm_blk (pc' := 4) (L' := [(0, .ref 3)]) (S' := [.int (u.1 3 1)]) (M' := sm g u) [pm_o (.aload_n 0), pm_of (.getfield 15) 3 1 0] (by decide +kernel) rfl ?_
  have h9 := Option.some.inj h
  subst h9
  exact pm_reti rfl (by decide +kernel) rfl rfl rfl
def F_Fault_where_4 (g : pm_s) (u : pm_J) : Option (Int32) := some (u.1 4 1)
set_option maxHeartbeats 4000000 in
set_option maxRecDepth 100000 in
theorem c_Fault_where_4 (l : Launch) (h0 : Nat) (D : pm_D) {g : pm_s} {u : pm_J} (hT : sh_T g) {out : Int32} (h : F_Fault_where_4 g u = some out) : pm_C l h0 D m_Fault_where (0) [.ref 4] (sm g u) (some (.int out)) (sm g u) := by
  unfold F_Fault_where_4 at h
  refine pm_met (by decide +kernel) (Nat.le_of_ble_eq_true rfl) (Nat.le_refl _) (Nat.le_refl _) ?_
  intro p e R s m args below meth c
  refine pm_blk (pc' := 4) (L' := [(0, .ref 4)]) (S' := [.int (u.1 4 1)]) (M' := sm g u) [pm_o (.aload_n 0), pm_of (.getfield 15) 3 1 0] (by decide +kernel) rfl ?_
  have h9 := Option.some.inj h
  subst h9
  exact pm_reti rfl (by decide +kernel) rfl rfl rfl
def F_Frames_clear (g : pm_s) (u : pm_J) : Option (pm_J) := some (wi (wi u 57 6 0) 57 7 0)
set_option maxHeartbeats 4000000 in
set_option maxRecDepth 100000 in
theorem c_Frames_clear (l : Launch) (h0 : Nat) (D : pm_D) {g : pm_s} {u : pm_J} (hT : sh_T g) {out : pm_J} (h : F_Frames_clear g u = some out) : pm_C l h0 D m_Frames_clear (0) [.ref 57] (sm g u) none (sm g out) := by
  unfold F_Frames_clear at h
  refine pm_met (by decide +kernel) (Nat.le_of_ble_eq_true rfl) (Nat.le_refl _) (Nat.le_refl _) ?_
  intro p e R s m args below meth c
  refine pm_blk (pc' := 10) (L' := [(0, .ref 57)]) (S' := []) (M' := sm g (wi (wi u 57 6 0) 57 7 0)) [pm_o (.aload_n 0), pm_oi (.iconst 0) 0, pm_of (.putfield 33) 4 6 0, pm_o (.aload_n 0), pm_oi (.iconst 0) 0, pm_of (.putfield 37) 4 7 0] (by decide +kernel) rfl ?_
  have h9 := Option.some.inj h
  subst h9
  exact pm_retv rfl (by decide +kernel) rfl rfl
def F_Frames_isEmpty (g : pm_s) (u : pm_J) : Option (Int32) := if (u.1 57 6) = 0 then some 1 else some 0
set_option maxHeartbeats 4000000 in
set_option maxRecDepth 100000 in
theorem c_Frames_isEmpty (l : Launch) (h0 : Nat) (D : pm_D) {g : pm_s} {u : pm_J} (hT : sh_T g) {out : Int32} (h : F_Frames_isEmpty g u = some out) : pm_C l h0 D m_Frames_isEmpty (0) [.ref 57] (sm g u) (some (.int out)) (sm g u) := by
  unfold F_Frames_isEmpty at h
  refine pm_met (by decide +kernel) (Nat.le_of_ble_eq_true rfl) (Nat.le_refl _) (Nat.le_refl _) ?_
  intro p e R s m args below meth c
  refine pm_blk (pc' := 4) (L' := [(0, .ref 57)]) (S' := [.int (u.1 57 6)]) (M' := sm g u) [pm_o (.aload_n 0), pm_of (.getfield 33) 4 6 0] (by decide +kernel) rfl ?_
  refine pm_if_ne (off := 7) 11 (by decide +kernel) (by decide) (fun hc1 => ?_) (fun hc1 => ?_)
  · rw [if_neg hc1] at h
    refine pm_blk (pc' := 12) (L' := [(0, .ref 57)]) (S' := [.int 0]) (M' := sm g u) [pm_oi (.iconst 0) 0] (by decide +kernel) rfl ?_
    have h9 := Option.some.inj h
    subst h9
    exact pm_retz rfl (by decide +kernel) rfl rfl rfl rfl
  · rw [if_pos hc1] at h
    refine pm_blk (pc' := 8) (L' := [(0, .ref 57)]) (S' := [.int 1]) (M' := sm g u) [pm_oi (.iconst 1) 1] (by decide +kernel) rfl ?_
    refine pm_goto (off := 4) 12 (by decide +kernel) (by decide) ?_
    have h9 := Option.some.inj h
    subst h9
    exact pm_retz rfl (by decide +kernel) rfl rfl rfl rfl
def F_Frames_isFull (g : pm_s) (u : pm_J) : Option (Int32) := if (u.1 57 6) < 150 then some 0 else some 1
set_option maxHeartbeats 4000000 in
set_option maxRecDepth 100000 in
theorem c_Frames_isFull (l : Launch) (h0 : Nat) (D : pm_D) {g : pm_s} {u : pm_J} (hT : sh_T g) {out : Int32} (h : F_Frames_isFull g u = some out) : pm_C l h0 D m_Frames_isFull (0) [.ref 57] (sm g u) (some (.int out)) (sm g u) := by
  unfold F_Frames_isFull at h
  refine pm_met (by decide +kernel) (Nat.le_of_ble_eq_true rfl) (Nat.le_refl _) (Nat.le_refl _) ?_
  intro p e R s m args below meth c
  refine pm_blk (pc' := 7) (L' := [(0, .ref 57)]) (S' := [.int 150, .int (u.1 57 6)]) (M' := sm g u) [pm_o (.aload_n 0), pm_of (.getfield 33) 4 6 0, pm_oi (.sipush 150) 150] (by decide +kernel) rfl ?_
  refine pm_ic_lt (off := 7) 14 (by decide +kernel) (by decide) (fun hc1 => ?_) (fun hc1 => ?_)
  · rw [if_pos hc1] at h
    refine pm_blk (pc' := 15) (L' := [(0, .ref 57)]) (S' := [.int 0]) (M' := sm g u) [pm_oi (.iconst 0) 0] (by decide +kernel) rfl ?_
    have h9 := Option.some.inj h
    subst h9
    exact pm_retz rfl (by decide +kernel) rfl rfl rfl rfl
  · rw [if_neg hc1] at h
    refine pm_blk (pc' := 11) (L' := [(0, .ref 57)]) (S' := [.int 1]) (M' := sm g u) [pm_oi (.iconst 1) 1] (by decide +kernel) rfl ?_
    refine pm_goto (off := 4) 15 (by decide +kernel) (by decide) ?_
    have h9 := Option.some.inj h
    subst h9
    exact pm_retz rfl (by decide +kernel) rfl rfl rfl rfl
def F_Frames_deepest (g : pm_s) (u : pm_J) : Option (Int32) := some (u.1 57 7)
set_option maxHeartbeats 4000000 in
set_option maxRecDepth 100000 in
theorem c_Frames_deepest (l : Launch) (h0 : Nat) (D : pm_D) {g : pm_s} {u : pm_J} (hT : sh_T g) {out : Int32} (h : F_Frames_deepest g u = some out) : pm_C l h0 D m_Frames_deepest (0) [.ref 57] (sm g u) (some (.int out)) (sm g u) := by
  unfold F_Frames_deepest at h
  refine pm_met (by decide +kernel) (Nat.le_of_ble_eq_true rfl) (Nat.le_refl _) (Nat.le_refl _) ?_
  intro p e R s m args below meth c
  refine pm_blk (pc' := 4) (L' := [(0, .ref 57)]) (S' := [.int (u.1 57 7)]) (M' := sm g u) [pm_o (.aload_n 0), pm_of (.getfield 37) 4 7 0] (by decide +kernel) rfl ?_
  have h9 := Option.some.inj h
  subst h9
  exact pm_reti rfl (by decide +kernel) rfl rfl rfl
def F_Frames_push (a1 : Int32) (a2 : Int32) (g : pm_s) (u : pm_J) : Option (pm_J) := if (u.1 57 6) < 150 then if pm_ok (u.1 57 6) 150 = true then if pm_ok (u.1 57 6) 150 = true then if pm_ok (u.1 57 6) 150 = true then if pm_ok (u.1 57 6) 150 = true then if pm_ok (u.1 57 6) 150 = true then some (wi (wi (wi (wi (wi (wi (wi u 58 ((u.1 57 6).toNatClampNeg) a1) 59 ((u.1 57 6).toNatClampNeg) 0) 60 ((u.1 57 6).toNatClampNeg) a2) 61 ((u.1 57 6).toNatClampNeg) (-1)) 62 ((u.1 57 6).toNatClampNeg) 0) 57 6 ((u.1 57 6) + 1)) 57 7 (if (u.1 57 7) < ((u.1 57 6) + 1) then ((u.1 57 6) + 1) else (u.1 57 7))) else none else none else none else none else none else some u
set_option maxHeartbeats 4000000 in
set_option maxRecDepth 100000 in
theorem c_Frames_push (l : Launch) (h0 : Nat) (D : pm_D) {g : pm_s} {u : pm_J} (hT : sh_T g) {a1 : Int32} {a2 : Int32} {out : pm_J} (h : F_Frames_push a1 a2 g u = some out) : pm_C l h0 D m_Frames_push (1) [.ref 57, .int a1, .int a2] (sm g u) none (sm g out) := by
  unfold F_Frames_push at h
  refine pm_met (by decide +kernel) (Nat.le_of_ble_eq_true rfl) (Nat.le_refl _) (Nat.le_refl _) ?_
  intro p e R s m args below meth c
  refine pm_blk (pc' := 7) (L' := [(0, .ref 57), (1, .int a1), (2, .int a2)]) (S' := [.int 150, .int (u.1 57 6)]) (M' := sm g u) [pm_o (.aload_n 0), pm_of (.getfield 33) 4 6 0, pm_oi (.sipush 150) 150] (by decide +kernel) rfl ?_
  refine pm_ic_lt (off := 4) 11 (by decide +kernel) (by decide) (fun hc1 => ?_) (fun hc1 => ?_)
  · rw [if_pos hc1] at h
    refine pm_blk (pc' := 20) (L' := [(0, .ref 57), (1, .int a1), (2, .int a2)]) (S' := [.int a1, .int (u.1 57 6), .ref 58]) (M' := sm g u) [pm_o (.aload_n 0), pm_of (.getfield 13) 4 0 2, pm_o (.aload_n 0), pm_of (.getfield 33) 4 6 0, pm_o (.iload_n 1)] (by decide +kernel) rfl ?_
    obtain ⟨ho2, h⟩ := pm_ifs h
    refine pm_iast (by decide +kernel) rfl  (pm_ok_in ho2) ?_
    refine pm_blk (pc' := 30) (L' := [(0, .ref 57), (1, .int a1), (2, .int a2)]) (S' := [.int 0, .int (u.1 57 6), .ref 59]) (M' := sm g (wi u 58 ((u.1 57 6).toNatClampNeg) a1)) [pm_o (.aload_n 0), pm_of (.getfield 17) 4 1 2, pm_o (.aload_n 0), pm_of (.getfield 33) 4 6 0, pm_oi (.iconst 0) 0] (by decide +kernel) rfl ?_
    obtain ⟨ho3, h⟩ := pm_ifs h
    refine pm_iast (by decide +kernel) rfl  (pm_ok_in ho3) ?_
    refine pm_blk (pc' := 40) (L' := [(0, .ref 57), (1, .int a1), (2, .int a2)]) (S' := [.int a2, .int (u.1 57 6), .ref 60]) (M' := sm g (wi (wi u 58 ((u.1 57 6).toNatClampNeg) a1) 59 ((u.1 57 6).toNatClampNeg) 0)) [pm_o (.aload_n 0), pm_of (.getfield 20) 4 2 2, pm_o (.aload_n 0), pm_of (.getfield 33) 4 6 0, pm_o (.iload_n 2)] (by decide +kernel) rfl ?_
    obtain ⟨ho4, h⟩ := pm_ifs h
    refine pm_iast (by decide +kernel) rfl  (pm_ok_in ho4) ?_
    refine pm_blk (pc' := 50) (L' := [(0, .ref 57), (1, .int a1), (2, .int a2)]) (S' := [.int (-1), .int (u.1 57 6), .ref 61]) (M' := sm g (wi (wi (wi u 58 ((u.1 57 6).toNatClampNeg) a1) 59 ((u.1 57 6).toNatClampNeg) 0) 60 ((u.1 57 6).toNatClampNeg) a2)) [pm_o (.aload_n 0), pm_of (.getfield 23) 4 3 2, pm_o (.aload_n 0), pm_of (.getfield 33) 4 6 0, pm_oi (.iconst (-1)) (-1)] (by decide +kernel) rfl ?_
    obtain ⟨ho5, h⟩ := pm_ifs h
    refine pm_iast (by decide +kernel) rfl  (pm_ok_in ho5) ?_
    refine pm_blk (pc' := 60) (L' := [(0, .ref 57), (1, .int a1), (2, .int a2)]) (S' := [.int 0, .int (u.1 57 6), .ref 62]) (M' := sm g (wi (wi (wi (wi u 58 ((u.1 57 6).toNatClampNeg) a1) 59 ((u.1 57 6).toNatClampNeg) 0) 60 ((u.1 57 6).toNatClampNeg) a2) 61 ((u.1 57 6).toNatClampNeg) (-1))) [pm_o (.aload_n 0), pm_of (.getfield 26) 4 4 2, pm_o (.aload_n 0), pm_of (.getfield 33) 4 6 0, pm_oi (.iconst 0) 0] (by decide +kernel) rfl ?_
    obtain ⟨ho6, h⟩ := pm_ifs h
    refine pm_iast (by decide +kernel) rfl  (pm_ok_in ho6) ?_
    refine pm_blk (pc' := 80) (L' := [(0, .ref 57), (1, .int a1), (2, .int a2)]) (S' := [.int ((u.1 57 6) + 1), .int (u.1 57 7), .ref 57]) (M' := sm g (wi (wi (wi (wi (wi (wi u 58 ((u.1 57 6).toNatClampNeg) a1) 59 ((u.1 57 6).toNatClampNeg) 0) 60 ((u.1 57 6).toNatClampNeg) a2) 61 ((u.1 57 6).toNatClampNeg) (-1)) 62 ((u.1 57 6).toNatClampNeg) 0) 57 6 ((u.1 57 6) + 1))) [pm_o (.aload_n 0), pm_o .dup, pm_of (.getfield 33) 4 6 0, pm_oi (.iconst 1) 1, pm_o .iadd, pm_of (.putfield 33) 4 6 0, pm_o (.aload_n 0), pm_o (.aload_n 0), pm_of (.getfield 37) 4 7 0, pm_o (.aload_n 0), pm_of (.getfield 33) 4 6 0] (by decide +kernel) rfl ?_
    refine pm_max (idx := 40) (by decide +kernel) l_Frames_40 (Nat.le_of_ble_eq_true rfl) (Nat.le_of_ble_eq_true rfl) (Nat.le_refl _) (Nat.le_refl _) ?_
    refine pm_blk (pc' := 86) (L' := [(0, .ref 57), (1, .int a1), (2, .int a2)]) (S' := []) (M' := sm g (wi (wi (wi (wi (wi (wi (wi u 58 ((u.1 57 6).toNatClampNeg) a1) 59 ((u.1 57 6).toNatClampNeg) 0) 60 ((u.1 57 6).toNatClampNeg) a2) 61 ((u.1 57 6).toNatClampNeg) (-1)) 62 ((u.1 57 6).toNatClampNeg) 0) 57 6 ((u.1 57 6) + 1)) 57 7 (if (u.1 57 7) < ((u.1 57 6) + 1) then ((u.1 57 6) + 1) else (u.1 57 7)))) [pm_of (.putfield 37) 4 7 0] (by decide +kernel) rfl ?_
    have h9 := Option.some.inj h
    subst h9
    exact pm_retv rfl (by decide +kernel) rfl rfl
  · rw [if_neg hc1] at h
    have h9 := Option.some.inj h
    subst h9
    exact pm_retv rfl (by decide +kernel) rfl rfl
def F_Frames_pop (g : pm_s) (u : pm_J) : Option (pm_J) := some (wi u 57 6 (if 0 < ((u.1 57 6) - 1) then ((u.1 57 6) - 1) else 0))
set_option maxHeartbeats 4000000 in
set_option maxRecDepth 100000 in
theorem c_Frames_pop (l : Launch) (h0 : Nat) (D : pm_D) {g : pm_s} {u : pm_J} (hT : sh_T g) {out : pm_J} (h : F_Frames_pop g u = some out) : pm_C l h0 D m_Frames_pop (1) [.ref 57] (sm g u) none (sm g out) := by
  unfold F_Frames_pop at h
  refine pm_met (by decide +kernel) (Nat.le_of_ble_eq_true rfl) (Nat.le_refl _) (Nat.le_refl _) ?_
  intro p e R s m args below meth c
  refine pm_blk (pc' := 8) (L' := [(0, .ref 57)]) (S' := [.int ((u.1 57 6) - 1), .int 0, .ref 57]) (M' := sm g u) [pm_o (.aload_n 0), pm_oi (.iconst 0) 0, pm_o (.aload_n 0), pm_of (.getfield 33) 4 6 0, pm_oi (.iconst 1) 1, pm_o .isub] (by decide +kernel) rfl ?_
  refine pm_max (idx := 40) (by decide +kernel) l_Frames_40 (Nat.le_of_ble_eq_true rfl) (Nat.le_of_ble_eq_true rfl) (Nat.le_refl _) (Nat.le_refl _) ?_
  refine pm_blk (pc' := 14) (L' := [(0, .ref 57)]) (S' := []) (M' := sm g (wi u 57 6 (if 0 < ((u.1 57 6) - 1) then ((u.1 57 6) - 1) else 0))) [pm_of (.putfield 33) 4 6 0] (by decide +kernel) rfl ?_
  have h9 := Option.some.inj h
  subst h9
  exact pm_retv rfl (by decide +kernel) rfl rfl
def F_Frames_node (g : pm_s) (u : pm_J) : Option (Int32) := if (u.1 57 6) ≤ 0 then some (-1) else if pm_ok ((u.1 57 6) - 1) 150 = true then some (u.1 58 (((u.1 57 6) - 1).toNatClampNeg)) else none
set_option maxHeartbeats 4000000 in
set_option maxRecDepth 100000 in
theorem c_Frames_node (l : Launch) (h0 : Nat) (D : pm_D) {g : pm_s} {u : pm_J} (hT : sh_T g) {out : Int32} (h : F_Frames_node g u = some out) : pm_C l h0 D m_Frames_node (0) [.ref 57] (sm g u) (some (.int out)) (sm g u) := by
  unfold F_Frames_node at h
  refine pm_met (by decide +kernel) (Nat.le_of_ble_eq_true rfl) (Nat.le_refl _) (Nat.le_refl _) ?_
  intro p e R s m args below meth c
  refine pm_blk (pc' := 4) (L' := [(0, .ref 57)]) (S' := [.int (u.1 57 6)]) (M' := sm g u) [pm_o (.aload_n 0), pm_of (.getfield 33) 4 6 0] (by decide +kernel) rfl ?_
  refine pm_if_le (off := 17) 21 (by decide +kernel) (by decide) (fun hc1 => ?_) (fun hc1 => ?_)
  · rw [if_pos hc1] at h
    refine pm_blk (pc' := 22) (L' := [(0, .ref 57)]) (S' := [.int (-1)]) (M' := sm g u) [pm_oi (.iconst (-1)) (-1)] (by decide +kernel) rfl ?_
    have h9 := Option.some.inj h
    subst h9
    exact pm_reti rfl (by decide +kernel) rfl rfl rfl
  · rw [if_neg hc1] at h
    refine pm_blk (pc' := 17) (L' := [(0, .ref 57)]) (S' := [.int ((u.1 57 6) - 1), .ref 58]) (M' := sm g u) [pm_o (.aload_n 0), pm_of (.getfield 13) 4 0 2, pm_o (.aload_n 0), pm_of (.getfield 33) 4 6 0, pm_oi (.iconst 1) 1, pm_o .isub] (by decide +kernel) rfl ?_
    obtain ⟨ho2, h⟩ := pm_ifs h
    refine pm_iald (by decide +kernel) rfl (pm_ok_in ho2) ?_
    refine pm_blk (pc' := 18) (L' := [(0, .ref 57)]) (S' := [.int (u.1 58 (((u.1 57 6) - 1).toNatClampNeg))]) (M' := sm g u) [] (by decide +kernel) rfl ?_
    refine pm_goto (off := 4) 22 (by decide +kernel) (by decide) ?_
    have h9 := Option.some.inj h
    subst h9
    exact pm_reti rfl (by decide +kernel) rfl rfl rfl
def F_Frames_state (g : pm_s) (u : pm_J) : Option (Int32) := if (u.1 57 6) ≤ 0 then some 0 else if pm_ok ((u.1 57 6) - 1) 150 = true then some (u.1 59 (((u.1 57 6) - 1).toNatClampNeg)) else none
set_option maxHeartbeats 4000000 in
set_option maxRecDepth 100000 in
theorem c_Frames_state (l : Launch) (h0 : Nat) (D : pm_D) {g : pm_s} {u : pm_J} (hT : sh_T g) {out : Int32} (h : F_Frames_state g u = some out) : pm_C l h0 D m_Frames_state (0) [.ref 57] (sm g u) (some (.int out)) (sm g u) := by
  unfold F_Frames_state at h
  refine pm_met (by decide +kernel) (Nat.le_of_ble_eq_true rfl) (Nat.le_refl _) (Nat.le_refl _) ?_
  intro p e R s m args below meth c
  refine pm_blk (pc' := 4) (L' := [(0, .ref 57)]) (S' := [.int (u.1 57 6)]) (M' := sm g u) [pm_o (.aload_n 0), pm_of (.getfield 33) 4 6 0] (by decide +kernel) rfl ?_
  refine pm_if_le (off := 17) 21 (by decide +kernel) (by decide) (fun hc1 => ?_) (fun hc1 => ?_)
  · rw [if_pos hc1] at h
    refine pm_blk (pc' := 22) (L' := [(0, .ref 57)]) (S' := [.int 0]) (M' := sm g u) [pm_oi (.iconst 0) 0] (by decide +kernel) rfl ?_
    have h9 := Option.some.inj h
    subst h9
    exact pm_reti rfl (by decide +kernel) rfl rfl rfl
  · rw [if_neg hc1] at h
    refine pm_blk (pc' := 17) (L' := [(0, .ref 57)]) (S' := [.int ((u.1 57 6) - 1), .ref 59]) (M' := sm g u) [pm_o (.aload_n 0), pm_of (.getfield 17) 4 1 2, pm_o (.aload_n 0), pm_of (.getfield 33) 4 6 0, pm_oi (.iconst 1) 1, pm_o .isub] (by decide +kernel) rfl ?_
    obtain ⟨ho2, h⟩ := pm_ifs h
    refine pm_iald (by decide +kernel) rfl (pm_ok_in ho2) ?_
    refine pm_blk (pc' := 18) (L' := [(0, .ref 57)]) (S' := [.int (u.1 59 (((u.1 57 6) - 1).toNatClampNeg))]) (M' := sm g u) [] (by decide +kernel) rfl ?_
    refine pm_goto (off := 4) 22 (by decide +kernel) (by decide) ?_
    have h9 := Option.some.inj h
    subst h9
    exact pm_reti rfl (by decide +kernel) rfl rfl rfl
def F_Frames_setState (a1 : Int32) (g : pm_s) (u : pm_J) : Option (pm_J) := if (u.1 57 6) ≤ 0 then some u else if pm_ok ((u.1 57 6) - 1) 150 = true then some (wi u 59 (((u.1 57 6) - 1).toNatClampNeg) a1) else none
set_option maxHeartbeats 4000000 in
set_option maxRecDepth 100000 in
theorem c_Frames_setState (l : Launch) (h0 : Nat) (D : pm_D) {g : pm_s} {u : pm_J} (hT : sh_T g) {a1 : Int32} {out : pm_J} (h : F_Frames_setState a1 g u = some out) : pm_C l h0 D m_Frames_setState (0) [.ref 57, .int a1] (sm g u) none (sm g out) := by
  unfold F_Frames_setState at h
  refine pm_met (by decide +kernel) (Nat.le_of_ble_eq_true rfl) (Nat.le_refl _) (Nat.le_refl _) ?_
  intro p e R s m args below meth c
  refine pm_blk (pc' := 4) (L' := [(0, .ref 57), (1, .int a1)]) (S' := [.int (u.1 57 6)]) (M' := sm g u) [pm_o (.aload_n 0), pm_of (.getfield 33) 4 6 0] (by decide +kernel) rfl ?_
  refine pm_if_le (off := 15) 19 (by decide +kernel) (by decide) (fun hc1 => ?_) (fun hc1 => ?_)
  · rw [if_pos hc1] at h
    have h9 := Option.some.inj h
    subst h9
    exact pm_retv rfl (by decide +kernel) rfl rfl
  · rw [if_neg hc1] at h
    refine pm_blk (pc' := 18) (L' := [(0, .ref 57), (1, .int a1)]) (S' := [.int a1, .int ((u.1 57 6) - 1), .ref 59]) (M' := sm g u) [pm_o (.aload_n 0), pm_of (.getfield 17) 4 1 2, pm_o (.aload_n 0), pm_of (.getfield 33) 4 6 0, pm_oi (.iconst 1) 1, pm_o .isub, pm_o (.iload_n 1)] (by decide +kernel) rfl ?_
    obtain ⟨ho2, h⟩ := pm_ifs h
    refine pm_iast (by decide +kernel) rfl  (pm_ok_in ho2) ?_
    refine pm_blk (pc' := 19) (L' := [(0, .ref 57), (1, .int a1)]) (S' := []) (M' := sm g (wi u 59 (((u.1 57 6) - 1).toNatClampNeg) a1)) [] (by decide +kernel) rfl ?_
    have h9 := Option.some.inj h
    subst h9
    exact pm_retv rfl (by decide +kernel) rfl rfl
def F_Frames_base (g : pm_s) (u : pm_J) : Option (Int32) := if (u.1 57 6) ≤ 0 then some 0 else if pm_ok ((u.1 57 6) - 1) 150 = true then some (u.1 60 (((u.1 57 6) - 1).toNatClampNeg)) else none
set_option maxHeartbeats 4000000 in
set_option maxRecDepth 100000 in
theorem c_Frames_base (l : Launch) (h0 : Nat) (D : pm_D) {g : pm_s} {u : pm_J} (hT : sh_T g) {out : Int32} (h : F_Frames_base g u = some out) : pm_C l h0 D m_Frames_base (0) [.ref 57] (sm g u) (some (.int out)) (sm g u) := by
  unfold F_Frames_base at h
  refine pm_met (by decide +kernel) (Nat.le_of_ble_eq_true rfl) (Nat.le_refl _) (Nat.le_refl _) ?_
  intro p e R s m args below meth c
  refine pm_blk (pc' := 4) (L' := [(0, .ref 57)]) (S' := [.int (u.1 57 6)]) (M' := sm g u) [pm_o (.aload_n 0), pm_of (.getfield 33) 4 6 0] (by decide +kernel) rfl ?_
  refine pm_if_le (off := 17) 21 (by decide +kernel) (by decide) (fun hc1 => ?_) (fun hc1 => ?_)
  · rw [if_pos hc1] at h
    refine pm_blk (pc' := 22) (L' := [(0, .ref 57)]) (S' := [.int 0]) (M' := sm g u) [pm_oi (.iconst 0) 0] (by decide +kernel) rfl ?_
    have h9 := Option.some.inj h
    subst h9
    exact pm_reti rfl (by decide +kernel) rfl rfl rfl
  · rw [if_neg hc1] at h
    refine pm_blk (pc' := 17) (L' := [(0, .ref 57)]) (S' := [.int ((u.1 57 6) - 1), .ref 60]) (M' := sm g u) [pm_o (.aload_n 0), pm_of (.getfield 20) 4 2 2, pm_o (.aload_n 0), pm_of (.getfield 33) 4 6 0, pm_oi (.iconst 1) 1, pm_o .isub] (by decide +kernel) rfl ?_
    obtain ⟨ho2, h⟩ := pm_ifs h
    refine pm_iald (by decide +kernel) rfl (pm_ok_in ho2) ?_
    refine pm_blk (pc' := 18) (L' := [(0, .ref 57)]) (S' := [.int (u.1 60 (((u.1 57 6) - 1).toNatClampNeg))]) (M' := sm g u) [] (by decide +kernel) rfl ?_
    refine pm_goto (off := 4) 22 (by decide +kernel) (by decide) ?_
    have h9 := Option.some.inj h
    subst h9
    exact pm_reti rfl (by decide +kernel) rfl rfl rfl
def F_Frames_atom (g : pm_s) (u : pm_J) : Option (Int32) := if (u.1 57 6) ≤ 0 then some (-1) else if pm_ok ((u.1 57 6) - 1) 150 = true then some (u.1 61 (((u.1 57 6) - 1).toNatClampNeg)) else none
set_option maxHeartbeats 4000000 in
set_option maxRecDepth 100000 in
theorem c_Frames_atom (l : Launch) (h0 : Nat) (D : pm_D) {g : pm_s} {u : pm_J} (hT : sh_T g) {out : Int32} (h : F_Frames_atom g u = some out) : pm_C l h0 D m_Frames_atom (0) [.ref 57] (sm g u) (some (.int out)) (sm g u) := by
  unfold F_Frames_atom at h
  refine pm_met (by decide +kernel) (Nat.le_of_ble_eq_true rfl) (Nat.le_refl _) (Nat.le_refl _) ?_
  intro p e R s m args below meth c
  refine pm_blk (pc' := 4) (L' := [(0, .ref 57)]) (S' := [.int (u.1 57 6)]) (M' := sm g u) [pm_o (.aload_n 0), pm_of (.getfield 33) 4 6 0] (by decide +kernel) rfl ?_
  refine pm_if_le (off := 17) 21 (by decide +kernel) (by decide) (fun hc1 => ?_) (fun hc1 => ?_)
  · rw [if_pos hc1] at h
    refine pm_blk (pc' := 22) (L' := [(0, .ref 57)]) (S' := [.int (-1)]) (M' := sm g u) [pm_oi (.iconst (-1)) (-1)] (by decide +kernel) rfl ?_
    have h9 := Option.some.inj h
    subst h9
    exact pm_reti rfl (by decide +kernel) rfl rfl rfl
  · rw [if_neg hc1] at h
    refine pm_blk (pc' := 17) (L' := [(0, .ref 57)]) (S' := [.int ((u.1 57 6) - 1), .ref 61]) (M' := sm g u) [pm_o (.aload_n 0), pm_of (.getfield 23) 4 3 2, pm_o (.aload_n 0), pm_of (.getfield 33) 4 6 0, pm_oi (.iconst 1) 1, pm_o .isub] (by decide +kernel) rfl ?_
    obtain ⟨ho2, h⟩ := pm_ifs h
    refine pm_iald (by decide +kernel) rfl (pm_ok_in ho2) ?_
    refine pm_blk (pc' := 18) (L' := [(0, .ref 57)]) (S' := [.int (u.1 61 (((u.1 57 6) - 1).toNatClampNeg))]) (M' := sm g u) [] (by decide +kernel) rfl ?_
    refine pm_goto (off := 4) 22 (by decide +kernel) (by decide) ?_
    have h9 := Option.some.inj h
    subst h9
    exact pm_reti rfl (by decide +kernel) rfl rfl rfl
def F_Frames_setAtom (a1 : Int32) (g : pm_s) (u : pm_J) : Option (pm_J) := if (u.1 57 6) ≤ 0 then some u else if pm_ok ((u.1 57 6) - 1) 150 = true then some (wi u 61 (((u.1 57 6) - 1).toNatClampNeg) a1) else none
set_option maxHeartbeats 4000000 in
set_option maxRecDepth 100000 in
theorem c_Frames_setAtom (l : Launch) (h0 : Nat) (D : pm_D) {g : pm_s} {u : pm_J} (hT : sh_T g) {a1 : Int32} {out : pm_J} (h : F_Frames_setAtom a1 g u = some out) : pm_C l h0 D m_Frames_setAtom (0) [.ref 57, .int a1] (sm g u) none (sm g out) := by
  unfold F_Frames_setAtom at h
  refine pm_met (by decide +kernel) (Nat.le_of_ble_eq_true rfl) (Nat.le_refl _) (Nat.le_refl _) ?_
  intro p e R s m args below meth c
  refine pm_blk (pc' := 4) (L' := [(0, .ref 57), (1, .int a1)]) (S' := [.int (u.1 57 6)]) (M' := sm g u) [pm_o (.aload_n 0), pm_of (.getfield 33) 4 6 0] (by decide +kernel) rfl ?_
  refine pm_if_le (off := 15) 19 (by decide +kernel) (by decide) (fun hc1 => ?_) (fun hc1 => ?_)
  · rw [if_pos hc1] at h
    have h9 := Option.some.inj h
    subst h9
    exact pm_retv rfl (by decide +kernel) rfl rfl
  · rw [if_neg hc1] at h
    refine pm_blk (pc' := 18) (L' := [(0, .ref 57), (1, .int a1)]) (S' := [.int a1, .int ((u.1 57 6) - 1), .ref 61]) (M' := sm g u) [pm_o (.aload_n 0), pm_of (.getfield 23) 4 3 2, pm_o (.aload_n 0), pm_of (.getfield 33) 4 6 0, pm_oi (.iconst 1) 1, pm_o .isub, pm_o (.iload_n 1)] (by decide +kernel) rfl ?_
    obtain ⟨ho2, h⟩ := pm_ifs h
    refine pm_iast (by decide +kernel) rfl  (pm_ok_in ho2) ?_
    refine pm_blk (pc' := 19) (L' := [(0, .ref 57), (1, .int a1)]) (S' := []) (M' := sm g (wi u 61 (((u.1 57 6) - 1).toNatClampNeg) a1)) [] (by decide +kernel) rfl ?_
    have h9 := Option.some.inj h
    subst h9
    exact pm_retv rfl (by decide +kernel) rfl rfl
def F_Frames_heldCount (g : pm_s) (u : pm_J) : Option (Int32) := if (u.1 57 6) ≤ 0 then some 0 else if pm_ok ((u.1 57 6) - 1) 150 = true then some (u.1 62 (((u.1 57 6) - 1).toNatClampNeg)) else none
set_option maxHeartbeats 4000000 in
set_option maxRecDepth 100000 in
theorem c_Frames_heldCount (l : Launch) (h0 : Nat) (D : pm_D) {g : pm_s} {u : pm_J} (hT : sh_T g) {out : Int32} (h : F_Frames_heldCount g u = some out) : pm_C l h0 D m_Frames_heldCount (0) [.ref 57] (sm g u) (some (.int out)) (sm g u) := by
  unfold F_Frames_heldCount at h
  refine pm_met (by decide +kernel) (Nat.le_of_ble_eq_true rfl) (Nat.le_refl _) (Nat.le_refl _) ?_
  intro p e R s m args below meth c
  refine pm_blk (pc' := 4) (L' := [(0, .ref 57)]) (S' := [.int (u.1 57 6)]) (M' := sm g u) [pm_o (.aload_n 0), pm_of (.getfield 33) 4 6 0] (by decide +kernel) rfl ?_
  refine pm_if_le (off := 17) 21 (by decide +kernel) (by decide) (fun hc1 => ?_) (fun hc1 => ?_)
  · rw [if_pos hc1] at h
    refine pm_blk (pc' := 22) (L' := [(0, .ref 57)]) (S' := [.int 0]) (M' := sm g u) [pm_oi (.iconst 0) 0] (by decide +kernel) rfl ?_
    have h9 := Option.some.inj h
    subst h9
    exact pm_reti rfl (by decide +kernel) rfl rfl rfl
  · rw [if_neg hc1] at h
    refine pm_blk (pc' := 17) (L' := [(0, .ref 57)]) (S' := [.int ((u.1 57 6) - 1), .ref 62]) (M' := sm g u) [pm_o (.aload_n 0), pm_of (.getfield 26) 4 4 2, pm_o (.aload_n 0), pm_of (.getfield 33) 4 6 0, pm_oi (.iconst 1) 1, pm_o .isub] (by decide +kernel) rfl ?_
    obtain ⟨ho2, h⟩ := pm_ifs h
    refine pm_iald (by decide +kernel) rfl (pm_ok_in ho2) ?_
    refine pm_blk (pc' := 18) (L' := [(0, .ref 57)]) (S' := [.int (u.1 62 (((u.1 57 6) - 1).toNatClampNeg))]) (M' := sm g u) [] (by decide +kernel) rfl ?_
    refine pm_goto (off := 4) 22 (by decide +kernel) (by decide) ?_
    have h9 := Option.some.inj h
    subst h9
    exact pm_reti rfl (by decide +kernel) rfl rfl rfl
def F_Frames_hold (a1 : Int64) (g : pm_s) (u : pm_J) : Option (pm_J) := if (u.1 57 6) ≤ 0 then some u else if pm_ok ((u.1 57 6) - 1) 150 = true then if 6 ≤ (u.1 62 (((u.1 57 6) - 1).toNatClampNeg)) then some u else if pm_ok ((u.1 57 6) - 1) 150 = true then if pm_ok ((((u.1 57 6) - 1) * 6) + (u.1 62 (((u.1 57 6) - 1).toNatClampNeg))) 900 = true then if pm_ok ((u.1 57 6) - 1) 150 = true then if pm_ok ((u.1 57 6) - 1) 150 = true then some (wi (wj u 63 (((((u.1 57 6) - 1) * 6) + (u.1 62 (((u.1 57 6) - 1).toNatClampNeg))).toNatClampNeg) a1) 62 (((u.1 57 6) - 1).toNatClampNeg) ((u.1 62 (((u.1 57 6) - 1).toNatClampNeg)) + 1)) else none else none else none else none else none
set_option maxHeartbeats 4000000 in
set_option maxRecDepth 100000 in
theorem c_Frames_hold (l : Launch) (h0 : Nat) (D : pm_D) {g : pm_s} {u : pm_J} (hT : sh_T g) {a1 : Int64} {out : pm_J} (h : F_Frames_hold a1 g u = some out) : pm_C l h0 D m_Frames_hold (0) [.ref 57, .long a1] (sm g u) none (sm g out) := by
  unfold F_Frames_hold at h
  refine pm_met (by decide +kernel) (Nat.le_of_ble_eq_true rfl) (Nat.le_refl _) (Nat.le_refl _) ?_
  intro p e R s m args below meth c
  refine pm_blk (pc' := 4) (L' := [(0, .ref 57), (1, .long a1)]) (S' := [.int (u.1 57 6)]) (M' := sm g u) [pm_o (.aload_n 0), pm_of (.getfield 33) 4 6 0] (by decide +kernel) rfl ?_
  refine pm_if_le (off := 61) 65 (by decide +kernel) (by decide) (fun hc1 => ?_) (fun hc1 => ?_)
  · rw [if_pos hc1] at h
    have h9 := Option.some.inj h
    subst h9
    exact pm_retv rfl (by decide +kernel) rfl rfl
  · rw [if_neg hc1] at h
    refine pm_blk (pc' := 17) (L' := [(0, .ref 57), (1, .long a1)]) (S' := [.int ((u.1 57 6) - 1), .ref 62]) (M' := sm g u) [pm_o (.aload_n 0), pm_of (.getfield 26) 4 4 2, pm_o (.aload_n 0), pm_of (.getfield 33) 4 6 0, pm_oi (.iconst 1) 1, pm_o .isub] (by decide +kernel) rfl ?_
    obtain ⟨ho2, h⟩ := pm_ifs h
    refine pm_iald (by decide +kernel) rfl (pm_ok_in ho2) ?_
    refine pm_blk (pc' := 20) (L' := [(0, .ref 57), (1, .long a1)]) (S' := [.int 6, .int (u.1 62 (((u.1 57 6) - 1).toNatClampNeg))]) (M' := sm g u) [pm_oi (.bipush 6) 6] (by decide +kernel) rfl ?_
    refine pm_ic_ge (off := 45) 65 (by decide +kernel) (by decide) (fun hc3 => ?_) (fun hc3 => ?_)
    · rw [if_pos hc3] at h
      have h9 := Option.some.inj h
      subst h9
      exact pm_retv rfl (by decide +kernel) rfl rfl
    · rw [if_neg hc3] at h
      refine pm_blk (pc' := 46) (L' := [(0, .ref 57), (1, .long a1)]) (S' := [.int ((u.1 57 6) - 1), .ref 62, .int (((u.1 57 6) - 1) * 6), .ref 63]) (M' := sm g u) [pm_o (.aload_n 0), pm_of (.getfield 29) 4 5 2, pm_o (.aload_n 0), pm_of (.getfield 33) 4 6 0, pm_oi (.iconst 1) 1, pm_o .isub, pm_oi (.bipush 6) 6, pm_o .imul, pm_o (.aload_n 0), pm_of (.getfield 26) 4 4 2, pm_o (.aload_n 0), pm_of (.getfield 33) 4 6 0, pm_oi (.iconst 1) 1, pm_o .isub] (by decide +kernel) rfl ?_
      obtain ⟨ho4, h⟩ := pm_ifs h
      refine pm_iald (by decide +kernel) rfl (pm_ok_in ho4) ?_
      refine pm_blk (pc' := 49) (L' := [(0, .ref 57), (1, .long a1)]) (S' := [.long a1, .int ((((u.1 57 6) - 1) * 6) + (u.1 62 (((u.1 57 6) - 1).toNatClampNeg))), .ref 63]) (M' := sm g u) [pm_o .iadd, pm_o (.lload_n 1)] (by decide +kernel) rfl ?_
      obtain ⟨ho5, h⟩ := pm_ifs h
      refine pm_last (by decide +kernel) rfl  (pm_ok_in ho5) ?_
      refine pm_blk (pc' := 61) (L' := [(0, .ref 57), (1, .long a1)]) (S' := [.int ((u.1 57 6) - 1), .ref 62, .int ((u.1 57 6) - 1), .ref 62]) (M' := sm g (wj u 63 (((((u.1 57 6) - 1) * 6) + (u.1 62 (((u.1 57 6) - 1).toNatClampNeg))).toNatClampNeg) a1)) [pm_o (.aload_n 0), pm_of (.getfield 26) 4 4 2, pm_o (.aload_n 0), pm_of (.getfield 33) 4 6 0, pm_oi (.iconst 1) 1, pm_o .isub, pm_o .dup2] (by decide +kernel) rfl ?_
      obtain ⟨ho6, h⟩ := pm_ifs h
      refine pm_iald (by decide +kernel) rfl (pm_ok_in ho6) ?_
      refine pm_blk (pc' := 64) (L' := [(0, .ref 57), (1, .long a1)]) (S' := [.int ((u.1 62 (((u.1 57 6) - 1).toNatClampNeg)) + 1), .int ((u.1 57 6) - 1), .ref 62]) (M' := sm g (wj u 63 (((((u.1 57 6) - 1) * 6) + (u.1 62 (((u.1 57 6) - 1).toNatClampNeg))).toNatClampNeg) a1)) [pm_oi (.iconst 1) 1, pm_o .iadd] (by decide +kernel) rfl ?_
      obtain ⟨ho7, h⟩ := pm_ifs h
      refine pm_iast (by decide +kernel) rfl  (pm_ok_in ho7) ?_
      refine pm_blk (pc' := 65) (L' := [(0, .ref 57), (1, .long a1)]) (S' := []) (M' := sm g (wi (wj u 63 (((((u.1 57 6) - 1) * 6) + (u.1 62 (((u.1 57 6) - 1).toNatClampNeg))).toNatClampNeg) a1) 62 (((u.1 57 6) - 1).toNatClampNeg) ((u.1 62 (((u.1 57 6) - 1).toNatClampNeg)) + 1))) [] (by decide +kernel) rfl ?_
      have h9 := Option.some.inj h
      subst h9
      exact pm_retv rfl (by decide +kernel) rfl rfl
def F_Frames_dropHeld (g : pm_s) (u : pm_J) : Option (pm_J) := if (u.1 57 6) ≤ 0 then some u else if pm_ok ((u.1 57 6) - 1) 150 = true then some (wi u 62 (((u.1 57 6) - 1).toNatClampNeg) 0) else none
set_option maxHeartbeats 4000000 in
set_option maxRecDepth 100000 in
theorem c_Frames_dropHeld (l : Launch) (h0 : Nat) (D : pm_D) {g : pm_s} {u : pm_J} (hT : sh_T g) {out : pm_J} (h : F_Frames_dropHeld g u = some out) : pm_C l h0 D m_Frames_dropHeld (0) [.ref 57] (sm g u) none (sm g out) := by
  unfold F_Frames_dropHeld at h
  refine pm_met (by decide +kernel) (Nat.le_of_ble_eq_true rfl) (Nat.le_refl _) (Nat.le_refl _) ?_
  intro p e R s m args below meth c
  refine pm_blk (pc' := 4) (L' := [(0, .ref 57)]) (S' := [.int (u.1 57 6)]) (M' := sm g u) [pm_o (.aload_n 0), pm_of (.getfield 33) 4 6 0] (by decide +kernel) rfl ?_
  refine pm_if_le (off := 15) 19 (by decide +kernel) (by decide) (fun hc1 => ?_) (fun hc1 => ?_)
  · rw [if_pos hc1] at h
    have h9 := Option.some.inj h
    subst h9
    exact pm_retv rfl (by decide +kernel) rfl rfl
  · rw [if_neg hc1] at h
    refine pm_blk (pc' := 18) (L' := [(0, .ref 57)]) (S' := [.int 0, .int ((u.1 57 6) - 1), .ref 62]) (M' := sm g u) [pm_o (.aload_n 0), pm_of (.getfield 26) 4 4 2, pm_o (.aload_n 0), pm_of (.getfield 33) 4 6 0, pm_oi (.iconst 1) 1, pm_o .isub, pm_oi (.iconst 0) 0] (by decide +kernel) rfl ?_
    obtain ⟨ho2, h⟩ := pm_ifs h
    refine pm_iast (by decide +kernel) rfl  (pm_ok_in ho2) ?_
    refine pm_blk (pc' := 19) (L' := [(0, .ref 57)]) (S' := []) (M' := sm g (wi u 62 (((u.1 57 6) - 1).toNatClampNeg) 0)) [] (by decide +kernel) rfl ?_
    have h9 := Option.some.inj h
    subst h9
    exact pm_retv rfl (by decide +kernel) rfl rfl
def F_Frames_held (a1 : Int32) (g : pm_s) (u : pm_J) : Option (Int64) := if a1 < 0 then some 0 else (F_Frames_heldCount g u).bind fun q2 => if q2 ≤ a1 then some 0 else if pm_ok ((((u.1 57 6) - 1) * 6) + a1) 900 = true then some (u.2 63 (((((u.1 57 6) - 1) * 6) + a1).toNatClampNeg)) else none
set_option maxHeartbeats 4000000 in
set_option maxRecDepth 100000 in
theorem c_Frames_held (l : Launch) (h0 : Nat) (D : pm_D) {g : pm_s} {u : pm_J} (hT : sh_T g) {a1 : Int32} {out : Int64} (h : F_Frames_held a1 g u = some out) : pm_C l h0 D m_Frames_held (1) [.ref 57, .int a1] (sm g u) (some (.long out)) (sm g u) := by
  unfold F_Frames_held at h
  refine pm_met (by decide +kernel) (Nat.le_of_ble_eq_true rfl) (Nat.le_refl _) (Nat.le_refl _) ?_
  intro p e R s m args below meth c
  refine pm_blk (pc' := 1) (L' := [(0, .ref 57), (1, .int a1)]) (S' := [.int a1]) (M' := sm g u) [pm_o (.iload_n 1)] (by decide +kernel) rfl ?_
  refine pm_if_lt (off := 30) 31 (by decide +kernel) (by decide) (fun hc1 => ?_) (fun hc1 => ?_)
  · rw [if_pos hc1] at h
    refine pm_blk (pc' := 32) (L' := [(0, .ref 57), (1, .int a1)]) (S' := [.long 0]) (M' := sm g u) [pm_ol (.lconst 0) 0] (by decide +kernel) rfl ?_
    have h9 := Option.some.inj h
    subst h9
    exact pm_retl rfl (by decide +kernel) rfl rfl rfl
  · rw [if_neg hc1] at h
    refine pm_blk (pc' := 6) (L' := [(0, .ref 57), (1, .int a1)]) (S' := [.ref 57, .int a1]) (M' := sm g u) [pm_o (.iload_n 1), pm_o (.aload_n 0)] (by decide +kernel) rfl ?_
    obtain ⟨q2, hq2, h⟩ := pm_bd h
    refine pm_cV (idx := 46) m_Frames_heldCount (c_Frames_heldCount l h0 D hT hq2) (As := []) (S0 := [.int a1]) rfl (by decide +kernel) k_Frames_heldCount l_Frames_46 (Nat.le_of_ble_eq_true rfl) (Nat.le_of_ble_eq_true rfl) (Nat.le_refl _) (Nat.le_refl _) ?_
    refine pm_blk (pc' := 9) (L' := [(0, .ref 57), (1, .int a1)]) (S' := [.int q2, .int a1]) (M' := sm g u) [] (by decide +kernel) rfl ?_
    refine pm_ic_ge (off := 22) 31 (by decide +kernel) (by decide) (fun hc3 => ?_) (fun hc3 => ?_)
    · rw [if_pos hc3] at h
      refine pm_blk (pc' := 32) (L' := [(0, .ref 57), (1, .int a1)]) (S' := [.long 0]) (M' := sm g u) [pm_ol (.lconst 0) 0] (by decide +kernel) rfl ?_
      have h9 := Option.some.inj h
      subst h9
      exact pm_retl rfl (by decide +kernel) rfl rfl rfl
    · rw [if_neg hc3] at h
      refine pm_blk (pc' := 27) (L' := [(0, .ref 57), (1, .int a1)]) (S' := [.int ((((u.1 57 6) - 1) * 6) + a1), .ref 63]) (M' := sm g u) [pm_o (.aload_n 0), pm_of (.getfield 29) 4 5 2, pm_o (.aload_n 0), pm_of (.getfield 33) 4 6 0, pm_oi (.iconst 1) 1, pm_o .isub, pm_oi (.bipush 6) 6, pm_o .imul, pm_o (.iload_n 1), pm_o .iadd] (by decide +kernel) rfl ?_
      obtain ⟨ho4, h⟩ := pm_ifs h
      refine pm_lald (by decide +kernel) rfl (pm_ok_in ho4) ?_
      refine pm_blk (pc' := 28) (L' := [(0, .ref 57), (1, .int a1)]) (S' := [.long (u.2 63 (((((u.1 57 6) - 1) * 6) + a1).toNatClampNeg))]) (M' := sm g u) [] (by decide +kernel) rfl ?_
      refine pm_goto (off := 4) 32 (by decide +kernel) (by decide) ?_
      have h9 := Option.some.inj h
      subst h9
      exact pm_retl rfl (by decide +kernel) rfl rfl rfl
def K_Arrays_fill_0_50_5 (N : Nat) (g : pm_s) : Nat → Int32 → Int32 → Int32 → pm_J → Option (pm_J)
  | 0, _, _, _, _ => none
  | n + 1, x1, x2, x3, u => if x3 ≤ x2 then some u else if pm_ok x2 6 = true then K_Arrays_fill_0_50_5 N g  n x1 (x2 + 1) x3 (wi u 50 x2.toNatClampNeg x1) else none
set_option maxHeartbeats 4000000 in
set_option maxRecDepth 100000 in
theorem w_Arrays_fill_0_50_5 (l : Launch) (h0 : Nat) (D : pm_D) {g : pm_s} (hT : sh_T g) {N : Nat} {u0 : pm_J} {out : pm_J} {p : Program} {e : Env} {R : Room} {s : State} {m : MethodId} {args : Array Value} {below : List Frame} {meth : Method} {c : Code} : ∀ (n : Nat) (x1 : Int32) (x2 : Int32) (x3 : Int32) (u : pm_J), K_Arrays_fill_0_50_5 N g n x1 x2 x3 u = some out → pm_V (p, l, e, R, s, m, args, below, meth, c) m_Arrays_fill_0 h0 D (g.1, g.2.1, g.1, g.2.1, 0) (pm_E (p, l, e, R, s, m, args, below, meth, c) h0 D (sm g u0) none (sm g out)) 5 [(0, .ref 50), (1, .int x1), (2, .int x2), (3, .int x3)] [] (sm g u) := by
  intro n
  induction n with
  | zero => intro x1 x2 x3 u h; cases h
  | succ n ih =>
    intro x1 x2 x3 u h
    rw [K_Arrays_fill_0_50_5] at h
    refine pm_blk (pc' := 7) (L' := [(0, .ref 50), (1, .int x1), (2, .int x2), (3, .int x3)]) (S' := [.int x3, .int x2]) (M' := sm g u) [pm_o (.iload_n 2), pm_o (.iload_n 3)] (by decide +kernel) rfl ?_
    refine pm_ic_ge (off := 13) 20 (by decide +kernel) (by decide) (fun hc1 => ?_) (fun hc1 => ?_)
    · rw [if_pos hc1] at h
      have h9 := Option.some.inj h
      subst h9
      exact pm_retv rfl (by decide +kernel) rfl rfl
    · rw [if_neg hc1] at h
      refine pm_blk (pc' := 13) (L' := [(0, .ref 50), (1, .int x1), (2, .int x2), (3, .int x3)]) (S' := [.int x1, .int x2, .ref 50]) (M' := sm g u) [pm_o (.aload_n 0), pm_o (.iload_n 2), pm_o (.iload_n 1)] (by decide +kernel) rfl ?_
      obtain ⟨ho2, h⟩ := pm_ifs h
      refine pm_iast (by decide +kernel) rfl  (pm_ok_in ho2) ?_
      refine pm_blk (pc' := 17) (L' := [(2, .int (x2 + 1)), (0, .ref 50), (1, .int x1), (3, .int x3)]) (S' := []) (M' := sm g (wi u 50 x2.toNatClampNeg x1)) [pm_oi (.iinc 2 1) 1] (by decide +kernel) rfl ?_
      refine pm_goto (off := -12) 5 (by decide +kernel) (by decide) ?_
      refine pm_loc [1, 2, 0, 3] rfl ?_
      exact ih x1 (x2 + 1) x3 (wi u 50 x2.toNatClampNeg x1) h
def F_Arrays_fill_0_50 (N : Nat) (a2 : Int32) (g : pm_s) (u : pm_J) : Option (pm_J) := K_Arrays_fill_0_50_5 N g N a2 0 (Nat.toInt32 6) u
set_option maxHeartbeats 4000000 in
set_option maxRecDepth 100000 in
theorem c_Arrays_fill_0_50 (l : Launch) (h0 : Nat) (D : pm_D) {g : pm_s} {u : pm_J} (hT : sh_T g) {N : Nat} {a2 : Int32} {out : pm_J} (h : F_Arrays_fill_0_50 N a2 g u = some out) : pm_C l h0 D m_Arrays_fill_0 (0) [.ref 50, .int a2] (sm g u) none (sm g out) := by
  unfold F_Arrays_fill_0_50 at h
  refine pm_met (by decide +kernel) (Nat.le_of_ble_eq_true rfl) (Nat.le_refl _) (Nat.le_refl _) ?_
  intro p e R s m args below meth c
  refine pm_blk (pc' := 5) (L' := [(3, .int (Nat.toInt32 6)), (2, .int 0), (0, .ref 50), (1, .int a2)]) (S' := []) (M' := sm g u) [pm_oi (.iconst 0) 0, pm_o (.istore_n 2), pm_o (.aload_n 0), pm_o .arraylength, pm_o (.istore_n 3)] (by decide +kernel) rfl ?_
  refine pm_loc [2, 3, 1, 0] rfl ?_
  exact w_Arrays_fill_0_50_5 l h0 D hT N a2 0 (Nat.toInt32 6) u h
def F_Heap_clear (N : Nat) (g : pm_s) (u : pm_J) : Option (pm_J) := (F_Arrays_fill_0_50 N 0 g (wi (wi (wi (wi u 45 5 0) 45 6 0) 45 8 0) 45 9 0)).bind fun q1 => some q1
set_option maxHeartbeats 4000000 in
set_option maxRecDepth 100000 in
theorem c_Heap_clear (l : Launch) (h0 : Nat) (D : pm_D) {g : pm_s} {u : pm_J} (hT : sh_T g) {N : Nat} {out : pm_J} (h : F_Heap_clear N g u = some out) : pm_C l h0 D m_Heap_clear (1) [.ref 45] (sm g u) none (sm g out) := by
  unfold F_Heap_clear at h
  refine pm_met (by decide +kernel) (Nat.le_of_ble_eq_true rfl) (Nat.le_refl _) (Nat.le_refl _) ?_
  intro p e R s m args below meth c
  refine pm_blk (pc' := 25) (L' := [(0, .ref 45)]) (S' := [.int 0, .ref 50]) (M' := sm g (wi (wi (wi (wi u 45 5 0) 45 6 0) 45 8 0) 45 9 0)) [pm_o (.aload_n 0), pm_oi (.iconst 0) 0, pm_of (.putfield 32) 5 5 0, pm_o (.aload_n 0), pm_oi (.iconst 0) 0, pm_of (.putfield 36) 5 6 0, pm_o (.aload_n 0), pm_oi (.iconst 0) 0, pm_of (.putfield 39) 5 8 0, pm_o (.aload_n 0), pm_oi (.iconst 0) 0, pm_of (.putfield 42) 5 9 3, pm_o (.aload_n 0), pm_of (.getfield 25) 5 4 2, pm_oi (.iconst 0) 0] (by decide +kernel) rfl ?_
  obtain ⟨q1, hq1, h⟩ := pm_bd h
  refine pm_cS (idx := 46) m_Arrays_fill_0 (c_Arrays_fill_0_50 l h0 D hT hq1) (As := [.ref 50, .int 0]) (S0 := []) rfl (by decide +kernel) k_Arrays_fill_0 l_Heap_46 (Nat.le_of_ble_eq_true rfl) (Nat.le_of_ble_eq_true rfl) (Nat.le_refl _) (Nat.le_refl _) ?_
  refine pm_blk (pc' := 28) (L' := [(0, .ref 45)]) (S' := []) (M' := sm g q1) [] (by decide +kernel) rfl ?_
  have h9 := Option.some.inj h
  subst h9
  exact pm_retv rfl (by decide +kernel) rfl rfl
def F_Heap_isOver (g : pm_s) (u : pm_J) : Option (Int32) := if ((u.1 45 9) == 0 || (u.1 45 9) == 1) = true then some (u.1 45 9) else none
set_option maxHeartbeats 4000000 in
set_option maxRecDepth 100000 in
theorem c_Heap_isOver (l : Launch) (h0 : Nat) (D : pm_D) {g : pm_s} {u : pm_J} (hT : sh_T g) {out : Int32} (h : F_Heap_isOver g u = some out) : pm_C l h0 D m_Heap_isOver (0) [.ref 45] (sm g u) (some (.int out)) (sm g u) := by
  unfold F_Heap_isOver at h
  refine pm_met (by decide +kernel) (Nat.le_of_ble_eq_true rfl) (Nat.le_refl _) (Nat.le_refl _) ?_
  intro p e R s m args below meth c
  refine pm_blk (pc' := 4) (L' := [(0, .ref 45)]) (S' := [.int (u.1 45 9)]) (M' := sm g u) [pm_o (.aload_n 0), pm_of (.getfield 42) 5 9 3] (by decide +kernel) rfl ?_
  obtain ⟨hz1, h⟩ := pm_ifs h
  have h9 := Option.some.inj h
  subst h9
  exact pm_retz rfl (by decide +kernel) hz1 rfl rfl rfl
def F_Heap_madeOf (a1 : Int32) (g : pm_s) (u : pm_J) : Option (Int32) := if a1 < 0 then some 0 else if 6 ≤ a1 then some 0 else if pm_ok a1 6 = true then some (u.1 50 a1.toNatClampNeg) else none
set_option maxHeartbeats 4000000 in
set_option maxRecDepth 100000 in
theorem c_Heap_madeOf (l : Launch) (h0 : Nat) (D : pm_D) {g : pm_s} {u : pm_J} (hT : sh_T g) {a1 : Int32} {out : Int32} (h : F_Heap_madeOf a1 g u = some out) : pm_C l h0 D m_Heap_madeOf (0) [.ref 45, .int a1] (sm g u) (some (.int out)) (sm g u) := by
  unfold F_Heap_madeOf at h
  refine pm_met (by decide +kernel) (Nat.le_of_ble_eq_true rfl) (Nat.le_refl _) (Nat.le_refl _) ?_
  intro p e R s m args below meth c
  refine pm_blk (pc' := 1) (L' := [(0, .ref 45), (1, .int a1)]) (S' := [.int a1]) (M' := sm g u) [pm_o (.iload_n 1)] (by decide +kernel) rfl ?_
  refine pm_if_lt (off := 18) 19 (by decide +kernel) (by decide) (fun hc1 => ?_) (fun hc1 => ?_)
  · rw [if_pos hc1] at h
    refine pm_blk (pc' := 20) (L' := [(0, .ref 45), (1, .int a1)]) (S' := [.int 0]) (M' := sm g u) [pm_oi (.iconst 0) 0] (by decide +kernel) rfl ?_
    have h9 := Option.some.inj h
    subst h9
    exact pm_reti rfl (by decide +kernel) rfl rfl rfl
  · rw [if_neg hc1] at h
    refine pm_blk (pc' := 7) (L' := [(0, .ref 45), (1, .int a1)]) (S' := [.int 6, .int a1]) (M' := sm g u) [pm_o (.iload_n 1), pm_oi (.bipush 6) 6] (by decide +kernel) rfl ?_
    refine pm_ic_ge (off := 12) 19 (by decide +kernel) (by decide) (fun hc2 => ?_) (fun hc2 => ?_)
    · rw [if_pos hc2] at h
      refine pm_blk (pc' := 20) (L' := [(0, .ref 45), (1, .int a1)]) (S' := [.int 0]) (M' := sm g u) [pm_oi (.iconst 0) 0] (by decide +kernel) rfl ?_
      have h9 := Option.some.inj h
      subst h9
      exact pm_reti rfl (by decide +kernel) rfl rfl rfl
    · rw [if_neg hc2] at h
      refine pm_blk (pc' := 15) (L' := [(0, .ref 45), (1, .int a1)]) (S' := [.int a1, .ref 50]) (M' := sm g u) [pm_o (.aload_n 0), pm_of (.getfield 25) 5 4 2, pm_o (.iload_n 1)] (by decide +kernel) rfl ?_
      obtain ⟨ho3, h⟩ := pm_ifs h
      refine pm_iald (by decide +kernel) rfl (pm_ok_in ho3) ?_
      refine pm_blk (pc' := 16) (L' := [(0, .ref 45), (1, .int a1)]) (S' := [.int (u.1 50 a1.toNatClampNeg)]) (M' := sm g u) [] (by decide +kernel) rfl ?_
      refine pm_goto (off := 4) 20 (by decide +kernel) (by decide) ?_
      have h9 := Option.some.inj h
      subst h9
      exact pm_reti rfl (by decide +kernel) rfl rfl rfl
def F_Heap_openedBoxes (g : pm_s) (u : pm_J) : Option (Int32) := some (u.1 45 6)
set_option maxHeartbeats 4000000 in
set_option maxRecDepth 100000 in
theorem c_Heap_openedBoxes (l : Launch) (h0 : Nat) (D : pm_D) {g : pm_s} {u : pm_J} (hT : sh_T g) {out : Int32} (h : F_Heap_openedBoxes g u = some out) : pm_C l h0 D m_Heap_openedBoxes (0) [.ref 45] (sm g u) (some (.int out)) (sm g u) := by
  unfold F_Heap_openedBoxes at h
  refine pm_met (by decide +kernel) (Nat.le_of_ble_eq_true rfl) (Nat.le_refl _) (Nat.le_refl _) ?_
  intro p e R s m args below meth c
  refine pm_blk (pc' := 4) (L' := [(0, .ref 45)]) (S' := [.int (u.1 45 6)]) (M' := sm g u) [pm_o (.aload_n 0), pm_of (.getfield 36) 5 6 0] (by decide +kernel) rfl ?_
  have h9 := Option.some.inj h
  subst h9
  exact pm_reti rfl (by decide +kernel) rfl rfl rfl
def F_Heap_make (a1 : Int32) (a2 : Int64) (a3 : Int64) (a4 : Int32) (g : pm_s) (u : pm_J) : Option (Int64 × pm_J) := if 4000 ≤ (u.1 45 5) then some ((-1), (wi u 45 9 1)) else if a1 < 0 then some ((-1), (wi u 45 9 1)) else if a1 < 6 then if pm_ok (u.1 45 5) 4000 = true then if pm_ok (u.1 45 5) 4000 = true then if pm_ok (u.1 45 5) 4000 = true then if pm_ok (u.1 45 5) 4000 = true then if pm_ok a1 6 = true then if pm_ok a1 6 = true then some ((((u.1 45 5) + 1) - 1).toInt64, (wi (wi (wi (wj (wj (wi u 46 ((u.1 45 5).toNatClampNeg) a1) 47 ((u.1 45 5).toNatClampNeg) a2) 48 ((u.1 45 5).toNatClampNeg) a3) 49 ((u.1 45 5).toNatClampNeg) a4) 50 a1.toNatClampNeg ((u.1 50 a1.toNatClampNeg) + 1)) 45 5 ((u.1 45 5) + 1))) else none else none else none else none else none else none else some ((-1), (wi u 45 9 1))
set_option maxHeartbeats 4000000 in
set_option maxRecDepth 100000 in
theorem c_Heap_make (l : Launch) (h0 : Nat) (D : pm_D) {g : pm_s} {u : pm_J} (hT : sh_T g) {a1 : Int32} {a2 : Int64} {a3 : Int64} {a4 : Int32} {out : Int64 × pm_J} (h : F_Heap_make a1 a2 a3 a4 g u = some out) : pm_C l h0 D m_Heap_make (2) [.ref 45, .int a1, .long a2, .long a3, .int a4] (sm g u) (some (.long out.1)) (sm g out.2) := by
  unfold F_Heap_make at h
  refine pm_met (by decide +kernel) (Nat.le_of_ble_eq_true rfl) (Nat.le_refl _) (Nat.le_refl _) ?_
  intro p e R s m args below meth c
  refine pm_blk (pc' := 7) (L' := [(0, .ref 45), (1, .int a1), (2, .long a2), (4, .long a3), (6, .int a4)]) (S' := [.int 4000, .int (u.1 45 5)]) (M' := sm g u) [pm_o (.aload_n 0), pm_of (.getfield 32) 5 5 0, pm_oi (.sipush 4000) 4000] (by decide +kernel) rfl ?_
  refine pm_ic_ge (off := 13) 20 (by decide +kernel) (by decide) (fun hc1 => ?_) (fun hc1 => ?_)
  · rw [if_pos hc1] at h
    refine pm_blk (pc' := 28) (L' := [(0, .ref 45), (1, .int a1), (2, .long a2), (4, .long a3), (6, .int a4)]) (S' := [.long (-1)]) (M' := sm g (wi u 45 9 1)) [pm_o (.aload_n 0), pm_oi (.iconst 1) 1, pm_of (.putfield 42) 5 9 3, pm_ol (.ldc2_w 52) (-1)] (by decide +kernel) rfl ?_
    have h9 := Option.some.inj h
    subst h9
    exact pm_retl rfl (by decide +kernel) rfl rfl rfl
  · rw [if_neg hc1] at h
    refine pm_blk (pc' := 11) (L' := [(0, .ref 45), (1, .int a1), (2, .long a2), (4, .long a3), (6, .int a4)]) (S' := [.int a1]) (M' := sm g u) [pm_o (.iload_n 1)] (by decide +kernel) rfl ?_
    refine pm_if_lt (off := 9) 20 (by decide +kernel) (by decide) (fun hc2 => ?_) (fun hc2 => ?_)
    · rw [if_pos hc2] at h
      refine pm_blk (pc' := 28) (L' := [(0, .ref 45), (1, .int a1), (2, .long a2), (4, .long a3), (6, .int a4)]) (S' := [.long (-1)]) (M' := sm g (wi u 45 9 1)) [pm_o (.aload_n 0), pm_oi (.iconst 1) 1, pm_of (.putfield 42) 5 9 3, pm_ol (.ldc2_w 52) (-1)] (by decide +kernel) rfl ?_
      have h9 := Option.some.inj h
      subst h9
      exact pm_retl rfl (by decide +kernel) rfl rfl rfl
    · rw [if_neg hc2] at h
      refine pm_blk (pc' := 17) (L' := [(0, .ref 45), (1, .int a1), (2, .long a2), (4, .long a3), (6, .int a4)]) (S' := [.int 6, .int a1]) (M' := sm g u) [pm_o (.iload_n 1), pm_oi (.bipush 6) 6] (by decide +kernel) rfl ?_
      refine pm_ic_lt (off := 12) 29 (by decide +kernel) (by decide) (fun hc3 => ?_) (fun hc3 => ?_)
      · rw [if_pos hc3] at h
        refine pm_blk (pc' := 38) (L' := [(0, .ref 45), (1, .int a1), (2, .long a2), (4, .long a3), (6, .int a4)]) (S' := [.int a1, .int (u.1 45 5), .ref 46]) (M' := sm g u) [pm_o (.aload_n 0), pm_of (.getfield 11) 5 0 2, pm_o (.aload_n 0), pm_of (.getfield 32) 5 5 0, pm_o (.iload_n 1)] (by decide +kernel) rfl ?_
        obtain ⟨ho4, h⟩ := pm_ifs h
        refine pm_iast (by decide +kernel) rfl  (pm_ok_in ho4) ?_
        refine pm_blk (pc' := 48) (L' := [(0, .ref 45), (1, .int a1), (2, .long a2), (4, .long a3), (6, .int a4)]) (S' := [.long a2, .int (u.1 45 5), .ref 47]) (M' := sm g (wi u 46 ((u.1 45 5).toNatClampNeg) a1)) [pm_o (.aload_n 0), pm_of (.getfield 15) 5 1 2, pm_o (.aload_n 0), pm_of (.getfield 32) 5 5 0, pm_o (.lload_n 2)] (by decide +kernel) rfl ?_
        obtain ⟨ho5, h⟩ := pm_ifs h
        refine pm_last (by decide +kernel) rfl  (pm_ok_in ho5) ?_
        refine pm_blk (pc' := 59) (L' := [(0, .ref 45), (1, .int a1), (2, .long a2), (4, .long a3), (6, .int a4)]) (S' := [.long a3, .int (u.1 45 5), .ref 48]) (M' := sm g (wj (wi u 46 ((u.1 45 5).toNatClampNeg) a1) 47 ((u.1 45 5).toNatClampNeg) a2)) [pm_o (.aload_n 0), pm_of (.getfield 19) 5 2 2, pm_o (.aload_n 0), pm_of (.getfield 32) 5 5 0, pm_o (.lload 4)] (by decide +kernel) rfl ?_
        obtain ⟨ho6, h⟩ := pm_ifs h
        refine pm_last (by decide +kernel) rfl  (pm_ok_in ho6) ?_
        refine pm_blk (pc' := 70) (L' := [(0, .ref 45), (1, .int a1), (2, .long a2), (4, .long a3), (6, .int a4)]) (S' := [.int a4, .int (u.1 45 5), .ref 49]) (M' := sm g (wj (wj (wi u 46 ((u.1 45 5).toNatClampNeg) a1) 47 ((u.1 45 5).toNatClampNeg) a2) 48 ((u.1 45 5).toNatClampNeg) a3)) [pm_o (.aload_n 0), pm_of (.getfield 22) 5 3 2, pm_o (.aload_n 0), pm_of (.getfield 32) 5 5 0, pm_o (.iload 6)] (by decide +kernel) rfl ?_
        obtain ⟨ho7, h⟩ := pm_ifs h
        refine pm_iast (by decide +kernel) rfl  (pm_ok_in ho7) ?_
        refine pm_blk (pc' := 77) (L' := [(0, .ref 45), (1, .int a1), (2, .long a2), (4, .long a3), (6, .int a4)]) (S' := [.int a1, .ref 50, .int a1, .ref 50]) (M' := sm g (wi (wj (wj (wi u 46 ((u.1 45 5).toNatClampNeg) a1) 47 ((u.1 45 5).toNatClampNeg) a2) 48 ((u.1 45 5).toNatClampNeg) a3) 49 ((u.1 45 5).toNatClampNeg) a4)) [pm_o (.aload_n 0), pm_of (.getfield 25) 5 4 2, pm_o (.iload_n 1), pm_o .dup2] (by decide +kernel) rfl ?_
        obtain ⟨ho8, h⟩ := pm_ifs h
        refine pm_iald (by decide +kernel) rfl (pm_ok_in ho8) ?_
        refine pm_blk (pc' := 80) (L' := [(0, .ref 45), (1, .int a1), (2, .long a2), (4, .long a3), (6, .int a4)]) (S' := [.int ((u.1 50 a1.toNatClampNeg) + 1), .int a1, .ref 50]) (M' := sm g (wi (wj (wj (wi u 46 ((u.1 45 5).toNatClampNeg) a1) 47 ((u.1 45 5).toNatClampNeg) a2) 48 ((u.1 45 5).toNatClampNeg) a3) 49 ((u.1 45 5).toNatClampNeg) a4)) [pm_oi (.iconst 1) 1, pm_o .iadd] (by decide +kernel) rfl ?_
        obtain ⟨ho9, h⟩ := pm_ifs h
        refine pm_iast (by decide +kernel) rfl  (pm_ok_in ho9) ?_
        refine pm_blk (pc' := 98) (L' := [(0, .ref 45), (1, .int a1), (2, .long a2), (4, .long a3), (6, .int a4)]) (S' := [.long ((((u.1 45 5) + 1) - 1).toInt64)]) (M' := sm g (wi (wi (wi (wj (wj (wi u 46 ((u.1 45 5).toNatClampNeg) a1) 47 ((u.1 45 5).toNatClampNeg) a2) 48 ((u.1 45 5).toNatClampNeg) a3) 49 ((u.1 45 5).toNatClampNeg) a4) 50 a1.toNatClampNeg ((u.1 50 a1.toNatClampNeg) + 1)) 45 5 ((u.1 45 5) + 1))) [pm_o (.aload_n 0), pm_o .dup, pm_of (.getfield 32) 5 5 0, pm_oi (.iconst 1) 1, pm_o .iadd, pm_of (.putfield 32) 5 5 0, pm_o (.aload_n 0), pm_of (.getfield 32) 5 5 0, pm_oi (.iconst 1) 1, pm_o .isub, pm_o .i2l] (by decide +kernel) rfl ?_
        have h9 := Option.some.inj h
        subst h9
        exact pm_retl rfl (by decide +kernel) rfl rfl rfl
      · rw [if_neg hc3] at h
        refine pm_blk (pc' := 28) (L' := [(0, .ref 45), (1, .int a1), (2, .long a2), (4, .long a3), (6, .int a4)]) (S' := [.long (-1)]) (M' := sm g (wi u 45 9 1)) [pm_o (.aload_n 0), pm_oi (.iconst 1) 1, pm_of (.putfield 42) 5 9 3, pm_ol (.ldc2_w 52) (-1)] (by decide +kernel) rfl ?_
        have h9 := Option.some.inj h
        subst h9
        exact pm_retl rfl (by decide +kernel) rfl rfl rfl
def F_Heap_openBox (a1 : Int64) (g : pm_s) (u : pm_J) : Option (Int64 × pm_J) := if (lg_cmp a1 0) < 0 then some (0, (wi u 45 6 ((u.1 45 6) + 1))) else if 0 ≤ (lg_cmp a1 ((u.1 45 5).toInt64)) then some (0, (wi u 45 6 ((u.1 45 6) + 1))) else if pm_ok a1.toInt32 4000 = true then some (u.2 47 a1.toInt32.toNatClampNeg, (wi u 45 6 ((u.1 45 6) + 1))) else none
set_option maxHeartbeats 4000000 in
set_option maxRecDepth 100000 in
theorem c_Heap_openBox (l : Launch) (h0 : Nat) (D : pm_D) {g : pm_s} {u : pm_J} (hT : sh_T g) {a1 : Int64} {out : Int64 × pm_J} (h : F_Heap_openBox a1 g u = some out) : pm_C l h0 D m_Heap_openBox (0) [.ref 45, .long a1] (sm g u) (some (.long out.1)) (sm g out.2) := by
  unfold F_Heap_openBox at h
  refine pm_met (by decide +kernel) (Nat.le_of_ble_eq_true rfl) (Nat.le_refl _) (Nat.le_refl _) ?_
  intro p e R s m args below meth c
  refine pm_blk (pc' := 13) (L' := [(0, .ref 45), (1, .long a1)]) (S' := [.int (lg_cmp a1 0)]) (M' := sm g (wi u 45 6 ((u.1 45 6) + 1))) [pm_o (.aload_n 0), pm_o .dup, pm_of (.getfield 36) 5 6 0, pm_oi (.iconst 1) 1, pm_o .iadd, pm_of (.putfield 36) 5 6 0, pm_o (.lload_n 1), pm_ol (.lconst 0) 0, pm_o .lcmp] (by decide +kernel) rfl ?_
  refine pm_if_lt (off := 23) 36 (by decide +kernel) (by decide) (fun hc1 => ?_) (fun hc1 => ?_)
  · rw [if_pos hc1] at h
    refine pm_blk (pc' := 37) (L' := [(0, .ref 45), (1, .long a1)]) (S' := [.long 0]) (M' := sm g (wi u 45 6 ((u.1 45 6) + 1))) [pm_ol (.lconst 0) 0] (by decide +kernel) rfl ?_
    have h9 := Option.some.inj h
    subst h9
    exact pm_retl rfl (by decide +kernel) rfl rfl rfl
  · rw [if_neg hc1] at h
    refine pm_blk (pc' := 23) (L' := [(0, .ref 45), (1, .long a1)]) (S' := [.int (lg_cmp a1 ((u.1 45 5).toInt64))]) (M' := sm g (wi u 45 6 ((u.1 45 6) + 1))) [pm_o (.lload_n 1), pm_o (.aload_n 0), pm_of (.getfield 32) 5 5 0, pm_o .i2l, pm_o .lcmp] (by decide +kernel) rfl ?_
    refine pm_if_ge (off := 13) 36 (by decide +kernel) (by decide) (fun hc2 => ?_) (fun hc2 => ?_)
    · rw [if_pos hc2] at h
      refine pm_blk (pc' := 37) (L' := [(0, .ref 45), (1, .long a1)]) (S' := [.long 0]) (M' := sm g (wi u 45 6 ((u.1 45 6) + 1))) [pm_ol (.lconst 0) 0] (by decide +kernel) rfl ?_
      have h9 := Option.some.inj h
      subst h9
      exact pm_retl rfl (by decide +kernel) rfl rfl rfl
    · rw [if_neg hc2] at h
      refine pm_blk (pc' := 32) (L' := [(0, .ref 45), (1, .long a1)]) (S' := [.int a1.toInt32, .ref 47]) (M' := sm g (wi u 45 6 ((u.1 45 6) + 1))) [pm_o (.aload_n 0), pm_of (.getfield 15) 5 1 2, pm_o (.lload_n 1), pm_o .l2i] (by decide +kernel) rfl ?_
      obtain ⟨ho3, h⟩ := pm_ifs h
      refine pm_lald (by decide +kernel) rfl (pm_ok_in ho3) ?_
      refine pm_blk (pc' := 33) (L' := [(0, .ref 45), (1, .long a1)]) (S' := [.long (u.2 47 a1.toInt32.toNatClampNeg)]) (M' := sm g (wi u 45 6 ((u.1 45 6) + 1))) [] (by decide +kernel) rfl ?_
      refine pm_goto (off := 4) 37 (by decide +kernel) (by decide) ?_
      have h9 := Option.some.inj h
      subst h9
      exact pm_retl rfl (by decide +kernel) rfl rfl rfl
def F_Heap_kind (a1 : Int64) (g : pm_s) (u : pm_J) : Option (Int32) := if (lg_cmp a1 0) < 0 then some (-1) else if 0 ≤ (lg_cmp a1 ((u.1 45 5).toInt64)) then some (-1) else if pm_ok a1.toInt32 4000 = true then some (u.1 46 a1.toInt32.toNatClampNeg) else none
set_option maxHeartbeats 4000000 in
set_option maxRecDepth 100000 in
theorem c_Heap_kind (l : Launch) (h0 : Nat) (D : pm_D) {g : pm_s} {u : pm_J} (hT : sh_T g) {a1 : Int64} {out : Int32} (h : F_Heap_kind a1 g u = some out) : pm_C l h0 D m_Heap_kind (0) [.ref 45, .long a1] (sm g u) (some (.int out)) (sm g u) := by
  unfold F_Heap_kind at h
  refine pm_met (by decide +kernel) (Nat.le_of_ble_eq_true rfl) (Nat.le_refl _) (Nat.le_refl _) ?_
  intro p e R s m args below meth c
  refine pm_blk (pc' := 3) (L' := [(0, .ref 45), (1, .long a1)]) (S' := [.int (lg_cmp a1 0)]) (M' := sm g u) [pm_o (.lload_n 1), pm_ol (.lconst 0) 0, pm_o .lcmp] (by decide +kernel) rfl ?_
  refine pm_if_lt (off := 23) 26 (by decide +kernel) (by decide) (fun hc1 => ?_) (fun hc1 => ?_)
  · rw [if_pos hc1] at h
    refine pm_blk (pc' := 27) (L' := [(0, .ref 45), (1, .long a1)]) (S' := [.int (-1)]) (M' := sm g u) [pm_oi (.iconst (-1)) (-1)] (by decide +kernel) rfl ?_
    have h9 := Option.some.inj h
    subst h9
    exact pm_reti rfl (by decide +kernel) rfl rfl rfl
  · rw [if_neg hc1] at h
    refine pm_blk (pc' := 13) (L' := [(0, .ref 45), (1, .long a1)]) (S' := [.int (lg_cmp a1 ((u.1 45 5).toInt64))]) (M' := sm g u) [pm_o (.lload_n 1), pm_o (.aload_n 0), pm_of (.getfield 32) 5 5 0, pm_o .i2l, pm_o .lcmp] (by decide +kernel) rfl ?_
    refine pm_if_ge (off := 13) 26 (by decide +kernel) (by decide) (fun hc2 => ?_) (fun hc2 => ?_)
    · rw [if_pos hc2] at h
      refine pm_blk (pc' := 27) (L' := [(0, .ref 45), (1, .long a1)]) (S' := [.int (-1)]) (M' := sm g u) [pm_oi (.iconst (-1)) (-1)] (by decide +kernel) rfl ?_
      have h9 := Option.some.inj h
      subst h9
      exact pm_reti rfl (by decide +kernel) rfl rfl rfl
    · rw [if_neg hc2] at h
      refine pm_blk (pc' := 22) (L' := [(0, .ref 45), (1, .long a1)]) (S' := [.int a1.toInt32, .ref 46]) (M' := sm g u) [pm_o (.aload_n 0), pm_of (.getfield 11) 5 0 2, pm_o (.lload_n 1), pm_o .l2i] (by decide +kernel) rfl ?_
      obtain ⟨ho3, h⟩ := pm_ifs h
      refine pm_iald (by decide +kernel) rfl (pm_ok_in ho3) ?_
      refine pm_blk (pc' := 23) (L' := [(0, .ref 45), (1, .long a1)]) (S' := [.int (u.1 46 a1.toInt32.toNatClampNeg)]) (M' := sm g u) [] (by decide +kernel) rfl ?_
      refine pm_goto (off := 4) 27 (by decide +kernel) (by decide) ?_
      have h9 := Option.some.inj h
      subst h9
      exact pm_reti rfl (by decide +kernel) rfl rfl rfl
def F_Heap_first (a1 : Int64) (g : pm_s) (u : pm_J) : Option (Int64) := if (lg_cmp a1 0) < 0 then some 0 else if 0 ≤ (lg_cmp a1 ((u.1 45 5).toInt64)) then some 0 else if pm_ok a1.toInt32 4000 = true then some (u.2 47 a1.toInt32.toNatClampNeg) else none
set_option maxHeartbeats 4000000 in
set_option maxRecDepth 100000 in
theorem c_Heap_first (l : Launch) (h0 : Nat) (D : pm_D) {g : pm_s} {u : pm_J} (hT : sh_T g) {a1 : Int64} {out : Int64} (h : F_Heap_first a1 g u = some out) : pm_C l h0 D m_Heap_first (0) [.ref 45, .long a1] (sm g u) (some (.long out)) (sm g u) := by
  unfold F_Heap_first at h
  refine pm_met (by decide +kernel) (Nat.le_of_ble_eq_true rfl) (Nat.le_refl _) (Nat.le_refl _) ?_
  intro p e R s m args below meth c
  refine pm_blk (pc' := 3) (L' := [(0, .ref 45), (1, .long a1)]) (S' := [.int (lg_cmp a1 0)]) (M' := sm g u) [pm_o (.lload_n 1), pm_ol (.lconst 0) 0, pm_o .lcmp] (by decide +kernel) rfl ?_
  refine pm_if_lt (off := 23) 26 (by decide +kernel) (by decide) (fun hc1 => ?_) (fun hc1 => ?_)
  · rw [if_pos hc1] at h
    refine pm_blk (pc' := 27) (L' := [(0, .ref 45), (1, .long a1)]) (S' := [.long 0]) (M' := sm g u) [pm_ol (.lconst 0) 0] (by decide +kernel) rfl ?_
    have h9 := Option.some.inj h
    subst h9
    exact pm_retl rfl (by decide +kernel) rfl rfl rfl
  · rw [if_neg hc1] at h
    refine pm_blk (pc' := 13) (L' := [(0, .ref 45), (1, .long a1)]) (S' := [.int (lg_cmp a1 ((u.1 45 5).toInt64))]) (M' := sm g u) [pm_o (.lload_n 1), pm_o (.aload_n 0), pm_of (.getfield 32) 5 5 0, pm_o .i2l, pm_o .lcmp] (by decide +kernel) rfl ?_
    refine pm_if_ge (off := 13) 26 (by decide +kernel) (by decide) (fun hc2 => ?_) (fun hc2 => ?_)
    · rw [if_pos hc2] at h
      refine pm_blk (pc' := 27) (L' := [(0, .ref 45), (1, .long a1)]) (S' := [.long 0]) (M' := sm g u) [pm_ol (.lconst 0) 0] (by decide +kernel) rfl ?_
      have h9 := Option.some.inj h
      subst h9
      exact pm_retl rfl (by decide +kernel) rfl rfl rfl
    · rw [if_neg hc2] at h
      refine pm_blk (pc' := 22) (L' := [(0, .ref 45), (1, .long a1)]) (S' := [.int a1.toInt32, .ref 47]) (M' := sm g u) [pm_o (.aload_n 0), pm_of (.getfield 15) 5 1 2, pm_o (.lload_n 1), pm_o .l2i] (by decide +kernel) rfl ?_
      obtain ⟨ho3, h⟩ := pm_ifs h
      refine pm_lald (by decide +kernel) rfl (pm_ok_in ho3) ?_
      refine pm_blk (pc' := 23) (L' := [(0, .ref 45), (1, .long a1)]) (S' := [.long (u.2 47 a1.toInt32.toNatClampNeg)]) (M' := sm g u) [] (by decide +kernel) rfl ?_
      refine pm_goto (off := 4) 27 (by decide +kernel) (by decide) ?_
      have h9 := Option.some.inj h
      subst h9
      exact pm_retl rfl (by decide +kernel) rfl rfl rfl
def F_Heap_second (a1 : Int64) (g : pm_s) (u : pm_J) : Option (Int64) := if (lg_cmp a1 0) < 0 then some 0 else if 0 ≤ (lg_cmp a1 ((u.1 45 5).toInt64)) then some 0 else if pm_ok a1.toInt32 4000 = true then some (u.2 48 a1.toInt32.toNatClampNeg) else none
set_option maxHeartbeats 4000000 in
set_option maxRecDepth 100000 in
theorem c_Heap_second (l : Launch) (h0 : Nat) (D : pm_D) {g : pm_s} {u : pm_J} (hT : sh_T g) {a1 : Int64} {out : Int64} (h : F_Heap_second a1 g u = some out) : pm_C l h0 D m_Heap_second (0) [.ref 45, .long a1] (sm g u) (some (.long out)) (sm g u) := by
  unfold F_Heap_second at h
  refine pm_met (by decide +kernel) (Nat.le_of_ble_eq_true rfl) (Nat.le_refl _) (Nat.le_refl _) ?_
  intro p e R s m args below meth c
  refine pm_blk (pc' := 3) (L' := [(0, .ref 45), (1, .long a1)]) (S' := [.int (lg_cmp a1 0)]) (M' := sm g u) [pm_o (.lload_n 1), pm_ol (.lconst 0) 0, pm_o .lcmp] (by decide +kernel) rfl ?_
  refine pm_if_lt (off := 23) 26 (by decide +kernel) (by decide) (fun hc1 => ?_) (fun hc1 => ?_)
  · rw [if_pos hc1] at h
    refine pm_blk (pc' := 27) (L' := [(0, .ref 45), (1, .long a1)]) (S' := [.long 0]) (M' := sm g u) [pm_ol (.lconst 0) 0] (by decide +kernel) rfl ?_
    have h9 := Option.some.inj h
    subst h9
    exact pm_retl rfl (by decide +kernel) rfl rfl rfl
  · rw [if_neg hc1] at h
    refine pm_blk (pc' := 13) (L' := [(0, .ref 45), (1, .long a1)]) (S' := [.int (lg_cmp a1 ((u.1 45 5).toInt64))]) (M' := sm g u) [pm_o (.lload_n 1), pm_o (.aload_n 0), pm_of (.getfield 32) 5 5 0, pm_o .i2l, pm_o .lcmp] (by decide +kernel) rfl ?_
    refine pm_if_ge (off := 13) 26 (by decide +kernel) (by decide) (fun hc2 => ?_) (fun hc2 => ?_)
    · rw [if_pos hc2] at h
      refine pm_blk (pc' := 27) (L' := [(0, .ref 45), (1, .long a1)]) (S' := [.long 0]) (M' := sm g u) [pm_ol (.lconst 0) 0] (by decide +kernel) rfl ?_
      have h9 := Option.some.inj h
      subst h9
      exact pm_retl rfl (by decide +kernel) rfl rfl rfl
    · rw [if_neg hc2] at h
      refine pm_blk (pc' := 22) (L' := [(0, .ref 45), (1, .long a1)]) (S' := [.int a1.toInt32, .ref 48]) (M' := sm g u) [pm_o (.aload_n 0), pm_of (.getfield 19) 5 2 2, pm_o (.lload_n 1), pm_o .l2i] (by decide +kernel) rfl ?_
      obtain ⟨ho3, h⟩ := pm_ifs h
      refine pm_lald (by decide +kernel) rfl (pm_ok_in ho3) ?_
      refine pm_blk (pc' := 23) (L' := [(0, .ref 45), (1, .long a1)]) (S' := [.long (u.2 48 a1.toInt32.toNatClampNeg)]) (M' := sm g u) [] (by decide +kernel) rfl ?_
      refine pm_goto (off := 4) 27 (by decide +kernel) (by decide) ?_
      have h9 := Option.some.inj h
      subst h9
      exact pm_retl rfl (by decide +kernel) rfl rfl rfl
def F_Heap_site (a1 : Int64) (g : pm_s) (u : pm_J) : Option (Int32) := if (lg_cmp a1 0) < 0 then some (-1) else if 0 ≤ (lg_cmp a1 ((u.1 45 5).toInt64)) then some (-1) else if pm_ok a1.toInt32 4000 = true then some (u.1 49 a1.toInt32.toNatClampNeg) else none
set_option maxHeartbeats 4000000 in
set_option maxRecDepth 100000 in
theorem c_Heap_site (l : Launch) (h0 : Nat) (D : pm_D) {g : pm_s} {u : pm_J} (hT : sh_T g) {a1 : Int64} {out : Int32} (h : F_Heap_site a1 g u = some out) : pm_C l h0 D m_Heap_site (0) [.ref 45, .long a1] (sm g u) (some (.int out)) (sm g u) := by
  unfold F_Heap_site at h
  refine pm_met (by decide +kernel) (Nat.le_of_ble_eq_true rfl) (Nat.le_refl _) (Nat.le_refl _) ?_
  intro p e R s m args below meth c
  refine pm_blk (pc' := 3) (L' := [(0, .ref 45), (1, .long a1)]) (S' := [.int (lg_cmp a1 0)]) (M' := sm g u) [pm_o (.lload_n 1), pm_ol (.lconst 0) 0, pm_o .lcmp] (by decide +kernel) rfl ?_
  refine pm_if_lt (off := 23) 26 (by decide +kernel) (by decide) (fun hc1 => ?_) (fun hc1 => ?_)
  · rw [if_pos hc1] at h
    refine pm_blk (pc' := 27) (L' := [(0, .ref 45), (1, .long a1)]) (S' := [.int (-1)]) (M' := sm g u) [pm_oi (.iconst (-1)) (-1)] (by decide +kernel) rfl ?_
    have h9 := Option.some.inj h
    subst h9
    exact pm_reti rfl (by decide +kernel) rfl rfl rfl
  · rw [if_neg hc1] at h
    refine pm_blk (pc' := 13) (L' := [(0, .ref 45), (1, .long a1)]) (S' := [.int (lg_cmp a1 ((u.1 45 5).toInt64))]) (M' := sm g u) [pm_o (.lload_n 1), pm_o (.aload_n 0), pm_of (.getfield 32) 5 5 0, pm_o .i2l, pm_o .lcmp] (by decide +kernel) rfl ?_
    refine pm_if_ge (off := 13) 26 (by decide +kernel) (by decide) (fun hc2 => ?_) (fun hc2 => ?_)
    · rw [if_pos hc2] at h
      refine pm_blk (pc' := 27) (L' := [(0, .ref 45), (1, .long a1)]) (S' := [.int (-1)]) (M' := sm g u) [pm_oi (.iconst (-1)) (-1)] (by decide +kernel) rfl ?_
      have h9 := Option.some.inj h
      subst h9
      exact pm_reti rfl (by decide +kernel) rfl rfl rfl
    · rw [if_neg hc2] at h
      refine pm_blk (pc' := 22) (L' := [(0, .ref 45), (1, .long a1)]) (S' := [.int a1.toInt32, .ref 49]) (M' := sm g u) [pm_o (.aload_n 0), pm_of (.getfield 22) 5 3 2, pm_o (.lload_n 1), pm_o .l2i] (by decide +kernel) rfl ?_
      obtain ⟨ho3, h⟩ := pm_ifs h
      refine pm_iald (by decide +kernel) rfl (pm_ok_in ho3) ?_
      refine pm_blk (pc' := 23) (L' := [(0, .ref 45), (1, .long a1)]) (S' := [.int (u.1 49 a1.toInt32.toNatClampNeg)]) (M' := sm g u) [] (by decide +kernel) rfl ?_
      refine pm_goto (off := 4) 27 (by decide +kernel) (by decide) ?_
      have h9 := Option.some.inj h
      subst h9
      exact pm_reti rfl (by decide +kernel) rfl rfl rfl
def F_Heap_claim (a1 : Int32) (g : pm_s) (u : pm_J) : Option (Int32 × pm_J) := if ((u.1 45 8) + a1) ≤ 60000 then some (((u.1 45 8) + a1) - a1, (wi u 45 8 ((u.1 45 8) + a1))) else some ((-1), (wi u 45 9 1))
set_option maxHeartbeats 4000000 in
set_option maxRecDepth 100000 in
theorem c_Heap_claim (l : Launch) (h0 : Nat) (D : pm_D) {g : pm_s} {u : pm_J} (hT : sh_T g) {a1 : Int32} {out : Int32 × pm_J} (h : F_Heap_claim a1 g u = some out) : pm_C l h0 D m_Heap_claim (0) [.ref 45, .int a1] (sm g u) (some (.int out.1)) (sm g out.2) := by
  unfold F_Heap_claim at h
  refine pm_met (by decide +kernel) (Nat.le_of_ble_eq_true rfl) (Nat.le_refl _) (Nat.le_refl _) ?_
  intro p e R s m args below meth c
  refine pm_blk (pc' := 8) (L' := [(0, .ref 45), (1, .int a1)]) (S' := [.int 60000, .int ((u.1 45 8) + a1)]) (M' := sm g u) [pm_o (.aload_n 0), pm_of (.getfield 39) 5 8 0, pm_o (.iload_n 1), pm_o .iadd, pm_oi (.ldc 28) 60000] (by decide +kernel) rfl ?_
  refine pm_ic_le (off := 10) 18 (by decide +kernel) (by decide) (fun hc1 => ?_) (fun hc1 => ?_)
  · rw [if_pos hc1] at h
    refine pm_blk (pc' := 34) (L' := [(0, .ref 45), (1, .int a1)]) (S' := [.int (((u.1 45 8) + a1) - a1)]) (M' := sm g (wi u 45 8 ((u.1 45 8) + a1))) [pm_o (.aload_n 0), pm_o .dup, pm_of (.getfield 39) 5 8 0, pm_o (.iload_n 1), pm_o .iadd, pm_of (.putfield 39) 5 8 0, pm_o (.aload_n 0), pm_of (.getfield 39) 5 8 0, pm_o (.iload_n 1), pm_o .isub] (by decide +kernel) rfl ?_
    have h9 := Option.some.inj h
    subst h9
    exact pm_reti rfl (by decide +kernel) rfl rfl rfl
  · rw [if_neg hc1] at h
    refine pm_blk (pc' := 17) (L' := [(0, .ref 45), (1, .int a1)]) (S' := [.int (-1)]) (M' := sm g (wi u 45 9 1)) [pm_o (.aload_n 0), pm_oi (.iconst 1) 1, pm_of (.putfield 42) 5 9 3, pm_oi (.iconst (-1)) (-1)] (by decide +kernel) rfl ?_
    have h9 := Option.some.inj h
    subst h9
    exact pm_reti rfl (by decide +kernel) rfl rfl rfl
def F_Heap_hasLocal (a1 : Int32) (a2 : Int32) (g : pm_s) (u : pm_J) : Option (Int32) := if a1 < 0 then some 0 else if a2 < 0 then some 0 else if ((u.1 45 8) - a1) ≤ a2 then some 0 else some 1
set_option maxHeartbeats 4000000 in
set_option maxRecDepth 100000 in
theorem c_Heap_hasLocal (l : Launch) (h0 : Nat) (D : pm_D) {g : pm_s} {u : pm_J} (hT : sh_T g) {a1 : Int32} {a2 : Int32} {out : Int32} (h : F_Heap_hasLocal a1 a2 g u = some out) : pm_C l h0 D m_Heap_hasLocal (0) [.ref 45, .int a1, .int a2] (sm g u) (some (.int out)) (sm g u) := by
  unfold F_Heap_hasLocal at h
  refine pm_met (by decide +kernel) (Nat.le_of_ble_eq_true rfl) (Nat.le_refl _) (Nat.le_refl _) ?_
  intro p e R s m args below meth c
  refine pm_blk (pc' := 1) (L' := [(0, .ref 45), (1, .int a1), (2, .int a2)]) (S' := [.int a1]) (M' := sm g u) [pm_o (.iload_n 1)] (by decide +kernel) rfl ?_
  refine pm_if_lt (off := 21) 22 (by decide +kernel) (by decide) (fun hc1 => ?_) (fun hc1 => ?_)
  · rw [if_pos hc1] at h
    refine pm_blk (pc' := 23) (L' := [(0, .ref 45), (1, .int a1), (2, .int a2)]) (S' := [.int 0]) (M' := sm g u) [pm_oi (.iconst 0) 0] (by decide +kernel) rfl ?_
    have h9 := Option.some.inj h
    subst h9
    exact pm_retz rfl (by decide +kernel) rfl rfl rfl rfl
  · rw [if_neg hc1] at h
    refine pm_blk (pc' := 5) (L' := [(0, .ref 45), (1, .int a1), (2, .int a2)]) (S' := [.int a2]) (M' := sm g u) [pm_o (.iload_n 2)] (by decide +kernel) rfl ?_
    refine pm_if_lt (off := 17) 22 (by decide +kernel) (by decide) (fun hc2 => ?_) (fun hc2 => ?_)
    · rw [if_pos hc2] at h
      refine pm_blk (pc' := 23) (L' := [(0, .ref 45), (1, .int a1), (2, .int a2)]) (S' := [.int 0]) (M' := sm g u) [pm_oi (.iconst 0) 0] (by decide +kernel) rfl ?_
      have h9 := Option.some.inj h
      subst h9
      exact pm_retz rfl (by decide +kernel) rfl rfl rfl rfl
    · rw [if_neg hc2] at h
      refine pm_blk (pc' := 15) (L' := [(0, .ref 45), (1, .int a1), (2, .int a2)]) (S' := [.int ((u.1 45 8) - a1), .int a2]) (M' := sm g u) [pm_o (.iload_n 2), pm_o (.aload_n 0), pm_of (.getfield 39) 5 8 0, pm_o (.iload_n 1), pm_o .isub] (by decide +kernel) rfl ?_
      refine pm_ic_ge (off := 7) 22 (by decide +kernel) (by decide) (fun hc3 => ?_) (fun hc3 => ?_)
      · rw [if_pos hc3] at h
        refine pm_blk (pc' := 23) (L' := [(0, .ref 45), (1, .int a1), (2, .int a2)]) (S' := [.int 0]) (M' := sm g u) [pm_oi (.iconst 0) 0] (by decide +kernel) rfl ?_
        have h9 := Option.some.inj h
        subst h9
        exact pm_retz rfl (by decide +kernel) rfl rfl rfl rfl
      · rw [if_neg hc3] at h
        refine pm_blk (pc' := 19) (L' := [(0, .ref 45), (1, .int a1), (2, .int a2)]) (S' := [.int 1]) (M' := sm g u) [pm_oi (.iconst 1) 1] (by decide +kernel) rfl ?_
        refine pm_goto (off := 4) 23 (by decide +kernel) (by decide) ?_
        have h9 := Option.some.inj h
        subst h9
        exact pm_retz rfl (by decide +kernel) rfl rfl rfl rfl
def F_Heap_local (a1 : Int32) (a2 : Int32) (g : pm_s) (u : pm_J) : Option (Int64) := (F_Heap_hasLocal a1 a2 g u).bind fun q1 => if q1 = 0 then some 0 else if pm_ok (a1 + a2) 60000 = true then some (u.2 51 ((a1 + a2).toNatClampNeg)) else none
set_option maxHeartbeats 4000000 in
set_option maxRecDepth 100000 in
theorem c_Heap_local (l : Launch) (h0 : Nat) (D : pm_D) {g : pm_s} {u : pm_J} (hT : sh_T g) {a1 : Int32} {a2 : Int32} {out : Int64} (h : F_Heap_local a1 a2 g u = some out) : pm_C l h0 D m_Heap_local (1) [.ref 45, .int a1, .int a2] (sm g u) (some (.long out)) (sm g u) := by
  unfold F_Heap_local at h
  refine pm_met (by decide +kernel) (Nat.le_of_ble_eq_true rfl) (Nat.le_refl _) (Nat.le_refl _) ?_
  intro p e R s m args below meth c
  refine pm_blk (pc' := 3) (L' := [(0, .ref 45), (1, .int a1), (2, .int a2)]) (S' := [.int a2, .int a1, .ref 45]) (M' := sm g u) [pm_o (.aload_n 0), pm_o (.iload_n 1), pm_o (.iload_n 2)] (by decide +kernel) rfl ?_
  obtain ⟨q1, hq1, h⟩ := pm_bd h
  refine pm_cV (idx := 54) m_Heap_hasLocal (c_Heap_hasLocal l h0 D hT hq1) (As := [.int a1, .int a2]) (S0 := []) rfl (by decide +kernel) k_Heap_hasLocal l_Heap_54 (Nat.le_of_ble_eq_true rfl) (Nat.le_of_ble_eq_true rfl) (Nat.le_refl _) (Nat.le_refl _) ?_
  refine pm_blk (pc' := 6) (L' := [(0, .ref 45), (1, .int a1), (2, .int a2)]) (S' := [.int q1]) (M' := sm g u) [] (by decide +kernel) rfl ?_
  refine pm_if_eq (off := 14) 20 (by decide +kernel) (by decide) (fun hc2 => ?_) (fun hc2 => ?_)
  · rw [if_pos hc2] at h
    refine pm_blk (pc' := 21) (L' := [(0, .ref 45), (1, .int a1), (2, .int a2)]) (S' := [.long 0]) (M' := sm g u) [pm_ol (.lconst 0) 0] (by decide +kernel) rfl ?_
    have h9 := Option.some.inj h
    subst h9
    exact pm_retl rfl (by decide +kernel) rfl rfl rfl
  · rw [if_neg hc2] at h
    refine pm_blk (pc' := 16) (L' := [(0, .ref 45), (1, .int a1), (2, .int a2)]) (S' := [.int (a1 + a2), .ref 51]) (M' := sm g u) [pm_o (.aload_n 0), pm_of (.getfield 29) 5 7 2, pm_o (.iload_n 1), pm_o (.iload_n 2), pm_o .iadd] (by decide +kernel) rfl ?_
    obtain ⟨ho3, h⟩ := pm_ifs h
    refine pm_lald (by decide +kernel) rfl (pm_ok_in ho3) ?_
    refine pm_blk (pc' := 17) (L' := [(0, .ref 45), (1, .int a1), (2, .int a2)]) (S' := [.long (u.2 51 ((a1 + a2).toNatClampNeg))]) (M' := sm g u) [] (by decide +kernel) rfl ?_
    refine pm_goto (off := 4) 21 (by decide +kernel) (by decide) ?_
    have h9 := Option.some.inj h
    subst h9
    exact pm_retl rfl (by decide +kernel) rfl rfl rfl
def F_Heap_setLocal (a1 : Int32) (a2 : Int32) (a3 : Int64) (g : pm_s) (u : pm_J) : Option (pm_J) := (F_Heap_hasLocal a1 a2 g u).bind fun q1 => if q1 = 0 then some u else if pm_ok (a1 + a2) 60000 = true then some (wj u 51 ((a1 + a2).toNatClampNeg) a3) else none
set_option maxHeartbeats 4000000 in
set_option maxRecDepth 100000 in
theorem c_Heap_setLocal (l : Launch) (h0 : Nat) (D : pm_D) {g : pm_s} {u : pm_J} (hT : sh_T g) {a1 : Int32} {a2 : Int32} {a3 : Int64} {out : pm_J} (h : F_Heap_setLocal a1 a2 a3 g u = some out) : pm_C l h0 D m_Heap_setLocal (1) [.ref 45, .int a1, .int a2, .long a3] (sm g u) none (sm g out) := by
  unfold F_Heap_setLocal at h
  refine pm_met (by decide +kernel) (Nat.le_of_ble_eq_true rfl) (Nat.le_refl _) (Nat.le_refl _) ?_
  intro p e R s m args below meth c
  refine pm_blk (pc' := 3) (L' := [(0, .ref 45), (1, .int a1), (2, .int a2), (3, .long a3)]) (S' := [.int a2, .int a1, .ref 45]) (M' := sm g u) [pm_o (.aload_n 0), pm_o (.iload_n 1), pm_o (.iload_n 2)] (by decide +kernel) rfl ?_
  obtain ⟨q1, hq1, h⟩ := pm_bd h
  refine pm_cV (idx := 54) m_Heap_hasLocal (c_Heap_hasLocal l h0 D hT hq1) (As := [.int a1, .int a2]) (S0 := []) rfl (by decide +kernel) k_Heap_hasLocal l_Heap_54 (Nat.le_of_ble_eq_true rfl) (Nat.le_of_ble_eq_true rfl) (Nat.le_refl _) (Nat.le_refl _) ?_
  refine pm_blk (pc' := 6) (L' := [(0, .ref 45), (1, .int a1), (2, .int a2), (3, .long a3)]) (S' := [.int q1]) (M' := sm g u) [] (by decide +kernel) rfl ?_
  refine pm_if_eq (off := 12) 18 (by decide +kernel) (by decide) (fun hc2 => ?_) (fun hc2 => ?_)
  · rw [if_pos hc2] at h
    have h9 := Option.some.inj h
    subst h9
    exact pm_retv rfl (by decide +kernel) rfl rfl
  · rw [if_neg hc2] at h
    refine pm_blk (pc' := 17) (L' := [(0, .ref 45), (1, .int a1), (2, .int a2), (3, .long a3)]) (S' := [.long a3, .int (a1 + a2), .ref 51]) (M' := sm g u) [pm_o (.aload_n 0), pm_of (.getfield 29) 5 7 2, pm_o (.iload_n 1), pm_o (.iload_n 2), pm_o .iadd, pm_o (.lload_n 3)] (by decide +kernel) rfl ?_
    obtain ⟨ho3, h⟩ := pm_ifs h
    refine pm_last (by decide +kernel) rfl  (pm_ok_in ho3) ?_
    refine pm_blk (pc' := 18) (L' := [(0, .ref 45), (1, .int a1), (2, .int a2), (3, .long a3)]) (S' := []) (M' := sm g (wj u 51 ((a1 + a2).toNatClampNeg) a3)) [] (by decide +kernel) rfl ?_
    have h9 := Option.some.inj h
    subst h9
    exact pm_retv rfl (by decide +kernel) rfl rfl
def K_Arrays_fill_0_38_5 (N : Nat) (g : pm_s) : Nat → Int32 → Int32 → Int32 → pm_J → Option (pm_J)
  | 0, _, _, _, _ => none
  | n + 1, x1, x2, x3, u => if x3 ≤ x2 then some u else if pm_ok x2 180 = true then K_Arrays_fill_0_38_5 N g  n x1 (x2 + 1) x3 (wi u 38 x2.toNatClampNeg x1) else none
set_option maxHeartbeats 4000000 in
set_option maxRecDepth 100000 in
theorem w_Arrays_fill_0_38_5 (l : Launch) (h0 : Nat) (D : pm_D) {g : pm_s} (hT : sh_T g) {N : Nat} {u0 : pm_J} {out : pm_J} {p : Program} {e : Env} {R : Room} {s : State} {m : MethodId} {args : Array Value} {below : List Frame} {meth : Method} {c : Code} : ∀ (n : Nat) (x1 : Int32) (x2 : Int32) (x3 : Int32) (u : pm_J), K_Arrays_fill_0_38_5 N g n x1 x2 x3 u = some out → pm_V (p, l, e, R, s, m, args, below, meth, c) m_Arrays_fill_0 h0 D (g.1, g.2.1, g.1, g.2.1, 0) (pm_E (p, l, e, R, s, m, args, below, meth, c) h0 D (sm g u0) none (sm g out)) 5 [(0, .ref 38), (1, .int x1), (2, .int x2), (3, .int x3)] [] (sm g u) := by
  intro n
  induction n with
  | zero => intro x1 x2 x3 u h; cases h
  | succ n ih =>
    intro x1 x2 x3 u h
    rw [K_Arrays_fill_0_38_5] at h
    refine pm_blk (pc' := 7) (L' := [(0, .ref 38), (1, .int x1), (2, .int x2), (3, .int x3)]) (S' := [.int x3, .int x2]) (M' := sm g u) [pm_o (.iload_n 2), pm_o (.iload_n 3)] (by decide +kernel) rfl ?_
    refine pm_ic_ge (off := 13) 20 (by decide +kernel) (by decide) (fun hc1 => ?_) (fun hc1 => ?_)
    · rw [if_pos hc1] at h
      have h9 := Option.some.inj h
      subst h9
      exact pm_retv rfl (by decide +kernel) rfl rfl
    · rw [if_neg hc1] at h
      refine pm_blk (pc' := 13) (L' := [(0, .ref 38), (1, .int x1), (2, .int x2), (3, .int x3)]) (S' := [.int x1, .int x2, .ref 38]) (M' := sm g u) [pm_o (.aload_n 0), pm_o (.iload_n 2), pm_o (.iload_n 1)] (by decide +kernel) rfl ?_
      obtain ⟨ho2, h⟩ := pm_ifs h
      refine pm_iast (by decide +kernel) rfl  (pm_ok_in ho2) ?_
      refine pm_blk (pc' := 17) (L' := [(2, .int (x2 + 1)), (0, .ref 38), (1, .int x1), (3, .int x3)]) (S' := []) (M' := sm g (wi u 38 x2.toNatClampNeg x1)) [pm_oi (.iinc 2 1) 1] (by decide +kernel) rfl ?_
      refine pm_goto (off := -12) 5 (by decide +kernel) (by decide) ?_
      refine pm_loc [1, 2, 0, 3] rfl ?_
      exact ih x1 (x2 + 1) x3 (wi u 38 x2.toNatClampNeg x1) h
def F_Arrays_fill_0_38 (N : Nat) (a2 : Int32) (g : pm_s) (u : pm_J) : Option (pm_J) := K_Arrays_fill_0_38_5 N g N a2 0 (Nat.toInt32 180) u
set_option maxHeartbeats 4000000 in
set_option maxRecDepth 100000 in
theorem c_Arrays_fill_0_38 (l : Launch) (h0 : Nat) (D : pm_D) {g : pm_s} {u : pm_J} (hT : sh_T g) {N : Nat} {a2 : Int32} {out : pm_J} (h : F_Arrays_fill_0_38 N a2 g u = some out) : pm_C l h0 D m_Arrays_fill_0 (0) [.ref 38, .int a2] (sm g u) none (sm g out) := by
  unfold F_Arrays_fill_0_38 at h
  refine pm_met (by decide +kernel) (Nat.le_of_ble_eq_true rfl) (Nat.le_refl _) (Nat.le_refl _) ?_
  intro p e R s m args below meth c
  refine pm_blk (pc' := 5) (L' := [(3, .int (Nat.toInt32 180)), (2, .int 0), (0, .ref 38), (1, .int a2)]) (S' := []) (M' := sm g u) [pm_oi (.iconst 0) 0, pm_o (.istore_n 2), pm_o (.aload_n 0), pm_o .arraylength, pm_o (.istore_n 3)] (by decide +kernel) rfl ?_
  refine pm_loc [2, 3, 1, 0] rfl ?_
  exact w_Arrays_fill_0_38_5 l h0 D hT N a2 0 (Nat.toInt32 180) u h
def F_Table_clear (N : Nat) (g : pm_s) (u : pm_J) : Option (pm_J) := (F_Arrays_fill_0_38 N 0 g (wi u 29 9 0)).bind fun q1 => some q1
set_option maxHeartbeats 4000000 in
set_option maxRecDepth 100000 in
theorem c_Table_clear (l : Launch) (h0 : Nat) (D : pm_D) {g : pm_s} {u : pm_J} (hT : sh_T g) {N : Nat} {out : pm_J} (h : F_Table_clear N g u = some out) : pm_C l h0 D m_Table_clear (1) [.ref 29] (sm g u) none (sm g out) := by
  unfold F_Table_clear at h
  refine pm_met (by decide +kernel) (Nat.le_of_ble_eq_true rfl) (Nat.le_refl _) (Nat.le_refl _) ?_
  intro p e R s m args below meth c
  refine pm_blk (pc' := 10) (L' := [(0, .ref 29)]) (S' := [.int 0, .ref 38]) (M' := sm g (wi u 29 9 0)) [pm_o (.aload_n 0), pm_oi (.iconst 0) 0, pm_of (.putfield 40) 8 9 0, pm_o (.aload_n 0), pm_of (.getfield 37) 8 8 2, pm_oi (.iconst 0) 0] (by decide +kernel) rfl ?_
  obtain ⟨q1, hq1, h⟩ := pm_bd h
  refine pm_cS (idx := 44) m_Arrays_fill_0 (c_Arrays_fill_0_38 l h0 D hT hq1) (As := [.ref 38, .int 0]) (S0 := []) rfl (by decide +kernel) k_Arrays_fill_0 l_Table_44 (Nat.le_of_ble_eq_true rfl) (Nat.le_of_ble_eq_true rfl) (Nat.le_refl _) (Nat.le_refl _) ?_
  refine pm_blk (pc' := 13) (L' := [(0, .ref 29)]) (S' := []) (M' := sm g q1) [] (by decide +kernel) rfl ?_
  have h9 := Option.some.inj h
  subst h9
  exact pm_retv rfl (by decide +kernel) rfl rfl
def F_Table_size (g : pm_s) (u : pm_J) : Option (Int32) := some (u.1 29 9)
set_option maxHeartbeats 4000000 in
set_option maxRecDepth 100000 in
theorem c_Table_size (l : Launch) (h0 : Nat) (D : pm_D) {g : pm_s} {u : pm_J} (hT : sh_T g) {out : Int32} (h : F_Table_size g u = some out) : pm_C l h0 D m_Table_size (0) [.ref 29] (sm g u) (some (.int out)) (sm g u) := by
  unfold F_Table_size at h
  refine pm_met (by decide +kernel) (Nat.le_of_ble_eq_true rfl) (Nat.le_refl _) (Nat.le_refl _) ?_
  intro p e R s m args below meth c
  refine pm_blk (pc' := 4) (L' := [(0, .ref 29)]) (S' := [.int (u.1 29 9)]) (M' := sm g u) [pm_o (.aload_n 0), pm_of (.getfield 40) 8 9 0] (by decide +kernel) rfl ?_
  have h9 := Option.some.inj h
  subst h9
  exact pm_reti rfl (by decide +kernel) rfl rfl rfl
def F_Table_add (a1 : Int64) (a2 : Int32) (g : pm_s) (u : pm_J) : Option (Int32 × pm_J) := if (u.1 29 9) < 30 then if pm_ok (u.1 29 9) 30 = true then if pm_ok (u.1 29 9) 30 = true then if pm_ok (u.1 29 9) 30 = true then if pm_ok (u.1 29 9) 30 = true then if pm_ok (u.1 29 9) 30 = true then if pm_ok (u.1 29 9) 30 = true then some (((u.1 29 9) + 1) - 1, (wi (wi (wi (wi (wi (wi (wj u 30 ((u.1 29 9).toNatClampNeg) a1) 31 ((u.1 29 9).toNatClampNeg) a2) 32 ((u.1 29 9).toNatClampNeg) (-1)) 33 ((u.1 29 9).toNatClampNeg) (-1)) 34 ((u.1 29 9).toNatClampNeg) 0) 35 ((u.1 29 9).toNatClampNeg) 0) 29 9 ((u.1 29 9) + 1))) else none else none else none else none else none else none else some ((-1), u)
set_option maxHeartbeats 4000000 in
set_option maxRecDepth 100000 in
theorem c_Table_add (l : Launch) (h0 : Nat) (D : pm_D) {g : pm_s} {u : pm_J} (hT : sh_T g) {a1 : Int64} {a2 : Int32} {out : Int32 × pm_J} (h : F_Table_add a1 a2 g u = some out) : pm_C l h0 D m_Table_add (0) [.ref 29, .long a1, .int a2] (sm g u) (some (.int out.1)) (sm g out.2) := by
  unfold F_Table_add at h
  refine pm_met (by decide +kernel) (Nat.le_of_ble_eq_true rfl) (Nat.le_refl _) (Nat.le_refl _) ?_
  intro p e R s m args below meth c
  refine pm_blk (pc' := 6) (L' := [(0, .ref 29), (1, .long a1), (3, .int a2)]) (S' := [.int 30, .int (u.1 29 9)]) (M' := sm g u) [pm_o (.aload_n 0), pm_of (.getfield 40) 8 9 0, pm_oi (.bipush 30) 30] (by decide +kernel) rfl ?_
  refine pm_ic_lt (off := 5) 11 (by decide +kernel) (by decide) (fun hc1 => ?_) (fun hc1 => ?_)
  · rw [if_pos hc1] at h
    refine pm_blk (pc' := 20) (L' := [(0, .ref 29), (1, .long a1), (3, .int a2)]) (S' := [.long a1, .int (u.1 29 9), .ref 30]) (M' := sm g u) [pm_o (.aload_n 0), pm_of (.getfield 11) 8 0 2, pm_o (.aload_n 0), pm_of (.getfield 40) 8 9 0, pm_o (.lload_n 1)] (by decide +kernel) rfl ?_
    obtain ⟨ho2, h⟩ := pm_ifs h
    refine pm_last (by decide +kernel) rfl  (pm_ok_in ho2) ?_
    refine pm_blk (pc' := 30) (L' := [(0, .ref 29), (1, .long a1), (3, .int a2)]) (S' := [.int a2, .int (u.1 29 9), .ref 31]) (M' := sm g (wj u 30 ((u.1 29 9).toNatClampNeg) a1)) [pm_o (.aload_n 0), pm_of (.getfield 15) 8 1 2, pm_o (.aload_n 0), pm_of (.getfield 40) 8 9 0, pm_o (.iload_n 3)] (by decide +kernel) rfl ?_
    obtain ⟨ho3, h⟩ := pm_ifs h
    refine pm_iast (by decide +kernel) rfl  (pm_ok_in ho3) ?_
    refine pm_blk (pc' := 40) (L' := [(0, .ref 29), (1, .long a1), (3, .int a2)]) (S' := [.int (-1), .int (u.1 29 9), .ref 32]) (M' := sm g (wi (wj u 30 ((u.1 29 9).toNatClampNeg) a1) 31 ((u.1 29 9).toNatClampNeg) a2)) [pm_o (.aload_n 0), pm_of (.getfield 19) 8 2 2, pm_o (.aload_n 0), pm_of (.getfield 40) 8 9 0, pm_oi (.iconst (-1)) (-1)] (by decide +kernel) rfl ?_
    obtain ⟨ho4, h⟩ := pm_ifs h
    refine pm_iast (by decide +kernel) rfl  (pm_ok_in ho4) ?_
    refine pm_blk (pc' := 50) (L' := [(0, .ref 29), (1, .long a1), (3, .int a2)]) (S' := [.int (-1), .int (u.1 29 9), .ref 33]) (M' := sm g (wi (wi (wj u 30 ((u.1 29 9).toNatClampNeg) a1) 31 ((u.1 29 9).toNatClampNeg) a2) 32 ((u.1 29 9).toNatClampNeg) (-1))) [pm_o (.aload_n 0), pm_of (.getfield 22) 8 3 2, pm_o (.aload_n 0), pm_of (.getfield 40) 8 9 0, pm_oi (.iconst (-1)) (-1)] (by decide +kernel) rfl ?_
    obtain ⟨ho5, h⟩ := pm_ifs h
    refine pm_iast (by decide +kernel) rfl  (pm_ok_in ho5) ?_
    refine pm_blk (pc' := 60) (L' := [(0, .ref 29), (1, .long a1), (3, .int a2)]) (S' := [.int 0, .int (u.1 29 9), .ref 34]) (M' := sm g (wi (wi (wi (wj u 30 ((u.1 29 9).toNatClampNeg) a1) 31 ((u.1 29 9).toNatClampNeg) a2) 32 ((u.1 29 9).toNatClampNeg) (-1)) 33 ((u.1 29 9).toNatClampNeg) (-1))) [pm_o (.aload_n 0), pm_of (.getfield 25) 8 4 2, pm_o (.aload_n 0), pm_of (.getfield 40) 8 9 0, pm_oi (.iconst 0) 0] (by decide +kernel) rfl ?_
    obtain ⟨ho6, h⟩ := pm_ifs h
    refine pm_iast (by decide +kernel) rfl  (pm_ok_in ho6) ?_
    refine pm_blk (pc' := 70) (L' := [(0, .ref 29), (1, .long a1), (3, .int a2)]) (S' := [.int 0, .int (u.1 29 9), .ref 35]) (M' := sm g (wi (wi (wi (wi (wj u 30 ((u.1 29 9).toNatClampNeg) a1) 31 ((u.1 29 9).toNatClampNeg) a2) 32 ((u.1 29 9).toNatClampNeg) (-1)) 33 ((u.1 29 9).toNatClampNeg) (-1)) 34 ((u.1 29 9).toNatClampNeg) 0)) [pm_o (.aload_n 0), pm_of (.getfield 28) 8 5 2, pm_o (.aload_n 0), pm_of (.getfield 40) 8 9 0, pm_oi (.iconst 0) 0] (by decide +kernel) rfl ?_
    obtain ⟨ho7, h⟩ := pm_ifs h
    refine pm_iast (by decide +kernel) rfl  (pm_ok_in ho7) ?_
    refine pm_blk (pc' := 87) (L' := [(0, .ref 29), (1, .long a1), (3, .int a2)]) (S' := [.int (((u.1 29 9) + 1) - 1)]) (M' := sm g (wi (wi (wi (wi (wi (wi (wj u 30 ((u.1 29 9).toNatClampNeg) a1) 31 ((u.1 29 9).toNatClampNeg) a2) 32 ((u.1 29 9).toNatClampNeg) (-1)) 33 ((u.1 29 9).toNatClampNeg) (-1)) 34 ((u.1 29 9).toNatClampNeg) 0) 35 ((u.1 29 9).toNatClampNeg) 0) 29 9 ((u.1 29 9) + 1))) [pm_o (.aload_n 0), pm_o .dup, pm_of (.getfield 40) 8 9 0, pm_oi (.iconst 1) 1, pm_o .iadd, pm_of (.putfield 40) 8 9 0, pm_o (.aload_n 0), pm_of (.getfield 40) 8 9 0, pm_oi (.iconst 1) 1, pm_o .isub] (by decide +kernel) rfl ?_
    have h9 := Option.some.inj h
    subst h9
    exact pm_reti rfl (by decide +kernel) rfl rfl rfl
  · rw [if_neg hc1] at h
    refine pm_blk (pc' := 10) (L' := [(0, .ref 29), (1, .long a1), (3, .int a2)]) (S' := [.int (-1)]) (M' := sm g u) [pm_oi (.iconst (-1)) (-1)] (by decide +kernel) rfl ?_
    have h9 := Option.some.inj h
    subst h9
    exact pm_reti rfl (by decide +kernel) rfl rfl rfl
def K_Table_find_2 (N : Nat) (g : pm_s) (u : pm_J) : Nat → Int64 → Int32 → Option (Int32)
  | 0, _, _ => none
  | n + 1, y1, x3 => if (u.1 29 9) ≤ x3 then some (-1) else if pm_ok x3 30 = true then if (lg_cmp (u.2 30 x3.toNatClampNeg) y1) = 0 then some x3 else K_Table_find_2 N g u  n y1 (x3 + 1) else none
set_option maxHeartbeats 4000000 in
set_option maxRecDepth 100000 in
theorem w_Table_find_2 (l : Launch) (h0 : Nat) (D : pm_D) {g : pm_s} (hT : sh_T g) {N : Nat} {u : pm_J} {out : Int32} {p : Program} {e : Env} {R : Room} {s : State} {m : MethodId} {args : Array Value} {below : List Frame} {meth : Method} {c : Code} : ∀ (n : Nat) (y1 : Int64) (x3 : Int32), K_Table_find_2 N g u n y1 x3 = some out → pm_V (p, l, e, R, s, m, args, below, meth, c) m_Table_find h0 D (g.1, g.2.1, g.1, g.2.1, 0) (pm_E (p, l, e, R, s, m, args, below, meth, c) h0 D (sm g u) (some (.int out)) (sm g u)) 2 [(0, .ref 29), (1, .long y1), (3, .int x3)] [] (sm g u) := by
  intro n
  induction n with
  | zero => intro y1 x3 h; cases h
  | succ n ih =>
    intro y1 x3 h
    rw [K_Table_find_2] at h
    refine pm_blk (pc' := 7) (L' := [(0, .ref 29), (1, .long y1), (3, .int x3)]) (S' := [.int (u.1 29 9), .int x3]) (M' := sm g u) [pm_o (.iload_n 3), pm_o (.aload_n 0), pm_of (.getfield 40) 8 9 0] (by decide +kernel) rfl ?_
    refine pm_ic_ge (off := 22) 29 (by decide +kernel) (by decide) (fun hc1 => ?_) (fun hc1 => ?_)
    · rw [if_pos hc1] at h
      refine pm_blk (pc' := 30) (L' := [(0, .ref 29), (1, .long y1), (3, .int x3)]) (S' := [.int (-1)]) (M' := sm g u) [pm_oi (.iconst (-1)) (-1)] (by decide +kernel) rfl ?_
      have h9 := Option.some.inj h
      subst h9
      exact pm_reti rfl (by decide +kernel) rfl rfl rfl
    · rw [if_neg hc1] at h
      refine pm_blk (pc' := 15) (L' := [(0, .ref 29), (1, .long y1), (3, .int x3)]) (S' := [.int x3, .ref 30]) (M' := sm g u) [pm_o (.aload_n 0), pm_of (.getfield 11) 8 0 2, pm_o (.iload_n 3)] (by decide +kernel) rfl ?_
      obtain ⟨ho2, h⟩ := pm_ifs h
      refine pm_lald (by decide +kernel) rfl (pm_ok_in ho2) ?_
      refine pm_blk (pc' := 18) (L' := [(0, .ref 29), (1, .long y1), (3, .int x3)]) (S' := [.int (lg_cmp (u.2 30 x3.toNatClampNeg) y1)]) (M' := sm g u) [pm_o (.lload_n 1), pm_o .lcmp] (by decide +kernel) rfl ?_
      refine pm_if_ne (off := 5) 23 (by decide +kernel) (by decide) (fun hc3 => ?_) (fun hc3 => ?_)
      · rw [if_neg hc3] at h
        refine pm_blk (pc' := 26) (L' := [(3, .int (x3 + 1)), (0, .ref 29), (1, .long y1)]) (S' := []) (M' := sm g u) [pm_oi (.iinc 3 1) 1] (by decide +kernel) rfl ?_
        refine pm_goto (off := -24) 2 (by decide +kernel) (by decide) ?_
        refine pm_loc [1, 2, 0] rfl ?_
        exact ih y1 (x3 + 1) h
      · rw [if_pos hc3] at h
        refine pm_blk (pc' := 22) (L' := [(0, .ref 29), (1, .long y1), (3, .int x3)]) (S' := [.int x3]) (M' := sm g u) [pm_o (.iload_n 3)] (by decide +kernel) rfl ?_
        have h9 := Option.some.inj h
        subst h9
        exact pm_reti rfl (by decide +kernel) rfl rfl rfl
def F_Table_find (N : Nat) (a1 : Int64) (g : pm_s) (u : pm_J) : Option (Int32) := K_Table_find_2 N g u N a1 0
set_option maxHeartbeats 4000000 in
set_option maxRecDepth 100000 in
theorem c_Table_find (l : Launch) (h0 : Nat) (D : pm_D) {g : pm_s} {u : pm_J} (hT : sh_T g) {N : Nat} {a1 : Int64} {out : Int32} (h : F_Table_find N a1 g u = some out) : pm_C l h0 D m_Table_find (0) [.ref 29, .long a1] (sm g u) (some (.int out)) (sm g u) := by
  unfold F_Table_find at h
  refine pm_met (by decide +kernel) (Nat.le_of_ble_eq_true rfl) (Nat.le_refl _) (Nat.le_refl _) ?_
  intro p e R s m args below meth c
  refine pm_blk (pc' := 2) (L' := [(3, .int 0), (0, .ref 29), (1, .long a1)]) (S' := []) (M' := sm g u) [pm_oi (.iconst 0) 0, pm_o (.istore_n 3)] (by decide +kernel) rfl ?_
  refine pm_loc [1, 2, 0] rfl ?_
  exact w_Table_find_2 l h0 D hT N a1 0 h
def F_Table_placeOf (a1 : Int32) (g : pm_s) (u : pm_J) : Option (Int32) := if a1 < 0 then some (-1) else if (u.1 29 9) ≤ a1 then some (-1) else if pm_ok a1 30 = true then some (u.1 31 a1.toNatClampNeg) else none
set_option maxHeartbeats 4000000 in
set_option maxRecDepth 100000 in
theorem c_Table_placeOf (l : Launch) (h0 : Nat) (D : pm_D) {g : pm_s} {u : pm_J} (hT : sh_T g) {a1 : Int32} {out : Int32} (h : F_Table_placeOf a1 g u = some out) : pm_C l h0 D m_Table_placeOf (0) [.ref 29, .int a1] (sm g u) (some (.int out)) (sm g u) := by
  unfold F_Table_placeOf at h
  refine pm_met (by decide +kernel) (Nat.le_of_ble_eq_true rfl) (Nat.le_refl _) (Nat.le_refl _) ?_
  intro p e R s m args below meth c
  refine pm_blk (pc' := 1) (L' := [(0, .ref 29), (1, .int a1)]) (S' := [.int a1]) (M' := sm g u) [pm_o (.iload_n 1)] (by decide +kernel) rfl ?_
  refine pm_if_lt (off := 20) 21 (by decide +kernel) (by decide) (fun hc1 => ?_) (fun hc1 => ?_)
  · rw [if_pos hc1] at h
    refine pm_blk (pc' := 22) (L' := [(0, .ref 29), (1, .int a1)]) (S' := [.int (-1)]) (M' := sm g u) [pm_oi (.iconst (-1)) (-1)] (by decide +kernel) rfl ?_
    have h9 := Option.some.inj h
    subst h9
    exact pm_reti rfl (by decide +kernel) rfl rfl rfl
  · rw [if_neg hc1] at h
    refine pm_blk (pc' := 9) (L' := [(0, .ref 29), (1, .int a1)]) (S' := [.int (u.1 29 9), .int a1]) (M' := sm g u) [pm_o (.iload_n 1), pm_o (.aload_n 0), pm_of (.getfield 40) 8 9 0] (by decide +kernel) rfl ?_
    refine pm_ic_ge (off := 12) 21 (by decide +kernel) (by decide) (fun hc2 => ?_) (fun hc2 => ?_)
    · rw [if_pos hc2] at h
      refine pm_blk (pc' := 22) (L' := [(0, .ref 29), (1, .int a1)]) (S' := [.int (-1)]) (M' := sm g u) [pm_oi (.iconst (-1)) (-1)] (by decide +kernel) rfl ?_
      have h9 := Option.some.inj h
      subst h9
      exact pm_reti rfl (by decide +kernel) rfl rfl rfl
    · rw [if_neg hc2] at h
      refine pm_blk (pc' := 17) (L' := [(0, .ref 29), (1, .int a1)]) (S' := [.int a1, .ref 31]) (M' := sm g u) [pm_o (.aload_n 0), pm_of (.getfield 15) 8 1 2, pm_o (.iload_n 1)] (by decide +kernel) rfl ?_
      obtain ⟨ho3, h⟩ := pm_ifs h
      refine pm_iald (by decide +kernel) rfl (pm_ok_in ho3) ?_
      refine pm_blk (pc' := 18) (L' := [(0, .ref 29), (1, .int a1)]) (S' := [.int (u.1 31 a1.toNatClampNeg)]) (M' := sm g u) [] (by decide +kernel) rfl ?_
      refine pm_goto (off := 4) 22 (by decide +kernel) (by decide) ?_
      have h9 := Option.some.inj h
      subst h9
      exact pm_reti rfl (by decide +kernel) rfl rfl rfl
def F_Table_type (a1 : Int32) (g : pm_s) (u : pm_J) : Option (Int32) := if a1 < 0 then some (-1) else if (u.1 29 9) ≤ a1 then some (-1) else if pm_ok a1 30 = true then some (u.1 32 a1.toNatClampNeg) else none
set_option maxHeartbeats 4000000 in
set_option maxRecDepth 100000 in
theorem c_Table_type (l : Launch) (h0 : Nat) (D : pm_D) {g : pm_s} {u : pm_J} (hT : sh_T g) {a1 : Int32} {out : Int32} (h : F_Table_type a1 g u = some out) : pm_C l h0 D m_Table_type (0) [.ref 29, .int a1] (sm g u) (some (.int out)) (sm g u) := by
  unfold F_Table_type at h
  refine pm_met (by decide +kernel) (Nat.le_of_ble_eq_true rfl) (Nat.le_refl _) (Nat.le_refl _) ?_
  intro p e R s m args below meth c
  refine pm_blk (pc' := 1) (L' := [(0, .ref 29), (1, .int a1)]) (S' := [.int a1]) (M' := sm g u) [pm_o (.iload_n 1)] (by decide +kernel) rfl ?_
  refine pm_if_lt (off := 20) 21 (by decide +kernel) (by decide) (fun hc1 => ?_) (fun hc1 => ?_)
  · rw [if_pos hc1] at h
    refine pm_blk (pc' := 22) (L' := [(0, .ref 29), (1, .int a1)]) (S' := [.int (-1)]) (M' := sm g u) [pm_oi (.iconst (-1)) (-1)] (by decide +kernel) rfl ?_
    have h9 := Option.some.inj h
    subst h9
    exact pm_reti rfl (by decide +kernel) rfl rfl rfl
  · rw [if_neg hc1] at h
    refine pm_blk (pc' := 9) (L' := [(0, .ref 29), (1, .int a1)]) (S' := [.int (u.1 29 9), .int a1]) (M' := sm g u) [pm_o (.iload_n 1), pm_o (.aload_n 0), pm_of (.getfield 40) 8 9 0] (by decide +kernel) rfl ?_
    refine pm_ic_ge (off := 12) 21 (by decide +kernel) (by decide) (fun hc2 => ?_) (fun hc2 => ?_)
    · rw [if_pos hc2] at h
      refine pm_blk (pc' := 22) (L' := [(0, .ref 29), (1, .int a1)]) (S' := [.int (-1)]) (M' := sm g u) [pm_oi (.iconst (-1)) (-1)] (by decide +kernel) rfl ?_
      have h9 := Option.some.inj h
      subst h9
      exact pm_reti rfl (by decide +kernel) rfl rfl rfl
    · rw [if_neg hc2] at h
      refine pm_blk (pc' := 17) (L' := [(0, .ref 29), (1, .int a1)]) (S' := [.int a1, .ref 32]) (M' := sm g u) [pm_o (.aload_n 0), pm_of (.getfield 19) 8 2 2, pm_o (.iload_n 1)] (by decide +kernel) rfl ?_
      obtain ⟨ho3, h⟩ := pm_ifs h
      refine pm_iald (by decide +kernel) rfl (pm_ok_in ho3) ?_
      refine pm_blk (pc' := 18) (L' := [(0, .ref 29), (1, .int a1)]) (S' := [.int (u.1 32 a1.toNatClampNeg)]) (M' := sm g u) [] (by decide +kernel) rfl ?_
      refine pm_goto (off := 4) 22 (by decide +kernel) (by decide) ?_
      have h9 := Option.some.inj h
      subst h9
      exact pm_reti rfl (by decide +kernel) rfl rfl rfl
def F_Table_setType (a1 : Int32) (a2 : Int32) (g : pm_s) (u : pm_J) : Option (pm_J) := if a1 < 0 then some u else if (u.1 29 9) ≤ a1 then some u else if pm_ok a1 30 = true then some (wi u 32 a1.toNatClampNeg a2) else none
set_option maxHeartbeats 4000000 in
set_option maxRecDepth 100000 in
theorem c_Table_setType (l : Launch) (h0 : Nat) (D : pm_D) {g : pm_s} {u : pm_J} (hT : sh_T g) {a1 : Int32} {a2 : Int32} {out : pm_J} (h : F_Table_setType a1 a2 g u = some out) : pm_C l h0 D m_Table_setType (0) [.ref 29, .int a1, .int a2] (sm g u) none (sm g out) := by
  unfold F_Table_setType at h
  refine pm_met (by decide +kernel) (Nat.le_of_ble_eq_true rfl) (Nat.le_refl _) (Nat.le_refl _) ?_
  intro p e R s m args below meth c
  refine pm_blk (pc' := 1) (L' := [(0, .ref 29), (1, .int a1), (2, .int a2)]) (S' := [.int a1]) (M' := sm g u) [pm_o (.iload_n 1)] (by decide +kernel) rfl ?_
  refine pm_if_lt (off := 18) 19 (by decide +kernel) (by decide) (fun hc1 => ?_) (fun hc1 => ?_)
  · rw [if_pos hc1] at h
    have h9 := Option.some.inj h
    subst h9
    exact pm_retv rfl (by decide +kernel) rfl rfl
  · rw [if_neg hc1] at h
    refine pm_blk (pc' := 9) (L' := [(0, .ref 29), (1, .int a1), (2, .int a2)]) (S' := [.int (u.1 29 9), .int a1]) (M' := sm g u) [pm_o (.iload_n 1), pm_o (.aload_n 0), pm_of (.getfield 40) 8 9 0] (by decide +kernel) rfl ?_
    refine pm_ic_ge (off := 10) 19 (by decide +kernel) (by decide) (fun hc2 => ?_) (fun hc2 => ?_)
    · rw [if_pos hc2] at h
      have h9 := Option.some.inj h
      subst h9
      exact pm_retv rfl (by decide +kernel) rfl rfl
    · rw [if_neg hc2] at h
      refine pm_blk (pc' := 18) (L' := [(0, .ref 29), (1, .int a1), (2, .int a2)]) (S' := [.int a2, .int a1, .ref 32]) (M' := sm g u) [pm_o (.aload_n 0), pm_of (.getfield 19) 8 2 2, pm_o (.iload_n 1), pm_o (.iload_n 2)] (by decide +kernel) rfl ?_
      obtain ⟨ho3, h⟩ := pm_ifs h
      refine pm_iast (by decide +kernel) rfl  (pm_ok_in ho3) ?_
      refine pm_blk (pc' := 19) (L' := [(0, .ref 29), (1, .int a1), (2, .int a2)]) (S' := []) (M' := sm g (wi u 32 a1.toNatClampNeg a2)) [] (by decide +kernel) rfl ?_
      have h9 := Option.some.inj h
      subst h9
      exact pm_retv rfl (by decide +kernel) rfl rfl
def F_Table_root (a1 : Int32) (g : pm_s) (u : pm_J) : Option (Int32) := if a1 < 0 then some (-1) else if (u.1 29 9) ≤ a1 then some (-1) else if pm_ok a1 30 = true then some (u.1 33 a1.toNatClampNeg) else none
set_option maxHeartbeats 4000000 in
set_option maxRecDepth 100000 in
theorem c_Table_root (l : Launch) (h0 : Nat) (D : pm_D) {g : pm_s} {u : pm_J} (hT : sh_T g) {a1 : Int32} {out : Int32} (h : F_Table_root a1 g u = some out) : pm_C l h0 D m_Table_root (0) [.ref 29, .int a1] (sm g u) (some (.int out)) (sm g u) := by
  unfold F_Table_root at h
  refine pm_met (by decide +kernel) (Nat.le_of_ble_eq_true rfl) (Nat.le_refl _) (Nat.le_refl _) ?_
  intro p e R s m args below meth c
  refine pm_blk (pc' := 1) (L' := [(0, .ref 29), (1, .int a1)]) (S' := [.int a1]) (M' := sm g u) [pm_o (.iload_n 1)] (by decide +kernel) rfl ?_
  refine pm_if_lt (off := 20) 21 (by decide +kernel) (by decide) (fun hc1 => ?_) (fun hc1 => ?_)
  · rw [if_pos hc1] at h
    refine pm_blk (pc' := 22) (L' := [(0, .ref 29), (1, .int a1)]) (S' := [.int (-1)]) (M' := sm g u) [pm_oi (.iconst (-1)) (-1)] (by decide +kernel) rfl ?_
    have h9 := Option.some.inj h
    subst h9
    exact pm_reti rfl (by decide +kernel) rfl rfl rfl
  · rw [if_neg hc1] at h
    refine pm_blk (pc' := 9) (L' := [(0, .ref 29), (1, .int a1)]) (S' := [.int (u.1 29 9), .int a1]) (M' := sm g u) [pm_o (.iload_n 1), pm_o (.aload_n 0), pm_of (.getfield 40) 8 9 0] (by decide +kernel) rfl ?_
    refine pm_ic_ge (off := 12) 21 (by decide +kernel) (by decide) (fun hc2 => ?_) (fun hc2 => ?_)
    · rw [if_pos hc2] at h
      refine pm_blk (pc' := 22) (L' := [(0, .ref 29), (1, .int a1)]) (S' := [.int (-1)]) (M' := sm g u) [pm_oi (.iconst (-1)) (-1)] (by decide +kernel) rfl ?_
      have h9 := Option.some.inj h
      subst h9
      exact pm_reti rfl (by decide +kernel) rfl rfl rfl
    · rw [if_neg hc2] at h
      refine pm_blk (pc' := 17) (L' := [(0, .ref 29), (1, .int a1)]) (S' := [.int a1, .ref 33]) (M' := sm g u) [pm_o (.aload_n 0), pm_of (.getfield 22) 8 3 2, pm_o (.iload_n 1)] (by decide +kernel) rfl ?_
      obtain ⟨ho3, h⟩ := pm_ifs h
      refine pm_iald (by decide +kernel) rfl (pm_ok_in ho3) ?_
      refine pm_blk (pc' := 18) (L' := [(0, .ref 29), (1, .int a1)]) (S' := [.int (u.1 33 a1.toNatClampNeg)]) (M' := sm g u) [] (by decide +kernel) rfl ?_
      refine pm_goto (off := 4) 22 (by decide +kernel) (by decide) ?_
      have h9 := Option.some.inj h
      subst h9
      exact pm_reti rfl (by decide +kernel) rfl rfl rfl
def F_Table_end (a1 : Int32) (g : pm_s) (u : pm_J) : Option (Int32) := if a1 < 0 then some 0 else if (u.1 29 9) ≤ a1 then some 0 else if pm_ok a1 30 = true then some (u.1 34 a1.toNatClampNeg) else none
set_option maxHeartbeats 4000000 in
set_option maxRecDepth 100000 in
theorem c_Table_end (l : Launch) (h0 : Nat) (D : pm_D) {g : pm_s} {u : pm_J} (hT : sh_T g) {a1 : Int32} {out : Int32} (h : F_Table_end a1 g u = some out) : pm_C l h0 D m_Table_end (0) [.ref 29, .int a1] (sm g u) (some (.int out)) (sm g u) := by
  unfold F_Table_end at h
  refine pm_met (by decide +kernel) (Nat.le_of_ble_eq_true rfl) (Nat.le_refl _) (Nat.le_refl _) ?_
  intro p e R s m args below meth c
  refine pm_blk (pc' := 1) (L' := [(0, .ref 29), (1, .int a1)]) (S' := [.int a1]) (M' := sm g u) [pm_o (.iload_n 1)] (by decide +kernel) rfl ?_
  refine pm_if_lt (off := 20) 21 (by decide +kernel) (by decide) (fun hc1 => ?_) (fun hc1 => ?_)
  · rw [if_pos hc1] at h
    refine pm_blk (pc' := 22) (L' := [(0, .ref 29), (1, .int a1)]) (S' := [.int 0]) (M' := sm g u) [pm_oi (.iconst 0) 0] (by decide +kernel) rfl ?_
    have h9 := Option.some.inj h
    subst h9
    exact pm_reti rfl (by decide +kernel) rfl rfl rfl
  · rw [if_neg hc1] at h
    refine pm_blk (pc' := 9) (L' := [(0, .ref 29), (1, .int a1)]) (S' := [.int (u.1 29 9), .int a1]) (M' := sm g u) [pm_o (.iload_n 1), pm_o (.aload_n 0), pm_of (.getfield 40) 8 9 0] (by decide +kernel) rfl ?_
    refine pm_ic_ge (off := 12) 21 (by decide +kernel) (by decide) (fun hc2 => ?_) (fun hc2 => ?_)
    · rw [if_pos hc2] at h
      refine pm_blk (pc' := 22) (L' := [(0, .ref 29), (1, .int a1)]) (S' := [.int 0]) (M' := sm g u) [pm_oi (.iconst 0) 0] (by decide +kernel) rfl ?_
      have h9 := Option.some.inj h
      subst h9
      exact pm_reti rfl (by decide +kernel) rfl rfl rfl
    · rw [if_neg hc2] at h
      refine pm_blk (pc' := 17) (L' := [(0, .ref 29), (1, .int a1)]) (S' := [.int a1, .ref 34]) (M' := sm g u) [pm_o (.aload_n 0), pm_of (.getfield 25) 8 4 2, pm_o (.iload_n 1)] (by decide +kernel) rfl ?_
      obtain ⟨ho3, h⟩ := pm_ifs h
      refine pm_iald (by decide +kernel) rfl (pm_ok_in ho3) ?_
      refine pm_blk (pc' := 18) (L' := [(0, .ref 29), (1, .int a1)]) (S' := [.int (u.1 34 a1.toNatClampNeg)]) (M' := sm g u) [] (by decide +kernel) rfl ?_
      refine pm_goto (off := 4) 22 (by decide +kernel) (by decide) ?_
      have h9 := Option.some.inj h
      subst h9
      exact pm_reti rfl (by decide +kernel) rfl rfl rfl
def F_Table_setRoot (a1 : Int32) (a2 : Int32) (a3 : Int32) (g : pm_s) (u : pm_J) : Option (pm_J) := if a1 < 0 then some u else if (u.1 29 9) ≤ a1 then some u else if pm_ok a1 30 = true then if pm_ok a1 30 = true then some (wi (wi u 33 a1.toNatClampNeg a2) 34 a1.toNatClampNeg a3) else none else none
set_option maxHeartbeats 4000000 in
set_option maxRecDepth 100000 in
theorem c_Table_setRoot (l : Launch) (h0 : Nat) (D : pm_D) {g : pm_s} {u : pm_J} (hT : sh_T g) {a1 : Int32} {a2 : Int32} {a3 : Int32} {out : pm_J} (h : F_Table_setRoot a1 a2 a3 g u = some out) : pm_C l h0 D m_Table_setRoot (0) [.ref 29, .int a1, .int a2, .int a3] (sm g u) none (sm g out) := by
  unfold F_Table_setRoot at h
  refine pm_met (by decide +kernel) (Nat.le_of_ble_eq_true rfl) (Nat.le_refl _) (Nat.le_refl _) ?_
  intro p e R s m args below meth c
  refine pm_blk (pc' := 1) (L' := [(0, .ref 29), (1, .int a1), (2, .int a2), (3, .int a3)]) (S' := [.int a1]) (M' := sm g u) [pm_o (.iload_n 1)] (by decide +kernel) rfl ?_
  refine pm_if_lt (off := 25) 26 (by decide +kernel) (by decide) (fun hc1 => ?_) (fun hc1 => ?_)
  · rw [if_pos hc1] at h
    have h9 := Option.some.inj h
    subst h9
    exact pm_retv rfl (by decide +kernel) rfl rfl
  · rw [if_neg hc1] at h
    refine pm_blk (pc' := 9) (L' := [(0, .ref 29), (1, .int a1), (2, .int a2), (3, .int a3)]) (S' := [.int (u.1 29 9), .int a1]) (M' := sm g u) [pm_o (.iload_n 1), pm_o (.aload_n 0), pm_of (.getfield 40) 8 9 0] (by decide +kernel) rfl ?_
    refine pm_ic_ge (off := 17) 26 (by decide +kernel) (by decide) (fun hc2 => ?_) (fun hc2 => ?_)
    · rw [if_pos hc2] at h
      have h9 := Option.some.inj h
      subst h9
      exact pm_retv rfl (by decide +kernel) rfl rfl
    · rw [if_neg hc2] at h
      refine pm_blk (pc' := 18) (L' := [(0, .ref 29), (1, .int a1), (2, .int a2), (3, .int a3)]) (S' := [.int a2, .int a1, .ref 33]) (M' := sm g u) [pm_o (.aload_n 0), pm_of (.getfield 22) 8 3 2, pm_o (.iload_n 1), pm_o (.iload_n 2)] (by decide +kernel) rfl ?_
      obtain ⟨ho3, h⟩ := pm_ifs h
      refine pm_iast (by decide +kernel) rfl  (pm_ok_in ho3) ?_
      refine pm_blk (pc' := 25) (L' := [(0, .ref 29), (1, .int a1), (2, .int a2), (3, .int a3)]) (S' := [.int a3, .int a1, .ref 34]) (M' := sm g (wi u 33 a1.toNatClampNeg a2)) [pm_o (.aload_n 0), pm_of (.getfield 25) 8 4 2, pm_o (.iload_n 1), pm_o (.iload_n 3)] (by decide +kernel) rfl ?_
      obtain ⟨ho4, h⟩ := pm_ifs h
      refine pm_iast (by decide +kernel) rfl  (pm_ok_in ho4) ?_
      refine pm_blk (pc' := 26) (L' := [(0, .ref 29), (1, .int a1), (2, .int a2), (3, .int a3)]) (S' := []) (M' := sm g (wi (wi u 33 a1.toNatClampNeg a2) 34 a1.toNatClampNeg a3)) [] (by decide +kernel) rfl ?_
      have h9 := Option.some.inj h
      subst h9
      exact pm_retv rfl (by decide +kernel) rfl rfl
def F_Table_parameters (a1 : Int32) (g : pm_s) (u : pm_J) : Option (Int32) := if a1 < 0 then some 0 else if (u.1 29 9) ≤ a1 then some 0 else if pm_ok ((a1 * 6) + 0) 180 = true then some (u.1 38 (((a1 * 6) + 0).toNatClampNeg)) else none
set_option maxHeartbeats 4000000 in
set_option maxRecDepth 100000 in
theorem c_Table_parameters (l : Launch) (h0 : Nat) (D : pm_D) {g : pm_s} {u : pm_J} (hT : sh_T g) {a1 : Int32} {out : Int32} (h : F_Table_parameters a1 g u = some out) : pm_C l h0 D m_Table_parameters (0) [.ref 29, .int a1] (sm g u) (some (.int out)) (sm g u) := by
  unfold F_Table_parameters at h
  refine pm_met (by decide +kernel) (Nat.le_of_ble_eq_true rfl) (Nat.le_refl _) (Nat.le_refl _) ?_
  intro p e R s m args below meth c
  refine pm_blk (pc' := 1) (L' := [(0, .ref 29), (1, .int a1)]) (S' := [.int a1]) (M' := sm g u) [pm_o (.iload_n 1)] (by decide +kernel) rfl ?_
  refine pm_if_lt (off := 25) 26 (by decide +kernel) (by decide) (fun hc1 => ?_) (fun hc1 => ?_)
  · rw [if_pos hc1] at h
    refine pm_blk (pc' := 27) (L' := [(0, .ref 29), (1, .int a1)]) (S' := [.int 0]) (M' := sm g u) [pm_oi (.iconst 0) 0] (by decide +kernel) rfl ?_
    have h9 := Option.some.inj h
    subst h9
    exact pm_reti rfl (by decide +kernel) rfl rfl rfl
  · rw [if_neg hc1] at h
    refine pm_blk (pc' := 9) (L' := [(0, .ref 29), (1, .int a1)]) (S' := [.int (u.1 29 9), .int a1]) (M' := sm g u) [pm_o (.iload_n 1), pm_o (.aload_n 0), pm_of (.getfield 40) 8 9 0] (by decide +kernel) rfl ?_
    refine pm_ic_ge (off := 17) 26 (by decide +kernel) (by decide) (fun hc2 => ?_) (fun hc2 => ?_)
    · rw [if_pos hc2] at h
      refine pm_blk (pc' := 27) (L' := [(0, .ref 29), (1, .int a1)]) (S' := [.int 0]) (M' := sm g u) [pm_oi (.iconst 0) 0] (by decide +kernel) rfl ?_
      have h9 := Option.some.inj h
      subst h9
      exact pm_reti rfl (by decide +kernel) rfl rfl rfl
    · rw [if_neg hc2] at h
      refine pm_blk (pc' := 22) (L' := [(0, .ref 29), (1, .int a1)]) (S' := [.int ((a1 * 6) + 0), .ref 38]) (M' := sm g u) [pm_o (.aload_n 0), pm_of (.getfield 37) 8 8 2, pm_o (.iload_n 1), pm_oi (.bipush 6) 6, pm_o .imul, pm_oi (.iconst 0) 0, pm_o .iadd] (by decide +kernel) rfl ?_
      obtain ⟨ho3, h⟩ := pm_ifs h
      refine pm_iald (by decide +kernel) rfl (pm_ok_in ho3) ?_
      refine pm_blk (pc' := 23) (L' := [(0, .ref 29), (1, .int a1)]) (S' := [.int (u.1 38 (((a1 * 6) + 0).toNatClampNeg))]) (M' := sm g u) [] (by decide +kernel) rfl ?_
      refine pm_goto (off := 4) 27 (by decide +kernel) (by decide) ?_
      have h9 := Option.some.inj h
      subst h9
      exact pm_reti rfl (by decide +kernel) rfl rfl rfl
def F_Table_locals (a1 : Int32) (g : pm_s) (u : pm_J) : Option (Int32) := if a1 < 0 then some 0 else if (u.1 29 9) ≤ a1 then some 0 else if pm_ok a1 30 = true then some (u.1 35 a1.toNatClampNeg) else none
set_option maxHeartbeats 4000000 in
set_option maxRecDepth 100000 in
theorem c_Table_locals (l : Launch) (h0 : Nat) (D : pm_D) {g : pm_s} {u : pm_J} (hT : sh_T g) {a1 : Int32} {out : Int32} (h : F_Table_locals a1 g u = some out) : pm_C l h0 D m_Table_locals (0) [.ref 29, .int a1] (sm g u) (some (.int out)) (sm g u) := by
  unfold F_Table_locals at h
  refine pm_met (by decide +kernel) (Nat.le_of_ble_eq_true rfl) (Nat.le_refl _) (Nat.le_refl _) ?_
  intro p e R s m args below meth c
  refine pm_blk (pc' := 1) (L' := [(0, .ref 29), (1, .int a1)]) (S' := [.int a1]) (M' := sm g u) [pm_o (.iload_n 1)] (by decide +kernel) rfl ?_
  refine pm_if_lt (off := 20) 21 (by decide +kernel) (by decide) (fun hc1 => ?_) (fun hc1 => ?_)
  · rw [if_pos hc1] at h
    refine pm_blk (pc' := 22) (L' := [(0, .ref 29), (1, .int a1)]) (S' := [.int 0]) (M' := sm g u) [pm_oi (.iconst 0) 0] (by decide +kernel) rfl ?_
    have h9 := Option.some.inj h
    subst h9
    exact pm_reti rfl (by decide +kernel) rfl rfl rfl
  · rw [if_neg hc1] at h
    refine pm_blk (pc' := 9) (L' := [(0, .ref 29), (1, .int a1)]) (S' := [.int (u.1 29 9), .int a1]) (M' := sm g u) [pm_o (.iload_n 1), pm_o (.aload_n 0), pm_of (.getfield 40) 8 9 0] (by decide +kernel) rfl ?_
    refine pm_ic_ge (off := 12) 21 (by decide +kernel) (by decide) (fun hc2 => ?_) (fun hc2 => ?_)
    · rw [if_pos hc2] at h
      refine pm_blk (pc' := 22) (L' := [(0, .ref 29), (1, .int a1)]) (S' := [.int 0]) (M' := sm g u) [pm_oi (.iconst 0) 0] (by decide +kernel) rfl ?_
      have h9 := Option.some.inj h
      subst h9
      exact pm_reti rfl (by decide +kernel) rfl rfl rfl
    · rw [if_neg hc2] at h
      refine pm_blk (pc' := 17) (L' := [(0, .ref 29), (1, .int a1)]) (S' := [.int a1, .ref 35]) (M' := sm g u) [pm_o (.aload_n 0), pm_of (.getfield 28) 8 5 2, pm_o (.iload_n 1)] (by decide +kernel) rfl ?_
      obtain ⟨ho3, h⟩ := pm_ifs h
      refine pm_iald (by decide +kernel) rfl (pm_ok_in ho3) ?_
      refine pm_blk (pc' := 18) (L' := [(0, .ref 29), (1, .int a1)]) (S' := [.int (u.1 35 a1.toNatClampNeg)]) (M' := sm g u) [] (by decide +kernel) rfl ?_
      refine pm_goto (off := 4) 22 (by decide +kernel) (by decide) ?_
      have h9 := Option.some.inj h
      subst h9
      exact pm_reti rfl (by decide +kernel) rfl rfl rfl
def F_Table_addLocal (a1 : Int32) (g : pm_s) (u : pm_J) : Option (Int32 × pm_J) := if a1 < 0 then some ((-1), u) else if (u.1 29 9) ≤ a1 then some ((-1), u) else if pm_ok a1 30 = true then if (u.1 35 a1.toNatClampNeg) < 24 then if pm_ok a1 30 = true then if pm_ok ((a1 * 24) + (u.1 35 a1.toNatClampNeg)) 720 = true then if pm_ok ((a1 * 24) + (u.1 35 a1.toNatClampNeg)) 720 = true then if pm_ok a1 30 = true then if pm_ok a1 30 = true then some (u.1 35 a1.toNatClampNeg, (wi (wi (wi u 36 (((a1 * 24) + (u.1 35 a1.toNatClampNeg)).toNatClampNeg) (-1)) 37 (((a1 * 24) + (u.1 35 a1.toNatClampNeg)).toNatClampNeg) (-1)) 35 a1.toNatClampNeg ((u.1 35 a1.toNatClampNeg) + 1))) else none else none else none else none else none else some ((-1), u) else none
set_option maxHeartbeats 4000000 in
set_option maxRecDepth 100000 in
theorem c_Table_addLocal (l : Launch) (h0 : Nat) (D : pm_D) {g : pm_s} {u : pm_J} (hT : sh_T g) {a1 : Int32} {out : Int32 × pm_J} (h : F_Table_addLocal a1 g u = some out) : pm_C l h0 D m_Table_addLocal (0) [.ref 29, .int a1] (sm g u) (some (.int out.1)) (sm g out.2) := by
  unfold F_Table_addLocal at h
  refine pm_met (by decide +kernel) (Nat.le_of_ble_eq_true rfl) (Nat.le_refl _) (Nat.le_refl _) ?_
  intro p e R s m args below meth c
  refine pm_blk (pc' := 1) (L' := [(0, .ref 29), (1, .int a1)]) (S' := [.int a1]) (M' := sm g u) [pm_o (.iload_n 1)] (by decide +kernel) rfl ?_
  refine pm_if_lt (off := 22) 23 (by decide +kernel) (by decide) (fun hc1 => ?_) (fun hc1 => ?_)
  · rw [if_pos hc1] at h
    refine pm_blk (pc' := 24) (L' := [(0, .ref 29), (1, .int a1)]) (S' := [.int (-1)]) (M' := sm g u) [pm_oi (.iconst (-1)) (-1)] (by decide +kernel) rfl ?_
    have h9 := Option.some.inj h
    subst h9
    exact pm_reti rfl (by decide +kernel) rfl rfl rfl
  · rw [if_neg hc1] at h
    refine pm_blk (pc' := 9) (L' := [(0, .ref 29), (1, .int a1)]) (S' := [.int (u.1 29 9), .int a1]) (M' := sm g u) [pm_o (.iload_n 1), pm_o (.aload_n 0), pm_of (.getfield 40) 8 9 0] (by decide +kernel) rfl ?_
    refine pm_ic_ge (off := 14) 23 (by decide +kernel) (by decide) (fun hc2 => ?_) (fun hc2 => ?_)
    · rw [if_pos hc2] at h
      refine pm_blk (pc' := 24) (L' := [(0, .ref 29), (1, .int a1)]) (S' := [.int (-1)]) (M' := sm g u) [pm_oi (.iconst (-1)) (-1)] (by decide +kernel) rfl ?_
      have h9 := Option.some.inj h
      subst h9
      exact pm_reti rfl (by decide +kernel) rfl rfl rfl
    · rw [if_neg hc2] at h
      refine pm_blk (pc' := 17) (L' := [(0, .ref 29), (1, .int a1)]) (S' := [.int a1, .ref 35]) (M' := sm g u) [pm_o (.aload_n 0), pm_of (.getfield 28) 8 5 2, pm_o (.iload_n 1)] (by decide +kernel) rfl ?_
      obtain ⟨ho3, h⟩ := pm_ifs h
      refine pm_iald (by decide +kernel) rfl (pm_ok_in ho3) ?_
      refine pm_blk (pc' := 20) (L' := [(0, .ref 29), (1, .int a1)]) (S' := [.int 24, .int (u.1 35 a1.toNatClampNeg)]) (M' := sm g u) [pm_oi (.bipush 24) 24] (by decide +kernel) rfl ?_
      refine pm_ic_lt (off := 5) 25 (by decide +kernel) (by decide) (fun hc4 => ?_) (fun hc4 => ?_)
      · rw [if_pos hc4] at h
        refine pm_blk (pc' := 30) (L' := [(0, .ref 29), (1, .int a1)]) (S' := [.int a1, .ref 35]) (M' := sm g u) [pm_o (.aload_n 0), pm_of (.getfield 28) 8 5 2, pm_o (.iload_n 1)] (by decide +kernel) rfl ?_
        obtain ⟨ho5, h⟩ := pm_ifs h
        refine pm_iald (by decide +kernel) rfl (pm_ok_in ho5) ?_
        refine pm_blk (pc' := 43) (L' := [(2, .int (u.1 35 a1.toNatClampNeg)), (0, .ref 29), (1, .int a1)]) (S' := [.int (-1), .int ((a1 * 24) + (u.1 35 a1.toNatClampNeg)), .ref 36]) (M' := sm g u) [pm_o (.istore_n 2), pm_o (.aload_n 0), pm_of (.getfield 31) 8 6 2, pm_o (.iload_n 1), pm_oi (.bipush 24) 24, pm_o .imul, pm_o (.iload_n 2), pm_o .iadd, pm_oi (.iconst (-1)) (-1)] (by decide +kernel) rfl ?_
        obtain ⟨ho6, h⟩ := pm_ifs h
        refine pm_iast (by decide +kernel) rfl  (pm_ok_in ho6) ?_
        refine pm_blk (pc' := 55) (L' := [(2, .int (u.1 35 a1.toNatClampNeg)), (0, .ref 29), (1, .int a1)]) (S' := [.int (-1), .int ((a1 * 24) + (u.1 35 a1.toNatClampNeg)), .ref 37]) (M' := sm g (wi u 36 (((a1 * 24) + (u.1 35 a1.toNatClampNeg)).toNatClampNeg) (-1))) [pm_o (.aload_n 0), pm_of (.getfield 34) 8 7 2, pm_o (.iload_n 1), pm_oi (.bipush 24) 24, pm_o .imul, pm_o (.iload_n 2), pm_o .iadd, pm_oi (.iconst (-1)) (-1)] (by decide +kernel) rfl ?_
        obtain ⟨ho7, h⟩ := pm_ifs h
        refine pm_iast (by decide +kernel) rfl  (pm_ok_in ho7) ?_
        refine pm_blk (pc' := 62) (L' := [(2, .int (u.1 35 a1.toNatClampNeg)), (0, .ref 29), (1, .int a1)]) (S' := [.int a1, .ref 35, .int a1, .ref 35]) (M' := sm g (wi (wi u 36 (((a1 * 24) + (u.1 35 a1.toNatClampNeg)).toNatClampNeg) (-1)) 37 (((a1 * 24) + (u.1 35 a1.toNatClampNeg)).toNatClampNeg) (-1))) [pm_o (.aload_n 0), pm_of (.getfield 28) 8 5 2, pm_o (.iload_n 1), pm_o .dup2] (by decide +kernel) rfl ?_
        obtain ⟨ho8, h⟩ := pm_ifs h
        refine pm_iald (by decide +kernel) rfl (pm_ok_in ho8) ?_
        refine pm_blk (pc' := 65) (L' := [(2, .int (u.1 35 a1.toNatClampNeg)), (0, .ref 29), (1, .int a1)]) (S' := [.int ((u.1 35 a1.toNatClampNeg) + 1), .int a1, .ref 35]) (M' := sm g (wi (wi u 36 (((a1 * 24) + (u.1 35 a1.toNatClampNeg)).toNatClampNeg) (-1)) 37 (((a1 * 24) + (u.1 35 a1.toNatClampNeg)).toNatClampNeg) (-1))) [pm_oi (.iconst 1) 1, pm_o .iadd] (by decide +kernel) rfl ?_
        obtain ⟨ho9, h⟩ := pm_ifs h
        refine pm_iast (by decide +kernel) rfl  (pm_ok_in ho9) ?_
        refine pm_blk (pc' := 67) (L' := [(2, .int (u.1 35 a1.toNatClampNeg)), (0, .ref 29), (1, .int a1)]) (S' := [.int (u.1 35 a1.toNatClampNeg)]) (M' := sm g (wi (wi (wi u 36 (((a1 * 24) + (u.1 35 a1.toNatClampNeg)).toNatClampNeg) (-1)) 37 (((a1 * 24) + (u.1 35 a1.toNatClampNeg)).toNatClampNeg) (-1)) 35 a1.toNatClampNeg ((u.1 35 a1.toNatClampNeg) + 1))) [pm_o (.iload_n 2)] (by decide +kernel) rfl ?_
        have h9 := Option.some.inj h
        subst h9
        exact pm_reti rfl (by decide +kernel) rfl rfl rfl
      · rw [if_neg hc4] at h
        refine pm_blk (pc' := 24) (L' := [(0, .ref 29), (1, .int a1)]) (S' := [.int (-1)]) (M' := sm g u) [pm_oi (.iconst (-1)) (-1)] (by decide +kernel) rfl ?_
        have h9 := Option.some.inj h
        subst h9
        exact pm_reti rfl (by decide +kernel) rfl rfl rfl
def F_Table_hasLocal (a1 : Int32) (a2 : Int32) (g : pm_s) (u : pm_J) : Option (Int32) := if a1 < 0 then some 0 else if (u.1 29 9) ≤ a1 then some 0 else if a2 < 0 then some 0 else if pm_ok a1 30 = true then if (u.1 35 a1.toNatClampNeg) ≤ a2 then some 0 else some 1 else none
set_option maxHeartbeats 4000000 in
set_option maxRecDepth 100000 in
theorem c_Table_hasLocal (l : Launch) (h0 : Nat) (D : pm_D) {g : pm_s} {u : pm_J} (hT : sh_T g) {a1 : Int32} {a2 : Int32} {out : Int32} (h : F_Table_hasLocal a1 a2 g u = some out) : pm_C l h0 D m_Table_hasLocal (0) [.ref 29, .int a1, .int a2] (sm g u) (some (.int out)) (sm g u) := by
  unfold F_Table_hasLocal at h
  refine pm_met (by decide +kernel) (Nat.le_of_ble_eq_true rfl) (Nat.le_refl _) (Nat.le_refl _) ?_
  intro p e R s m args below meth c
  refine pm_blk (pc' := 1) (L' := [(0, .ref 29), (1, .int a1), (2, .int a2)]) (S' := [.int a1]) (M' := sm g u) [pm_o (.iload_n 1)] (by decide +kernel) rfl ?_
  refine pm_if_lt (off := 29) 30 (by decide +kernel) (by decide) (fun hc1 => ?_) (fun hc1 => ?_)
  · rw [if_pos hc1] at h
    refine pm_blk (pc' := 31) (L' := [(0, .ref 29), (1, .int a1), (2, .int a2)]) (S' := [.int 0]) (M' := sm g u) [pm_oi (.iconst 0) 0] (by decide +kernel) rfl ?_
    have h9 := Option.some.inj h
    subst h9
    exact pm_retz rfl (by decide +kernel) rfl rfl rfl rfl
  · rw [if_neg hc1] at h
    refine pm_blk (pc' := 9) (L' := [(0, .ref 29), (1, .int a1), (2, .int a2)]) (S' := [.int (u.1 29 9), .int a1]) (M' := sm g u) [pm_o (.iload_n 1), pm_o (.aload_n 0), pm_of (.getfield 40) 8 9 0] (by decide +kernel) rfl ?_
    refine pm_ic_ge (off := 21) 30 (by decide +kernel) (by decide) (fun hc2 => ?_) (fun hc2 => ?_)
    · rw [if_pos hc2] at h
      refine pm_blk (pc' := 31) (L' := [(0, .ref 29), (1, .int a1), (2, .int a2)]) (S' := [.int 0]) (M' := sm g u) [pm_oi (.iconst 0) 0] (by decide +kernel) rfl ?_
      have h9 := Option.some.inj h
      subst h9
      exact pm_retz rfl (by decide +kernel) rfl rfl rfl rfl
    · rw [if_neg hc2] at h
      refine pm_blk (pc' := 13) (L' := [(0, .ref 29), (1, .int a1), (2, .int a2)]) (S' := [.int a2]) (M' := sm g u) [pm_o (.iload_n 2)] (by decide +kernel) rfl ?_
      refine pm_if_lt (off := 17) 30 (by decide +kernel) (by decide) (fun hc3 => ?_) (fun hc3 => ?_)
      · rw [if_pos hc3] at h
        refine pm_blk (pc' := 31) (L' := [(0, .ref 29), (1, .int a1), (2, .int a2)]) (S' := [.int 0]) (M' := sm g u) [pm_oi (.iconst 0) 0] (by decide +kernel) rfl ?_
        have h9 := Option.some.inj h
        subst h9
        exact pm_retz rfl (by decide +kernel) rfl rfl rfl rfl
      · rw [if_neg hc3] at h
        refine pm_blk (pc' := 22) (L' := [(0, .ref 29), (1, .int a1), (2, .int a2)]) (S' := [.int a1, .ref 35, .int a2]) (M' := sm g u) [pm_o (.iload_n 2), pm_o (.aload_n 0), pm_of (.getfield 28) 8 5 2, pm_o (.iload_n 1)] (by decide +kernel) rfl ?_
        obtain ⟨ho4, h⟩ := pm_ifs h
        refine pm_iald (by decide +kernel) rfl (pm_ok_in ho4) ?_
        refine pm_blk (pc' := 23) (L' := [(0, .ref 29), (1, .int a1), (2, .int a2)]) (S' := [.int (u.1 35 a1.toNatClampNeg), .int a2]) (M' := sm g u) [] (by decide +kernel) rfl ?_
        refine pm_ic_ge (off := 7) 30 (by decide +kernel) (by decide) (fun hc5 => ?_) (fun hc5 => ?_)
        · rw [if_pos hc5] at h
          refine pm_blk (pc' := 31) (L' := [(0, .ref 29), (1, .int a1), (2, .int a2)]) (S' := [.int 0]) (M' := sm g u) [pm_oi (.iconst 0) 0] (by decide +kernel) rfl ?_
          have h9 := Option.some.inj h
          subst h9
          exact pm_retz rfl (by decide +kernel) rfl rfl rfl rfl
        · rw [if_neg hc5] at h
          refine pm_blk (pc' := 27) (L' := [(0, .ref 29), (1, .int a1), (2, .int a2)]) (S' := [.int 1]) (M' := sm g u) [pm_oi (.iconst 1) 1] (by decide +kernel) rfl ?_
          refine pm_goto (off := 4) 31 (by decide +kernel) (by decide) ?_
          have h9 := Option.some.inj h
          subst h9
          exact pm_retz rfl (by decide +kernel) rfl rfl rfl rfl
def F_Table_localType (a1 : Int32) (a2 : Int32) (g : pm_s) (u : pm_J) : Option (Int32) := (F_Table_hasLocal a1 a2 g u).bind fun q1 => if q1 = 0 then some (-1) else if pm_ok ((a1 * 24) + a2) 720 = true then some (u.1 36 (((a1 * 24) + a2).toNatClampNeg)) else none
set_option maxHeartbeats 4000000 in
set_option maxRecDepth 100000 in
theorem c_Table_localType (l : Launch) (h0 : Nat) (D : pm_D) {g : pm_s} {u : pm_J} (hT : sh_T g) {a1 : Int32} {a2 : Int32} {out : Int32} (h : F_Table_localType a1 a2 g u = some out) : pm_C l h0 D m_Table_localType (1) [.ref 29, .int a1, .int a2] (sm g u) (some (.int out)) (sm g u) := by
  unfold F_Table_localType at h
  refine pm_met (by decide +kernel) (Nat.le_of_ble_eq_true rfl) (Nat.le_refl _) (Nat.le_refl _) ?_
  intro p e R s m args below meth c
  refine pm_blk (pc' := 3) (L' := [(0, .ref 29), (1, .int a1), (2, .int a2)]) (S' := [.int a2, .int a1, .ref 29]) (M' := sm g u) [pm_o (.aload_n 0), pm_o (.iload_n 1), pm_o (.iload_n 2)] (by decide +kernel) rfl ?_
  obtain ⟨q1, hq1, h⟩ := pm_bd h
  refine pm_cV (idx := 50) m_Table_hasLocal (c_Table_hasLocal l h0 D hT hq1) (As := [.int a1, .int a2]) (S0 := []) rfl (by decide +kernel) k_Table_hasLocal l_Table_50 (Nat.le_of_ble_eq_true rfl) (Nat.le_of_ble_eq_true rfl) (Nat.le_refl _) (Nat.le_refl _) ?_
  refine pm_blk (pc' := 6) (L' := [(0, .ref 29), (1, .int a1), (2, .int a2)]) (S' := [.int q1]) (M' := sm g u) [] (by decide +kernel) rfl ?_
  refine pm_if_eq (off := 17) 23 (by decide +kernel) (by decide) (fun hc2 => ?_) (fun hc2 => ?_)
  · rw [if_pos hc2] at h
    refine pm_blk (pc' := 24) (L' := [(0, .ref 29), (1, .int a1), (2, .int a2)]) (S' := [.int (-1)]) (M' := sm g u) [pm_oi (.iconst (-1)) (-1)] (by decide +kernel) rfl ?_
    have h9 := Option.some.inj h
    subst h9
    exact pm_reti rfl (by decide +kernel) rfl rfl rfl
  · rw [if_neg hc2] at h
    refine pm_blk (pc' := 19) (L' := [(0, .ref 29), (1, .int a1), (2, .int a2)]) (S' := [.int ((a1 * 24) + a2), .ref 36]) (M' := sm g u) [pm_o (.aload_n 0), pm_of (.getfield 31) 8 6 2, pm_o (.iload_n 1), pm_oi (.bipush 24) 24, pm_o .imul, pm_o (.iload_n 2), pm_o .iadd] (by decide +kernel) rfl ?_
    obtain ⟨ho3, h⟩ := pm_ifs h
    refine pm_iald (by decide +kernel) rfl (pm_ok_in ho3) ?_
    refine pm_blk (pc' := 20) (L' := [(0, .ref 29), (1, .int a1), (2, .int a2)]) (S' := [.int (u.1 36 (((a1 * 24) + a2).toNatClampNeg))]) (M' := sm g u) [] (by decide +kernel) rfl ?_
    refine pm_goto (off := 4) 24 (by decide +kernel) (by decide) ?_
    have h9 := Option.some.inj h
    subst h9
    exact pm_reti rfl (by decide +kernel) rfl rfl rfl
def F_Table_setLocalType (a1 : Int32) (a2 : Int32) (a3 : Int32) (g : pm_s) (u : pm_J) : Option (pm_J) := (F_Table_hasLocal a1 a2 g u).bind fun q1 => if q1 = 0 then some u else if pm_ok ((a1 * 24) + a2) 720 = true then some (wi u 36 (((a1 * 24) + a2).toNatClampNeg) a3) else none
set_option maxHeartbeats 4000000 in
set_option maxRecDepth 100000 in
theorem c_Table_setLocalType (l : Launch) (h0 : Nat) (D : pm_D) {g : pm_s} {u : pm_J} (hT : sh_T g) {a1 : Int32} {a2 : Int32} {a3 : Int32} {out : pm_J} (h : F_Table_setLocalType a1 a2 a3 g u = some out) : pm_C l h0 D m_Table_setLocalType (1) [.ref 29, .int a1, .int a2, .int a3] (sm g u) none (sm g out) := by
  unfold F_Table_setLocalType at h
  refine pm_met (by decide +kernel) (Nat.le_of_ble_eq_true rfl) (Nat.le_refl _) (Nat.le_refl _) ?_
  intro p e R s m args below meth c
  refine pm_blk (pc' := 3) (L' := [(0, .ref 29), (1, .int a1), (2, .int a2), (3, .int a3)]) (S' := [.int a2, .int a1, .ref 29]) (M' := sm g u) [pm_o (.aload_n 0), pm_o (.iload_n 1), pm_o (.iload_n 2)] (by decide +kernel) rfl ?_
  obtain ⟨q1, hq1, h⟩ := pm_bd h
  refine pm_cV (idx := 50) m_Table_hasLocal (c_Table_hasLocal l h0 D hT hq1) (As := [.int a1, .int a2]) (S0 := []) rfl (by decide +kernel) k_Table_hasLocal l_Table_50 (Nat.le_of_ble_eq_true rfl) (Nat.le_of_ble_eq_true rfl) (Nat.le_refl _) (Nat.le_refl _) ?_
  refine pm_blk (pc' := 6) (L' := [(0, .ref 29), (1, .int a1), (2, .int a2), (3, .int a3)]) (S' := [.int q1]) (M' := sm g u) [] (by decide +kernel) rfl ?_
  refine pm_if_eq (off := 15) 21 (by decide +kernel) (by decide) (fun hc2 => ?_) (fun hc2 => ?_)
  · rw [if_pos hc2] at h
    have h9 := Option.some.inj h
    subst h9
    exact pm_retv rfl (by decide +kernel) rfl rfl
  · rw [if_neg hc2] at h
    refine pm_blk (pc' := 20) (L' := [(0, .ref 29), (1, .int a1), (2, .int a2), (3, .int a3)]) (S' := [.int a3, .int ((a1 * 24) + a2), .ref 36]) (M' := sm g u) [pm_o (.aload_n 0), pm_of (.getfield 31) 8 6 2, pm_o (.iload_n 1), pm_oi (.bipush 24) 24, pm_o .imul, pm_o (.iload_n 2), pm_o .iadd, pm_o (.iload_n 3)] (by decide +kernel) rfl ?_
    obtain ⟨ho3, h⟩ := pm_ifs h
    refine pm_iast (by decide +kernel) rfl  (pm_ok_in ho3) ?_
    refine pm_blk (pc' := 21) (L' := [(0, .ref 29), (1, .int a1), (2, .int a2), (3, .int a3)]) (S' := []) (M' := sm g (wi u 36 (((a1 * 24) + a2).toNatClampNeg) a3)) [] (by decide +kernel) rfl ?_
    have h9 := Option.some.inj h
    subst h9
    exact pm_retv rfl (by decide +kernel) rfl rfl
def F_Table_localBound (a1 : Int32) (a2 : Int32) (g : pm_s) (u : pm_J) : Option (Int32) := (F_Table_hasLocal a1 a2 g u).bind fun q1 => if q1 = 0 then some (-1) else if pm_ok ((a1 * 24) + a2) 720 = true then some (u.1 37 (((a1 * 24) + a2).toNatClampNeg)) else none
set_option maxHeartbeats 4000000 in
set_option maxRecDepth 100000 in
theorem c_Table_localBound (l : Launch) (h0 : Nat) (D : pm_D) {g : pm_s} {u : pm_J} (hT : sh_T g) {a1 : Int32} {a2 : Int32} {out : Int32} (h : F_Table_localBound a1 a2 g u = some out) : pm_C l h0 D m_Table_localBound (1) [.ref 29, .int a1, .int a2] (sm g u) (some (.int out)) (sm g u) := by
  unfold F_Table_localBound at h
  refine pm_met (by decide +kernel) (Nat.le_of_ble_eq_true rfl) (Nat.le_refl _) (Nat.le_refl _) ?_
  intro p e R s m args below meth c
  refine pm_blk (pc' := 3) (L' := [(0, .ref 29), (1, .int a1), (2, .int a2)]) (S' := [.int a2, .int a1, .ref 29]) (M' := sm g u) [pm_o (.aload_n 0), pm_o (.iload_n 1), pm_o (.iload_n 2)] (by decide +kernel) rfl ?_
  obtain ⟨q1, hq1, h⟩ := pm_bd h
  refine pm_cV (idx := 50) m_Table_hasLocal (c_Table_hasLocal l h0 D hT hq1) (As := [.int a1, .int a2]) (S0 := []) rfl (by decide +kernel) k_Table_hasLocal l_Table_50 (Nat.le_of_ble_eq_true rfl) (Nat.le_of_ble_eq_true rfl) (Nat.le_refl _) (Nat.le_refl _) ?_
  refine pm_blk (pc' := 6) (L' := [(0, .ref 29), (1, .int a1), (2, .int a2)]) (S' := [.int q1]) (M' := sm g u) [] (by decide +kernel) rfl ?_
  refine pm_if_eq (off := 17) 23 (by decide +kernel) (by decide) (fun hc2 => ?_) (fun hc2 => ?_)
  · rw [if_pos hc2] at h
    refine pm_blk (pc' := 24) (L' := [(0, .ref 29), (1, .int a1), (2, .int a2)]) (S' := [.int (-1)]) (M' := sm g u) [pm_oi (.iconst (-1)) (-1)] (by decide +kernel) rfl ?_
    have h9 := Option.some.inj h
    subst h9
    exact pm_reti rfl (by decide +kernel) rfl rfl rfl
  · rw [if_neg hc2] at h
    refine pm_blk (pc' := 19) (L' := [(0, .ref 29), (1, .int a1), (2, .int a2)]) (S' := [.int ((a1 * 24) + a2), .ref 37]) (M' := sm g u) [pm_o (.aload_n 0), pm_of (.getfield 34) 8 7 2, pm_o (.iload_n 1), pm_oi (.bipush 24) 24, pm_o .imul, pm_o (.iload_n 2), pm_o .iadd] (by decide +kernel) rfl ?_
    obtain ⟨ho3, h⟩ := pm_ifs h
    refine pm_iald (by decide +kernel) rfl (pm_ok_in ho3) ?_
    refine pm_blk (pc' := 20) (L' := [(0, .ref 29), (1, .int a1), (2, .int a2)]) (S' := [.int (u.1 37 (((a1 * 24) + a2).toNatClampNeg))]) (M' := sm g u) [] (by decide +kernel) rfl ?_
    refine pm_goto (off := 4) 24 (by decide +kernel) (by decide) ?_
    have h9 := Option.some.inj h
    subst h9
    exact pm_reti rfl (by decide +kernel) rfl rfl rfl
def F_Table_setLocalBound (a1 : Int32) (a2 : Int32) (a3 : Int32) (g : pm_s) (u : pm_J) : Option (pm_J) := (F_Table_hasLocal a1 a2 g u).bind fun q1 => if q1 = 0 then some u else if pm_ok ((a1 * 24) + a2) 720 = true then some (wi u 37 (((a1 * 24) + a2).toNatClampNeg) a3) else none
set_option maxHeartbeats 4000000 in
set_option maxRecDepth 100000 in
theorem c_Table_setLocalBound (l : Launch) (h0 : Nat) (D : pm_D) {g : pm_s} {u : pm_J} (hT : sh_T g) {a1 : Int32} {a2 : Int32} {a3 : Int32} {out : pm_J} (h : F_Table_setLocalBound a1 a2 a3 g u = some out) : pm_C l h0 D m_Table_setLocalBound (1) [.ref 29, .int a1, .int a2, .int a3] (sm g u) none (sm g out) := by
  unfold F_Table_setLocalBound at h
  refine pm_met (by decide +kernel) (Nat.le_of_ble_eq_true rfl) (Nat.le_refl _) (Nat.le_refl _) ?_
  intro p e R s m args below meth c
  refine pm_blk (pc' := 3) (L' := [(0, .ref 29), (1, .int a1), (2, .int a2), (3, .int a3)]) (S' := [.int a2, .int a1, .ref 29]) (M' := sm g u) [pm_o (.aload_n 0), pm_o (.iload_n 1), pm_o (.iload_n 2)] (by decide +kernel) rfl ?_
  obtain ⟨q1, hq1, h⟩ := pm_bd h
  refine pm_cV (idx := 50) m_Table_hasLocal (c_Table_hasLocal l h0 D hT hq1) (As := [.int a1, .int a2]) (S0 := []) rfl (by decide +kernel) k_Table_hasLocal l_Table_50 (Nat.le_of_ble_eq_true rfl) (Nat.le_of_ble_eq_true rfl) (Nat.le_refl _) (Nat.le_refl _) ?_
  refine pm_blk (pc' := 6) (L' := [(0, .ref 29), (1, .int a1), (2, .int a2), (3, .int a3)]) (S' := [.int q1]) (M' := sm g u) [] (by decide +kernel) rfl ?_
  refine pm_if_eq (off := 15) 21 (by decide +kernel) (by decide) (fun hc2 => ?_) (fun hc2 => ?_)
  · rw [if_pos hc2] at h
    have h9 := Option.some.inj h
    subst h9
    exact pm_retv rfl (by decide +kernel) rfl rfl
  · rw [if_neg hc2] at h
    refine pm_blk (pc' := 20) (L' := [(0, .ref 29), (1, .int a1), (2, .int a2), (3, .int a3)]) (S' := [.int a3, .int ((a1 * 24) + a2), .ref 37]) (M' := sm g u) [pm_o (.aload_n 0), pm_of (.getfield 34) 8 7 2, pm_o (.iload_n 1), pm_oi (.bipush 24) 24, pm_o .imul, pm_o (.iload_n 2), pm_o .iadd, pm_o (.iload_n 3)] (by decide +kernel) rfl ?_
    obtain ⟨ho3, h⟩ := pm_ifs h
    refine pm_iast (by decide +kernel) rfl  (pm_ok_in ho3) ?_
    refine pm_blk (pc' := 21) (L' := [(0, .ref 29), (1, .int a1), (2, .int a2), (3, .int a3)]) (S' := []) (M' := sm g (wi u 37 (((a1 * 24) + a2).toNatClampNeg) a3)) [] (by decide +kernel) rfl ?_
    have h9 := Option.some.inj h
    subst h9
    exact pm_retv rfl (by decide +kernel) rfl rfl
def F_Table_tally (a1 : Int32) (a2 : Int32) (g : pm_s) (u : pm_J) : Option (Int32) := if a1 < 0 then some 0 else if (u.1 29 9) ≤ a1 then some 0 else if a2 < 0 then some 0 else if a2 < 6 then if pm_ok ((a1 * 6) + a2) 180 = true then some (u.1 38 (((a1 * 6) + a2).toNatClampNeg)) else none else some 0
set_option maxHeartbeats 4000000 in
set_option maxRecDepth 100000 in
theorem c_Table_tally (l : Launch) (h0 : Nat) (D : pm_D) {g : pm_s} {u : pm_J} (hT : sh_T g) {a1 : Int32} {a2 : Int32} {out : Int32} (h : F_Table_tally a1 a2 g u = some out) : pm_C l h0 D m_Table_tally (0) [.ref 29, .int a1, .int a2] (sm g u) (some (.int out)) (sm g u) := by
  unfold F_Table_tally at h
  refine pm_met (by decide +kernel) (Nat.le_of_ble_eq_true rfl) (Nat.le_refl _) (Nat.le_refl _) ?_
  intro p e R s m args below meth c
  refine pm_blk (pc' := 1) (L' := [(0, .ref 29), (1, .int a1), (2, .int a2)]) (S' := [.int a1]) (M' := sm g u) [pm_o (.iload_n 1)] (by decide +kernel) rfl ?_
  refine pm_if_lt (off := 21) 22 (by decide +kernel) (by decide) (fun hc1 => ?_) (fun hc1 => ?_)
  · rw [if_pos hc1] at h
    refine pm_blk (pc' := 23) (L' := [(0, .ref 29), (1, .int a1), (2, .int a2)]) (S' := [.int 0]) (M' := sm g u) [pm_oi (.iconst 0) 0] (by decide +kernel) rfl ?_
    have h9 := Option.some.inj h
    subst h9
    exact pm_reti rfl (by decide +kernel) rfl rfl rfl
  · rw [if_neg hc1] at h
    refine pm_blk (pc' := 9) (L' := [(0, .ref 29), (1, .int a1), (2, .int a2)]) (S' := [.int (u.1 29 9), .int a1]) (M' := sm g u) [pm_o (.iload_n 1), pm_o (.aload_n 0), pm_of (.getfield 40) 8 9 0] (by decide +kernel) rfl ?_
    refine pm_ic_ge (off := 13) 22 (by decide +kernel) (by decide) (fun hc2 => ?_) (fun hc2 => ?_)
    · rw [if_pos hc2] at h
      refine pm_blk (pc' := 23) (L' := [(0, .ref 29), (1, .int a1), (2, .int a2)]) (S' := [.int 0]) (M' := sm g u) [pm_oi (.iconst 0) 0] (by decide +kernel) rfl ?_
      have h9 := Option.some.inj h
      subst h9
      exact pm_reti rfl (by decide +kernel) rfl rfl rfl
    · rw [if_neg hc2] at h
      refine pm_blk (pc' := 13) (L' := [(0, .ref 29), (1, .int a1), (2, .int a2)]) (S' := [.int a2]) (M' := sm g u) [pm_o (.iload_n 2)] (by decide +kernel) rfl ?_
      refine pm_if_lt (off := 9) 22 (by decide +kernel) (by decide) (fun hc3 => ?_) (fun hc3 => ?_)
      · rw [if_pos hc3] at h
        refine pm_blk (pc' := 23) (L' := [(0, .ref 29), (1, .int a1), (2, .int a2)]) (S' := [.int 0]) (M' := sm g u) [pm_oi (.iconst 0) 0] (by decide +kernel) rfl ?_
        have h9 := Option.some.inj h
        subst h9
        exact pm_reti rfl (by decide +kernel) rfl rfl rfl
      · rw [if_neg hc3] at h
        refine pm_blk (pc' := 19) (L' := [(0, .ref 29), (1, .int a1), (2, .int a2)]) (S' := [.int 6, .int a2]) (M' := sm g u) [pm_o (.iload_n 2), pm_oi (.bipush 6) 6] (by decide +kernel) rfl ?_
        refine pm_ic_lt (off := 5) 24 (by decide +kernel) (by decide) (fun hc4 => ?_) (fun hc4 => ?_)
        · rw [if_pos hc4] at h
          refine pm_blk (pc' := 34) (L' := [(0, .ref 29), (1, .int a1), (2, .int a2)]) (S' := [.int ((a1 * 6) + a2), .ref 38]) (M' := sm g u) [pm_o (.aload_n 0), pm_of (.getfield 37) 8 8 2, pm_o (.iload_n 1), pm_oi (.bipush 6) 6, pm_o .imul, pm_o (.iload_n 2), pm_o .iadd] (by decide +kernel) rfl ?_
          obtain ⟨ho5, h⟩ := pm_ifs h
          refine pm_iald (by decide +kernel) rfl (pm_ok_in ho5) ?_
          refine pm_blk (pc' := 35) (L' := [(0, .ref 29), (1, .int a1), (2, .int a2)]) (S' := [.int (u.1 38 (((a1 * 6) + a2).toNatClampNeg))]) (M' := sm g u) [] (by decide +kernel) rfl ?_
          have h9 := Option.some.inj h
          subst h9
          exact pm_reti rfl (by decide +kernel) rfl rfl rfl
        · rw [if_neg hc4] at h
          refine pm_blk (pc' := 23) (L' := [(0, .ref 29), (1, .int a1), (2, .int a2)]) (S' := [.int 0]) (M' := sm g u) [pm_oi (.iconst 0) 0] (by decide +kernel) rfl ?_
          have h9 := Option.some.inj h
          subst h9
          exact pm_reti rfl (by decide +kernel) rfl rfl rfl
def F_Table_count (a1 : Int32) (a2 : Int32) (a3 : Int32) (g : pm_s) (u : pm_J) : Option (pm_J) := if a1 < 0 then some u else if (u.1 29 9) ≤ a1 then some u else if a2 < 0 then some u else if 6 ≤ a2 then some u else if pm_ok ((a1 * 6) + a2) 180 = true then if pm_ok ((a1 * 6) + a2) 180 = true then some (wi u 38 (((a1 * 6) + a2).toNatClampNeg) ((u.1 38 (((a1 * 6) + a2).toNatClampNeg)) + a3)) else none else none
set_option maxHeartbeats 4000000 in
set_option maxRecDepth 100000 in
theorem c_Table_count (l : Launch) (h0 : Nat) (D : pm_D) {g : pm_s} {u : pm_J} (hT : sh_T g) {a1 : Int32} {a2 : Int32} {a3 : Int32} {out : pm_J} (h : F_Table_count a1 a2 a3 g u = some out) : pm_C l h0 D m_Table_count (0) [.ref 29, .int a1, .int a2, .int a3] (sm g u) none (sm g out) := by
  unfold F_Table_count at h
  refine pm_met (by decide +kernel) (Nat.le_of_ble_eq_true rfl) (Nat.le_refl _) (Nat.le_refl _) ?_
  intro p e R s m args below meth c
  refine pm_blk (pc' := 1) (L' := [(0, .ref 29), (1, .int a1), (2, .int a2), (3, .int a3)]) (S' := [.int a1]) (M' := sm g u) [pm_o (.iload_n 1)] (by decide +kernel) rfl ?_
  refine pm_if_lt (off := 36) 37 (by decide +kernel) (by decide) (fun hc1 => ?_) (fun hc1 => ?_)
  · rw [if_pos hc1] at h
    have h9 := Option.some.inj h
    subst h9
    exact pm_retv rfl (by decide +kernel) rfl rfl
  · rw [if_neg hc1] at h
    refine pm_blk (pc' := 9) (L' := [(0, .ref 29), (1, .int a1), (2, .int a2), (3, .int a3)]) (S' := [.int (u.1 29 9), .int a1]) (M' := sm g u) [pm_o (.iload_n 1), pm_o (.aload_n 0), pm_of (.getfield 40) 8 9 0] (by decide +kernel) rfl ?_
    refine pm_ic_ge (off := 28) 37 (by decide +kernel) (by decide) (fun hc2 => ?_) (fun hc2 => ?_)
    · rw [if_pos hc2] at h
      have h9 := Option.some.inj h
      subst h9
      exact pm_retv rfl (by decide +kernel) rfl rfl
    · rw [if_neg hc2] at h
      refine pm_blk (pc' := 13) (L' := [(0, .ref 29), (1, .int a1), (2, .int a2), (3, .int a3)]) (S' := [.int a2]) (M' := sm g u) [pm_o (.iload_n 2)] (by decide +kernel) rfl ?_
      refine pm_if_lt (off := 24) 37 (by decide +kernel) (by decide) (fun hc3 => ?_) (fun hc3 => ?_)
      · rw [if_pos hc3] at h
        have h9 := Option.some.inj h
        subst h9
        exact pm_retv rfl (by decide +kernel) rfl rfl
      · rw [if_neg hc3] at h
        refine pm_blk (pc' := 19) (L' := [(0, .ref 29), (1, .int a1), (2, .int a2), (3, .int a3)]) (S' := [.int 6, .int a2]) (M' := sm g u) [pm_o (.iload_n 2), pm_oi (.bipush 6) 6] (by decide +kernel) rfl ?_
        refine pm_ic_ge (off := 18) 37 (by decide +kernel) (by decide) (fun hc4 => ?_) (fun hc4 => ?_)
        · rw [if_pos hc4] at h
          have h9 := Option.some.inj h
          subst h9
          exact pm_retv rfl (by decide +kernel) rfl rfl
        · rw [if_neg hc4] at h
          refine pm_blk (pc' := 33) (L' := [(0, .ref 29), (1, .int a1), (2, .int a2), (3, .int a3)]) (S' := [.int ((a1 * 6) + a2), .ref 38, .int ((a1 * 6) + a2), .ref 38]) (M' := sm g u) [pm_o (.aload_n 0), pm_of (.getfield 37) 8 8 2, pm_o (.iload_n 1), pm_oi (.bipush 6) 6, pm_o .imul, pm_o (.iload_n 2), pm_o .iadd, pm_o .dup2] (by decide +kernel) rfl ?_
          obtain ⟨ho5, h⟩ := pm_ifs h
          refine pm_iald (by decide +kernel) rfl (pm_ok_in ho5) ?_
          refine pm_blk (pc' := 36) (L' := [(0, .ref 29), (1, .int a1), (2, .int a2), (3, .int a3)]) (S' := [.int ((u.1 38 (((a1 * 6) + a2).toNatClampNeg)) + a3), .int ((a1 * 6) + a2), .ref 38]) (M' := sm g u) [pm_o (.iload_n 3), pm_o .iadd] (by decide +kernel) rfl ?_
          obtain ⟨ho6, h⟩ := pm_ifs h
          refine pm_iast (by decide +kernel) rfl  (pm_ok_in ho6) ?_
          refine pm_blk (pc' := 37) (L' := [(0, .ref 29), (1, .int a1), (2, .int a2), (3, .int a3)]) (S' := []) (M' := sm g (wi u 38 (((a1 * 6) + a2).toNatClampNeg) ((u.1 38 (((a1 * 6) + a2).toNatClampNeg)) + a3))) [] (by decide +kernel) rfl ?_
          have h9 := Option.some.inj h
          subst h9
          exact pm_retv rfl (by decide +kernel) rfl rfl
def F_Tree_clear (g : pm_s) (u : pm_J) : Option (pm_J) := some (wi u 18 10 0)
set_option maxHeartbeats 4000000 in
set_option maxRecDepth 100000 in
theorem c_Tree_clear (l : Launch) (h0 : Nat) (D : pm_D) {g : pm_s} {u : pm_J} (hT : sh_T g) {out : pm_J} (h : F_Tree_clear g u = some out) : pm_C l h0 D m_Tree_clear (0) [.ref 18] (sm g u) none (sm g out) := by
  unfold F_Tree_clear at h
  refine pm_met (by decide +kernel) (Nat.le_of_ble_eq_true rfl) (Nat.le_refl _) (Nat.le_refl _) ?_
  intro p e R s m args below meth c
  refine pm_blk (pc' := 5) (L' := [(0, .ref 18)]) (S' := []) (M' := sm g (wi u 18 10 0)) [pm_o (.aload_n 0), pm_oi (.iconst 0) 0, pm_of (.putfield 46) 10 10 0] (by decide +kernel) rfl ?_
  have h9 := Option.some.inj h
  subst h9
  exact pm_retv rfl (by decide +kernel) rfl rfl
def F_Tree_size (g : pm_s) (u : pm_J) : Option (Int32) := some (u.1 18 10)
set_option maxHeartbeats 4000000 in
set_option maxRecDepth 100000 in
theorem c_Tree_size (l : Launch) (h0 : Nat) (D : pm_D) {g : pm_s} {u : pm_J} (hT : sh_T g) {out : Int32} (h : F_Tree_size g u = some out) : pm_C l h0 D m_Tree_size (0) [.ref 18] (sm g u) (some (.int out)) (sm g u) := by
  unfold F_Tree_size at h
  refine pm_met (by decide +kernel) (Nat.le_of_ble_eq_true rfl) (Nat.le_refl _) (Nat.le_refl _) ?_
  intro p e R s m args below meth c
  refine pm_blk (pc' := 4) (L' := [(0, .ref 18)]) (S' := [.int (u.1 18 10)]) (M' := sm g u) [pm_o (.aload_n 0), pm_of (.getfield 46) 10 10 0] (by decide +kernel) rfl ?_
  have h9 := Option.some.inj h
  subst h9
  exact pm_reti rfl (by decide +kernel) rfl rfl rfl
def F_Arrays_rangeCheck (a1 : Int32) (a2 : Int32) (a3 : Int32) (g : pm_s) (u : pm_J) : Option (pm_J) := if a2 ≤ a3 then if 0 ≤ a2 then if a3 ≤ a1 then some u else none else none else none
set_option maxHeartbeats 4000000 in
set_option maxRecDepth 100000 in
theorem c_Arrays_rangeCheck (l : Launch) (h0 : Nat) (D : pm_D) {g : pm_s} {u : pm_J} (hT : sh_T g) {a1 : Int32} {a2 : Int32} {a3 : Int32} {out : pm_J} (h : F_Arrays_rangeCheck a1 a2 a3 g u = some out) : pm_C l h0 D m_Arrays_rangeCheck (0) [.int a1, .int a2, .int a3] (sm g u) none (sm g out) := by
  unfold F_Arrays_rangeCheck at h
  refine pm_met (by decide +kernel) (Nat.le_of_ble_eq_true rfl) (Nat.le_refl _) (Nat.le_refl _) ?_
  intro p e R s m args below meth c
  refine pm_blk (pc' := 2) (L' := [(0, .int a1), (1, .int a2), (2, .int a3)]) (S' := [.int a3, .int a2]) (M' := sm g u) [pm_o (.iload_n 1), pm_o (.iload_n 2)] (by decide +kernel) rfl ?_
  refine pm_ic_le (off := 44) 46 (by decide +kernel) (by decide) (fun hc1 => ?_) (fun hc1 => ?_)
  · rw [if_pos hc1] at h
    refine pm_blk (pc' := 47) (L' := [(0, .int a1), (1, .int a2), (2, .int a3)]) (S' := [.int a2]) (M' := sm g u) [pm_o (.iload_n 1)] (by decide +kernel) rfl ?_
    refine pm_if_ge (off := 12) 59 (by decide +kernel) (by decide) (fun hc2 => ?_) (fun hc2 => ?_)
    · rw [if_pos hc2] at h
      refine pm_blk (pc' := 61) (L' := [(0, .int a1), (1, .int a2), (2, .int a3)]) (S' := [.int a1, .int a3]) (M' := sm g u) [pm_o (.iload_n 2), pm_o (.iload_n 0)] (by decide +kernel) rfl ?_
      refine pm_ic_le (off := 12) 73 (by decide +kernel) (by decide) (fun hc3 => ?_) (fun hc3 => ?_)
      · rw [if_pos hc3] at h
        have h9 := Option.some.inj h
        subst h9
        exact pm_retv rfl (by decide +kernel) rfl rfl
      · rw [if_neg hc3] at h
        cases h
    · rw [if_neg hc2] at h
      cases h
  · rw [if_neg hc1] at h
    cases h
def K_Arrays_fill_1_28_10 (N : Nat) (g : pm_s) : Nat → Int32 → Int32 → Int32 → pm_J → Option (pm_J)
  | 0, _, _, _, _ => none
  | n + 1, x2, x3, x4, u => if x2 ≤ x4 then some u else if pm_ok x4 7200 = true then K_Arrays_fill_1_28_10 N g  n x2 x3 (x4 + 1) (wi u 28 x4.toNatClampNeg x3) else none
set_option maxHeartbeats 4000000 in
set_option maxRecDepth 100000 in
theorem w_Arrays_fill_1_28_10 (l : Launch) (h0 : Nat) (D : pm_D) {g : pm_s} (hT : sh_T g) {N : Nat} {u0 : pm_J} {out : pm_J} {p : Program} {e : Env} {R : Room} {s : State} {m : MethodId} {args : Array Value} {below : List Frame} {meth : Method} {c : Code} : ∀ (n : Nat) (x2 : Int32) (x3 : Int32) (x4 : Int32) (u : pm_J), K_Arrays_fill_1_28_10 N g n x2 x3 x4 u = some out → pm_V (p, l, e, R, s, m, args, below, meth, c) m_Arrays_fill_1 h0 D (g.1, g.2.1, g.1, g.2.1, 1) (pm_E (p, l, e, R, s, m, args, below, meth, c) h0 D (sm g u0) none (sm g out)) 10 [(0, .ref 28), (2, .int x2), (3, .int x3), (4, .int x4)] [] (sm g u) := by
  intro n
  induction n with
  | zero => intro x2 x3 x4 u h; cases h
  | succ n ih =>
    intro x2 x3 x4 u h
    rw [K_Arrays_fill_1_28_10] at h
    refine pm_blk (pc' := 13) (L' := [(0, .ref 28), (2, .int x2), (3, .int x3), (4, .int x4)]) (S' := [.int x2, .int x4]) (M' := sm g u) [pm_o (.iload 4), pm_o (.iload_n 2)] (by decide +kernel) rfl ?_
    refine pm_ic_ge (off := 14) 27 (by decide +kernel) (by decide) (fun hc2 => ?_) (fun hc2 => ?_)
    · rw [if_pos hc2] at h
      have h9 := Option.some.inj h
      subst h9
      exact pm_retv rfl (by decide +kernel) rfl rfl
    · rw [if_neg hc2] at h
      refine pm_blk (pc' := 20) (L' := [(0, .ref 28), (2, .int x2), (3, .int x3), (4, .int x4)]) (S' := [.int x3, .int x4, .ref 28]) (M' := sm g u) [pm_o (.aload_n 0), pm_o (.iload 4), pm_o (.iload_n 3)] (by decide +kernel) rfl ?_
      obtain ⟨ho3, h⟩ := pm_ifs h
      refine pm_iast (by decide +kernel) rfl  (pm_ok_in ho3) ?_
      refine pm_blk (pc' := 24) (L' := [(4, .int (x4 + 1)), (0, .ref 28), (2, .int x2), (3, .int x3)]) (S' := []) (M' := sm g (wi u 28 x4.toNatClampNeg x3)) [pm_oi (.iinc 4 1) 1] (by decide +kernel) rfl ?_
      refine pm_goto (off := -14) 10 (by decide +kernel) (by decide) ?_
      refine pm_loc [1, 2, 3, 0] rfl ?_
      exact ih x2 x3 (x4 + 1) (wi u 28 x4.toNatClampNeg x3) h
def F_Arrays_fill_1_28 (N : Nat) (a2 : Int32) (a3 : Int32) (a4 : Int32) (g : pm_s) (u : pm_J) : Option (pm_J) := (F_Arrays_rangeCheck (Nat.toInt32 7200) a2 a3 g u).bind fun q1 => K_Arrays_fill_1_28_10 N g N a3 a4 a2 q1
set_option maxHeartbeats 4000000 in
set_option maxRecDepth 100000 in
theorem c_Arrays_fill_1_28 (l : Launch) (h0 : Nat) (D : pm_D) {g : pm_s} {u : pm_J} (hT : sh_T g) {N : Nat} {a2 : Int32} {a3 : Int32} {a4 : Int32} {out : pm_J} (h : F_Arrays_fill_1_28 N a2 a3 a4 g u = some out) : pm_C l h0 D m_Arrays_fill_1 (1) [.ref 28, .int a2, .int a3, .int a4] (sm g u) none (sm g out) := by
  unfold F_Arrays_fill_1_28 at h
  refine pm_met (by decide +kernel) (Nat.le_of_ble_eq_true rfl) (Nat.le_refl _) (Nat.le_refl _) ?_
  intro p e R s m args below meth c
  refine pm_blk (pc' := 4) (L' := [(0, .ref 28), (1, .int a2), (2, .int a3), (3, .int a4)]) (S' := [.int a3, .int a2, .int (Nat.toInt32 7200)]) (M' := sm g u) [pm_o (.aload_n 0), pm_o .arraylength, pm_o (.iload_n 1), pm_o (.iload_n 2)] (by decide +kernel) rfl ?_
  obtain ⟨q1, hq1, h⟩ := pm_bd h
  refine pm_cS (idx := 13) m_Arrays_rangeCheck (c_Arrays_rangeCheck l h0 D hT hq1) (As := [.int (Nat.toInt32 7200), .int a2, .int a3]) (S0 := []) rfl (by decide +kernel) k_Arrays_rangeCheck l_Arrays_13 (Nat.le_of_ble_eq_true rfl) (Nat.le_of_ble_eq_true rfl) (Nat.le_refl _) (Nat.le_refl _) ?_
  refine pm_blk (pc' := 10) (L' := [(4, .int a2), (0, .ref 28), (1, .int a2), (2, .int a3), (3, .int a4)]) (S' := []) (M' := sm g q1) [pm_o (.iload_n 1), pm_o (.istore 4)] (by decide +kernel) rfl ?_
  refine pm_loc [1, 3, 4, 0] rfl ?_
  exact w_Arrays_fill_1_28_10 l h0 D hT N a3 a4 a2 q1 h
def F_Tree_add (N : Nat) (a1 : Int32) (a2 : Int32) (a3 : Int32) (a4 : Int32) (a5 : Int32) (g : pm_s) (u : pm_J) : Option (Int32 × pm_J) := if (u.1 18 10) < 1800 then if pm_ok (u.1 18 10) 1800 = true then if pm_ok (u.1 18 10) 1800 = true then if pm_ok (u.1 18 10) 1800 = true then if pm_ok (u.1 18 10) 1800 = true then if pm_ok (u.1 18 10) 1800 = true then if pm_ok (u.1 18 10) 1800 = true then if pm_ok (u.1 18 10) 1800 = true then if pm_ok (u.1 18 10) 1800 = true then if pm_ok (u.1 18 10) 1800 = true then (F_Arrays_fill_1_28 N ((u.1 18 10) * 4) (((u.1 18 10) + 1) * 4) (-1) g (wi (wj (wi (wi (wi (wi (wi (wi (wi u 19 ((u.1 18 10).toNatClampNeg) a1) 20 ((u.1 18 10).toNatClampNeg) a2) 21 ((u.1 18 10).toNatClampNeg) a3) 22 ((u.1 18 10).toNatClampNeg) a4) 23 ((u.1 18 10).toNatClampNeg) a5) 24 ((u.1 18 10).toNatClampNeg) (-1)) 25 ((u.1 18 10).toNatClampNeg) (-1)) 26 ((u.1 18 10).toNatClampNeg) 0) 27 ((u.1 18 10).toNatClampNeg) 0)).bind fun q11 => some (((q11.1 18 10) + 1) - 1, (wi q11 18 10 ((q11.1 18 10) + 1))) else none else none else none else none else none else none else none else none else none else some ((-1), u)
set_option maxHeartbeats 4000000 in
set_option maxRecDepth 100000 in
theorem c_Tree_add (l : Launch) (h0 : Nat) (D : pm_D) {g : pm_s} {u : pm_J} (hT : sh_T g) {N : Nat} {a1 : Int32} {a2 : Int32} {a3 : Int32} {a4 : Int32} {a5 : Int32} {out : Int32 × pm_J} (h : F_Tree_add N a1 a2 a3 a4 a5 g u = some out) : pm_C l h0 D m_Tree_add (2) [.ref 18, .int a1, .int a2, .int a3, .int a4, .int a5] (sm g u) (some (.int out.1)) (sm g out.2) := by
  unfold F_Tree_add at h
  refine pm_met (by decide +kernel) (Nat.le_of_ble_eq_true rfl) (Nat.le_refl _) (Nat.le_refl _) ?_
  intro p e R s m args below meth c
  refine pm_blk (pc' := 7) (L' := [(0, .ref 18), (1, .int a1), (2, .int a2), (3, .int a3), (4, .int a4), (5, .int a5)]) (S' := [.int 1800, .int (u.1 18 10)]) (M' := sm g u) [pm_o (.aload_n 0), pm_of (.getfield 46) 10 10 0, pm_oi (.sipush 1800) 1800] (by decide +kernel) rfl ?_
  refine pm_ic_lt (off := 5) 12 (by decide +kernel) (by decide) (fun hc1 => ?_) (fun hc1 => ?_)
  · rw [if_pos hc1] at h
    refine pm_blk (pc' := 21) (L' := [(0, .ref 18), (1, .int a1), (2, .int a2), (3, .int a3), (4, .int a4), (5, .int a5)]) (S' := [.int a1, .int (u.1 18 10), .ref 19]) (M' := sm g u) [pm_o (.aload_n 0), pm_of (.getfield 11) 10 0 2, pm_o (.aload_n 0), pm_of (.getfield 46) 10 10 0, pm_o (.iload_n 1)] (by decide +kernel) rfl ?_
    obtain ⟨ho2, h⟩ := pm_ifs h
    refine pm_iast (by decide +kernel) rfl  (pm_ok_in ho2) ?_
    refine pm_blk (pc' := 31) (L' := [(0, .ref 18), (1, .int a1), (2, .int a2), (3, .int a3), (4, .int a4), (5, .int a5)]) (S' := [.int a2, .int (u.1 18 10), .ref 20]) (M' := sm g (wi u 19 ((u.1 18 10).toNatClampNeg) a1)) [pm_o (.aload_n 0), pm_of (.getfield 15) 10 1 2, pm_o (.aload_n 0), pm_of (.getfield 46) 10 10 0, pm_o (.iload_n 2)] (by decide +kernel) rfl ?_
    obtain ⟨ho3, h⟩ := pm_ifs h
    refine pm_iast (by decide +kernel) rfl  (pm_ok_in ho3) ?_
    refine pm_blk (pc' := 41) (L' := [(0, .ref 18), (1, .int a1), (2, .int a2), (3, .int a3), (4, .int a4), (5, .int a5)]) (S' := [.int a3, .int (u.1 18 10), .ref 21]) (M' := sm g (wi (wi u 19 ((u.1 18 10).toNatClampNeg) a1) 20 ((u.1 18 10).toNatClampNeg) a2)) [pm_o (.aload_n 0), pm_of (.getfield 18) 10 2 2, pm_o (.aload_n 0), pm_of (.getfield 46) 10 10 0, pm_o (.iload_n 3)] (by decide +kernel) rfl ?_
    obtain ⟨ho4, h⟩ := pm_ifs h
    refine pm_iast (by decide +kernel) rfl  (pm_ok_in ho4) ?_
    refine pm_blk (pc' := 52) (L' := [(0, .ref 18), (1, .int a1), (2, .int a2), (3, .int a3), (4, .int a4), (5, .int a5)]) (S' := [.int a4, .int (u.1 18 10), .ref 22]) (M' := sm g (wi (wi (wi u 19 ((u.1 18 10).toNatClampNeg) a1) 20 ((u.1 18 10).toNatClampNeg) a2) 21 ((u.1 18 10).toNatClampNeg) a3)) [pm_o (.aload_n 0), pm_of (.getfield 21) 10 3 2, pm_o (.aload_n 0), pm_of (.getfield 46) 10 10 0, pm_o (.iload 4)] (by decide +kernel) rfl ?_
    obtain ⟨ho5, h⟩ := pm_ifs h
    refine pm_iast (by decide +kernel) rfl  (pm_ok_in ho5) ?_
    refine pm_blk (pc' := 63) (L' := [(0, .ref 18), (1, .int a1), (2, .int a2), (3, .int a3), (4, .int a4), (5, .int a5)]) (S' := [.int a5, .int (u.1 18 10), .ref 23]) (M' := sm g (wi (wi (wi (wi u 19 ((u.1 18 10).toNatClampNeg) a1) 20 ((u.1 18 10).toNatClampNeg) a2) 21 ((u.1 18 10).toNatClampNeg) a3) 22 ((u.1 18 10).toNatClampNeg) a4)) [pm_o (.aload_n 0), pm_of (.getfield 24) 10 4 2, pm_o (.aload_n 0), pm_of (.getfield 46) 10 10 0, pm_o (.iload 5)] (by decide +kernel) rfl ?_
    obtain ⟨ho6, h⟩ := pm_ifs h
    refine pm_iast (by decide +kernel) rfl  (pm_ok_in ho6) ?_
    refine pm_blk (pc' := 73) (L' := [(0, .ref 18), (1, .int a1), (2, .int a2), (3, .int a3), (4, .int a4), (5, .int a5)]) (S' := [.int (-1), .int (u.1 18 10), .ref 24]) (M' := sm g (wi (wi (wi (wi (wi u 19 ((u.1 18 10).toNatClampNeg) a1) 20 ((u.1 18 10).toNatClampNeg) a2) 21 ((u.1 18 10).toNatClampNeg) a3) 22 ((u.1 18 10).toNatClampNeg) a4) 23 ((u.1 18 10).toNatClampNeg) a5)) [pm_o (.aload_n 0), pm_of (.getfield 27) 10 5 2, pm_o (.aload_n 0), pm_of (.getfield 46) 10 10 0, pm_oi (.iconst (-1)) (-1)] (by decide +kernel) rfl ?_
    obtain ⟨ho7, h⟩ := pm_ifs h
    refine pm_iast (by decide +kernel) rfl  (pm_ok_in ho7) ?_
    refine pm_blk (pc' := 83) (L' := [(0, .ref 18), (1, .int a1), (2, .int a2), (3, .int a3), (4, .int a4), (5, .int a5)]) (S' := [.int (-1), .int (u.1 18 10), .ref 25]) (M' := sm g (wi (wi (wi (wi (wi (wi u 19 ((u.1 18 10).toNatClampNeg) a1) 20 ((u.1 18 10).toNatClampNeg) a2) 21 ((u.1 18 10).toNatClampNeg) a3) 22 ((u.1 18 10).toNatClampNeg) a4) 23 ((u.1 18 10).toNatClampNeg) a5) 24 ((u.1 18 10).toNatClampNeg) (-1))) [pm_o (.aload_n 0), pm_of (.getfield 30) 10 6 2, pm_o (.aload_n 0), pm_of (.getfield 46) 10 10 0, pm_oi (.iconst (-1)) (-1)] (by decide +kernel) rfl ?_
    obtain ⟨ho8, h⟩ := pm_ifs h
    refine pm_iast (by decide +kernel) rfl  (pm_ok_in ho8) ?_
    refine pm_blk (pc' := 93) (L' := [(0, .ref 18), (1, .int a1), (2, .int a2), (3, .int a3), (4, .int a4), (5, .int a5)]) (S' := [.long 0, .int (u.1 18 10), .ref 26]) (M' := sm g (wi (wi (wi (wi (wi (wi (wi u 19 ((u.1 18 10).toNatClampNeg) a1) 20 ((u.1 18 10).toNatClampNeg) a2) 21 ((u.1 18 10).toNatClampNeg) a3) 22 ((u.1 18 10).toNatClampNeg) a4) 23 ((u.1 18 10).toNatClampNeg) a5) 24 ((u.1 18 10).toNatClampNeg) (-1)) 25 ((u.1 18 10).toNatClampNeg) (-1))) [pm_o (.aload_n 0), pm_of (.getfield 33) 10 7 2, pm_o (.aload_n 0), pm_of (.getfield 46) 10 10 0, pm_ol (.lconst 0) 0] (by decide +kernel) rfl ?_
    obtain ⟨ho9, h⟩ := pm_ifs h
    refine pm_last (by decide +kernel) rfl  (pm_ok_in ho9) ?_
    refine pm_blk (pc' := 103) (L' := [(0, .ref 18), (1, .int a1), (2, .int a2), (3, .int a3), (4, .int a4), (5, .int a5)]) (S' := [.int 0, .int (u.1 18 10), .ref 27]) (M' := sm g (wj (wi (wi (wi (wi (wi (wi (wi u 19 ((u.1 18 10).toNatClampNeg) a1) 20 ((u.1 18 10).toNatClampNeg) a2) 21 ((u.1 18 10).toNatClampNeg) a3) 22 ((u.1 18 10).toNatClampNeg) a4) 23 ((u.1 18 10).toNatClampNeg) a5) 24 ((u.1 18 10).toNatClampNeg) (-1)) 25 ((u.1 18 10).toNatClampNeg) (-1)) 26 ((u.1 18 10).toNatClampNeg) 0)) [pm_o (.aload_n 0), pm_of (.getfield 37) 10 8 2, pm_o (.aload_n 0), pm_of (.getfield 46) 10 10 0, pm_oi (.iconst 0) 0] (by decide +kernel) rfl ?_
    obtain ⟨ho10, h⟩ := pm_ifs h
    refine pm_zast (by decide +kernel) rfl rfl (pm_ok_in ho10) ?_
    refine pm_blk (pc' := 123) (L' := [(0, .ref 18), (1, .int a1), (2, .int a2), (3, .int a3), (4, .int a4), (5, .int a5)]) (S' := [.int (-1), .int (((u.1 18 10) + 1) * 4), .int ((u.1 18 10) * 4), .ref 28]) (M' := sm g (wi (wj (wi (wi (wi (wi (wi (wi (wi u 19 ((u.1 18 10).toNatClampNeg) a1) 20 ((u.1 18 10).toNatClampNeg) a2) 21 ((u.1 18 10).toNatClampNeg) a3) 22 ((u.1 18 10).toNatClampNeg) a4) 23 ((u.1 18 10).toNatClampNeg) a5) 24 ((u.1 18 10).toNatClampNeg) (-1)) 25 ((u.1 18 10).toNatClampNeg) (-1)) 26 ((u.1 18 10).toNatClampNeg) 0) 27 ((u.1 18 10).toNatClampNeg) 0)) [pm_o (.aload_n 0), pm_of (.getfield 43) 10 9 2, pm_o (.aload_n 0), pm_of (.getfield 46) 10 10 0, pm_oi (.iconst 4) 4, pm_o .imul, pm_o (.aload_n 0), pm_of (.getfield 46) 10 10 0, pm_oi (.iconst 1) 1, pm_o .iadd, pm_oi (.iconst 4) 4, pm_o .imul, pm_oi (.iconst (-1)) (-1)] (by decide +kernel) rfl ?_
    obtain ⟨q11, hq11, h⟩ := pm_bd h
    refine pm_cS (idx := 50) m_Arrays_fill_1 (c_Arrays_fill_1_28 l h0 D hT hq11) (As := [.ref 28, .int ((u.1 18 10) * 4), .int (((u.1 18 10) + 1) * 4), .int (-1)]) (S0 := []) rfl (by decide +kernel) k_Arrays_fill_1 l_Tree_50 (Nat.le_of_ble_eq_true rfl) (Nat.le_of_ble_eq_true rfl) (Nat.le_refl _) (Nat.le_refl _) ?_
    refine pm_blk (pc' := 142) (L' := [(0, .ref 18), (1, .int a1), (2, .int a2), (3, .int a3), (4, .int a4), (5, .int a5)]) (S' := [.int (((q11.1 18 10) + 1) - 1)]) (M' := sm g (wi q11 18 10 ((q11.1 18 10) + 1))) [pm_o (.aload_n 0), pm_o .dup, pm_of (.getfield 46) 10 10 0, pm_oi (.iconst 1) 1, pm_o .iadd, pm_of (.putfield 46) 10 10 0, pm_o (.aload_n 0), pm_of (.getfield 46) 10 10 0, pm_oi (.iconst 1) 1, pm_o .isub] (by decide +kernel) rfl ?_
    have h9 := Option.some.inj h
    subst h9
    exact pm_reti rfl (by decide +kernel) rfl rfl rfl
  · rw [if_neg hc1] at h
    refine pm_blk (pc' := 11) (L' := [(0, .ref 18), (1, .int a1), (2, .int a2), (3, .int a3), (4, .int a4), (5, .int a5)]) (S' := [.int (-1)]) (M' := sm g u) [pm_oi (.iconst (-1)) (-1)] (by decide +kernel) rfl ?_
    have h9 := Option.some.inj h
    subst h9
    exact pm_reti rfl (by decide +kernel) rfl rfl rfl
def F_Tree_kind (a1 : Int32) (g : pm_s) (u : pm_J) : Option (Int32) := if a1 < 0 then some (-1) else if (u.1 18 10) ≤ a1 then some (-1) else if pm_ok a1 1800 = true then some (u.1 19 a1.toNatClampNeg) else none
set_option maxHeartbeats 4000000 in
set_option maxRecDepth 100000 in
theorem c_Tree_kind (l : Launch) (h0 : Nat) (D : pm_D) {g : pm_s} {u : pm_J} (hT : sh_T g) {a1 : Int32} {out : Int32} (h : F_Tree_kind a1 g u = some out) : pm_C l h0 D m_Tree_kind (0) [.ref 18, .int a1] (sm g u) (some (.int out)) (sm g u) := by
  unfold F_Tree_kind at h
  refine pm_met (by decide +kernel) (Nat.le_of_ble_eq_true rfl) (Nat.le_refl _) (Nat.le_refl _) ?_
  intro p e R s m args below meth c
  refine pm_blk (pc' := 1) (L' := [(0, .ref 18), (1, .int a1)]) (S' := [.int a1]) (M' := sm g u) [pm_o (.iload_n 1)] (by decide +kernel) rfl ?_
  refine pm_if_lt (off := 20) 21 (by decide +kernel) (by decide) (fun hc1 => ?_) (fun hc1 => ?_)
  · rw [if_pos hc1] at h
    refine pm_blk (pc' := 22) (L' := [(0, .ref 18), (1, .int a1)]) (S' := [.int (-1)]) (M' := sm g u) [pm_oi (.iconst (-1)) (-1)] (by decide +kernel) rfl ?_
    have h9 := Option.some.inj h
    subst h9
    exact pm_reti rfl (by decide +kernel) rfl rfl rfl
  · rw [if_neg hc1] at h
    refine pm_blk (pc' := 9) (L' := [(0, .ref 18), (1, .int a1)]) (S' := [.int (u.1 18 10), .int a1]) (M' := sm g u) [pm_o (.iload_n 1), pm_o (.aload_n 0), pm_of (.getfield 46) 10 10 0] (by decide +kernel) rfl ?_
    refine pm_ic_ge (off := 12) 21 (by decide +kernel) (by decide) (fun hc2 => ?_) (fun hc2 => ?_)
    · rw [if_pos hc2] at h
      refine pm_blk (pc' := 22) (L' := [(0, .ref 18), (1, .int a1)]) (S' := [.int (-1)]) (M' := sm g u) [pm_oi (.iconst (-1)) (-1)] (by decide +kernel) rfl ?_
      have h9 := Option.some.inj h
      subst h9
      exact pm_reti rfl (by decide +kernel) rfl rfl rfl
    · rw [if_neg hc2] at h
      refine pm_blk (pc' := 17) (L' := [(0, .ref 18), (1, .int a1)]) (S' := [.int a1, .ref 19]) (M' := sm g u) [pm_o (.aload_n 0), pm_of (.getfield 11) 10 0 2, pm_o (.iload_n 1)] (by decide +kernel) rfl ?_
      obtain ⟨ho3, h⟩ := pm_ifs h
      refine pm_iald (by decide +kernel) rfl (pm_ok_in ho3) ?_
      refine pm_blk (pc' := 18) (L' := [(0, .ref 18), (1, .int a1)]) (S' := [.int (u.1 19 a1.toNatClampNeg)]) (M' := sm g u) [] (by decide +kernel) rfl ?_
      refine pm_goto (off := 4) 22 (by decide +kernel) (by decide) ?_
      have h9 := Option.some.inj h
      subst h9
      exact pm_reti rfl (by decide +kernel) rfl rfl rfl
def F_Tree_turnInto (a1 : Int32) (a2 : Int32) (g : pm_s) (u : pm_J) : Option (pm_J) := if a1 < 0 then some u else if (u.1 18 10) ≤ a1 then some u else if pm_ok a1 1800 = true then some (wi u 19 a1.toNatClampNeg a2) else none
set_option maxHeartbeats 4000000 in
set_option maxRecDepth 100000 in
theorem c_Tree_turnInto (l : Launch) (h0 : Nat) (D : pm_D) {g : pm_s} {u : pm_J} (hT : sh_T g) {a1 : Int32} {a2 : Int32} {out : pm_J} (h : F_Tree_turnInto a1 a2 g u = some out) : pm_C l h0 D m_Tree_turnInto (0) [.ref 18, .int a1, .int a2] (sm g u) none (sm g out) := by
  unfold F_Tree_turnInto at h
  refine pm_met (by decide +kernel) (Nat.le_of_ble_eq_true rfl) (Nat.le_refl _) (Nat.le_refl _) ?_
  intro p e R s m args below meth c
  refine pm_blk (pc' := 1) (L' := [(0, .ref 18), (1, .int a1), (2, .int a2)]) (S' := [.int a1]) (M' := sm g u) [pm_o (.iload_n 1)] (by decide +kernel) rfl ?_
  refine pm_if_lt (off := 18) 19 (by decide +kernel) (by decide) (fun hc1 => ?_) (fun hc1 => ?_)
  · rw [if_pos hc1] at h
    have h9 := Option.some.inj h
    subst h9
    exact pm_retv rfl (by decide +kernel) rfl rfl
  · rw [if_neg hc1] at h
    refine pm_blk (pc' := 9) (L' := [(0, .ref 18), (1, .int a1), (2, .int a2)]) (S' := [.int (u.1 18 10), .int a1]) (M' := sm g u) [pm_o (.iload_n 1), pm_o (.aload_n 0), pm_of (.getfield 46) 10 10 0] (by decide +kernel) rfl ?_
    refine pm_ic_ge (off := 10) 19 (by decide +kernel) (by decide) (fun hc2 => ?_) (fun hc2 => ?_)
    · rw [if_pos hc2] at h
      have h9 := Option.some.inj h
      subst h9
      exact pm_retv rfl (by decide +kernel) rfl rfl
    · rw [if_neg hc2] at h
      refine pm_blk (pc' := 18) (L' := [(0, .ref 18), (1, .int a1), (2, .int a2)]) (S' := [.int a2, .int a1, .ref 19]) (M' := sm g u) [pm_o (.aload_n 0), pm_of (.getfield 11) 10 0 2, pm_o (.iload_n 1), pm_o (.iload_n 2)] (by decide +kernel) rfl ?_
      obtain ⟨ho3, h⟩ := pm_ifs h
      refine pm_iast (by decide +kernel) rfl  (pm_ok_in ho3) ?_
      refine pm_blk (pc' := 19) (L' := [(0, .ref 18), (1, .int a1), (2, .int a2)]) (S' := []) (M' := sm g (wi u 19 a1.toNatClampNeg a2)) [] (by decide +kernel) rfl ?_
      have h9 := Option.some.inj h
      subst h9
      exact pm_retv rfl (by decide +kernel) rfl rfl
def F_Tree_placeOf (a1 : Int32) (g : pm_s) (u : pm_J) : Option (Int32) := if a1 < 0 then some (-1) else if (u.1 18 10) ≤ a1 then some (-1) else if pm_ok a1 1800 = true then some (u.1 20 a1.toNatClampNeg) else none
set_option maxHeartbeats 4000000 in
set_option maxRecDepth 100000 in
theorem c_Tree_placeOf (l : Launch) (h0 : Nat) (D : pm_D) {g : pm_s} {u : pm_J} (hT : sh_T g) {a1 : Int32} {out : Int32} (h : F_Tree_placeOf a1 g u = some out) : pm_C l h0 D m_Tree_placeOf (0) [.ref 18, .int a1] (sm g u) (some (.int out)) (sm g u) := by
  unfold F_Tree_placeOf at h
  refine pm_met (by decide +kernel) (Nat.le_of_ble_eq_true rfl) (Nat.le_refl _) (Nat.le_refl _) ?_
  intro p e R s m args below meth c
  refine pm_blk (pc' := 1) (L' := [(0, .ref 18), (1, .int a1)]) (S' := [.int a1]) (M' := sm g u) [pm_o (.iload_n 1)] (by decide +kernel) rfl ?_
  refine pm_if_lt (off := 20) 21 (by decide +kernel) (by decide) (fun hc1 => ?_) (fun hc1 => ?_)
  · rw [if_pos hc1] at h
    refine pm_blk (pc' := 22) (L' := [(0, .ref 18), (1, .int a1)]) (S' := [.int (-1)]) (M' := sm g u) [pm_oi (.iconst (-1)) (-1)] (by decide +kernel) rfl ?_
    have h9 := Option.some.inj h
    subst h9
    exact pm_reti rfl (by decide +kernel) rfl rfl rfl
  · rw [if_neg hc1] at h
    refine pm_blk (pc' := 9) (L' := [(0, .ref 18), (1, .int a1)]) (S' := [.int (u.1 18 10), .int a1]) (M' := sm g u) [pm_o (.iload_n 1), pm_o (.aload_n 0), pm_of (.getfield 46) 10 10 0] (by decide +kernel) rfl ?_
    refine pm_ic_ge (off := 12) 21 (by decide +kernel) (by decide) (fun hc2 => ?_) (fun hc2 => ?_)
    · rw [if_pos hc2] at h
      refine pm_blk (pc' := 22) (L' := [(0, .ref 18), (1, .int a1)]) (S' := [.int (-1)]) (M' := sm g u) [pm_oi (.iconst (-1)) (-1)] (by decide +kernel) rfl ?_
      have h9 := Option.some.inj h
      subst h9
      exact pm_reti rfl (by decide +kernel) rfl rfl rfl
    · rw [if_neg hc2] at h
      refine pm_blk (pc' := 17) (L' := [(0, .ref 18), (1, .int a1)]) (S' := [.int a1, .ref 20]) (M' := sm g u) [pm_o (.aload_n 0), pm_of (.getfield 15) 10 1 2, pm_o (.iload_n 1)] (by decide +kernel) rfl ?_
      obtain ⟨ho3, h⟩ := pm_ifs h
      refine pm_iald (by decide +kernel) rfl (pm_ok_in ho3) ?_
      refine pm_blk (pc' := 18) (L' := [(0, .ref 18), (1, .int a1)]) (S' := [.int (u.1 20 a1.toNatClampNeg)]) (M' := sm g u) [] (by decide +kernel) rfl ?_
      refine pm_goto (off := 4) 22 (by decide +kernel) (by decide) ?_
      have h9 := Option.some.inj h
      subst h9
      exact pm_reti rfl (by decide +kernel) rfl rfl rfl
def F_Tree_first (a1 : Int32) (g : pm_s) (u : pm_J) : Option (Int32) := if a1 < 0 then some (-1) else if (u.1 18 10) ≤ a1 then some (-1) else if pm_ok a1 1800 = true then some (u.1 21 a1.toNatClampNeg) else none
set_option maxHeartbeats 4000000 in
set_option maxRecDepth 100000 in
theorem c_Tree_first (l : Launch) (h0 : Nat) (D : pm_D) {g : pm_s} {u : pm_J} (hT : sh_T g) {a1 : Int32} {out : Int32} (h : F_Tree_first a1 g u = some out) : pm_C l h0 D m_Tree_first (0) [.ref 18, .int a1] (sm g u) (some (.int out)) (sm g u) := by
  unfold F_Tree_first at h
  refine pm_met (by decide +kernel) (Nat.le_of_ble_eq_true rfl) (Nat.le_refl _) (Nat.le_refl _) ?_
  intro p e R s m args below meth c
  refine pm_blk (pc' := 1) (L' := [(0, .ref 18), (1, .int a1)]) (S' := [.int a1]) (M' := sm g u) [pm_o (.iload_n 1)] (by decide +kernel) rfl ?_
  refine pm_if_lt (off := 20) 21 (by decide +kernel) (by decide) (fun hc1 => ?_) (fun hc1 => ?_)
  · rw [if_pos hc1] at h
    refine pm_blk (pc' := 22) (L' := [(0, .ref 18), (1, .int a1)]) (S' := [.int (-1)]) (M' := sm g u) [pm_oi (.iconst (-1)) (-1)] (by decide +kernel) rfl ?_
    have h9 := Option.some.inj h
    subst h9
    exact pm_reti rfl (by decide +kernel) rfl rfl rfl
  · rw [if_neg hc1] at h
    refine pm_blk (pc' := 9) (L' := [(0, .ref 18), (1, .int a1)]) (S' := [.int (u.1 18 10), .int a1]) (M' := sm g u) [pm_o (.iload_n 1), pm_o (.aload_n 0), pm_of (.getfield 46) 10 10 0] (by decide +kernel) rfl ?_
    refine pm_ic_ge (off := 12) 21 (by decide +kernel) (by decide) (fun hc2 => ?_) (fun hc2 => ?_)
    · rw [if_pos hc2] at h
      refine pm_blk (pc' := 22) (L' := [(0, .ref 18), (1, .int a1)]) (S' := [.int (-1)]) (M' := sm g u) [pm_oi (.iconst (-1)) (-1)] (by decide +kernel) rfl ?_
      have h9 := Option.some.inj h
      subst h9
      exact pm_reti rfl (by decide +kernel) rfl rfl rfl
    · rw [if_neg hc2] at h
      refine pm_blk (pc' := 17) (L' := [(0, .ref 18), (1, .int a1)]) (S' := [.int a1, .ref 21]) (M' := sm g u) [pm_o (.aload_n 0), pm_of (.getfield 18) 10 2 2, pm_o (.iload_n 1)] (by decide +kernel) rfl ?_
      obtain ⟨ho3, h⟩ := pm_ifs h
      refine pm_iald (by decide +kernel) rfl (pm_ok_in ho3) ?_
      refine pm_blk (pc' := 18) (L' := [(0, .ref 18), (1, .int a1)]) (S' := [.int (u.1 21 a1.toNatClampNeg)]) (M' := sm g u) [] (by decide +kernel) rfl ?_
      refine pm_goto (off := 4) 22 (by decide +kernel) (by decide) ?_
      have h9 := Option.some.inj h
      subst h9
      exact pm_reti rfl (by decide +kernel) rfl rfl rfl
def F_Tree_second (a1 : Int32) (g : pm_s) (u : pm_J) : Option (Int32) := if a1 < 0 then some (-1) else if (u.1 18 10) ≤ a1 then some (-1) else if pm_ok a1 1800 = true then some (u.1 22 a1.toNatClampNeg) else none
set_option maxHeartbeats 4000000 in
set_option maxRecDepth 100000 in
theorem c_Tree_second (l : Launch) (h0 : Nat) (D : pm_D) {g : pm_s} {u : pm_J} (hT : sh_T g) {a1 : Int32} {out : Int32} (h : F_Tree_second a1 g u = some out) : pm_C l h0 D m_Tree_second (0) [.ref 18, .int a1] (sm g u) (some (.int out)) (sm g u) := by
  unfold F_Tree_second at h
  refine pm_met (by decide +kernel) (Nat.le_of_ble_eq_true rfl) (Nat.le_refl _) (Nat.le_refl _) ?_
  intro p e R s m args below meth c
  refine pm_blk (pc' := 1) (L' := [(0, .ref 18), (1, .int a1)]) (S' := [.int a1]) (M' := sm g u) [pm_o (.iload_n 1)] (by decide +kernel) rfl ?_
  refine pm_if_lt (off := 20) 21 (by decide +kernel) (by decide) (fun hc1 => ?_) (fun hc1 => ?_)
  · rw [if_pos hc1] at h
    refine pm_blk (pc' := 22) (L' := [(0, .ref 18), (1, .int a1)]) (S' := [.int (-1)]) (M' := sm g u) [pm_oi (.iconst (-1)) (-1)] (by decide +kernel) rfl ?_
    have h9 := Option.some.inj h
    subst h9
    exact pm_reti rfl (by decide +kernel) rfl rfl rfl
  · rw [if_neg hc1] at h
    refine pm_blk (pc' := 9) (L' := [(0, .ref 18), (1, .int a1)]) (S' := [.int (u.1 18 10), .int a1]) (M' := sm g u) [pm_o (.iload_n 1), pm_o (.aload_n 0), pm_of (.getfield 46) 10 10 0] (by decide +kernel) rfl ?_
    refine pm_ic_ge (off := 12) 21 (by decide +kernel) (by decide) (fun hc2 => ?_) (fun hc2 => ?_)
    · rw [if_pos hc2] at h
      refine pm_blk (pc' := 22) (L' := [(0, .ref 18), (1, .int a1)]) (S' := [.int (-1)]) (M' := sm g u) [pm_oi (.iconst (-1)) (-1)] (by decide +kernel) rfl ?_
      have h9 := Option.some.inj h
      subst h9
      exact pm_reti rfl (by decide +kernel) rfl rfl rfl
    · rw [if_neg hc2] at h
      refine pm_blk (pc' := 17) (L' := [(0, .ref 18), (1, .int a1)]) (S' := [.int a1, .ref 22]) (M' := sm g u) [pm_o (.aload_n 0), pm_of (.getfield 21) 10 3 2, pm_o (.iload_n 1)] (by decide +kernel) rfl ?_
      obtain ⟨ho3, h⟩ := pm_ifs h
      refine pm_iald (by decide +kernel) rfl (pm_ok_in ho3) ?_
      refine pm_blk (pc' := 18) (L' := [(0, .ref 18), (1, .int a1)]) (S' := [.int (u.1 22 a1.toNatClampNeg)]) (M' := sm g u) [] (by decide +kernel) rfl ?_
      refine pm_goto (off := 4) 22 (by decide +kernel) (by decide) ?_
      have h9 := Option.some.inj h
      subst h9
      exact pm_reti rfl (by decide +kernel) rfl rfl rfl
def F_Tree_third (a1 : Int32) (g : pm_s) (u : pm_J) : Option (Int32) := if a1 < 0 then some (-1) else if (u.1 18 10) ≤ a1 then some (-1) else if pm_ok a1 1800 = true then some (u.1 23 a1.toNatClampNeg) else none
set_option maxHeartbeats 4000000 in
set_option maxRecDepth 100000 in
theorem c_Tree_third (l : Launch) (h0 : Nat) (D : pm_D) {g : pm_s} {u : pm_J} (hT : sh_T g) {a1 : Int32} {out : Int32} (h : F_Tree_third a1 g u = some out) : pm_C l h0 D m_Tree_third (0) [.ref 18, .int a1] (sm g u) (some (.int out)) (sm g u) := by
  unfold F_Tree_third at h
  refine pm_met (by decide +kernel) (Nat.le_of_ble_eq_true rfl) (Nat.le_refl _) (Nat.le_refl _) ?_
  intro p e R s m args below meth c
  refine pm_blk (pc' := 1) (L' := [(0, .ref 18), (1, .int a1)]) (S' := [.int a1]) (M' := sm g u) [pm_o (.iload_n 1)] (by decide +kernel) rfl ?_
  refine pm_if_lt (off := 20) 21 (by decide +kernel) (by decide) (fun hc1 => ?_) (fun hc1 => ?_)
  · rw [if_pos hc1] at h
    refine pm_blk (pc' := 22) (L' := [(0, .ref 18), (1, .int a1)]) (S' := [.int (-1)]) (M' := sm g u) [pm_oi (.iconst (-1)) (-1)] (by decide +kernel) rfl ?_
    have h9 := Option.some.inj h
    subst h9
    exact pm_reti rfl (by decide +kernel) rfl rfl rfl
  · rw [if_neg hc1] at h
    refine pm_blk (pc' := 9) (L' := [(0, .ref 18), (1, .int a1)]) (S' := [.int (u.1 18 10), .int a1]) (M' := sm g u) [pm_o (.iload_n 1), pm_o (.aload_n 0), pm_of (.getfield 46) 10 10 0] (by decide +kernel) rfl ?_
    refine pm_ic_ge (off := 12) 21 (by decide +kernel) (by decide) (fun hc2 => ?_) (fun hc2 => ?_)
    · rw [if_pos hc2] at h
      refine pm_blk (pc' := 22) (L' := [(0, .ref 18), (1, .int a1)]) (S' := [.int (-1)]) (M' := sm g u) [pm_oi (.iconst (-1)) (-1)] (by decide +kernel) rfl ?_
      have h9 := Option.some.inj h
      subst h9
      exact pm_reti rfl (by decide +kernel) rfl rfl rfl
    · rw [if_neg hc2] at h
      refine pm_blk (pc' := 17) (L' := [(0, .ref 18), (1, .int a1)]) (S' := [.int a1, .ref 23]) (M' := sm g u) [pm_o (.aload_n 0), pm_of (.getfield 24) 10 4 2, pm_o (.iload_n 1)] (by decide +kernel) rfl ?_
      obtain ⟨ho3, h⟩ := pm_ifs h
      refine pm_iald (by decide +kernel) rfl (pm_ok_in ho3) ?_
      refine pm_blk (pc' := 18) (L' := [(0, .ref 18), (1, .int a1)]) (S' := [.int (u.1 23 a1.toNatClampNeg)]) (M' := sm g u) [] (by decide +kernel) rfl ?_
      refine pm_goto (off := 4) 22 (by decide +kernel) (by decide) ?_
      have h9 := Option.some.inj h
      subst h9
      exact pm_reti rfl (by decide +kernel) rfl rfl rfl
def F_Tree_next (a1 : Int32) (g : pm_s) (u : pm_J) : Option (Int32) := if a1 < 0 then some (-1) else if (u.1 18 10) ≤ a1 then some (-1) else if pm_ok a1 1800 = true then some (u.1 24 a1.toNatClampNeg) else none
set_option maxHeartbeats 4000000 in
set_option maxRecDepth 100000 in
theorem c_Tree_next (l : Launch) (h0 : Nat) (D : pm_D) {g : pm_s} {u : pm_J} (hT : sh_T g) {a1 : Int32} {out : Int32} (h : F_Tree_next a1 g u = some out) : pm_C l h0 D m_Tree_next (0) [.ref 18, .int a1] (sm g u) (some (.int out)) (sm g u) := by
  unfold F_Tree_next at h
  refine pm_met (by decide +kernel) (Nat.le_of_ble_eq_true rfl) (Nat.le_refl _) (Nat.le_refl _) ?_
  intro p e R s m args below meth c
  refine pm_blk (pc' := 1) (L' := [(0, .ref 18), (1, .int a1)]) (S' := [.int a1]) (M' := sm g u) [pm_o (.iload_n 1)] (by decide +kernel) rfl ?_
  refine pm_if_lt (off := 20) 21 (by decide +kernel) (by decide) (fun hc1 => ?_) (fun hc1 => ?_)
  · rw [if_pos hc1] at h
    refine pm_blk (pc' := 22) (L' := [(0, .ref 18), (1, .int a1)]) (S' := [.int (-1)]) (M' := sm g u) [pm_oi (.iconst (-1)) (-1)] (by decide +kernel) rfl ?_
    have h9 := Option.some.inj h
    subst h9
    exact pm_reti rfl (by decide +kernel) rfl rfl rfl
  · rw [if_neg hc1] at h
    refine pm_blk (pc' := 9) (L' := [(0, .ref 18), (1, .int a1)]) (S' := [.int (u.1 18 10), .int a1]) (M' := sm g u) [pm_o (.iload_n 1), pm_o (.aload_n 0), pm_of (.getfield 46) 10 10 0] (by decide +kernel) rfl ?_
    refine pm_ic_ge (off := 12) 21 (by decide +kernel) (by decide) (fun hc2 => ?_) (fun hc2 => ?_)
    · rw [if_pos hc2] at h
      refine pm_blk (pc' := 22) (L' := [(0, .ref 18), (1, .int a1)]) (S' := [.int (-1)]) (M' := sm g u) [pm_oi (.iconst (-1)) (-1)] (by decide +kernel) rfl ?_
      have h9 := Option.some.inj h
      subst h9
      exact pm_reti rfl (by decide +kernel) rfl rfl rfl
    · rw [if_neg hc2] at h
      refine pm_blk (pc' := 17) (L' := [(0, .ref 18), (1, .int a1)]) (S' := [.int a1, .ref 24]) (M' := sm g u) [pm_o (.aload_n 0), pm_of (.getfield 27) 10 5 2, pm_o (.iload_n 1)] (by decide +kernel) rfl ?_
      obtain ⟨ho3, h⟩ := pm_ifs h
      refine pm_iald (by decide +kernel) rfl (pm_ok_in ho3) ?_
      refine pm_blk (pc' := 18) (L' := [(0, .ref 18), (1, .int a1)]) (S' := [.int (u.1 24 a1.toNatClampNeg)]) (M' := sm g u) [] (by decide +kernel) rfl ?_
      refine pm_goto (off := 4) 22 (by decide +kernel) (by decide) ?_
      have h9 := Option.some.inj h
      subst h9
      exact pm_reti rfl (by decide +kernel) rfl rfl rfl
def F_Tree_chain (a1 : Int32) (a2 : Int32) (g : pm_s) (u : pm_J) : Option (pm_J) := if a1 < 0 then some u else if (u.1 18 10) ≤ a1 then some u else if pm_ok a1 1800 = true then some (wi u 24 a1.toNatClampNeg a2) else none
set_option maxHeartbeats 4000000 in
set_option maxRecDepth 100000 in
theorem c_Tree_chain (l : Launch) (h0 : Nat) (D : pm_D) {g : pm_s} {u : pm_J} (hT : sh_T g) {a1 : Int32} {a2 : Int32} {out : pm_J} (h : F_Tree_chain a1 a2 g u = some out) : pm_C l h0 D m_Tree_chain (0) [.ref 18, .int a1, .int a2] (sm g u) none (sm g out) := by
  unfold F_Tree_chain at h
  refine pm_met (by decide +kernel) (Nat.le_of_ble_eq_true rfl) (Nat.le_refl _) (Nat.le_refl _) ?_
  intro p e R s m args below meth c
  refine pm_blk (pc' := 1) (L' := [(0, .ref 18), (1, .int a1), (2, .int a2)]) (S' := [.int a1]) (M' := sm g u) [pm_o (.iload_n 1)] (by decide +kernel) rfl ?_
  refine pm_if_lt (off := 18) 19 (by decide +kernel) (by decide) (fun hc1 => ?_) (fun hc1 => ?_)
  · rw [if_pos hc1] at h
    have h9 := Option.some.inj h
    subst h9
    exact pm_retv rfl (by decide +kernel) rfl rfl
  · rw [if_neg hc1] at h
    refine pm_blk (pc' := 9) (L' := [(0, .ref 18), (1, .int a1), (2, .int a2)]) (S' := [.int (u.1 18 10), .int a1]) (M' := sm g u) [pm_o (.iload_n 1), pm_o (.aload_n 0), pm_of (.getfield 46) 10 10 0] (by decide +kernel) rfl ?_
    refine pm_ic_ge (off := 10) 19 (by decide +kernel) (by decide) (fun hc2 => ?_) (fun hc2 => ?_)
    · rw [if_pos hc2] at h
      have h9 := Option.some.inj h
      subst h9
      exact pm_retv rfl (by decide +kernel) rfl rfl
    · rw [if_neg hc2] at h
      refine pm_blk (pc' := 18) (L' := [(0, .ref 18), (1, .int a1), (2, .int a2)]) (S' := [.int a2, .int a1, .ref 24]) (M' := sm g u) [pm_o (.aload_n 0), pm_of (.getfield 27) 10 5 2, pm_o (.iload_n 1), pm_o (.iload_n 2)] (by decide +kernel) rfl ?_
      obtain ⟨ho3, h⟩ := pm_ifs h
      refine pm_iast (by decide +kernel) rfl  (pm_ok_in ho3) ?_
      refine pm_blk (pc' := 19) (L' := [(0, .ref 18), (1, .int a1), (2, .int a2)]) (S' := []) (M' := sm g (wi u 24 a1.toNatClampNeg a2)) [] (by decide +kernel) rfl ?_
      have h9 := Option.some.inj h
      subst h9
      exact pm_retv rfl (by decide +kernel) rfl rfl
def F_Tree_type (a1 : Int32) (g : pm_s) (u : pm_J) : Option (Int32) := if a1 < 0 then some (-1) else if (u.1 18 10) ≤ a1 then some (-1) else if pm_ok a1 1800 = true then some (u.1 25 a1.toNatClampNeg) else none
set_option maxHeartbeats 4000000 in
set_option maxRecDepth 100000 in
theorem c_Tree_type (l : Launch) (h0 : Nat) (D : pm_D) {g : pm_s} {u : pm_J} (hT : sh_T g) {a1 : Int32} {out : Int32} (h : F_Tree_type a1 g u = some out) : pm_C l h0 D m_Tree_type (0) [.ref 18, .int a1] (sm g u) (some (.int out)) (sm g u) := by
  unfold F_Tree_type at h
  refine pm_met (by decide +kernel) (Nat.le_of_ble_eq_true rfl) (Nat.le_refl _) (Nat.le_refl _) ?_
  intro p e R s m args below meth c
  refine pm_blk (pc' := 1) (L' := [(0, .ref 18), (1, .int a1)]) (S' := [.int a1]) (M' := sm g u) [pm_o (.iload_n 1)] (by decide +kernel) rfl ?_
  refine pm_if_lt (off := 20) 21 (by decide +kernel) (by decide) (fun hc1 => ?_) (fun hc1 => ?_)
  · rw [if_pos hc1] at h
    refine pm_blk (pc' := 22) (L' := [(0, .ref 18), (1, .int a1)]) (S' := [.int (-1)]) (M' := sm g u) [pm_oi (.iconst (-1)) (-1)] (by decide +kernel) rfl ?_
    have h9 := Option.some.inj h
    subst h9
    exact pm_reti rfl (by decide +kernel) rfl rfl rfl
  · rw [if_neg hc1] at h
    refine pm_blk (pc' := 9) (L' := [(0, .ref 18), (1, .int a1)]) (S' := [.int (u.1 18 10), .int a1]) (M' := sm g u) [pm_o (.iload_n 1), pm_o (.aload_n 0), pm_of (.getfield 46) 10 10 0] (by decide +kernel) rfl ?_
    refine pm_ic_ge (off := 12) 21 (by decide +kernel) (by decide) (fun hc2 => ?_) (fun hc2 => ?_)
    · rw [if_pos hc2] at h
      refine pm_blk (pc' := 22) (L' := [(0, .ref 18), (1, .int a1)]) (S' := [.int (-1)]) (M' := sm g u) [pm_oi (.iconst (-1)) (-1)] (by decide +kernel) rfl ?_
      have h9 := Option.some.inj h
      subst h9
      exact pm_reti rfl (by decide +kernel) rfl rfl rfl
    · rw [if_neg hc2] at h
      refine pm_blk (pc' := 17) (L' := [(0, .ref 18), (1, .int a1)]) (S' := [.int a1, .ref 25]) (M' := sm g u) [pm_o (.aload_n 0), pm_of (.getfield 30) 10 6 2, pm_o (.iload_n 1)] (by decide +kernel) rfl ?_
      obtain ⟨ho3, h⟩ := pm_ifs h
      refine pm_iald (by decide +kernel) rfl (pm_ok_in ho3) ?_
      refine pm_blk (pc' := 18) (L' := [(0, .ref 18), (1, .int a1)]) (S' := [.int (u.1 25 a1.toNatClampNeg)]) (M' := sm g u) [] (by decide +kernel) rfl ?_
      refine pm_goto (off := 4) 22 (by decide +kernel) (by decide) ?_
      have h9 := Option.some.inj h
      subst h9
      exact pm_reti rfl (by decide +kernel) rfl rfl rfl
def F_Tree_setType (a1 : Int32) (a2 : Int32) (g : pm_s) (u : pm_J) : Option (pm_J) := if a1 < 0 then some u else if (u.1 18 10) ≤ a1 then some u else if pm_ok a1 1800 = true then some (wi u 25 a1.toNatClampNeg a2) else none
set_option maxHeartbeats 4000000 in
set_option maxRecDepth 100000 in
theorem c_Tree_setType (l : Launch) (h0 : Nat) (D : pm_D) {g : pm_s} {u : pm_J} (hT : sh_T g) {a1 : Int32} {a2 : Int32} {out : pm_J} (h : F_Tree_setType a1 a2 g u = some out) : pm_C l h0 D m_Tree_setType (0) [.ref 18, .int a1, .int a2] (sm g u) none (sm g out) := by
  unfold F_Tree_setType at h
  refine pm_met (by decide +kernel) (Nat.le_of_ble_eq_true rfl) (Nat.le_refl _) (Nat.le_refl _) ?_
  intro p e R s m args below meth c
  refine pm_blk (pc' := 1) (L' := [(0, .ref 18), (1, .int a1), (2, .int a2)]) (S' := [.int a1]) (M' := sm g u) [pm_o (.iload_n 1)] (by decide +kernel) rfl ?_
  refine pm_if_lt (off := 18) 19 (by decide +kernel) (by decide) (fun hc1 => ?_) (fun hc1 => ?_)
  · rw [if_pos hc1] at h
    have h9 := Option.some.inj h
    subst h9
    exact pm_retv rfl (by decide +kernel) rfl rfl
  · rw [if_neg hc1] at h
    refine pm_blk (pc' := 9) (L' := [(0, .ref 18), (1, .int a1), (2, .int a2)]) (S' := [.int (u.1 18 10), .int a1]) (M' := sm g u) [pm_o (.iload_n 1), pm_o (.aload_n 0), pm_of (.getfield 46) 10 10 0] (by decide +kernel) rfl ?_
    refine pm_ic_ge (off := 10) 19 (by decide +kernel) (by decide) (fun hc2 => ?_) (fun hc2 => ?_)
    · rw [if_pos hc2] at h
      have h9 := Option.some.inj h
      subst h9
      exact pm_retv rfl (by decide +kernel) rfl rfl
    · rw [if_neg hc2] at h
      refine pm_blk (pc' := 18) (L' := [(0, .ref 18), (1, .int a1), (2, .int a2)]) (S' := [.int a2, .int a1, .ref 25]) (M' := sm g u) [pm_o (.aload_n 0), pm_of (.getfield 30) 10 6 2, pm_o (.iload_n 1), pm_o (.iload_n 2)] (by decide +kernel) rfl ?_
      obtain ⟨ho3, h⟩ := pm_ifs h
      refine pm_iast (by decide +kernel) rfl  (pm_ok_in ho3) ?_
      refine pm_blk (pc' := 19) (L' := [(0, .ref 18), (1, .int a1), (2, .int a2)]) (S' := []) (M' := sm g (wi u 25 a1.toNatClampNeg a2)) [] (by decide +kernel) rfl ?_
      have h9 := Option.some.inj h
      subst h9
      exact pm_retv rfl (by decide +kernel) rfl rfl
def F_Tree_value (a1 : Int32) (g : pm_s) (u : pm_J) : Option (Int64) := if a1 < 0 then some 0 else if (u.1 18 10) ≤ a1 then some 0 else if pm_ok a1 1800 = true then some (u.2 26 a1.toNatClampNeg) else none
set_option maxHeartbeats 4000000 in
set_option maxRecDepth 100000 in
theorem c_Tree_value (l : Launch) (h0 : Nat) (D : pm_D) {g : pm_s} {u : pm_J} (hT : sh_T g) {a1 : Int32} {out : Int64} (h : F_Tree_value a1 g u = some out) : pm_C l h0 D m_Tree_value (0) [.ref 18, .int a1] (sm g u) (some (.long out)) (sm g u) := by
  unfold F_Tree_value at h
  refine pm_met (by decide +kernel) (Nat.le_of_ble_eq_true rfl) (Nat.le_refl _) (Nat.le_refl _) ?_
  intro p e R s m args below meth c
  refine pm_blk (pc' := 1) (L' := [(0, .ref 18), (1, .int a1)]) (S' := [.int a1]) (M' := sm g u) [pm_o (.iload_n 1)] (by decide +kernel) rfl ?_
  refine pm_if_lt (off := 20) 21 (by decide +kernel) (by decide) (fun hc1 => ?_) (fun hc1 => ?_)
  · rw [if_pos hc1] at h
    refine pm_blk (pc' := 22) (L' := [(0, .ref 18), (1, .int a1)]) (S' := [.long 0]) (M' := sm g u) [pm_ol (.lconst 0) 0] (by decide +kernel) rfl ?_
    have h9 := Option.some.inj h
    subst h9
    exact pm_retl rfl (by decide +kernel) rfl rfl rfl
  · rw [if_neg hc1] at h
    refine pm_blk (pc' := 9) (L' := [(0, .ref 18), (1, .int a1)]) (S' := [.int (u.1 18 10), .int a1]) (M' := sm g u) [pm_o (.iload_n 1), pm_o (.aload_n 0), pm_of (.getfield 46) 10 10 0] (by decide +kernel) rfl ?_
    refine pm_ic_ge (off := 12) 21 (by decide +kernel) (by decide) (fun hc2 => ?_) (fun hc2 => ?_)
    · rw [if_pos hc2] at h
      refine pm_blk (pc' := 22) (L' := [(0, .ref 18), (1, .int a1)]) (S' := [.long 0]) (M' := sm g u) [pm_ol (.lconst 0) 0] (by decide +kernel) rfl ?_
      have h9 := Option.some.inj h
      subst h9
      exact pm_retl rfl (by decide +kernel) rfl rfl rfl
    · rw [if_neg hc2] at h
      refine pm_blk (pc' := 17) (L' := [(0, .ref 18), (1, .int a1)]) (S' := [.int a1, .ref 26]) (M' := sm g u) [pm_o (.aload_n 0), pm_of (.getfield 33) 10 7 2, pm_o (.iload_n 1)] (by decide +kernel) rfl ?_
      obtain ⟨ho3, h⟩ := pm_ifs h
      refine pm_lald (by decide +kernel) rfl (pm_ok_in ho3) ?_
      refine pm_blk (pc' := 18) (L' := [(0, .ref 18), (1, .int a1)]) (S' := [.long (u.2 26 a1.toNatClampNeg)]) (M' := sm g u) [] (by decide +kernel) rfl ?_
      refine pm_goto (off := 4) 22 (by decide +kernel) (by decide) ?_
      have h9 := Option.some.inj h
      subst h9
      exact pm_retl rfl (by decide +kernel) rfl rfl rfl
def F_Tree_setValue (a1 : Int32) (a2 : Int64) (g : pm_s) (u : pm_J) : Option (pm_J) := if a1 < 0 then some u else if (u.1 18 10) ≤ a1 then some u else if pm_ok a1 1800 = true then some (wj u 26 a1.toNatClampNeg a2) else none
set_option maxHeartbeats 4000000 in
set_option maxRecDepth 100000 in
theorem c_Tree_setValue (l : Launch) (h0 : Nat) (D : pm_D) {g : pm_s} {u : pm_J} (hT : sh_T g) {a1 : Int32} {a2 : Int64} {out : pm_J} (h : F_Tree_setValue a1 a2 g u = some out) : pm_C l h0 D m_Tree_setValue (0) [.ref 18, .int a1, .long a2] (sm g u) none (sm g out) := by
  unfold F_Tree_setValue at h
  refine pm_met (by decide +kernel) (Nat.le_of_ble_eq_true rfl) (Nat.le_refl _) (Nat.le_refl _) ?_
  intro p e R s m args below meth c
  refine pm_blk (pc' := 1) (L' := [(0, .ref 18), (1, .int a1), (2, .long a2)]) (S' := [.int a1]) (M' := sm g u) [pm_o (.iload_n 1)] (by decide +kernel) rfl ?_
  refine pm_if_lt (off := 18) 19 (by decide +kernel) (by decide) (fun hc1 => ?_) (fun hc1 => ?_)
  · rw [if_pos hc1] at h
    have h9 := Option.some.inj h
    subst h9
    exact pm_retv rfl (by decide +kernel) rfl rfl
  · rw [if_neg hc1] at h
    refine pm_blk (pc' := 9) (L' := [(0, .ref 18), (1, .int a1), (2, .long a2)]) (S' := [.int (u.1 18 10), .int a1]) (M' := sm g u) [pm_o (.iload_n 1), pm_o (.aload_n 0), pm_of (.getfield 46) 10 10 0] (by decide +kernel) rfl ?_
    refine pm_ic_ge (off := 10) 19 (by decide +kernel) (by decide) (fun hc2 => ?_) (fun hc2 => ?_)
    · rw [if_pos hc2] at h
      have h9 := Option.some.inj h
      subst h9
      exact pm_retv rfl (by decide +kernel) rfl rfl
    · rw [if_neg hc2] at h
      refine pm_blk (pc' := 18) (L' := [(0, .ref 18), (1, .int a1), (2, .long a2)]) (S' := [.long a2, .int a1, .ref 26]) (M' := sm g u) [pm_o (.aload_n 0), pm_of (.getfield 33) 10 7 2, pm_o (.iload_n 1), pm_o (.lload_n 2)] (by decide +kernel) rfl ?_
      obtain ⟨ho3, h⟩ := pm_ifs h
      refine pm_last (by decide +kernel) rfl  (pm_ok_in ho3) ?_
      refine pm_blk (pc' := 19) (L' := [(0, .ref 18), (1, .int a1), (2, .long a2)]) (S' := []) (M' := sm g (wj u 26 a1.toNatClampNeg a2)) [] (by decide +kernel) rfl ?_
      have h9 := Option.some.inj h
      subst h9
      exact pm_retv rfl (by decide +kernel) rfl rfl
def F_Tree_isShort (a1 : Int32) (g : pm_s) (u : pm_J) : Option (Int32) := if a1 < 0 then some 0 else if (u.1 18 10) ≤ a1 then some 0 else if pm_ok a1 1800 = true then if (u.1 27 a1.toNatClampNeg) = 0 then some 0 else some 1 else none
set_option maxHeartbeats 4000000 in
set_option maxRecDepth 100000 in
theorem c_Tree_isShort (l : Launch) (h0 : Nat) (D : pm_D) {g : pm_s} {u : pm_J} (hT : sh_T g) {a1 : Int32} {out : Int32} (h : F_Tree_isShort a1 g u = some out) : pm_C l h0 D m_Tree_isShort (0) [.ref 18, .int a1] (sm g u) (some (.int out)) (sm g u) := by
  unfold F_Tree_isShort at h
  refine pm_met (by decide +kernel) (Nat.le_of_ble_eq_true rfl) (Nat.le_refl _) (Nat.le_refl _) ?_
  intro p e R s m args below meth c
  refine pm_blk (pc' := 1) (L' := [(0, .ref 18), (1, .int a1)]) (S' := [.int a1]) (M' := sm g u) [pm_o (.iload_n 1)] (by decide +kernel) rfl ?_
  refine pm_if_lt (off := 24) 25 (by decide +kernel) (by decide) (fun hc1 => ?_) (fun hc1 => ?_)
  · rw [if_pos hc1] at h
    refine pm_blk (pc' := 26) (L' := [(0, .ref 18), (1, .int a1)]) (S' := [.int 0]) (M' := sm g u) [pm_oi (.iconst 0) 0] (by decide +kernel) rfl ?_
    have h9 := Option.some.inj h
    subst h9
    exact pm_retz rfl (by decide +kernel) rfl rfl rfl rfl
  · rw [if_neg hc1] at h
    refine pm_blk (pc' := 9) (L' := [(0, .ref 18), (1, .int a1)]) (S' := [.int (u.1 18 10), .int a1]) (M' := sm g u) [pm_o (.iload_n 1), pm_o (.aload_n 0), pm_of (.getfield 46) 10 10 0] (by decide +kernel) rfl ?_
    refine pm_ic_ge (off := 16) 25 (by decide +kernel) (by decide) (fun hc2 => ?_) (fun hc2 => ?_)
    · rw [if_pos hc2] at h
      refine pm_blk (pc' := 26) (L' := [(0, .ref 18), (1, .int a1)]) (S' := [.int 0]) (M' := sm g u) [pm_oi (.iconst 0) 0] (by decide +kernel) rfl ?_
      have h9 := Option.some.inj h
      subst h9
      exact pm_retz rfl (by decide +kernel) rfl rfl rfl rfl
    · rw [if_neg hc2] at h
      refine pm_blk (pc' := 17) (L' := [(0, .ref 18), (1, .int a1)]) (S' := [.int a1, .ref 27]) (M' := sm g u) [pm_o (.aload_n 0), pm_of (.getfield 37) 10 8 2, pm_o (.iload_n 1)] (by decide +kernel) rfl ?_
      obtain ⟨ho3, h⟩ := pm_ifs h
      refine pm_zald (by decide +kernel) rfl (pm_ok_in ho3) ?_
      refine pm_blk (pc' := 18) (L' := [(0, .ref 18), (1, .int a1)]) (S' := [.int (u.1 27 a1.toNatClampNeg)]) (M' := sm g u) [] (by decide +kernel) rfl ?_
      refine pm_if_eq (off := 7) 25 (by decide +kernel) (by decide) (fun hc4 => ?_) (fun hc4 => ?_)
      · rw [if_pos hc4] at h
        refine pm_blk (pc' := 26) (L' := [(0, .ref 18), (1, .int a1)]) (S' := [.int 0]) (M' := sm g u) [pm_oi (.iconst 0) 0] (by decide +kernel) rfl ?_
        have h9 := Option.some.inj h
        subst h9
        exact pm_retz rfl (by decide +kernel) rfl rfl rfl rfl
      · rw [if_neg hc4] at h
        refine pm_blk (pc' := 22) (L' := [(0, .ref 18), (1, .int a1)]) (S' := [.int 1]) (M' := sm g u) [pm_oi (.iconst 1) 1] (by decide +kernel) rfl ?_
        refine pm_goto (off := 4) 26 (by decide +kernel) (by decide) ?_
        have h9 := Option.some.inj h
        subst h9
        exact pm_retz rfl (by decide +kernel) rfl rfl rfl rfl
def F_Tree_markShort (a1 : Int32) (g : pm_s) (u : pm_J) : Option (pm_J) := if a1 < 0 then some u else if (u.1 18 10) ≤ a1 then some u else if pm_ok a1 1800 = true then some (wi u 27 a1.toNatClampNeg 1) else none
set_option maxHeartbeats 4000000 in
set_option maxRecDepth 100000 in
theorem c_Tree_markShort (l : Launch) (h0 : Nat) (D : pm_D) {g : pm_s} {u : pm_J} (hT : sh_T g) {a1 : Int32} {out : pm_J} (h : F_Tree_markShort a1 g u = some out) : pm_C l h0 D m_Tree_markShort (0) [.ref 18, .int a1] (sm g u) none (sm g out) := by
  unfold F_Tree_markShort at h
  refine pm_met (by decide +kernel) (Nat.le_of_ble_eq_true rfl) (Nat.le_refl _) (Nat.le_refl _) ?_
  intro p e R s m args below meth c
  refine pm_blk (pc' := 1) (L' := [(0, .ref 18), (1, .int a1)]) (S' := [.int a1]) (M' := sm g u) [pm_o (.iload_n 1)] (by decide +kernel) rfl ?_
  refine pm_if_lt (off := 18) 19 (by decide +kernel) (by decide) (fun hc1 => ?_) (fun hc1 => ?_)
  · rw [if_pos hc1] at h
    have h9 := Option.some.inj h
    subst h9
    exact pm_retv rfl (by decide +kernel) rfl rfl
  · rw [if_neg hc1] at h
    refine pm_blk (pc' := 9) (L' := [(0, .ref 18), (1, .int a1)]) (S' := [.int (u.1 18 10), .int a1]) (M' := sm g u) [pm_o (.iload_n 1), pm_o (.aload_n 0), pm_of (.getfield 46) 10 10 0] (by decide +kernel) rfl ?_
    refine pm_ic_ge (off := 10) 19 (by decide +kernel) (by decide) (fun hc2 => ?_) (fun hc2 => ?_)
    · rw [if_pos hc2] at h
      have h9 := Option.some.inj h
      subst h9
      exact pm_retv rfl (by decide +kernel) rfl rfl
    · rw [if_neg hc2] at h
      refine pm_blk (pc' := 18) (L' := [(0, .ref 18), (1, .int a1)]) (S' := [.int 1, .int a1, .ref 27]) (M' := sm g u) [pm_o (.aload_n 0), pm_of (.getfield 37) 10 8 2, pm_o (.iload_n 1), pm_oi (.iconst 1) 1] (by decide +kernel) rfl ?_
      obtain ⟨ho3, h⟩ := pm_ifs h
      refine pm_zast (by decide +kernel) rfl rfl (pm_ok_in ho3) ?_
      refine pm_blk (pc' := 19) (L' := [(0, .ref 18), (1, .int a1)]) (S' := []) (M' := sm g (wi u 27 a1.toNatClampNeg 1)) [] (by decide +kernel) rfl ?_
      have h9 := Option.some.inj h
      subst h9
      exact pm_retv rfl (by decide +kernel) rfl rfl
