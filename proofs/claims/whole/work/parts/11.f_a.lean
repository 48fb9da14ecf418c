def F_Fault_clear_3 (g : pm_s) (u : pm_J) : Option (pm_J) := some (wi (wi u 3 0 0) 3 1 (-1))
set_option maxHeartbeats 4000000 in
set_option maxRecDepth 100000 in
theorem c_Fault_clear_3 (l : Launch) (h0 : Nat) (D : va_G) {g : pm_s} {u : pm_J} (hT : sh_T g) {out : pm_J} (h : F_Fault_clear_3 g u = some out) : pm_C l h0 D m_Fault_clear 0 [.ref 3] (sm g u) none (sm g out) := by
  refine pm_met (by decide +kernel) (Nat.le_of_ble_eq_true rfl) (Nat.le_refl _) (Nat.le_refl _) ?_
  intro p e R s m args below meth c
  unfold F_Fault_clear_3 at h
  refine pm_blk (pc' := 10) (L' := [(0, .ref 3)]) (S' := []) (M' := sm g (wi (wi u 3 0 0) 3 1 (-1))) [pm_o (.aload_n 0), pm_oi (.iconst 0) 0, pm_of (.putfield 9) 3 0 0, pm_o (.aload_n 0), pm_oi (.iconst (-1)) (-1), pm_of (.putfield 15) 3 1 0] (by decide +kernel) rfl ?_
  have h9 := Option.some.inj h
  subst h9
  exact pm_retv rfl (by decide +kernel) rfl rfl
def F_Fault_clear_4 (g : pm_s) (u : pm_J) : Option (pm_J) := some (wi (wi u 4 0 0) 4 1 (-1))
set_option maxHeartbeats 4000000 in
set_option maxRecDepth 100000 in
theorem c_Fault_clear_4 (l : Launch) (h0 : Nat) (D : va_G) {g : pm_s} {u : pm_J} (hT : sh_T g) {out : pm_J} (h : F_Fault_clear_4 g u = some out) : pm_C l h0 D m_Fault_clear 0 [.ref 4] (sm g u) none (sm g out) := by
  refine pm_met (by decide +kernel) (Nat.le_of_ble_eq_true rfl) (Nat.le_refl _) (Nat.le_refl _) ?_
  intro p e R s m args below meth c
  unfold F_Fault_clear_4 at h
  refine pm_blk (pc' := 10) (L' := [(0, .ref 4)]) (S' := []) (M' := sm g (wi (wi u 4 0 0) 4 1 (-1))) [pm_o (.aload_n 0), pm_oi (.iconst 0) 0, pm_of (.putfield 9) 3 0 0, pm_o (.aload_n 0), pm_oi (.iconst (-1)) (-1), pm_of (.putfield 15) 3 1 0] (by decide +kernel) rfl ?_
  have h9 := Option.some.inj h
  subst h9
  exact pm_retv rfl (by decide +kernel) rfl rfl
def F_Fault_tell_3 (a1 : Int32) (a2 : Int32) (g : pm_s) (u : pm_J) : Option (pm_J) := if (u.1 3 0) = 0 then some (wi (wi u 3 0 a1) 3 1 a2) else some u
set_option maxHeartbeats 4000000 in
set_option maxRecDepth 100000 in
theorem c_Fault_tell_3 (l : Launch) (h0 : Nat) (D : va_G) {g : pm_s} {u : pm_J} (hT : sh_T g) {a1 : Int32} {a2 : Int32} {out : pm_J} (h : F_Fault_tell_3 a1 a2 g u = some out) : pm_C l h0 D m_Fault_tell 0 [.ref 3, .int a1, .int a2] (sm g u) none (sm g out) := by
  refine pm_met (by decide +kernel) (Nat.le_of_ble_eq_true rfl) (Nat.le_refl _) (Nat.le_refl _) ?_
  intro p e R s m args below meth c
  unfold F_Fault_tell_3 at h
  refine pm_blk (pc' := 4) (L' := [(0, .ref 3), (1, .int a1), (2, .int a2)]) (S' := [.int (u.1 3 0)]) (M' := sm g u) [pm_o (.aload_n 0), pm_of (.getfield 9) 3 0 0] (by decide +kernel) rfl ?_
  refine pm_if_ne (off := 13) 17 (by decide +kernel) (by decide) (fun hc1 => ?_) (fun hc1 => ?_)
  · rw [if_neg hc1] at h
    have h9 := Option.some.inj h
    subst h9
    exact pm_retv rfl (by decide +kernel) rfl rfl
  · rw [if_pos hc1] at h
    refine pm_blk (pc' := 17) (L' := [(0, .ref 3), (1, .int a1), (2, .int a2)]) (S' := []) (M' := sm g (wi (wi u 3 0 a1) 3 1 a2)) [pm_o (.aload_n 0), pm_o (.iload_n 1), pm_of (.putfield 9) 3 0 0, pm_o (.aload_n 0), pm_o (.iload_n 2), pm_of (.putfield 15) 3 1 0] (by decide +kernel) rfl ?_
    have h9 := Option.some.inj h
    subst h9
    exact pm_retv rfl (by decide +kernel) rfl rfl
def F_Fault_tell_4 (a1 : Int32) (a2 : Int32) (g : pm_s) (u : pm_J) : Option (pm_J) := if (u.1 4 0) = 0 then some (wi (wi u 4 0 a1) 4 1 a2) else some u
set_option maxHeartbeats 4000000 in
set_option maxRecDepth 100000 in
theorem c_Fault_tell_4 (l : Launch) (h0 : Nat) (D : va_G) {g : pm_s} {u : pm_J} (hT : sh_T g) {a1 : Int32} {a2 : Int32} {out : pm_J} (h : F_Fault_tell_4 a1 a2 g u = some out) : pm_C l h0 D m_Fault_tell 0 [.ref 4, .int a1, .int a2] (sm g u) none (sm g out) := by
  refine pm_met (by decide +kernel) (Nat.le_of_ble_eq_true rfl) (Nat.le_refl _) (Nat.le_refl _) ?_
  intro p e R s m args below meth c
  unfold F_Fault_tell_4 at h
  refine pm_blk (pc' := 4) (L' := [(0, .ref 4), (1, .int a1), (2, .int a2)]) (S' := [.int (u.1 4 0)]) (M' := sm g u) [pm_o (.aload_n 0), pm_of (.getfield 9) 3 0 0] (by decide +kernel) rfl ?_
  refine pm_if_ne (off := 13) 17 (by decide +kernel) (by decide) (fun hc1 => ?_) (fun hc1 => ?_)
  · rw [if_neg hc1] at h
    have h9 := Option.some.inj h
    subst h9
    exact pm_retv rfl (by decide +kernel) rfl rfl
  · rw [if_pos hc1] at h
    refine pm_blk (pc' := 17) (L' := [(0, .ref 4), (1, .int a1), (2, .int a2)]) (S' := []) (M' := sm g (wi (wi u 4 0 a1) 4 1 a2)) [pm_o (.aload_n 0), pm_o (.iload_n 1), pm_of (.putfield 9) 3 0 0, pm_o (.aload_n 0), pm_o (.iload_n 2), pm_of (.putfield 15) 3 1 0] (by decide +kernel) rfl ?_
    have h9 := Option.some.inj h
    subst h9
    exact pm_retv rfl (by decide +kernel) rfl rfl
def F_Fault_isTold_3 (g : pm_s) (u : pm_J) : Option (Int32) := if (u.1 3 0) = 0 then some 0 else some 1
set_option maxHeartbeats 4000000 in
set_option maxRecDepth 100000 in
theorem c_Fault_isTold_3 (l : Launch) (h0 : Nat) (D : va_G) {g : pm_s} {u : pm_J} (hT : sh_T g) {out : Int32} (h : F_Fault_isTold_3 g u = some out) : pm_C l h0 D m_Fault_isTold 0 [.ref 3] (sm g u) (some (.int out)) (sm g u) := by
  refine pm_met (by decide +kernel) (Nat.le_of_ble_eq_true rfl) (Nat.le_refl _) (Nat.le_refl _) ?_
  intro p e R s m args below meth c
  unfold F_Fault_isTold_3 at h
  refine pm_blk (pc' := 4) (L' := [(0, .ref 3)]) (S' := [.int (u.1 3 0)]) (M' := sm g u) [pm_o (.aload_n 0), pm_of (.getfield 9) 3 0 0] (by decide +kernel) rfl ?_
  refine pm_if_eq (off := 7) 11 (by decide +kernel) (by decide) (fun hc1 => ?_) (fun hc1 => ?_)
  · rw [if_pos hc1] at h
    refine pm_blk (pc' := 12) (L' := [(0, .ref 3)]) (S' := [.int 0]) (M' := sm g u) [pm_oi (.iconst 0) 0] (by decide +kernel) rfl ?_
    have h9 := Option.some.inj h
    subst h9
    exact pm_retz rfl (by decide +kernel) rfl rfl rfl rfl
  · rw [if_neg hc1] at h
    refine pm_blk (pc' := 8) (L' := [(0, .ref 3)]) (S' := [.int 1]) (M' := sm g u) [pm_oi (.iconst 1) 1] (by decide +kernel) rfl ?_
    refine pm_goto (off := 4) 12 (by decide +kernel) (by decide) ?_
    have h9 := Option.some.inj h
    subst h9
    exact pm_retz rfl (by decide +kernel) rfl rfl rfl rfl
def F_Fault_isTold_4 (g : pm_s) (u : pm_J) : Option (Int32) := if (u.1 4 0) = 0 then some 0 else some 1
set_option maxHeartbeats 4000000 in
set_option maxRecDepth 100000 in
theorem c_Fault_isTold_4 (l : Launch) (h0 : Nat) (D : va_G) {g : pm_s} {u : pm_J} (hT : sh_T g) {out : Int32} (h : F_Fault_isTold_4 g u = some out) : pm_C l h0 D m_Fault_isTold 0 [.ref 4] (sm g u) (some (.int out)) (sm g u) := by
  refine pm_met (by decide +kernel) (Nat.le_of_ble_eq_true rfl) (Nat.le_refl _) (Nat.le_refl _) ?_
  intro p e R s m args below meth c
  unfold F_Fault_isTold_4 at h
  refine pm_blk (pc' := 4) (L' := [(0, .ref 4)]) (S' := [.int (u.1 4 0)]) (M' := sm g u) [pm_o (.aload_n 0), pm_of (.getfield 9) 3 0 0] (by decide +kernel) rfl ?_
  refine pm_if_eq (off := 7) 11 (by decide +kernel) (by decide) (fun hc1 => ?_) (fun hc1 => ?_)
  · rw [if_pos hc1] at h
    refine pm_blk (pc' := 12) (L' := [(0, .ref 4)]) (S' := [.int 0]) (M' := sm g u) [pm_oi (.iconst 0) 0] (by decide +kernel) rfl ?_
    have h9 := Option.some.inj h
    subst h9
    exact pm_retz rfl (by decide +kernel) rfl rfl rfl rfl
  · rw [if_neg hc1] at h
    refine pm_blk (pc' := 8) (L' := [(0, .ref 4)]) (S' := [.int 1]) (M' := sm g u) [pm_oi (.iconst 1) 1] (by decide +kernel) rfl ?_
    refine pm_goto (off := 4) 12 (by decide +kernel) (by decide) ?_
    have h9 := Option.some.inj h
    subst h9
    exact pm_retz rfl (by decide +kernel) rfl rfl rfl rfl
def F_Fault_what_3 (g : pm_s) (u : pm_J) : Option (Int32) := some (u.1 3 0)
set_option maxHeartbeats 4000000 in
set_option maxRecDepth 100000 in
theorem c_Fault_what_3 (l : Launch) (h0 : Nat) (D : va_G) {g : pm_s} {u : pm_J} (hT : sh_T g) {out : Int32} (h : F_Fault_what_3 g u = some out) : pm_C l h0 D m_Fault_what 0 [.ref 3] (sm g u) (some (.int out)) (sm g u) := by
  refine pm_met (by decide +kernel) (Nat.le_of_ble_eq_true rfl) (Nat.le_refl _) (Nat.le_refl _) ?_
  intro p e R s m args below meth c
  unfold F_Fault_what_3 at h
  refine pm_blk (pc' := 4) (L' := [(0, .ref 3)]) (S' := [.int (u.1 3 0)]) (M' := sm g u) [pm_o (.aload_n 0), pm_of (.getfield 9) 3 0 0] (by decide +kernel) rfl ?_
  have h9 := Option.some.inj h
  subst h9
  exact pm_reti rfl (by decide +kernel) rfl rfl rfl
def F_Fault_what_4 (g : pm_s) (u : pm_J) : Option (Int32) := some (u.1 4 0)
set_option maxHeartbeats 4000000 in
set_option maxRecDepth 100000 in
theorem c_Fault_what_4 (l : Launch) (h0 : Nat) (D : va_G) {g : pm_s} {u : pm_J} (hT : sh_T g) {out : Int32} (h : F_Fault_what_4 g u = some out) : pm_C l h0 D m_Fault_what 0 [.ref 4] (sm g u) (some (.int out)) (sm g u) := by
  refine pm_met (by decide +kernel) (Nat.le_of_ble_eq_true rfl) (Nat.le_refl _) (Nat.le_refl _) ?_
  intro p e R s m args below meth c
  unfold F_Fault_what_4 at h
  refine pm_blk (pc' := 4) (L' := [(0, .ref 4)]) (S' := [.int (u.1 4 0)]) (M' := sm g u) [pm_o (.aload_n 0), pm_of (.getfield 9) 3 0 0] (by decide +kernel) rfl ?_
  have h9 := Option.some.inj h
  subst h9
  exact pm_reti rfl (by decide +kernel) rfl rfl rfl
def F_Fault_where_3 (g : pm_s) (u : pm_J) : Option (Int32) := some (u.1 3 1)
set_option maxHeartbeats 4000000 in
set_option maxRecDepth 100000 in
theorem c_Fault_where_3 (l : Launch) (h0 : Nat) (D : va_G) {g : pm_s} {u : pm_J} (hT : sh_T g) {out : Int32} (h : F_Fault_where_3 g u = some out) : pm_C l h0 D m_Fault_where 0 [.ref 3] (sm g u) (some (.int out)) (sm g u) := by
  refine pm_met (by decide +kernel) (Nat.le_of_ble_eq_true rfl) (Nat.le_refl _) (Nat.le_refl _) ?_
  intro p e R s m args below meth c
  unfold F_Fault_where_3 at h
  refine pm_blk (pc' := 4) (L' := [(0, .ref 3)]) (S' := [.int (u.1 3 1)]) (M' := sm g u) [pm_o (.aload_n 0), pm_of (.getfield 15) 3 1 0] (by decide +kernel) rfl ?_
  have h9 := Option.some.inj h
  subst h9
  exact pm_reti rfl (by decide +kernel) rfl rfl rfl
def F_Fault_where_4 (g : pm_s) (u : pm_J) : Option (Int32) := some (u.1 4 1)
set_option maxHeartbeats 4000000 in
set_option maxRecDepth 100000 in
theorem c_Fault_where_4 (l : Launch) (h0 : Nat) (D : va_G) {g : pm_s} {u : pm_J} (hT : sh_T g) {out : Int32} (h : F_Fault_where_4 g u = some out) : pm_C l h0 D m_Fault_where 0 [.ref 4] (sm g u) (some (.int out)) (sm g u) := by
  refine pm_met (by decide +kernel) (Nat.le_of_ble_eq_true rfl) (Nat.le_refl _) (Nat.le_refl _) ?_
  intro p e R s m args below meth c
  unfold F_Fault_where_4 at h
  refine pm_blk (pc' := 4) (L' := [(0, .ref 4)]) (S' := [.int (u.1 4 1)]) (M' := sm g u) [pm_o (.aload_n 0), pm_of (.getfield 15) 3 1 0] (by decide +kernel) rfl ?_
  have h9 := Option.some.inj h
  subst h9
  exact pm_reti rfl (by decide +kernel) rfl rfl rfl
def F_Frames_clear (g : pm_s) (u : pm_J) : Option (pm_J) := some (wi (wi u 57 6 0) 57 7 0)
set_option maxHeartbeats 4000000 in
set_option maxRecDepth 100000 in
theorem c_Frames_clear (l : Launch) (h0 : Nat) (D : va_G) {g : pm_s} {u : pm_J} (hT : sh_T g) {out : pm_J} (h : F_Frames_clear g u = some out) : pm_C l h0 D m_Frames_clear 0 [.ref 57] (sm g u) none (sm g out) := by
  refine pm_met (by decide +kernel) (Nat.le_of_ble_eq_true rfl) (Nat.le_refl _) (Nat.le_refl _) ?_
  intro p e R s m args below meth c
  unfold F_Frames_clear at h
  refine pm_blk (pc' := 10) (L' := [(0, .ref 57)]) (S' := []) (M' := sm g (wi (wi u 57 6 0) 57 7 0)) [pm_o (.aload_n 0), pm_oi (.iconst 0) 0, pm_of (.putfield 33) 4 6 0, pm_o (.aload_n 0), pm_oi (.iconst 0) 0, pm_of (.putfield 37) 4 7 0] (by decide +kernel) rfl ?_
  have h9 := Option.some.inj h
  subst h9
  exact pm_retv rfl (by decide +kernel) rfl rfl
def F_Frames_isEmpty (g : pm_s) (u : pm_J) : Option (Int32) := if (u.1 57 6) = 0 then some 1 else some 0
set_option maxHeartbeats 4000000 in
set_option maxRecDepth 100000 in
theorem c_Frames_isEmpty (l : Launch) (h0 : Nat) (D : va_G) {g : pm_s} {u : pm_J} (hT : sh_T g) {out : Int32} (h : F_Frames_isEmpty g u = some out) : pm_C l h0 D m_Frames_isEmpty 0 [.ref 57] (sm g u) (some (.int out)) (sm g u) := by
  refine pm_met (by decide +kernel) (Nat.le_of_ble_eq_true rfl) (Nat.le_refl _) (Nat.le_refl _) ?_
  intro p e R s m args below meth c
  unfold F_Frames_isEmpty at h
  refine pm_blk (pc' := 4) (L' := [(0, .ref 57)]) (S' := [.int (u.1 57 6)]) (M' := sm g u) [pm_o (.aload_n 0), pm_of (.getfield 33) 4 6 0] (by decide +kernel) rfl ?_
  refine pm_if_ne (off := 7) 11 (by decide +kernel) (by decide) (fun hc1 => ?_) (fun hc1 => ?_)
  · rw [if_neg hc1] at h
    refine pm_blk (pc' := 12) (L' := [(0, .ref 57)]) (S' := [.int 0]) (M' := sm g u) [pm_oi (.iconst 0) 0] (by decide +kernel) rfl ?_
    have h9 := Option.some.inj h
    subst h9
    exact pm_retz rfl (by decide +kernel) rfl rfl rfl rfl
  · rw [if_pos hc1] at h
    refine pm_blk (pc' := 8) (L' := [(0, .ref 57)]) (S' := [.int 1]) (M' := sm g u) [pm_oi (.iconst 1) 1] (by decide +kernel) rfl ?_
    refine pm_goto (off := 4) 12 (by decide +kernel) (by decide) ?_
    have h9 := Option.some.inj h
    subst h9
    exact pm_retz rfl (by decide +kernel) rfl rfl rfl rfl
def F_Frames_isFull (g : pm_s) (u : pm_J) : Option (Int32) := if (u.1 57 6) < 150 then some 0 else some 1
set_option maxHeartbeats 4000000 in
set_option maxRecDepth 100000 in
theorem c_Frames_isFull (l : Launch) (h0 : Nat) (D : va_G) {g : pm_s} {u : pm_J} (hT : sh_T g) {out : Int32} (h : F_Frames_isFull g u = some out) : pm_C l h0 D m_Frames_isFull 0 [.ref 57] (sm g u) (some (.int out)) (sm g u) := by
  refine pm_met (by decide +kernel) (Nat.le_of_ble_eq_true rfl) (Nat.le_refl _) (Nat.le_refl _) ?_
  intro p e R s m args below meth c
  unfold F_Frames_isFull at h
  refine pm_blk (pc' := 7) (L' := [(0, .ref 57)]) (S' := [.int 150, .int (u.1 57 6)]) (M' := sm g u) [pm_o (.aload_n 0), pm_of (.getfield 33) 4 6 0, pm_oi (.sipush 150) 150] (by decide +kernel) rfl ?_
  refine pm_ic_lt (off := 7) 14 (by decide +kernel) (by decide) (fun hc1 => ?_) (fun hc1 => ?_)
  · rw [if_pos hc1] at h
    refine pm_blk (pc' := 15) (L' := [(0, .ref 57)]) (S' := [.int 0]) (M' := sm g u) [pm_oi (.iconst 0) 0] (by decide +kernel) rfl ?_
    have h9 := Option.some.inj h
    subst h9
    exact pm_retz rfl (by decide +kernel) rfl rfl rfl rfl
  · rw [if_neg hc1] at h
    refine pm_blk (pc' := 11) (L' := [(0, .ref 57)]) (S' := [.int 1]) (M' := sm g u) [pm_oi (.iconst 1) 1] (by decide +kernel) rfl ?_
    refine pm_goto (off := 4) 15 (by decide +kernel) (by decide) ?_
    have h9 := Option.some.inj h
    subst h9
    exact pm_retz rfl (by decide +kernel) rfl rfl rfl rfl
def F_Frames_deepest (g : pm_s) (u : pm_J) : Option (Int32) := some (u.1 57 7)
set_option maxHeartbeats 4000000 in
set_option maxRecDepth 100000 in
theorem c_Frames_deepest (l : Launch) (h0 : Nat) (D : va_G) {g : pm_s} {u : pm_J} (hT : sh_T g) {out : Int32} (h : F_Frames_deepest g u = some out) : pm_C l h0 D m_Frames_deepest 0 [.ref 57] (sm g u) (some (.int out)) (sm g u) := by
  refine pm_met (by decide +kernel) (Nat.le_of_ble_eq_true rfl) (Nat.le_refl _) (Nat.le_refl _) ?_
  intro p e R s m args below meth c
  unfold F_Frames_deepest at h
  refine pm_blk (pc' := 4) (L' := [(0, .ref 57)]) (S' := [.int (u.1 57 7)]) (M' := sm g u) [pm_o (.aload_n 0), pm_of (.getfield 37) 4 7 0] (by decide +kernel) rfl ?_
  have h9 := Option.some.inj h
  subst h9
  exact pm_reti rfl (by decide +kernel) rfl rfl rfl
def F_Math_max (a1 : Int32) (a2 : Int32) (g : pm_s) (u : pm_J) : Option (Int32) := if a1 < a2 then some a2 else some a1
set_option maxHeartbeats 4000000 in
set_option maxRecDepth 100000 in
theorem c_Math_max (l : Launch) (h0 : Nat) (D : va_G) {g : pm_s} {u : pm_J} (hT : sh_T g) {a1 : Int32} {a2 : Int32} {out : Int32} (h : F_Math_max a1 a2 g u = some out) : pm_C l h0 D m_Math_max 0 [.int a1, .int a2] (sm g u) (some (.int out)) (sm g u) := by
  refine pm_met (by decide +kernel) (Nat.le_of_ble_eq_true rfl) (Nat.le_refl _) (Nat.le_refl _) ?_
  intro p e R s m args below meth c
  unfold F_Math_max at h
  refine pm_blk (pc' := 2) (L' := [(0, .int a1), (1, .int a2)]) (S' := [.int a2, .int a1]) (M' := sm g u) [pm_o (.iload_n 0), pm_o (.iload_n 1)] (by decide +kernel) rfl ?_
  refine pm_ic_lt (off := 7) 9 (by decide +kernel) (by decide) (fun hc1 => ?_) (fun hc1 => ?_)
  · rw [if_pos hc1] at h
    refine pm_blk (pc' := 10) (L' := [(0, .int a1), (1, .int a2)]) (S' := [.int a2]) (M' := sm g u) [pm_o (.iload_n 1)] (by decide +kernel) rfl ?_
    have h9 := Option.some.inj h
    subst h9
    exact pm_reti rfl (by decide +kernel) rfl rfl rfl
  · rw [if_neg hc1] at h
    refine pm_blk (pc' := 6) (L' := [(0, .int a1), (1, .int a2)]) (S' := [.int a1]) (M' := sm g u) [pm_o (.iload_n 0)] (by decide +kernel) rfl ?_
    refine pm_goto (off := 4) 10 (by decide +kernel) (by decide) ?_
    have h9 := Option.some.inj h
    subst h9
    exact pm_reti rfl (by decide +kernel) rfl rfl rfl
def F_Frames_push (a1 : Int32) (a2 : Int32) (g : pm_s) (u : pm_J) : Option (pm_J) := if (u.1 57 6) < 150 then if pm_ok (u.1 57 6) 150 = true then if pm_ok (u.1 57 6) 150 = true then if pm_ok (u.1 57 6) 150 = true then if pm_ok (u.1 57 6) 150 = true then if pm_ok (u.1 57 6) 150 = true then (F_Math_max (u.1 57 7) ((u.1 57 6) + 1) g (wi (wi (wi (wi (wi (wi u 58 ((u.1 57 6).toNatClampNeg) a1) 59 ((u.1 57 6).toNatClampNeg) 0) 60 ((u.1 57 6).toNatClampNeg) a2) 61 ((u.1 57 6).toNatClampNeg) (-1)) 62 ((u.1 57 6).toNatClampNeg) 0) 57 6 ((u.1 57 6) + 1))).bind fun q7 => some (wi (wi (wi (wi (wi (wi (wi u 58 ((u.1 57 6).toNatClampNeg) a1) 59 ((u.1 57 6).toNatClampNeg) 0) 60 ((u.1 57 6).toNatClampNeg) a2) 61 ((u.1 57 6).toNatClampNeg) (-1)) 62 ((u.1 57 6).toNatClampNeg) 0) 57 6 ((u.1 57 6) + 1)) 57 7 q7) else none else none else none else none else none else some u
set_option maxHeartbeats 4000000 in
set_option maxRecDepth 100000 in
theorem c_Frames_push (l : Launch) (h0 : Nat) (D : va_G) {g : pm_s} {u : pm_J} (hT : sh_T g) {a1 : Int32} {a2 : Int32} {out : pm_J} (h : F_Frames_push a1 a2 g u = some out) : pm_C l h0 D m_Frames_push 1 [.ref 57, .int a1, .int a2] (sm g u) none (sm g out) := by
  refine pm_met (by decide +kernel) (Nat.le_of_ble_eq_true rfl) (Nat.le_refl _) (Nat.le_refl _) ?_
  intro p e R s m args below meth c
  unfold F_Frames_push at h
  refine pm_blk (pc' := 7) (L' := [(0, .ref 57), (1, .int a1), (2, .int a2)]) (S' := [.int 150, .int (u.1 57 6)]) (M' := sm g u) [pm_o (.aload_n 0), pm_of (.getfield 33) 4 6 0, pm_oi (.sipush 150) 150] (by decide +kernel) rfl ?_
  refine pm_ic_lt (off := 4) 11 (by decide +kernel) (by decide) (fun hc1 => ?_) (fun hc1 => ?_)
  · rw [if_pos hc1] at h
    refine pm_blk (pc' := 20) (L' := [(0, .ref 57), (1, .int a1), (2, .int a2)]) (S' := [.int a1, .int (u.1 57 6), .ref 58]) (M' := sm g u) [pm_o (.aload_n 0), pm_of (.getfield 13) 4 0 2, pm_o (.aload_n 0), pm_of (.getfield 33) 4 6 0, pm_o (.iload_n 1)] (by decide +kernel) rfl ?_
    obtain ⟨ho2, h⟩ := pm_ifs h
    refine pm_iast (by decide +kernel) rfl  (pm_ok_in ho2) ?_
    refine pm_blk (pc' := 30) (L' := [(0, .ref 57), (1, .int a1), (2, .int a2)]) (S' := [.int 0, .int (u.1 57 6), .ref 59]) (M' := sm g (wi u 58 ((u.1 57 6).toNatClampNeg) a1)) [pm_o (.aload_n 0), pm_of (.getfield 17) 4 1 2, pm_o (.aload_n 0), pm_of (.getfield 33) 4 6 0, pm_oi (.iconst 0) 0] (by decide +kernel) rfl ?_
    obtain ⟨ho3, h⟩ := pm_ifs h
    refine pm_iast (by decide +kernel) rfl  (pm_ok_in ho3) ?_
    refine pm_blk (pc' := 40) (L' := [(0, .ref 57), (1, .int a1), (2, .int a2)]) (S' := [.int a2, .int (u.1 57 6), .ref 60]) (M' := sm g (wi (wi u 58 ((u.1 57 6).toNatClampNeg) a1) 59 ((u.1 57 6).toNatClampNeg) 0)) [pm_o (.aload_n 0), pm_of (.getfield 20) 4 2 2, pm_o (.aload_n 0), pm_of (.getfield 33) 4 6 0, pm_o (.iload_n 2)] (by decide +kernel) rfl ?_
    obtain ⟨ho4, h⟩ := pm_ifs h
    refine pm_iast (by decide +kernel) rfl  (pm_ok_in ho4) ?_
    refine pm_blk (pc' := 50) (L' := [(0, .ref 57), (1, .int a1), (2, .int a2)]) (S' := [.int (-1), .int (u.1 57 6), .ref 61]) (M' := sm g (wi (wi (wi u 58 ((u.1 57 6).toNatClampNeg) a1) 59 ((u.1 57 6).toNatClampNeg) 0) 60 ((u.1 57 6).toNatClampNeg) a2)) [pm_o (.aload_n 0), pm_of (.getfield 23) 4 3 2, pm_o (.aload_n 0), pm_of (.getfield 33) 4 6 0, pm_oi (.iconst (-1)) (-1)] (by decide +kernel) rfl ?_
    obtain ⟨ho5, h⟩ := pm_ifs h
    refine pm_iast (by decide +kernel) rfl  (pm_ok_in ho5) ?_
    refine pm_blk (pc' := 60) (L' := [(0, .ref 57), (1, .int a1), (2, .int a2)]) (S' := [.int 0, .int (u.1 57 6), .ref 62]) (M' := sm g (wi (wi (wi (wi u 58 ((u.1 57 6).toNatClampNeg) a1) 59 ((u.1 57 6).toNatClampNeg) 0) 60 ((u.1 57 6).toNatClampNeg) a2) 61 ((u.1 57 6).toNatClampNeg) (-1))) [pm_o (.aload_n 0), pm_of (.getfield 26) 4 4 2, pm_o (.aload_n 0), pm_of (.getfield 33) 4 6 0, pm_oi (.iconst 0) 0] (by decide +kernel) rfl ?_
    obtain ⟨ho6, h⟩ := pm_ifs h
    refine pm_iast (by decide +kernel) rfl  (pm_ok_in ho6) ?_
    refine pm_blk (pc' := 80) (L' := [(0, .ref 57), (1, .int a1), (2, .int a2)]) (S' := [.int ((u.1 57 6) + 1), .int (u.1 57 7), .ref 57]) (M' := sm g (wi (wi (wi (wi (wi (wi u 58 ((u.1 57 6).toNatClampNeg) a1) 59 ((u.1 57 6).toNatClampNeg) 0) 60 ((u.1 57 6).toNatClampNeg) a2) 61 ((u.1 57 6).toNatClampNeg) (-1)) 62 ((u.1 57 6).toNatClampNeg) 0) 57 6 ((u.1 57 6) + 1))) [pm_o (.aload_n 0), pm_o .dup, pm_of (.getfield 33) 4 6 0, pm_oi (.iconst 1) 1, pm_o .iadd, pm_of (.putfield 33) 4 6 0, pm_o (.aload_n 0), pm_o (.aload_n 0), pm_of (.getfield 37) 4 7 0, pm_o (.aload_n 0), pm_of (.getfield 33) 4 6 0] (by decide +kernel) rfl ?_
    obtain ⟨q7, hq7, h⟩ := pm_bd h
    refine pm_cS (idx := 40) m_Math_max (c_Math_max l h0 D hT hq7) (As := [.int (u.1 57 7), .int ((u.1 57 6) + 1)]) (S0 := [.ref 57]) rfl (by decide +kernel) k_Math_max l_Frames_40 (Nat.le_of_ble_eq_true rfl) (Nat.le_of_ble_eq_true rfl) (Nat.le_refl _) (Nat.le_refl _) ?_
    refine pm_blk (pc' := 86) (L' := [(0, .ref 57), (1, .int a1), (2, .int a2)]) (S' := []) (M' := sm g (wi (wi (wi (wi (wi (wi (wi u 58 ((u.1 57 6).toNatClampNeg) a1) 59 ((u.1 57 6).toNatClampNeg) 0) 60 ((u.1 57 6).toNatClampNeg) a2) 61 ((u.1 57 6).toNatClampNeg) (-1)) 62 ((u.1 57 6).toNatClampNeg) 0) 57 6 ((u.1 57 6) + 1)) 57 7 q7)) [pm_of (.putfield 37) 4 7 0] (by decide +kernel) rfl ?_
    have h9 := Option.some.inj h
    subst h9
    exact pm_retv rfl (by decide +kernel) rfl rfl
  · rw [if_neg hc1] at h
    have h9 := Option.some.inj h
    subst h9
    exact pm_retv rfl (by decide +kernel) rfl rfl
def F_Frames_pop (g : pm_s) (u : pm_J) : Option (pm_J) := (F_Math_max 0 ((u.1 57 6) - 1) g u).bind fun q1 => some (wi u 57 6 q1)
set_option maxHeartbeats 4000000 in
set_option maxRecDepth 100000 in
theorem c_Frames_pop (l : Launch) (h0 : Nat) (D : va_G) {g : pm_s} {u : pm_J} (hT : sh_T g) {out : pm_J} (h : F_Frames_pop g u = some out) : pm_C l h0 D m_Frames_pop 1 [.ref 57] (sm g u) none (sm g out) := by
  refine pm_met (by decide +kernel) (Nat.le_of_ble_eq_true rfl) (Nat.le_refl _) (Nat.le_refl _) ?_
  intro p e R s m args below meth c
  unfold F_Frames_pop at h
  refine pm_blk (pc' := 8) (L' := [(0, .ref 57)]) (S' := [.int ((u.1 57 6) - 1), .int 0, .ref 57]) (M' := sm g u) [pm_o (.aload_n 0), pm_oi (.iconst 0) 0, pm_o (.aload_n 0), pm_of (.getfield 33) 4 6 0, pm_oi (.iconst 1) 1, pm_o .isub] (by decide +kernel) rfl ?_
  obtain ⟨q1, hq1, h⟩ := pm_bd h
  refine pm_cS (idx := 40) m_Math_max (c_Math_max l h0 D hT hq1) (As := [.int 0, .int ((u.1 57 6) - 1)]) (S0 := [.ref 57]) rfl (by decide +kernel) k_Math_max l_Frames_40 (Nat.le_of_ble_eq_true rfl) (Nat.le_of_ble_eq_true rfl) (Nat.le_refl _) (Nat.le_refl _) ?_
  refine pm_blk (pc' := 14) (L' := [(0, .ref 57)]) (S' := []) (M' := sm g (wi u 57 6 q1)) [pm_of (.putfield 33) 4 6 0] (by decide +kernel) rfl ?_
  have h9 := Option.some.inj h
  subst h9
  exact pm_retv rfl (by decide +kernel) rfl rfl
def F_Frames_node (g : pm_s) (u : pm_J) : Option (Int32) := if (u.1 57 6) ≤ 0 then some (-1) else if pm_ok ((u.1 57 6) - 1) 150 = true then some (u.1 58 (((u.1 57 6) - 1).toNatClampNeg)) else none
set_option maxHeartbeats 4000000 in
set_option maxRecDepth 100000 in
theorem c_Frames_node (l : Launch) (h0 : Nat) (D : va_G) {g : pm_s} {u : pm_J} (hT : sh_T g) {out : Int32} (h : F_Frames_node g u = some out) : pm_C l h0 D m_Frames_node 0 [.ref 57] (sm g u) (some (.int out)) (sm g u) := by
  refine pm_met (by decide +kernel) (Nat.le_of_ble_eq_true rfl) (Nat.le_refl _) (Nat.le_refl _) ?_
  intro p e R s m args below meth c
  unfold F_Frames_node at h
  refine pm_blk (pc' := 4) (L' := [(0, .ref 57)]) (S' := [.int (u.1 57 6)]) (M' := sm g u) [pm_o (.aload_n 0), pm_of (.getfield 33) 4 6 0] (by decide +kernel) rfl ?_
  refine pm_if_le (off := 17) 21 (by decide +kernel) (by decide) (fun hc1 => ?_) (fun hc1 => ?_)
  · rw [if_pos hc1] at h
    refine pm_blk (pc' := 22) (L' := [(0, .ref 57)]) (S' := [.int (-1)]) (M' := sm g u) [pm_oi (.iconst (-1)) (-1)] (by decide +kernel) rfl ?_
    have h9 := Option.some.inj h
    subst h9
    exact pm_reti rfl (by decide +kernel) rfl rfl rfl
  · rw [if_neg hc1] at h
    refine pm_blk (pc' := 17) (L' := [(0, .ref 57)]) (S' := [.int ((u.1 57 6) - 1), .ref 58]) (M' := sm g u) [pm_o (.aload_n 0), pm_of (.getfield 13) 4 0 2, pm_o (.aload_n 0), pm_of (.getfield 33) 4 6 0, pm_oi (.iconst 1) 1, pm_o .isub] (by decide +kernel) rfl ?_
    obtain ⟨ho2, h⟩ := pm_ifs h
    refine pm_iald (by decide +kernel) rfl (pm_ok_in ho2) ?_
    refine pm_blk (pc' := 18) (L' := [(0, .ref 57)]) (S' := [.int (u.1 58 (((u.1 57 6) - 1).toNatClampNeg))]) (M' := sm g u) [] (by decide +kernel) rfl ?_
    refine pm_goto (off := 4) 22 (by decide +kernel) (by decide) ?_
    have h9 := Option.some.inj h
    subst h9
    exact pm_reti rfl (by decide +kernel) rfl rfl rfl
def F_Frames_state (g : pm_s) (u : pm_J) : Option (Int32) := if (u.1 57 6) ≤ 0 then some 0 else if pm_ok ((u.1 57 6) - 1) 150 = true then some (u.1 59 (((u.1 57 6) - 1).toNatClampNeg)) else none
set_option maxHeartbeats 4000000 in
set_option maxRecDepth 100000 in
theorem c_Frames_state (l : Launch) (h0 : Nat) (D : va_G) {g : pm_s} {u : pm_J} (hT : sh_T g) {out : Int32} (h : F_Frames_state g u = some out) : pm_C l h0 D m_Frames_state 0 [.ref 57] (sm g u) (some (.int out)) (sm g u) := by
  refine pm_met (by decide +kernel) (Nat.le_of_ble_eq_true rfl) (Nat.le_refl _) (Nat.le_refl _) ?_
  intro p e R s m args below meth c
  unfold F_Frames_state at h
  refine pm_blk (pc' := 4) (L' := [(0, .ref 57)]) (S' := [.int (u.1 57 6)]) (M' := sm g u) [pm_o (.aload_n 0), pm_of (.getfield 33) 4 6 0] (by decide +kernel) rfl ?_
  refine pm_if_le (off := 17) 21 (by decide +kernel) (by decide) (fun hc1 => ?_) (fun hc1 => ?_)
  · rw [if_pos hc1] at h
    refine pm_blk (pc' := 22) (L' := [(0, .ref 57)]) (S' := [.int 0]) (M' := sm g u) [pm_oi (.iconst 0) 0] (by decide +kernel) rfl ?_
    have h9 := Option.some.inj h
    subst h9
    exact pm_reti rfl (by decide +kernel) rfl rfl rfl
  · rw [if_neg hc1] at h
    refine pm_blk (pc' := 17) (L' := [(0, .ref 57)]) (S' := [.int ((u.1 57 6) - 1), .ref 59]) (M' := sm g u) [pm_o (.aload_n 0), pm_of (.getfield 17) 4 1 2, pm_o (.aload_n 0), pm_of (.getfield 33) 4 6 0, pm_oi (.iconst 1) 1, pm_o .isub] (by decide +kernel) rfl ?_
    obtain ⟨ho2, h⟩ := pm_ifs h
    refine pm_iald (by decide +kernel) rfl (pm_ok_in ho2) ?_
    refine pm_blk (pc' := 18) (L' := [(0, .ref 57)]) (S' := [.int (u.1 59 (((u.1 57 6) - 1).toNatClampNeg))]) (M' := sm g u) [] (by decide +kernel) rfl ?_
    refine pm_goto (off := 4) 22 (by decide +kernel) (by decide) ?_
    have h9 := Option.some.inj h
    subst h9
    exact pm_reti rfl (by decide +kernel) rfl rfl rfl
def F_Frames_setState (a1 : Int32) (g : pm_s) (u : pm_J) : Option (pm_J) := if (u.1 57 6) ≤ 0 then some u else if pm_ok ((u.1 57 6) - 1) 150 = true then some (wi u 59 (((u.1 57 6) - 1).toNatClampNeg) a1) else none
set_option maxHeartbeats 4000000 in
set_option maxRecDepth 100000 in
theorem c_Frames_setState (l : Launch) (h0 : Nat) (D : va_G) {g : pm_s} {u : pm_J} (hT : sh_T g) {a1 : Int32} {out : pm_J} (h : F_Frames_setState a1 g u = some out) : pm_C l h0 D m_Frames_setState 0 [.ref 57, .int a1] (sm g u) none (sm g out) := by
  refine pm_met (by decide +kernel) (Nat.le_of_ble_eq_true rfl) (Nat.le_refl _) (Nat.le_refl _) ?_
  intro p e R s m args below meth c
  unfold F_Frames_setState at h
  refine pm_blk (pc' := 4) (L' := [(0, .ref 57), (1, .int a1)]) (S' := [.int (u.1 57 6)]) (M' := sm g u) [pm_o (.aload_n 0), pm_of (.getfield 33) 4 6 0] (by decide +kernel) rfl ?_
  refine pm_if_le (off := 15) 19 (by decide +kernel) (by decide) (fun hc1 => ?_) (fun hc1 => ?_)
  · rw [if_pos hc1] at h
    have h9 := Option.some.inj h
    subst h9
    exact pm_retv rfl (by decide +kernel) rfl rfl
  · rw [if_neg hc1] at h
    refine pm_blk (pc' := 18) (L' := [(0, .ref 57), (1, .int a1)]) (S' := [.int a1, .int ((u.1 57 6) - 1), .ref 59]) (M' := sm g u) [pm_o (.aload_n 0), pm_of (.getfield 17) 4 1 2, pm_o (.aload_n 0), pm_of (.getfield 33) 4 6 0, pm_oi (.iconst 1) 1, pm_o .isub, pm_o (.iload_n 1)] (by decide +kernel) rfl ?_
    obtain ⟨ho2, h⟩ := pm_ifs h
    refine pm_iast (by decide +kernel) rfl  (pm_ok_in ho2) ?_
    refine pm_blk (pc' := 19) (L' := [(0, .ref 57), (1, .int a1)]) (S' := []) (M' := sm g (wi u 59 (((u.1 57 6) - 1).toNatClampNeg) a1)) [] (by decide +kernel) rfl ?_
    have h9 := Option.some.inj h
    subst h9
    exact pm_retv rfl (by decide +kernel) rfl rfl
def F_Frames_base (g : pm_s) (u : pm_J) : Option (Int32) := if (u.1 57 6) ≤ 0 then some 0 else if pm_ok ((u.1 57 6) - 1) 150 = true then some (u.1 60 (((u.1 57 6) - 1).toNatClampNeg)) else none
set_option maxHeartbeats 4000000 in
set_option maxRecDepth 100000 in
theorem c_Frames_base (l : Launch) (h0 : Nat) (D : va_G) {g : pm_s} {u : pm_J} (hT : sh_T g) {out : Int32} (h : F_Frames_base g u = some out) : pm_C l h0 D m_Frames_base 0 [.ref 57] (sm g u) (some (.int out)) (sm g u) := by
  refine pm_met (by decide +kernel) (Nat.le_of_ble_eq_true rfl) (Nat.le_refl _) (Nat.le_refl _) ?_
  intro p e R s m args below meth c
  unfold F_Frames_base at h
  refine pm_blk (pc' := 4) (L' := [(0, .ref 57)]) (S' := [.int (u.1 57 6)]) (M' := sm g u) [pm_o (.aload_n 0), pm_of (.getfield 33) 4 6 0] (by decide +kernel) rfl ?_
  refine pm_if_le (off := 17) 21 (by decide +kernel) (by decide) (fun hc1 => ?_) (fun hc1 => ?_)
  · rw [if_pos hc1] at h
    refine pm_blk (pc' := 22) (L' := [(0, .ref 57)]) (S' := [.int 0]) (M' := sm g u) [pm_oi (.iconst 0) 0] (by decide +kernel) rfl ?_
    have h9 := Option.some.inj h
    subst h9
    exact pm_reti rfl (by decide +kernel) rfl rfl rfl
  · rw [if_neg hc1] at h
    refine pm_blk (pc' := 17) (L' := [(0, .ref 57)]) (S' := [.int ((u.1 57 6) - 1), .ref 60]) (M' := sm g u) [pm_o (.aload_n 0), pm_of (.getfield 20) 4 2 2, pm_o (.aload_n 0), pm_of (.getfield 33) 4 6 0, pm_oi (.iconst 1) 1, pm_o .isub] (by decide +kernel) rfl ?_
    obtain ⟨ho2, h⟩ := pm_ifs h
    refine pm_iald (by decide +kernel) rfl (pm_ok_in ho2) ?_
    refine pm_blk (pc' := 18) (L' := [(0, .ref 57)]) (S' := [.int (u.1 60 (((u.1 57 6) - 1).toNatClampNeg))]) (M' := sm g u) [] (by decide +kernel) rfl ?_
    refine pm_goto (off := 4) 22 (by decide +kernel) (by decide) ?_
    have h9 := Option.some.inj h
    subst h9
    exact pm_reti rfl (by decide +kernel) rfl rfl rfl
def F_Frames_atom (g : pm_s) (u : pm_J) : Option (Int32) := if (u.1 57 6) ≤ 0 then some (-1) else if pm_ok ((u.1 57 6) - 1) 150 = true then some (u.1 61 (((u.1 57 6) - 1).toNatClampNeg)) else none
set_option maxHeartbeats 4000000 in
set_option maxRecDepth 100000 in
theorem c_Frames_atom (l : Launch) (h0 : Nat) (D : va_G) {g : pm_s} {u : pm_J} (hT : sh_T g) {out : Int32} (h : F_Frames_atom g u = some out) : pm_C l h0 D m_Frames_atom 0 [.ref 57] (sm g u) (some (.int out)) (sm g u) := by
  refine pm_met (by decide +kernel) (Nat.le_of_ble_eq_true rfl) (Nat.le_refl _) (Nat.le_refl _) ?_
  intro p e R s m args below meth c
  unfold F_Frames_atom at h
  refine pm_blk (pc' := 4) (L' := [(0, .ref 57)]) (S' := [.int (u.1 57 6)]) (M' := sm g u) [pm_o (.aload_n 0), pm_of (.getfield 33) 4 6 0] (by decide +kernel) rfl ?_
  refine pm_if_le (off := 17) 21 (by decide +kernel) (by decide) (fun hc1 => ?_) (fun hc1 => ?_)
  · rw [if_pos hc1] at h
    refine pm_blk (pc' := 22) (L' := [(0, .ref 57)]) (S' := [.int (-1)]) (M' := sm g u) [pm_oi (.iconst (-1)) (-1)] (by decide +kernel) rfl ?_
    have h9 := Option.some.inj h
    subst h9
    exact pm_reti rfl (by decide +kernel) rfl rfl rfl
  · rw [if_neg hc1] at h
    refine pm_blk (pc' := 17) (L' := [(0, .ref 57)]) (S' := [.int ((u.1 57 6) - 1), .ref 61]) (M' := sm g u) [pm_o (.aload_n 0), pm_of (.getfield 23) 4 3 2, pm_o (.aload_n 0), pm_of (.getfield 33) 4 6 0, pm_oi (.iconst 1) 1, pm_o .isub] (by decide +kernel) rfl ?_
    obtain ⟨ho2, h⟩ := pm_ifs h
    refine pm_iald (by decide +kernel) rfl (pm_ok_in ho2) ?_
    refine pm_blk (pc' := 18) (L' := [(0, .ref 57)]) (S' := [.int (u.1 61 (((u.1 57 6) - 1).toNatClampNeg))]) (M' := sm g u) [] (by decide +kernel) rfl ?_
    refine pm_goto (off := 4) 22 (by decide +kernel) (by decide) ?_
    have h9 := Option.some.inj h
    subst h9
    exact pm_reti rfl (by decide +kernel) rfl rfl rfl
def F_Frames_setAtom (a1 : Int32) (g : pm_s) (u : pm_J) : Option (pm_J) := if (u.1 57 6) ≤ 0 then some u else if pm_ok ((u.1 57 6) - 1) 150 = true then some (wi u 61 (((u.1 57 6) - 1).toNatClampNeg) a1) else none
set_option maxHeartbeats 4000000 in
set_option maxRecDepth 100000 in
theorem c_Frames_setAtom (l : Launch) (h0 : Nat) (D : va_G) {g : pm_s} {u : pm_J} (hT : sh_T g) {a1 : Int32} {out : pm_J} (h : F_Frames_setAtom a1 g u = some out) : pm_C l h0 D m_Frames_setAtom 0 [.ref 57, .int a1] (sm g u) none (sm g out) := by
  refine pm_met (by decide +kernel) (Nat.le_of_ble_eq_true rfl) (Nat.le_refl _) (Nat.le_refl _) ?_
  intro p e R s m args below meth c
  unfold F_Frames_setAtom at h
  refine pm_blk (pc' := 4) (L' := [(0, .ref 57), (1, .int a1)]) (S' := [.int (u.1 57 6)]) (M' := sm g u) [pm_o (.aload_n 0), pm_of (.getfield 33) 4 6 0] (by decide +kernel) rfl ?_
  refine pm_if_le (off := 15) 19 (by decide +kernel) (by decide) (fun hc1 => ?_) (fun hc1 => ?_)
  · rw [if_pos hc1] at h
    have h9 := Option.some.inj h
    subst h9
    exact pm_retv rfl (by decide +kernel) rfl rfl
  · rw [if_neg hc1] at h
    refine pm_blk (pc' := 18) (L' := [(0, .ref 57), (1, .int a1)]) (S' := [.int a1, .int ((u.1 57 6) - 1), .ref 61]) (M' := sm g u) [pm_o (.aload_n 0), pm_of (.getfield 23) 4 3 2, pm_o (.aload_n 0), pm_of (.getfield 33) 4 6 0, pm_oi (.iconst 1) 1, pm_o .isub, pm_o (.iload_n 1)] (by decide +kernel) rfl ?_
    obtain ⟨ho2, h⟩ := pm_ifs h
    refine pm_iast (by decide +kernel) rfl  (pm_ok_in ho2) ?_
    refine pm_blk (pc' := 19) (L' := [(0, .ref 57), (1, .int a1)]) (S' := []) (M' := sm g (wi u 61 (((u.1 57 6) - 1).toNatClampNeg) a1)) [] (by decide +kernel) rfl ?_
    have h9 := Option.some.inj h
    subst h9
    exact pm_retv rfl (by decide +kernel) rfl rfl
def F_Frames_heldCount (g : pm_s) (u : pm_J) : Option (Int32) := if (u.1 57 6) ≤ 0 then some 0 else if pm_ok ((u.1 57 6) - 1) 150 = true then some (u.1 62 (((u.1 57 6) - 1).toNatClampNeg)) else none
set_option maxHeartbeats 4000000 in
set_option maxRecDepth 100000 in
theorem c_Frames_heldCount (l : Launch) (h0 : Nat) (D : va_G) {g : pm_s} {u : pm_J} (hT : sh_T g) {out : Int32} (h : F_Frames_heldCount g u = some out) : pm_C l h0 D m_Frames_heldCount 0 [.ref 57] (sm g u) (some (.int out)) (sm g u) := by
  refine pm_met (by decide +kernel) (Nat.le_of_ble_eq_true rfl) (Nat.le_refl _) (Nat.le_refl _) ?_
  intro p e R s m args below meth c
  unfold F_Frames_heldCount at h
  refine pm_blk (pc' := 4) (L' := [(0, .ref 57)]) (S' := [.int (u.1 57 6)]) (M' := sm g u) [pm_o (.aload_n 0), pm_of (.getfield 33) 4 6 0] (by decide +kernel) rfl ?_
  refine pm_if_le (off := 17) 21 (by decide +kernel) (by decide) (fun hc1 => ?_) (fun hc1 => ?_)
  · rw [if_pos hc1] at h
    refine pm_blk (pc' := 22) (L' := [(0, .ref 57)]) (S' := [.int 0]) (M' := sm g u) [pm_oi (.iconst 0) 0] (by decide +kernel) rfl ?_
    have h9 := Option.some.inj h
    subst h9
    exact pm_reti rfl (by decide +kernel) rfl rfl rfl
  · rw [if_neg hc1] at h
    refine pm_blk (pc' := 17) (L' := [(0, .ref 57)]) (S' := [.int ((u.1 57 6) - 1), .ref 62]) (M' := sm g u) [pm_o (.aload_n 0), pm_of (.getfield 26) 4 4 2, pm_o (.aload_n 0), pm_of (.getfield 33) 4 6 0, pm_oi (.iconst 1) 1, pm_o .isub] (by decide +kernel) rfl ?_
    obtain ⟨ho2, h⟩ := pm_ifs h
    refine pm_iald (by decide +kernel) rfl (pm_ok_in ho2) ?_
    refine pm_blk (pc' := 18) (L' := [(0, .ref 57)]) (S' := [.int (u.1 62 (((u.1 57 6) - 1).toNatClampNeg))]) (M' := sm g u) [] (by decide +kernel) rfl ?_
    refine pm_goto (off := 4) 22 (by decide +kernel) (by decide) ?_
    have h9 := Option.some.inj h
    subst h9
    exact pm_reti rfl (by decide +kernel) rfl rfl rfl
def F_Frames_hold (a1 : Int64) (g : pm_s) (u : pm_J) : Option (pm_J) := if (u.1 57 6) ≤ 0 then some u else if pm_ok ((u.1 57 6) - 1) 150 = true then if 6 ≤ (u.1 62 (((u.1 57 6) - 1).toNatClampNeg)) then some u else if pm_ok ((u.1 57 6) - 1) 150 = true then if pm_ok ((((u.1 57 6) - 1) * 6) + (u.1 62 (((u.1 57 6) - 1).toNatClampNeg))) 900 = true then if pm_ok ((u.1 57 6) - 1) 150 = true then if pm_ok ((u.1 57 6) - 1) 150 = true then some (wi (wj u 63 (((((u.1 57 6) - 1) * 6) + (u.1 62 (((u.1 57 6) - 1).toNatClampNeg))).toNatClampNeg) a1) 62 (((u.1 57 6) - 1).toNatClampNeg) ((u.1 62 (((u.1 57 6) - 1).toNatClampNeg)) + 1)) else none else none else none else none else none
set_option maxHeartbeats 4000000 in
set_option maxRecDepth 100000 in
theorem c_Frames_hold (l : Launch) (h0 : Nat) (D : va_G) {g : pm_s} {u : pm_J} (hT : sh_T g) {a1 : Int64} {out : pm_J} (h : F_Frames_hold a1 g u = some out) : pm_C l h0 D m_Frames_hold 0 [.ref 57, .long a1] (sm g u) none (sm g out) := by
  refine pm_met (by decide +kernel) (Nat.le_of_ble_eq_true rfl) (Nat.le_refl _) (Nat.le_refl _) ?_
  intro p e R s m args below meth c
  unfold F_Frames_hold at h
  refine pm_blk (pc' := 4) (L' := [(0, .ref 57), (1, .long a1)]) (S' := [.int (u.1 57 6)]) (M' := sm g u) [pm_o (.aload_n 0), pm_of (.getfield 33) 4 6 0] (by decide +kernel) rfl ?_
  refine pm_if_le (off := 61) 65 (by decide +kernel) (by decide) (fun hc1 => ?_) (fun hc1 => ?_)
  · rw [if_pos hc1] at h
    have h9 := Option.some.inj h
    subst h9
    exact pm_retv rfl (by decide +kernel) rfl rfl
  · rw [if_neg hc1] at h
    refine pm_blk (pc' := 17) (L' := [(0, .ref 57), (1, .long a1)]) (S' := [.int ((u.1 57 6) - 1), .ref 62]) (M' := sm g u) [pm_o (.aload_n 0), pm_of (.getfield 26) 4 4 2, pm_o (.aload_n 0), pm_of (.getfield 33) 4 6 0, pm_oi (.iconst 1) 1, pm_o .isub] (by decide +kernel) rfl ?_
    obtain ⟨ho2, h⟩ := pm_ifs h
    refine pm_iald (by decide +kernel) rfl (pm_ok_in ho2) ?_
    refine pm_blk (pc' := 20) (L' := [(0, .ref 57), (1, .long a1)]) (S' := [.int 6, .int (u.1 62 (((u.1 57 6) - 1).toNatClampNeg))]) (M' := sm g u) [pm_oi (.bipush 6) 6] (by decide +kernel) rfl ?_
    refine pm_ic_ge (off := 45) 65 (by decide +kernel) (by decide) (fun hc3 => ?_) (fun hc3 => ?_)
    · rw [if_pos hc3] at h
      have h9 := Option.some.inj h
      subst h9
      exact pm_retv rfl (by decide +kernel) rfl rfl
    · rw [if_neg hc3] at h
      refine pm_blk (pc' := 46) (L' := [(0, .ref 57), (1, .long a1)]) (S' := [.int ((u.1 57 6) - 1), .ref 62, .int (((u.1 57 6) - 1) * 6), .ref 63]) (M' := sm g u) [pm_o (.aload_n 0), pm_of (.getfield 29) 4 5 2, pm_o (.aload_n 0), pm_of (.getfield 33) 4 6 0, pm_oi (.iconst 1) 1, pm_o .isub, pm_oi (.bipush 6) 6, pm_o .imul, pm_o (.aload_n 0), pm_of (.getfield 26) 4 4 2, pm_o (.aload_n 0), pm_of (.getfield 33) 4 6 0, pm_oi (.iconst 1) 1, pm_o .isub] (by decide +kernel) rfl ?_
      obtain ⟨ho4, h⟩ := pm_ifs h
      refine pm_iald (by decide +kernel) rfl (pm_ok_in ho4) ?_
      refine pm_blk (pc' := 49) (L' := [(0, .ref 57), (1, .long a1)]) (S' := [.long a1, .int ((((u.1 57 6) - 1) * 6) + (u.1 62 (((u.1 57 6) - 1).toNatClampNeg))), .ref 63]) (M' := sm g u) [pm_o .iadd, pm_o (.lload_n 1)] (by decide +kernel) rfl ?_
      obtain ⟨ho5, h⟩ := pm_ifs h
      refine pm_last (by decide +kernel) rfl  (pm_ok_in ho5) ?_
      refine pm_blk (pc' := 61) (L' := [(0, .ref 57), (1, .long a1)]) (S' := [.int ((u.1 57 6) - 1), .ref 62, .int ((u.1 57 6) - 1), .ref 62]) (M' := sm g (wj u 63 (((((u.1 57 6) - 1) * 6) + (u.1 62 (((u.1 57 6) - 1).toNatClampNeg))).toNatClampNeg) a1)) [pm_o (.aload_n 0), pm_of (.getfield 26) 4 4 2, pm_o (.aload_n 0), pm_of (.getfield 33) 4 6 0, pm_oi (.iconst 1) 1, pm_o .isub, pm_o .dup2] (by decide +kernel) rfl ?_
      obtain ⟨ho6, h⟩ := pm_ifs h
      refine pm_iald (by decide +kernel) rfl (pm_ok_in ho6) ?_
      refine pm_blk (pc' := 64) (L' := [(0, .ref 57), (1, .long a1)]) (S' := [.int ((u.1 62 (((u.1 57 6) - 1).toNatClampNeg)) + 1), .int ((u.1 57 6) - 1), .ref 62]) (M' := sm g (wj u 63 (((((u.1 57 6) - 1) * 6) + (u.1 62 (((u.1 57 6) - 1).toNatClampNeg))).toNatClampNeg) a1)) [pm_oi (.iconst 1) 1, pm_o .iadd] (by decide +kernel) rfl ?_
      obtain ⟨ho7, h⟩ := pm_ifs h
      refine pm_iast (by decide +kernel) rfl  (pm_ok_in ho7) ?_
      refine pm_blk (pc' := 65) (L' := [(0, .ref 57), (1, .long a1)]) (S' := []) (M' := sm g (wi (wj u 63 (((((u.1 57 6) - 1) * 6) + (u.1 62 (((u.1 57 6) - 1).toNatClampNeg))).toNatClampNeg) a1) 62 (((u.1 57 6) - 1).toNatClampNeg) ((u.1 62 (((u.1 57 6) - 1).toNatClampNeg)) + 1))) [] (by decide +kernel) rfl ?_
      have h9 := Option.some.inj h
      subst h9
      exact pm_retv rfl (by decide +kernel) rfl rfl
def F_Frames_dropHeld (g : pm_s) (u : pm_J) : Option (pm_J) := if (u.1 57 6) ≤ 0 then some u else if pm_ok ((u.1 57 6) - 1) 150 = true then some (wi u 62 (((u.1 57 6) - 1).toNatClampNeg) 0) else none
set_option maxHeartbeats 4000000 in
set_option maxRecDepth 100000 in
theorem c_Frames_dropHeld (l : Launch) (h0 : Nat) (D : va_G) {g : pm_s} {u : pm_J} (hT : sh_T g) {out : pm_J} (h : F_Frames_dropHeld g u = some out) : pm_C l h0 D m_Frames_dropHeld 0 [.ref 57] (sm g u) none (sm g out) := by
  refine pm_met (by decide +kernel) (Nat.le_of_ble_eq_true rfl) (Nat.le_refl _) (Nat.le_refl _) ?_
  intro p e R s m args below meth c
  unfold F_Frames_dropHeld at h
  refine pm_blk (pc' := 4) (L' := [(0, .ref 57)]) (S' := [.int (u.1 57 6)]) (M' := sm g u) [pm_o (.aload_n 0), pm_of (.getfield 33) 4 6 0] (by decide +kernel) rfl ?_
  refine pm_if_le (off := 15) 19 (by decide +kernel) (by decide) (fun hc1 => ?_) (fun hc1 => ?_)
  · rw [if_pos hc1] at h
    have h9 := Option.some.inj h
    subst h9
    exact pm_retv rfl (by decide +kernel) rfl rfl
  · rw [if_neg hc1] at h
    refine pm_blk (pc' := 18) (L' := [(0, .ref 57)]) (S' := [.int 0, .int ((u.1 57 6) - 1), .ref 62]) (M' := sm g u) [pm_o (.aload_n 0), pm_of (.getfield 26) 4 4 2, pm_o (.aload_n 0), pm_of (.getfield 33) 4 6 0, pm_oi (.iconst 1) 1, pm_o .isub, pm_oi (.iconst 0) 0] (by decide +kernel) rfl ?_
    obtain ⟨ho2, h⟩ := pm_ifs h
    refine pm_iast (by decide +kernel) rfl  (pm_ok_in ho2) ?_
    refine pm_blk (pc' := 19) (L' := [(0, .ref 57)]) (S' := []) (M' := sm g (wi u 62 (((u.1 57 6) - 1).toNatClampNeg) 0)) [] (by decide +kernel) rfl ?_
    have h9 := Option.some.inj h
    subst h9
    exact pm_retv rfl (by decide +kernel) rfl rfl
def F_Frames_held (a1 : Int32) (g : pm_s) (u : pm_J) : Option (Int64) := if a1 < 0 then some 0 else (F_Frames_heldCount g u).bind fun q2 => if q2 ≤ a1 then some 0 else if pm_ok ((((u.1 57 6) - 1) * 6) + a1) 900 = true then some (u.2 63 (((((u.1 57 6) - 1) * 6) + a1).toNatClampNeg)) else none
set_option maxHeartbeats 4000000 in
set_option maxRecDepth 100000 in
theorem c_Frames_held (l : Launch) (h0 : Nat) (D : va_G) {g : pm_s} {u : pm_J} (hT : sh_T g) {a1 : Int32} {out : Int64} (h : F_Frames_held a1 g u = some out) : pm_C l h0 D m_Frames_held 1 [.ref 57, .int a1] (sm g u) (some (.long out)) (sm g u) := by
  refine pm_met (by decide +kernel) (Nat.le_of_ble_eq_true rfl) (Nat.le_refl _) (Nat.le_refl _) ?_
  intro p e R s m args below meth c
  unfold F_Frames_held at h
  refine pm_blk (pc' := 1) (L' := [(0, .ref 57), (1, .int a1)]) (S' := [.int a1]) (M' := sm g u) [pm_o (.iload_n 1)] (by decide +kernel) rfl ?_
  refine pm_if_lt (off := 30) 31 (by decide +kernel) (by decide) (fun hc1 => ?_) (fun hc1 => ?_)
  · rw [if_pos hc1] at h
    refine pm_blk (pc' := 32) (L' := [(0, .ref 57), (1, .int a1)]) (S' := [.long 0]) (M' := sm g u) [pm_ol (.lconst 0) 0] (by decide +kernel) rfl ?_
    have h9 := Option.some.inj h
    subst h9
    exact pm_retl rfl (by decide +kernel) rfl rfl rfl
  · rw [if_neg hc1] at h
    refine pm_blk (pc' := 6) (L' := [(0, .ref 57), (1, .int a1)]) (S' := [.ref 57, .int a1]) (M' := sm g u) [pm_o (.iload_n 1), pm_o (.aload_n 0)] (by decide +kernel) rfl ?_
    obtain ⟨q2, hq2, h⟩ := pm_bd h
    refine pm_cV (idx := 46) m_Frames_heldCount (c_Frames_heldCount l h0 D hT hq2) (As := []) (S0 := [.int a1]) rfl (by decide +kernel) k_Frames_heldCount l_Frames_46 (Nat.le_of_ble_eq_true rfl) (Nat.le_of_ble_eq_true rfl) (Nat.le_refl _) (Nat.le_refl _) ?_
    refine pm_blk (pc' := 9) (L' := [(0, .ref 57), (1, .int a1)]) (S' := [.int q2, .int a1]) (M' := sm g u) [] (by decide +kernel) rfl ?_
    refine pm_ic_ge (off := 22) 31 (by decide +kernel) (by decide) (fun hc3 => ?_) (fun hc3 => ?_)
    · rw [if_pos hc3] at h
      refine pm_blk (pc' := 32) (L' := [(0, .ref 57), (1, .int a1)]) (S' := [.long 0]) (M' := sm g u) [pm_ol (.lconst 0) 0] (by decide +kernel) rfl ?_
      have h9 := Option.some.inj h
      subst h9
      exact pm_retl rfl (by decide +kernel) rfl rfl rfl
    · rw [if_neg hc3] at h
      refine pm_blk (pc' := 27) (L' := [(0, .ref 57), (1, .int a1)]) (S' := [.int ((((u.1 57 6) - 1) * 6) + a1), .ref 63]) (M' := sm g u) [pm_o (.aload_n 0), pm_of (.getfield 29) 4 5 2, pm_o (.aload_n 0), pm_of (.getfield 33) 4 6 0, pm_oi (.iconst 1) 1, pm_o .isub, pm_oi (.bipush 6) 6, pm_o .imul, pm_o (.iload_n 1), pm_o .iadd] (by decide +kernel) rfl ?_
      obtain ⟨ho4, h⟩ := pm_ifs h
      refine pm_lald (by decide +kernel) rfl (pm_ok_in ho4) ?_
      refine pm_blk (pc' := 28) (L' := [(0, .ref 57), (1, .int a1)]) (S' := [.long (u.2 63 (((((u.1 57 6) - 1) * 6) + a1).toNatClampNeg))]) (M' := sm g u) [] (by decide +kernel) rfl ?_
      refine pm_goto (off := 4) 32 (by decide +kernel) (by decide) ?_
      have h9 := Option.some.inj h
      subst h9
      exact pm_retl rfl (by decide +kernel) rfl rfl rfl
