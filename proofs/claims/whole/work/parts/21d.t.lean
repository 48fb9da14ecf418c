/-! the five throws -/
def kx_of (k : Nat) : String := if k = 0 then kx_ia else if k = 1 then kx_io else kx_is
def T_BC_feed (a1 : Int32) (a2 : Int64) (g : pm_s) (u : pm_J) : Option Nat := if a1 < 1 then some 0 else if 8 < a1 then some 0 else if ((u.1 0 1) + a1) ≤ 3000 then none else some 0
set_option maxHeartbeats 4000000 in
set_option maxRecDepth 100000 in
theorem t_BC_feed {l : Launch} (hfl : l.flags = pinnedFlags ++ [noTraceFlag]) (h0 : Nat) (D : pm_D) {g : pm_s} {u : pm_J} (hT : sh_T g) {a1 : Int32} {a2 : Int64} {out : Nat} (h : T_BC_feed a1 a2 g u = some out) : pm_T l h0 D m_BC_feed 6 [.ref 0, .int a1, .long a2] (sm g u) (kx_of out) := by
  unfold T_BC_feed at h
  refine pm_metT (by decide +kernel) (Nat.le_of_ble_eq_true rfl) ?_
  intro p e R s m args below meth c hex hR0
  refine pm_blk (pc' := 2) (L' := [(0, .ref 0), (1, .int a1), (2, .long a2)]) (S' := [.int 1, .int a1]) (M' := sm g u) [pm_o (.iload_n 1), pm_oi (.iconst 1) 1] (by decide +kernel) rfl ?_
  refine pm_ic_lt (off := 21) 23 (by decide +kernel) (by decide) (fun hc1 => ?_) (fun hc1 => ?_)
  · rw [if_pos hc1] at h
    have h9 := Option.some.inj h
    subst h9
    exact pm_thr (X := kx_ia) (msg := "n is not 1 .. 8, or the text would be too long") (iN := 88) (iM := 90) (ic := 92) (names := ["java/lang/RuntimeException", "java/lang/Exception"]) hfl hex hR0 (by decide +kernel) (by decide +kernel) (by decide +kernel) (by decide +kernel) (by decide +kernel) (pm_c6 211 rfl rfl) (pm_c4 96 rfl rfl) (pm_c1 22 rfl rfl) (by decide +kernel) rfl (fun s args h1 h2 => kt_ia h1 h2) (by decide +kernel) (by decide +kernel) rfl (Nat.le_of_ble_eq_true rfl)
  · rw [if_neg hc1] at h
    refine pm_blk (pc' := 8) (L' := [(0, .ref 0), (1, .int a1), (2, .long a2)]) (S' := [.int 8, .int a1]) (M' := sm g u) [pm_o (.iload_n 1), pm_oi (.bipush 8) 8] (by decide +kernel) rfl ?_
    refine pm_ic_gt (off := 15) 23 (by decide +kernel) (by decide) (fun hc2 => ?_) (fun hc2 => ?_)
    · rw [if_pos hc2] at h
      have h9 := Option.some.inj h
      subst h9
      exact pm_thr (X := kx_ia) (msg := "n is not 1 .. 8, or the text would be too long") (iN := 88) (iM := 90) (ic := 92) (names := ["java/lang/RuntimeException", "java/lang/Exception"]) hfl hex hR0 (by decide +kernel) (by decide +kernel) (by decide +kernel) (by decide +kernel) (by decide +kernel) (pm_c6 211 rfl rfl) (pm_c4 96 rfl rfl) (pm_c1 22 rfl rfl) (by decide +kernel) rfl (fun s args h1 h2 => kt_ia h1 h2) (by decide +kernel) (by decide +kernel) rfl (Nat.le_of_ble_eq_true rfl)
    · rw [if_neg hc2] at h
      refine pm_blk (pc' := 20) (L' := [(0, .ref 0), (1, .int a1), (2, .long a2)]) (S' := [.int 3000, .int ((u.1 0 1) + a1)]) (M' := sm g u) [pm_o (.aload_n 0), pm_of (.getfield 84) 0 1 0, pm_o (.iload_n 1), pm_o .iadd, pm_oi (.sipush 3000) 3000] (by decide +kernel) rfl ?_
      refine pm_ic_le (off := 13) 33 (by decide +kernel) (by decide) (fun hc3 => ?_) (fun hc3 => ?_)
      · rw [if_pos hc3] at h
        cases h
      · rw [if_neg hc3] at h
        have h9 := Option.some.inj h
        subst h9
        exact pm_thr (X := kx_ia) (msg := "n is not 1 .. 8, or the text would be too long") (iN := 88) (iM := 90) (ic := 92) (names := ["java/lang/RuntimeException", "java/lang/Exception"]) hfl hex hR0 (by decide +kernel) (by decide +kernel) (by decide +kernel) (by decide +kernel) (by decide +kernel) (pm_c6 211 rfl rfl) (pm_c4 96 rfl rfl) (pm_c1 22 rfl rfl) (by decide +kernel) rfl (fun s args h1 h2 => kt_ia h1 h2) (by decide +kernel) (by decide +kernel) rfl (Nat.le_of_ble_eq_true rfl)
def T_BC_def (a1 : Int32) (a2 : Int32) (g : pm_s) (u : pm_J) : Option Nat := if a1 < 0 then some 1 else (F_BC_defs g u).bind fun q2 => if q2 ≤ a1 then some 1 else if a2 < 0 then some 1 else if a2 < 6 then none else some 1
set_option maxHeartbeats 4000000 in
set_option maxRecDepth 100000 in
theorem t_BC_def {l : Launch} (hfl : l.flags = pinnedFlags ++ [noTraceFlag]) (h0 : Nat) (D : pm_D) {g : pm_s} {u : pm_J} (hT : sh_T g) {a1 : Int32} {a2 : Int32} {out : Nat} (h : T_BC_def a1 a2 g u = some out) : pm_T l h0 D m_BC_def 6 [.ref 0, .int a1, .int a2] (sm g u) (kx_of out) := by
  unfold T_BC_def at h
  refine pm_metT (by decide +kernel) (Nat.le_of_ble_eq_true rfl) ?_
  intro p e R s m args below meth c hex hR0
  refine pm_blk (pc' := 1) (L' := [(0, .ref 0), (1, .int a1), (2, .int a2)]) (S' := [.int a1]) (M' := sm g u) [pm_o (.iload_n 1)] (by decide +kernel) rfl ?_
  refine pm_if_lt (off := 21) 22 (by decide +kernel) (by decide) (fun hc1 => ?_) (fun hc1 => ?_)
  · rw [if_pos hc1] at h
    have h9 := Option.some.inj h
    subst h9
    exact pm_thr (X := kx_io) (msg := "no such DEF, or nothing to tell of it") (iN := 138) (iM := 140) (ic := 142) (names := ["java/lang/RuntimeException", "java/lang/Exception"]) hfl hex hR0 (by decide +kernel) (by decide +kernel) (by decide +kernel) (by decide +kernel) (by decide +kernel) (pm_c6 223 rfl rfl) (pm_c6 224 rfl rfl) (pm_c1 29 rfl rfl) (by decide +kernel) rfl (fun s args h1 h2 => kt_io h1 h2) (by decide +kernel) (by decide +kernel) rfl (Nat.le_of_ble_eq_true rfl)
  · rw [if_neg hc1] at h
    refine pm_blk (pc' := 6) (L' := [(0, .ref 0), (1, .int a1), (2, .int a2)]) (S' := [.ref 0, .int a1]) (M' := sm g u) [pm_o (.iload_n 1), pm_o (.aload_n 0)] (by decide +kernel) rfl ?_
    obtain ⟨q2, hq2, h⟩ := pm_bd h
    refine pm_cV (idx := 135) m_BC_defs (c_BC_defs l h0 D hT hq2) (As := []) (S0 := [.int a1]) rfl (by decide +kernel) k_BC_defs l_BC_135 (Nat.le_of_ble_eq_true rfl) (Nat.le_of_ble_eq_true rfl) (Nat.le_succ _) (Nat.le_add_right _ _) ?_
    refine pm_blk (pc' := 9) (L' := [(0, .ref 0), (1, .int a1), (2, .int a2)]) (S' := [.int q2, .int a1]) (M' := sm g u) [] (by decide +kernel) rfl ?_
    refine pm_ic_ge (off := 13) 22 (by decide +kernel) (by decide) (fun hc3 => ?_) (fun hc3 => ?_)
    · rw [if_pos hc3] at h
      have h9 := Option.some.inj h
      subst h9
      exact pm_thr (X := kx_io) (msg := "no such DEF, or nothing to tell of it") (iN := 138) (iM := 140) (ic := 142) (names := ["java/lang/RuntimeException", "java/lang/Exception"]) hfl hex hR0 (by decide +kernel) (by decide +kernel) (by decide +kernel) (by decide +kernel) (by decide +kernel) (pm_c6 223 rfl rfl) (pm_c6 224 rfl rfl) (pm_c1 29 rfl rfl) (by decide +kernel) rfl (fun s args h1 h2 => kt_io h1 h2) (by decide +kernel) (by decide +kernel) rfl (Nat.le_of_ble_eq_true rfl)
    · rw [if_neg hc3] at h
      refine pm_blk (pc' := 13) (L' := [(0, .ref 0), (1, .int a1), (2, .int a2)]) (S' := [.int a2]) (M' := sm g u) [pm_o (.iload_n 2)] (by decide +kernel) rfl ?_
      refine pm_if_lt (off := 9) 22 (by decide +kernel) (by decide) (fun hc4 => ?_) (fun hc4 => ?_)
      · rw [if_pos hc4] at h
        have h9 := Option.some.inj h
        subst h9
        exact pm_thr (X := kx_io) (msg := "no such DEF, or nothing to tell of it") (iN := 138) (iM := 140) (ic := 142) (names := ["java/lang/RuntimeException", "java/lang/Exception"]) hfl hex hR0 (by decide +kernel) (by decide +kernel) (by decide +kernel) (by decide +kernel) (by decide +kernel) (pm_c6 223 rfl rfl) (pm_c6 224 rfl rfl) (pm_c1 29 rfl rfl) (by decide +kernel) rfl (fun s args h1 h2 => kt_io h1 h2) (by decide +kernel) (by decide +kernel) rfl (Nat.le_of_ble_eq_true rfl)
      · rw [if_neg hc4] at h
        refine pm_blk (pc' := 19) (L' := [(0, .ref 0), (1, .int a1), (2, .int a2)]) (S' := [.int 6, .int a2]) (M' := sm g u) [pm_o (.iload_n 2), pm_oi (.bipush 6) 6] (by decide +kernel) rfl ?_
        refine pm_ic_lt (off := 13) 32 (by decide +kernel) (by decide) (fun hc5 => ?_) (fun hc5 => ?_)
        · rw [if_pos hc5] at h
          cases h
        · rw [if_neg hc5] at h
          have h9 := Option.some.inj h
          subst h9
          exact pm_thr (X := kx_io) (msg := "no such DEF, or nothing to tell of it") (iN := 138) (iM := 140) (ic := 142) (names := ["java/lang/RuntimeException", "java/lang/Exception"]) hfl hex hR0 (by decide +kernel) (by decide +kernel) (by decide +kernel) (by decide +kernel) (by decide +kernel) (pm_c6 223 rfl rfl) (pm_c6 224 rfl rfl) (pm_c1 29 rfl rfl) (by decide +kernel) rfl (fun s args h1 h2 => kt_io h1 h2) (by decide +kernel) (by decide +kernel) rfl (Nat.le_of_ble_eq_true rfl)
def T_BC_argument (a1 : Int64) (g : pm_s) (u : pm_J) : Option Nat := if (u.1 0 4) < 6 then none else some 2
set_option maxHeartbeats 4000000 in
set_option maxRecDepth 100000 in
theorem t_BC_argument {l : Launch} (hfl : l.flags = pinnedFlags ++ [noTraceFlag]) (h0 : Nat) (D : pm_D) {g : pm_s} {u : pm_J} (hT : sh_T g) {a1 : Int64} {out : Nat} (h : T_BC_argument a1 g u = some out) : pm_T l h0 D m_BC_argument 6 [.ref 0, .long a1] (sm g u) (kx_of out) := by
  unfold T_BC_argument at h
  refine pm_metT (by decide +kernel) (Nat.le_of_ble_eq_true rfl) ?_
  intro p e R s m args below meth c hex hR0
  refine pm_blk (pc' := 6) (L' := [(0, .ref 0), (1, .long a1)]) (S' := [.int 6, .int (u.1 0 4)]) (M' := sm g u) [pm_o (.aload_n 0), pm_of (.getfield 147) 0 4 0, pm_oi (.bipush 6) 6] (by decide +kernel) rfl ?_
  refine pm_ic_lt (off := 13) 19 (by decide +kernel) (by decide) (fun hc1 => ?_) (fun hc1 => ?_)
  · rw [if_pos hc1] at h
    cases h
  · rw [if_neg hc1] at h
    have h9 := Option.some.inj h
    subst h9
    exact pm_thr (X := kx_is) (msg := "there are six arguments") (iN := 150) (iM := 152) (ic := 154) (names := ["java/lang/RuntimeException", "java/lang/Exception"]) hfl hex hR0 (by decide +kernel) (by decide +kernel) (by decide +kernel) (by decide +kernel) (by decide +kernel) (pm_c7 8 rfl rfl) (pm_c7 9 rfl rfl) (pm_c1 31 rfl rfl) (by decide +kernel) rfl (fun s args h1 h2 => kt_is h1 h2) (by decide +kernel) (by decide +kernel) rfl (Nat.le_of_ble_eq_true rfl)
def T_BC_run (N : Nat) (a1 : Int32) (a2 : Int32) (a3 : Int32) (g : pm_s) (u : pm_J) : Option Nat := if a1 < 0 then some 1 else (F_BC_defs g u).bind fun q2 => if a1 < q2 then if a3 < 0 then some 0 else if 20000 < a3 then some 0 else (F_BC_takesArguments N a1 g u).bind fun q6 => if q6 = 0 then some 0 else none else some 1
set_option maxHeartbeats 4000000 in
set_option maxRecDepth 100000 in
theorem t_BC_run {l : Launch} (hfl : l.flags = pinnedFlags ++ [noTraceFlag]) (h0 : Nat) (D : pm_D) {g : pm_s} {u : pm_J} (hT : sh_T g) {N : Nat} {a1 : Int32} {a2 : Int32} {a3 : Int32} {out : Nat} (h : T_BC_run N a1 a2 a3 g u = some out) : pm_T l h0 D m_BC_run 6 [.ref 0, .int a1, .int a2, .int a3] (sm g u) (kx_of out) := by
  unfold T_BC_run at h
  refine pm_metT (by decide +kernel) (Nat.le_of_ble_eq_true rfl) ?_
  intro p e R s m args below meth c hex hR0
  refine pm_blk (pc' := 1) (L' := [(0, .ref 0), (1, .int a1), (2, .int a2), (3, .int a3)]) (S' := [.int a1]) (M' := sm g u) [pm_o (.iload_n 1)] (by decide +kernel) rfl ?_
  refine pm_if_lt (off := 11) 12 (by decide +kernel) (by decide) (fun hc1 => ?_) (fun hc1 => ?_)
  · rw [if_pos hc1] at h
    have h9 := Option.some.inj h
    subst h9
    exact pm_thr (X := kx_io) (msg := "no such DEF") (iN := 138) (iM := 155) (ic := 142) (names := ["java/lang/RuntimeException", "java/lang/Exception"]) hfl hex hR0 (by decide +kernel) (by decide +kernel) (by decide +kernel) (by decide +kernel) (by decide +kernel) (pm_c6 223 rfl rfl) (pm_c6 224 rfl rfl) (pm_c1 29 rfl rfl) (by decide +kernel) rfl (fun s args h1 h2 => kt_io h1 h2) (by decide +kernel) (by decide +kernel) rfl (Nat.le_of_ble_eq_true rfl)
  · rw [if_neg hc1] at h
    refine pm_blk (pc' := 6) (L' := [(0, .ref 0), (1, .int a1), (2, .int a2), (3, .int a3)]) (S' := [.ref 0, .int a1]) (M' := sm g u) [pm_o (.iload_n 1), pm_o (.aload_n 0)] (by decide +kernel) rfl ?_
    obtain ⟨q2, hq2, h⟩ := pm_bd h
    refine pm_cV (idx := 135) m_BC_defs (c_BC_defs l h0 D hT hq2) (As := []) (S0 := [.int a1]) rfl (by decide +kernel) k_BC_defs l_BC_135 (Nat.le_of_ble_eq_true rfl) (Nat.le_of_ble_eq_true rfl) (Nat.le_succ _) (Nat.le_add_right _ _) ?_
    refine pm_blk (pc' := 9) (L' := [(0, .ref 0), (1, .int a1), (2, .int a2), (3, .int a3)]) (S' := [.int q2, .int a1]) (M' := sm g u) [] (by decide +kernel) rfl ?_
    refine pm_ic_lt (off := 13) 22 (by decide +kernel) (by decide) (fun hc3 => ?_) (fun hc3 => ?_)
    · rw [if_pos hc3] at h
      refine pm_blk (pc' := 23) (L' := [(0, .ref 0), (1, .int a1), (2, .int a2), (3, .int a3)]) (S' := [.int a3]) (M' := sm g u) [pm_o (.iload_n 3)] (by decide +kernel) rfl ?_
      refine pm_if_lt (off := 18) 41 (by decide +kernel) (by decide) (fun hc4 => ?_) (fun hc4 => ?_)
      · rw [if_pos hc4] at h
        have h9 := Option.some.inj h
        subst h9
        exact pm_thr (X := kx_ia) (msg := "steps, or the arguments, do not fit") (iN := 88) (iM := 161) (ic := 92) (names := ["java/lang/RuntimeException", "java/lang/Exception"]) hfl hex hR0 (by decide +kernel) (by decide +kernel) (by decide +kernel) (by decide +kernel) (by decide +kernel) (pm_c6 211 rfl rfl) (pm_c4 96 rfl rfl) (pm_c1 22 rfl rfl) (by decide +kernel) rfl (fun s args h1 h2 => kt_ia h1 h2) (by decide +kernel) (by decide +kernel) rfl (Nat.le_of_ble_eq_true rfl)
      · rw [if_neg hc4] at h
        refine pm_blk (pc' := 30) (L' := [(0, .ref 0), (1, .int a1), (2, .int a2), (3, .int a3)]) (S' := [.int 20000, .int a3]) (M' := sm g u) [pm_o (.iload_n 3), pm_oi (.sipush 20000) 20000] (by decide +kernel) rfl ?_
        refine pm_ic_gt (off := 11) 41 (by decide +kernel) (by decide) (fun hc5 => ?_) (fun hc5 => ?_)
        · rw [if_pos hc5] at h
          have h9 := Option.some.inj h
          subst h9
          exact pm_thr (X := kx_ia) (msg := "steps, or the arguments, do not fit") (iN := 88) (iM := 161) (ic := 92) (names := ["java/lang/RuntimeException", "java/lang/Exception"]) hfl hex hR0 (by decide +kernel) (by decide +kernel) (by decide +kernel) (by decide +kernel) (by decide +kernel) (pm_c6 211 rfl rfl) (pm_c4 96 rfl rfl) (pm_c1 22 rfl rfl) (by decide +kernel) rfl (fun s args h1 h2 => kt_ia h1 h2) (by decide +kernel) (by decide +kernel) rfl (Nat.le_of_ble_eq_true rfl)
        · rw [if_neg hc5] at h
          refine pm_blk (pc' := 35) (L' := [(0, .ref 0), (1, .int a1), (2, .int a2), (3, .int a3)]) (S' := [.int a1, .ref 0]) (M' := sm g u) [pm_o (.aload_n 0), pm_o (.iload_n 1)] (by decide +kernel) rfl ?_
          obtain ⟨q6, hq6, h⟩ := pm_bd h
          refine pm_cV (idx := 157) m_BC_takesArguments (c_BC_takesArguments l h0 D hT hq6) (As := [.int a1]) (S0 := []) rfl (by decide +kernel) k_BC_takesArguments l_BC_157 (Nat.le_of_ble_eq_true rfl) (Nat.le_of_ble_eq_true rfl) (Nat.le_succ _) (Nat.le_add_right _ _) ?_
          refine pm_blk (pc' := 38) (L' := [(0, .ref 0), (1, .int a1), (2, .int a2), (3, .int a3)]) (S' := [.int q6]) (M' := sm g u) [] (by decide +kernel) rfl ?_
          refine pm_if_ne (off := 13) 51 (by decide +kernel) (by decide) (fun hc7 => ?_) (fun hc7 => ?_)
          · rw [if_neg hc7] at h
            cases h
          · rw [if_pos hc7] at h
            have h9 := Option.some.inj h
            subst h9
            exact pm_thr (X := kx_ia) (msg := "steps, or the arguments, do not fit") (iN := 88) (iM := 161) (ic := 92) (names := ["java/lang/RuntimeException", "java/lang/Exception"]) hfl hex hR0 (by decide +kernel) (by decide +kernel) (by decide +kernel) (by decide +kernel) (by decide +kernel) (pm_c6 211 rfl rfl) (pm_c4 96 rfl rfl) (pm_c1 22 rfl rfl) (by decide +kernel) rfl (fun s args h1 h2 => kt_ia h1 h2) (by decide +kernel) (by decide +kernel) rfl (Nat.le_of_ble_eq_true rfl)
    · rw [if_neg hc3] at h
      have h9 := Option.some.inj h
      subst h9
      exact pm_thr (X := kx_io) (msg := "no such DEF") (iN := 138) (iM := 155) (ic := 142) (names := ["java/lang/RuntimeException", "java/lang/Exception"]) hfl hex hR0 (by decide +kernel) (by decide +kernel) (by decide +kernel) (by decide +kernel) (by decide +kernel) (pm_c6 223 rfl rfl) (pm_c6 224 rfl rfl) (pm_c1 29 rfl rfl) (by decide +kernel) rfl (fun s args h1 h2 => kt_io h1 h2) (by decide +kernel) (by decide +kernel) rfl (Nat.le_of_ble_eq_true rfl)
def T_BC_told (a1 : Int32) (g : pm_s) (u : pm_J) : Option Nat := if a1 < 0 then some 1 else if a1 < 8 then none else some 1
set_option maxHeartbeats 4000000 in
set_option maxRecDepth 100000 in
theorem t_BC_told {l : Launch} (hfl : l.flags = pinnedFlags ++ [noTraceFlag]) (h0 : Nat) (D : pm_D) {g : pm_s} {u : pm_J} (hT : sh_T g) {a1 : Int32} {out : Nat} (h : T_BC_told a1 g u = some out) : pm_T l h0 D m_BC_told 6 [.ref 0, .int a1] (sm g u) (kx_of out) := by
  unfold T_BC_told at h
  refine pm_metT (by decide +kernel) (Nat.le_of_ble_eq_true rfl) ?_
  intro p e R s m args below meth c hex hR0
  refine pm_blk (pc' := 1) (L' := [(0, .ref 0), (1, .int a1)]) (S' := [.int a1]) (M' := sm g u) [pm_o (.iload_n 1)] (by decide +kernel) rfl ?_
  refine pm_if_lt (off := 9) 10 (by decide +kernel) (by decide) (fun hc1 => ?_) (fun hc1 => ?_)
  · rw [if_pos hc1] at h
    have h9 := Option.some.inj h
    subst h9
    exact pm_thr (X := kx_io) (msg := "nothing is told of that") (iN := 138) (iM := 167) (ic := 142) (names := ["java/lang/RuntimeException", "java/lang/Exception"]) hfl hex hR0 (by decide +kernel) (by decide +kernel) (by decide +kernel) (by decide +kernel) (by decide +kernel) (pm_c6 223 rfl rfl) (pm_c6 224 rfl rfl) (pm_c1 29 rfl rfl) (by decide +kernel) rfl (fun s args h1 h2 => kt_io h1 h2) (by decide +kernel) (by decide +kernel) rfl (Nat.le_of_ble_eq_true rfl)
  · rw [if_neg hc1] at h
    refine pm_blk (pc' := 7) (L' := [(0, .ref 0), (1, .int a1)]) (S' := [.int 8, .int a1]) (M' := sm g u) [pm_o (.iload_n 1), pm_oi (.bipush 8) 8] (by decide +kernel) rfl ?_
    refine pm_ic_lt (off := 13) 20 (by decide +kernel) (by decide) (fun hc2 => ?_) (fun hc2 => ?_)
    · rw [if_pos hc2] at h
      cases h
    · rw [if_neg hc2] at h
      have h9 := Option.some.inj h
      subst h9
      exact pm_thr (X := kx_io) (msg := "nothing is told of that") (iN := 138) (iM := 167) (ic := 142) (names := ["java/lang/RuntimeException", "java/lang/Exception"]) hfl hex hR0 (by decide +kernel) (by decide +kernel) (by decide +kernel) (by decide +kernel) (by decide +kernel) (pm_c6 223 rfl rfl) (pm_c6 224 rfl rfl) (pm_c1 29 rfl rfl) (by decide +kernel) rfl (fun s args h1 h2 => kt_io h1 h2) (by decide +kernel) (by decide +kernel) rfl (Nat.le_of_ble_eq_true rfl)
