/-! the law's helpers -/
section PMAX
variable {x : pm_c} {y : pm_m} {h0 : Nat} {D : pm_D} {b : pm_b} {Q : State → Prop} {pc : Nat} {L : List (Nat × Value)} {S : List Value} {M : pm_M}
theorem lv_has_nil {ls : Array Slot} {n : Nat} {l : List (Nat × Value)} (h : lv_has ls n l) : lv_has ls n [] := ⟨h.1, h.2.1, fun _ h => nomatch h⟩
theorem pm_asx {q i : Nat} (hd : decode y.2.1 pc = .ok (.astore i, 2)) (hi : i < y.2.2.1) (kk : pm_V x y h0 D b Q (pc + 2) [] S M) : pm_V x y h0 D b Q pc L (.retAddr q :: S) M := by
  obtain ⟨p, l, e, R, s, m, args, below, meth, c⟩ := x
  intro X H locs ls hR hF hlo hL hn hz
  exact lv_astore X.1 X.2.1 hd hL hi rfl (fun ls hL => kk X H locs ls hR hF hlo (lv_has_nil hL) hn hz)
theorem pm_asxn {q : Nat} {k : Fin 4} (hd : decode y.2.1 pc = .ok (.astore_n k, 1)) (hi : (k : Nat) < y.2.2.1) (kk : pm_V x y h0 D b Q (pc + 1) [] S M) : pm_V x y h0 D b Q pc L (.retAddr q :: S) M := by
  obtain ⟨p, l, e, R, s, m, args, below, meth, c⟩ := x
  intro X H locs ls hR hF hlo hL hn hz
  exact lv_astore_n X.1 X.2.1 hd rfl hL hi rfl (fun ls hL => kk X H locs ls hR hF hlo (lv_has_nil hL) hn hz)
end PMAX
def sx (g : pm_s) : pm_s := (g.1 + 1, g.2.1 + 6, g.2.2)
def hh_feed : List (Nat × Nat × Nat × Nat) := [(0, 11, 14, 13)]
theorem kW_feed : pm_kSW m_Law_feed hh_feed 4 := ⟨pm_c1 0 rfl rfl, pm_c6 205 rfl rfl, by decide, by decide, by decide +kernel, by decide, pm_c6 204 rfl rfl⟩
def F_Law_feed_0_139 (N : Nat) (a2 : Int32) (a3 : Int64) (g : pm_s) (u : pm_J) : Option (Int32 × pm_J) := (F_BC_feed N a2 a3 g u).bind fun q1 => if pm_ok 0 1 = true then some (0, (wj q1.2 139 0 q1.1.toInt64)) else none
set_option maxHeartbeats 4000000 in
set_option maxRecDepth 100000 in
theorem c_Law_feed_0_139 (l : Launch) (h0 : Nat) (D : pm_D) {g : pm_s} {u : pm_J} (hT : sh_T g) {N : Nat} {a2 : Int32} {a3 : Int64} {out : Int32 × pm_J} (h : F_Law_feed_0_139 N a2 a3 g u = some out) : pm_CW l h0 D m_Law_feed hh_feed (7) [.ref 0, .int a2, .long a3, .ref 139] (sm g u) (some (.int out.1)) (sm g out.2) := by
  unfold F_Law_feed_0_139 at h
  refine pm_metW (by decide +kernel) (Nat.le_of_ble_eq_true rfl) (Nat.le_refl _) (Nat.le_refl _) ?_
  intro p e R s m args below meth c het
  refine pm_blk (pc' := 6) (L' := [(0, .ref 0), (1, .int a2), (2, .long a3), (4, .ref 139)]) (S' := [.long a3, .int a2, .ref 0, .int 0, .ref 139]) (M' := sm g u) [pm_o (.aload 4), pm_oi (.iconst 0) 0, pm_o (.aload_n 0), pm_o (.iload_n 1), pm_o (.lload_n 2)] (by decide +kernel) rfl ?_
  obtain ⟨q1, hq1, h⟩ := pm_bd h
  refine pm_cV (idx := 7) m_BC_feed (c_BC_feed l h0 D hT hq1) (As := [.int a2, .long a3]) (S0 := [.int 0, .ref 139]) rfl (by decide +kernel) k_BC_feed l_Law_7 (Nat.le_of_ble_eq_true rfl) (Nat.le_of_ble_eq_true rfl) (Nat.le_refl _) (Nat.le_refl _) ?_
  refine pm_blk (pc' := 10) (L' := [(0, .ref 0), (1, .int a2), (2, .long a3), (4, .ref 139)]) (S' := [.long q1.1.toInt64, .int 0, .ref 139]) (M' := sm g q1.2) [pm_o .i2l] (by decide +kernel) rfl ?_
  obtain ⟨ho2, h⟩ := pm_ifs h
  refine pm_last (by decide +kernel) rfl  (pm_ok_in ho2) ?_
  refine pm_blk (pc' := 11) (L' := [(0, .ref 0), (1, .int a2), (2, .long a3), (4, .ref 139)]) (S' := []) (M' := sm g (wj q1.2 139 0 q1.1.toInt64)) [] (by decide +kernel) rfl ?_
  refine pm_goto (off := 7) 18 (by decide +kernel) (by decide) ?_
  refine pm_blk (pc' := 19) (L' := [(0, .ref 0), (1, .int a2), (2, .long a3), (4, .ref 139)]) (S' := [.int 0]) (M' := sm g (wj q1.2 139 0 q1.1.toInt64)) [pm_oi (.iconst 0) 0] (by decide +kernel) rfl ?_
  have h9 := Option.some.inj h
  subst h9
  exact pm_reti rfl (by decide +kernel) rfl rfl rfl
set_option maxHeartbeats 4000000 in
set_option maxRecDepth 100000 in
theorem x_feed_ia {l : Launch} (hfl : l.flags = pinnedFlags ++ [noTraceFlag]) (h0 : Nat) (D : pm_D) {g : pm_s} {u : pm_J} (hT : sh_T g) {a2 : Int32} {a3 : Int64} (h : T_BC_feed a2 a3 g u = some 0) : pm_CW l h0 D m_Law_feed hh_feed 7 [.ref 0, .int a2, .long a3, .ref 139] (sm g u) (some (.int 1)) (sm (sx g) u) := by
  refine pm_metW (by decide +kernel) (Nat.le_of_ble_eq_true rfl) (Nat.le_succ _) (Nat.le_add_right _ _) ?_
  intro p e R s m args below meth c het
  refine pm_blk (pc' := 6) (L' := [(0, .ref 0), (1, .int a2), (2, .long a3), (4, .ref 139)]) (S' := [.long a3, .int a2, .ref 0, .int 0, .ref 139]) (M' := sm g u) [pm_o (.aload 4), pm_oi (.iconst 0) 0, pm_o (.aload_n 0), pm_o (.iload_n 1), pm_o (.lload_n 2)] (by decide +kernel) rfl ?_
  refine pm_cT m_BC_feed (idx := 7) 14 (t_BC_feed hfl h0 D hT h) (As := [.int a2, .long a3]) (S0 := [.int 0, .ref 139]) rfl (by decide +kernel) k_BC_feed l_Law_7 (Nat.le_of_ble_eq_true rfl) (Nat.le_of_ble_eq_true rfl) (Nat.le_refl _) (Nat.le_refl _) (fun X5 X6 X4 T0 T lo cs sl g q ce XS hg hpc hW hce hvm hcls hm hc => px_f1 XS X4 (X1 := kx_ia) (X5 _ (pm_c6 206 rfl rfl)) (va_Nw.use rfl (X6.2.2.2.2.2.2.2.2.2.1 _ List.mem_cons_self)) het (by decide) hg (by rw [hpc]; decide) hW hce hvm hcls hm hc) ?_
  intro q
  refine pm_asx (i := 5) (by decide +kernel) (by decide) ?_
  refine pm_blk (pc' := 17) (L' := []) (S' := [.int 1]) (M' := sm (sx g) u) [pm_oi (.iconst 1) 1] (by decide +kernel) rfl ?_
  exact pm_reti rfl (by decide +kernel) rfl rfl rfl
def hh_def : List (Nat × Nat × Nat × Nat) := [(0, 10, 13, 19)]
theorem kW_def : pm_kSW m_Law_def hh_def 4 := ⟨pm_c1 0 rfl rfl, pm_c6 216 rfl rfl, by decide, by decide, by decide +kernel, by decide, pm_c6 215 rfl rfl⟩
def F_Law_def_0_139 (a2 : Int32) (a3 : Int32) (g : pm_s) (u : pm_J) : Option (Int32 × pm_J) := (F_BC_def a2 a3 g u).bind fun q1 => if pm_ok 0 1 = true then some (0, (wj u 139 0 q1.toInt64)) else none
set_option maxHeartbeats 4000000 in
set_option maxRecDepth 100000 in
theorem c_Law_def_0_139 (l : Launch) (h0 : Nat) (D : pm_D) {g : pm_s} {u : pm_J} (hT : sh_T g) {a2 : Int32} {a3 : Int32} {out : Int32 × pm_J} (h : F_Law_def_0_139 a2 a3 g u = some out) : pm_CW l h0 D m_Law_def hh_def (7) [.ref 0, .int a2, .int a3, .ref 139] (sm g u) (some (.int out.1)) (sm g out.2) := by
  unfold F_Law_def_0_139 at h
  refine pm_metW (by decide +kernel) (Nat.le_of_ble_eq_true rfl) (Nat.le_refl _) (Nat.le_refl _) ?_
  intro p e R s m args below meth c het
  refine pm_blk (pc' := 5) (L' := [(0, .ref 0), (1, .int a2), (2, .int a3), (3, .ref 139)]) (S' := [.int a3, .int a2, .ref 0, .int 0, .ref 139]) (M' := sm g u) [pm_o (.aload_n 3), pm_oi (.iconst 0) 0, pm_o (.aload_n 0), pm_o (.iload_n 1), pm_o (.iload_n 2)] (by decide +kernel) rfl ?_
  obtain ⟨q1, hq1, h⟩ := pm_bd h
  refine pm_cV (idx := 15) m_BC_def (c_BC_def l h0 D hT hq1) (As := [.int a2, .int a3]) (S0 := [.int 0, .ref 139]) rfl (by decide +kernel) k_BC_def l_Law_15 (Nat.le_of_ble_eq_true rfl) (Nat.le_of_ble_eq_true rfl) (Nat.le_refl _) (Nat.le_refl _) ?_
  refine pm_blk (pc' := 9) (L' := [(0, .ref 0), (1, .int a2), (2, .int a3), (3, .ref 139)]) (S' := [.long q1.toInt64, .int 0, .ref 139]) (M' := sm g u) [pm_o .i2l] (by decide +kernel) rfl ?_
  obtain ⟨ho2, h⟩ := pm_ifs h
  refine pm_last (by decide +kernel) rfl  (pm_ok_in ho2) ?_
  refine pm_blk (pc' := 10) (L' := [(0, .ref 0), (1, .int a2), (2, .int a3), (3, .ref 139)]) (S' := []) (M' := sm g (wj u 139 0 q1.toInt64)) [] (by decide +kernel) rfl ?_
  refine pm_goto (off := 7) 17 (by decide +kernel) (by decide) ?_
  refine pm_blk (pc' := 18) (L' := [(0, .ref 0), (1, .int a2), (2, .int a3), (3, .ref 139)]) (S' := [.int 0]) (M' := sm g (wj u 139 0 q1.toInt64)) [pm_oi (.iconst 0) 0] (by decide +kernel) rfl ?_
  have h9 := Option.some.inj h
  subst h9
  exact pm_reti rfl (by decide +kernel) rfl rfl rfl
set_option maxHeartbeats 4000000 in
set_option maxRecDepth 100000 in
theorem x_def_io {l : Launch} (hfl : l.flags = pinnedFlags ++ [noTraceFlag]) (h0 : Nat) (D : pm_D) {g : pm_s} {u : pm_J} (hT : sh_T g) {a2 : Int32} {a3 : Int32} (h : T_BC_def a2 a3 g u = some 1) : pm_CW l h0 D m_Law_def hh_def 7 [.ref 0, .int a2, .int a3, .ref 139] (sm g u) (some (.int 1)) (sm (sx g) u) := by
  refine pm_metW (by decide +kernel) (Nat.le_of_ble_eq_true rfl) (Nat.le_succ _) (Nat.le_add_right _ _) ?_
  intro p e R s m args below meth c het
  refine pm_blk (pc' := 5) (L' := [(0, .ref 0), (1, .int a2), (2, .int a3), (3, .ref 139)]) (S' := [.int a3, .int a2, .ref 0, .int 0, .ref 139]) (M' := sm g u) [pm_o (.aload_n 3), pm_oi (.iconst 0) 0, pm_o (.aload_n 0), pm_o (.iload_n 1), pm_o (.iload_n 2)] (by decide +kernel) rfl ?_
  refine pm_cT m_BC_def (idx := 15) 13 (t_BC_def hfl h0 D hT h) (As := [.int a2, .int a3]) (S0 := [.int 0, .ref 139]) rfl (by decide +kernel) k_BC_def l_Law_15 (Nat.le_of_ble_eq_true rfl) (Nat.le_of_ble_eq_true rfl) (Nat.le_refl _) (Nat.le_refl _) (fun X5 X6 X4 T0 T lo cs sl g q ce XS hg hpc hW hce hvm hcls hm hc => px_f1 XS X4 (X1 := kx_io) (X5 _ (pm_c6 217 rfl rfl)) (va_Nw.use rfl (X6.2.2.2.2.2.2.2.2.2.1 _ (List.mem_cons_of_mem _ List.mem_cons_self))) het (by decide) hg (by rw [hpc]; decide) hW hce hvm hcls hm hc) ?_
  intro q
  refine pm_asx (i := 4) (by decide +kernel) (by decide) ?_
  refine pm_blk (pc' := 16) (L' := []) (S' := [.int 1]) (M' := sm (sx g) u) [pm_oi (.iconst 1) 1] (by decide +kernel) rfl ?_
  exact pm_reti rfl (by decide +kernel) rfl rfl rfl
def hh_argument : List (Nat × Nat × Nat × Nat) := [(0, 9, 12, 25)]
theorem kW_argument : pm_kSW m_Law_argument hh_argument 3 := ⟨pm_c1 0 rfl rfl, pm_c7 2 rfl rfl, by decide, by decide, by decide +kernel, by decide, pm_c7 1 rfl rfl⟩
def F_Law_argument_0_139 (a2 : Int64) (g : pm_s) (u : pm_J) : Option (Int32 × pm_J) := (F_BC_argument a2 g u).bind fun q1 => if pm_ok 0 1 = true then some (0, (wj q1.2 139 0 q1.1.toInt64)) else none
set_option maxHeartbeats 4000000 in
set_option maxRecDepth 100000 in
theorem c_Law_argument_0_139 (l : Launch) (h0 : Nat) (D : pm_D) {g : pm_s} {u : pm_J} (hT : sh_T g) {a2 : Int64} {out : Int32 × pm_J} (h : F_Law_argument_0_139 a2 g u = some out) : pm_CW l h0 D m_Law_argument hh_argument (7) [.ref 0, .long a2, .ref 139] (sm g u) (some (.int out.1)) (sm g out.2) := by
  unfold F_Law_argument_0_139 at h
  refine pm_metW (by decide +kernel) (Nat.le_of_ble_eq_true rfl) (Nat.le_refl _) (Nat.le_refl _) ?_
  intro p e R s m args below meth c het
  refine pm_blk (pc' := 4) (L' := [(0, .ref 0), (1, .long a2), (3, .ref 139)]) (S' := [.long a2, .ref 0, .int 0, .ref 139]) (M' := sm g u) [pm_o (.aload_n 3), pm_oi (.iconst 0) 0, pm_o (.aload_n 0), pm_o (.lload_n 1)] (by decide +kernel) rfl ?_
  obtain ⟨q1, hq1, h⟩ := pm_bd h
  refine pm_cV (idx := 21) m_BC_argument (c_BC_argument l h0 D hT hq1) (As := [.long a2]) (S0 := [.int 0, .ref 139]) rfl (by decide +kernel) k_BC_argument l_Law_21 (Nat.le_of_ble_eq_true rfl) (Nat.le_of_ble_eq_true rfl) (Nat.le_refl _) (Nat.le_refl _) ?_
  refine pm_blk (pc' := 8) (L' := [(0, .ref 0), (1, .long a2), (3, .ref 139)]) (S' := [.long q1.1.toInt64, .int 0, .ref 139]) (M' := sm g q1.2) [pm_o .i2l] (by decide +kernel) rfl ?_
  obtain ⟨ho2, h⟩ := pm_ifs h
  refine pm_last (by decide +kernel) rfl  (pm_ok_in ho2) ?_
  refine pm_blk (pc' := 9) (L' := [(0, .ref 0), (1, .long a2), (3, .ref 139)]) (S' := []) (M' := sm g (wj q1.2 139 0 q1.1.toInt64)) [] (by decide +kernel) rfl ?_
  refine pm_goto (off := 7) 16 (by decide +kernel) (by decide) ?_
  refine pm_blk (pc' := 17) (L' := [(0, .ref 0), (1, .long a2), (3, .ref 139)]) (S' := [.int 0]) (M' := sm g (wj q1.2 139 0 q1.1.toInt64)) [pm_oi (.iconst 0) 0] (by decide +kernel) rfl ?_
  have h9 := Option.some.inj h
  subst h9
  exact pm_reti rfl (by decide +kernel) rfl rfl rfl
set_option maxHeartbeats 4000000 in
set_option maxRecDepth 100000 in
theorem x_argument_is {l : Launch} (hfl : l.flags = pinnedFlags ++ [noTraceFlag]) (h0 : Nat) (D : pm_D) {g : pm_s} {u : pm_J} (hT : sh_T g) {a2 : Int64} (h : T_BC_argument a2 g u = some 2) : pm_CW l h0 D m_Law_argument hh_argument 7 [.ref 0, .long a2, .ref 139] (sm g u) (some (.int 1)) (sm (sx g) u) := by
  refine pm_metW (by decide +kernel) (Nat.le_of_ble_eq_true rfl) (Nat.le_succ _) (Nat.le_add_right _ _) ?_
  intro p e R s m args below meth c het
  refine pm_blk (pc' := 4) (L' := [(0, .ref 0), (1, .long a2), (3, .ref 139)]) (S' := [.long a2, .ref 0, .int 0, .ref 139]) (M' := sm g u) [pm_o (.aload_n 3), pm_oi (.iconst 0) 0, pm_o (.aload_n 0), pm_o (.lload_n 1)] (by decide +kernel) rfl ?_
  refine pm_cT m_BC_argument (idx := 21) 12 (t_BC_argument hfl h0 D hT h) (As := [.long a2]) (S0 := [.int 0, .ref 139]) rfl (by decide +kernel) k_BC_argument l_Law_21 (Nat.le_of_ble_eq_true rfl) (Nat.le_of_ble_eq_true rfl) (Nat.le_refl _) (Nat.le_refl _) (fun X5 X6 X4 T0 T lo cs sl g q ce XS hg hpc hW hce hvm hcls hm hc => px_f1 XS X4 (X1 := kx_is) (X5 _ (pm_c7 3 rfl rfl)) (va_Nw.use rfl (X6.2.2.2.2.2.2.2.2.2.1 _ (List.mem_cons_of_mem _ (List.mem_cons_of_mem _ List.mem_cons_self)))) het (by decide) hg (by rw [hpc]; decide) hW hce hvm hcls hm hc) ?_
  intro q
  refine pm_asx (i := 4) (by decide +kernel) (by decide) ?_
  refine pm_blk (pc' := 15) (L' := []) (S' := [.int 1]) (M' := sm (sx g) u) [pm_oi (.iconst 1) 1] (by decide +kernel) rfl ?_
  exact pm_reti rfl (by decide +kernel) rfl rfl rfl
def hh_run : List (Nat × Nat × Nat × Nat) := [(0, 12, 15, 19), (0, 12, 19, 13)]
theorem kW_run : pm_kSW m_Law_run hh_run 5 := ⟨pm_c1 0 rfl rfl, pm_c7 26 rfl rfl, by decide, by decide, by decide +kernel, by decide, pm_c7 25 rfl rfl⟩
def F_Law_run_0_139 (N : Nat) (a2 : Int32) (a3 : Int32) (a4 : Int32) (g : pm_s) (u : pm_J) : Option (Int32 × pm_J) := (F_BC_run N a2 a3 a4 g u).bind fun q1 => if pm_ok 0 1 = true then some (0, (wj q1.2 139 0 q1.1.toInt64)) else none
set_option maxHeartbeats 4000000 in
set_option maxRecDepth 100000 in
theorem c_Law_run_0_139 (l : Launch) (h0 : Nat) (D : pm_D) {g : pm_s} {u : pm_J} (hT : sh_T g) {N : Nat} {a2 : Int32} {a3 : Int32} {a4 : Int32} {out : Int32 × pm_J} (h : F_Law_run_0_139 N a2 a3 a4 g u = some out) : pm_CW l h0 D m_Law_run hh_run (10) [.ref 0, .int a2, .int a3, .int a4, .ref 139] (sm g u) (some (.int out.1)) (sm g out.2) := by
  unfold F_Law_run_0_139 at h
  refine pm_metW (by decide +kernel) (Nat.le_of_ble_eq_true rfl) (Nat.le_refl _) (Nat.le_refl _) ?_
  intro p e R s m args below meth c het
  refine pm_blk (pc' := 7) (L' := [(0, .ref 0), (1, .int a2), (2, .int a3), (3, .int a4), (4, .ref 139)]) (S' := [.int a4, .int a3, .int a2, .ref 0, .int 0, .ref 139]) (M' := sm g u) [pm_o (.aload 4), pm_oi (.iconst 0) 0, pm_o (.aload_n 0), pm_o (.iload_n 1), pm_o (.iload_n 2), pm_o (.iload_n 3)] (by decide +kernel) rfl ?_
  obtain ⟨q1, hq1, h⟩ := pm_bd h
  refine pm_cV (idx := 27) m_BC_run (c_BC_run l h0 D hT hq1) (As := [.int a2, .int a3, .int a4]) (S0 := [.int 0, .ref 139]) rfl (by decide +kernel) k_BC_run l_Law_27 (Nat.le_of_ble_eq_true rfl) (Nat.le_of_ble_eq_true rfl) (Nat.le_refl _) (Nat.le_refl _) ?_
  refine pm_blk (pc' := 11) (L' := [(0, .ref 0), (1, .int a2), (2, .int a3), (3, .int a4), (4, .ref 139)]) (S' := [.long q1.1.toInt64, .int 0, .ref 139]) (M' := sm g q1.2) [pm_o .i2l] (by decide +kernel) rfl ?_
  obtain ⟨ho2, h⟩ := pm_ifs h
  refine pm_last (by decide +kernel) rfl  (pm_ok_in ho2) ?_
  refine pm_blk (pc' := 12) (L' := [(0, .ref 0), (1, .int a2), (2, .int a3), (3, .int a4), (4, .ref 139)]) (S' := []) (M' := sm g (wj q1.2 139 0 q1.1.toInt64)) [] (by decide +kernel) rfl ?_
  refine pm_goto (off := 11) 23 (by decide +kernel) (by decide) ?_
  refine pm_blk (pc' := 24) (L' := [(0, .ref 0), (1, .int a2), (2, .int a3), (3, .int a4), (4, .ref 139)]) (S' := [.int 0]) (M' := sm g (wj q1.2 139 0 q1.1.toInt64)) [pm_oi (.iconst 0) 0] (by decide +kernel) rfl ?_
  have h9 := Option.some.inj h
  subst h9
  exact pm_reti rfl (by decide +kernel) rfl rfl rfl
set_option maxHeartbeats 4000000 in
set_option maxRecDepth 100000 in
theorem x_run_ia {l : Launch} (hfl : l.flags = pinnedFlags ++ [noTraceFlag]) (h0 : Nat) (D : pm_D) {g : pm_s} {u : pm_J} (hT : sh_T g) {N : Nat} {a2 : Int32} {a3 : Int32} {a4 : Int32} (h : T_BC_run N a2 a3 a4 g u = some 0) : pm_CW l h0 D m_Law_run hh_run 10 [.ref 0, .int a2, .int a3, .int a4, .ref 139] (sm g u) (some (.int 2)) (sm (sx g) u) := by
  refine pm_metW (by decide +kernel) (Nat.le_of_ble_eq_true rfl) (Nat.le_succ _) (Nat.le_add_right _ _) ?_
  intro p e R s m args below meth c het
  refine pm_blk (pc' := 7) (L' := [(0, .ref 0), (1, .int a2), (2, .int a3), (3, .int a4), (4, .ref 139)]) (S' := [.int a4, .int a3, .int a2, .ref 0, .int 0, .ref 139]) (M' := sm g u) [pm_o (.aload 4), pm_oi (.iconst 0) 0, pm_o (.aload_n 0), pm_o (.iload_n 1), pm_o (.iload_n 2), pm_o (.iload_n 3)] (by decide +kernel) rfl ?_
  refine pm_cT m_BC_run (idx := 27) 19 (t_BC_run hfl h0 D hT h) (As := [.int a2, .int a3, .int a4]) (S0 := [.int 0, .ref 139]) rfl (by decide +kernel) k_BC_run l_Law_27 (Nat.le_of_ble_eq_true rfl) (Nat.le_of_ble_eq_true rfl) (Nat.le_refl _) (Nat.le_refl _) (fun X5 X6 X4 T0 T lo cs sl g q ce XS hg hpc hW hce hvm hcls hm hc => px_f2 XS X4 (X1 := kx_ia) (X2 := kx_io) (X5 _ (pm_c6 217 rfl rfl)) X6.2.2.2.2.2.2.2.2.2.2.1 (X5 _ (pm_c6 206 rfl rfl)) (va_Nw.use rfl (X6.2.2.2.2.2.2.2.2.2.1 _ List.mem_cons_self)) het (by decide) (by decide) hg (by rw [hpc]; decide) hW hce hvm hcls hm hc) ?_
  intro q
  refine pm_asx (i := 5) (by decide +kernel) (by decide) ?_
  refine pm_blk (pc' := 22) (L' := []) (S' := [.int 2]) (M' := sm (sx g) u) [pm_oi (.iconst 2) 2] (by decide +kernel) rfl ?_
  exact pm_reti rfl (by decide +kernel) rfl rfl rfl
set_option maxHeartbeats 4000000 in
set_option maxRecDepth 100000 in
theorem x_run_io {l : Launch} (hfl : l.flags = pinnedFlags ++ [noTraceFlag]) (h0 : Nat) (D : pm_D) {g : pm_s} {u : pm_J} (hT : sh_T g) {N : Nat} {a2 : Int32} {a3 : Int32} {a4 : Int32} (h : T_BC_run N a2 a3 a4 g u = some 1) : pm_CW l h0 D m_Law_run hh_run 10 [.ref 0, .int a2, .int a3, .int a4, .ref 139] (sm g u) (some (.int 1)) (sm (sx g) u) := by
  refine pm_metW (by decide +kernel) (Nat.le_of_ble_eq_true rfl) (Nat.le_succ _) (Nat.le_add_right _ _) ?_
  intro p e R s m args below meth c het
  refine pm_blk (pc' := 7) (L' := [(0, .ref 0), (1, .int a2), (2, .int a3), (3, .int a4), (4, .ref 139)]) (S' := [.int a4, .int a3, .int a2, .ref 0, .int 0, .ref 139]) (M' := sm g u) [pm_o (.aload 4), pm_oi (.iconst 0) 0, pm_o (.aload_n 0), pm_o (.iload_n 1), pm_o (.iload_n 2), pm_o (.iload_n 3)] (by decide +kernel) rfl ?_
  refine pm_cT m_BC_run (idx := 27) 15 (t_BC_run hfl h0 D hT h) (As := [.int a2, .int a3, .int a4]) (S0 := [.int 0, .ref 139]) rfl (by decide +kernel) k_BC_run l_Law_27 (Nat.le_of_ble_eq_true rfl) (Nat.le_of_ble_eq_true rfl) (Nat.le_refl _) (Nat.le_refl _) (fun X5 X6 X4 T0 T lo cs sl g q ce XS hg hpc hW hce hvm hcls hm hc => px_f1 XS X4 (X1 := kx_io) (X5 _ (pm_c6 217 rfl rfl)) (va_Nw.use rfl (X6.2.2.2.2.2.2.2.2.2.1 _ (List.mem_cons_of_mem _ List.mem_cons_self))) het (by decide) hg (by rw [hpc]; decide) hW hce hvm hcls hm hc) ?_
  intro q
  refine pm_asx (i := 5) (by decide +kernel) (by decide) ?_
  refine pm_blk (pc' := 18) (L' := []) (S' := [.int 1]) (M' := sm (sx g) u) [pm_oi (.iconst 1) 1] (by decide +kernel) rfl ?_
  exact pm_reti rfl (by decide +kernel) rfl rfl rfl
def hh_told : List (Nat × Nat × Nat × Nat) := [(0, 9, 12, 19)]
theorem kW_told : pm_kSW m_Law_told hh_told 3 := ⟨pm_c1 0 rfl rfl, pm_c8 26 rfl rfl, by decide, by decide, by decide +kernel, by decide, pm_c8 25 rfl rfl⟩
def F_Law_told_0_139 (a2 : Int32) (g : pm_s) (u : pm_J) : Option (Int32 × pm_J) := (F_BC_told a2 g u).bind fun q1 => if pm_ok 0 1 = true then some (0, (wj u 139 0 q1.toInt64)) else none
set_option maxHeartbeats 4000000 in
set_option maxRecDepth 100000 in
theorem c_Law_told_0_139 (l : Launch) (h0 : Nat) (D : pm_D) {g : pm_s} {u : pm_J} (hT : sh_T g) {a2 : Int32} {out : Int32 × pm_J} (h : F_Law_told_0_139 a2 g u = some out) : pm_CW l h0 D m_Law_told hh_told (7) [.ref 0, .int a2, .ref 139] (sm g u) (some (.int out.1)) (sm g out.2) := by
  unfold F_Law_told_0_139 at h
  refine pm_metW (by decide +kernel) (Nat.le_of_ble_eq_true rfl) (Nat.le_refl _) (Nat.le_refl _) ?_
  intro p e R s m args below meth c het
  refine pm_blk (pc' := 4) (L' := [(0, .ref 0), (1, .int a2), (2, .ref 139)]) (S' := [.int a2, .ref 0, .int 0, .ref 139]) (M' := sm g u) [pm_o (.aload_n 2), pm_oi (.iconst 0) 0, pm_o (.aload_n 0), pm_o (.iload_n 1)] (by decide +kernel) rfl ?_
  obtain ⟨q1, hq1, h⟩ := pm_bd h
  refine pm_cV (idx := 31) m_BC_told (c_BC_told l h0 D hT hq1) (As := [.int a2]) (S0 := [.int 0, .ref 139]) rfl (by decide +kernel) k_BC_told l_Law_31 (Nat.le_of_ble_eq_true rfl) (Nat.le_of_ble_eq_true rfl) (Nat.le_refl _) (Nat.le_refl _) ?_
  refine pm_blk (pc' := 8) (L' := [(0, .ref 0), (1, .int a2), (2, .ref 139)]) (S' := [.long q1.toInt64, .int 0, .ref 139]) (M' := sm g u) [pm_o .i2l] (by decide +kernel) rfl ?_
  obtain ⟨ho2, h⟩ := pm_ifs h
  refine pm_last (by decide +kernel) rfl  (pm_ok_in ho2) ?_
  refine pm_blk (pc' := 9) (L' := [(0, .ref 0), (1, .int a2), (2, .ref 139)]) (S' := []) (M' := sm g (wj u 139 0 q1.toInt64)) [] (by decide +kernel) rfl ?_
  refine pm_goto (off := 6) 15 (by decide +kernel) (by decide) ?_
  refine pm_blk (pc' := 16) (L' := [(0, .ref 0), (1, .int a2), (2, .ref 139)]) (S' := [.int 0]) (M' := sm g (wj u 139 0 q1.toInt64)) [pm_oi (.iconst 0) 0] (by decide +kernel) rfl ?_
  have h9 := Option.some.inj h
  subst h9
  exact pm_reti rfl (by decide +kernel) rfl rfl rfl
set_option maxHeartbeats 4000000 in
set_option maxRecDepth 100000 in
theorem x_told_io {l : Launch} (hfl : l.flags = pinnedFlags ++ [noTraceFlag]) (h0 : Nat) (D : pm_D) {g : pm_s} {u : pm_J} (hT : sh_T g) {a2 : Int32} (h : T_BC_told a2 g u = some 1) : pm_CW l h0 D m_Law_told hh_told 7 [.ref 0, .int a2, .ref 139] (sm g u) (some (.int 1)) (sm (sx g) u) := by
  refine pm_metW (by decide +kernel) (Nat.le_of_ble_eq_true rfl) (Nat.le_succ _) (Nat.le_add_right _ _) ?_
  intro p e R s m args below meth c het
  refine pm_blk (pc' := 4) (L' := [(0, .ref 0), (1, .int a2), (2, .ref 139)]) (S' := [.int a2, .ref 0, .int 0, .ref 139]) (M' := sm g u) [pm_o (.aload_n 2), pm_oi (.iconst 0) 0, pm_o (.aload_n 0), pm_o (.iload_n 1)] (by decide +kernel) rfl ?_
  refine pm_cT m_BC_told (idx := 31) 12 (t_BC_told hfl h0 D hT h) (As := [.int a2]) (S0 := [.int 0, .ref 139]) rfl (by decide +kernel) k_BC_told l_Law_31 (Nat.le_of_ble_eq_true rfl) (Nat.le_of_ble_eq_true rfl) (Nat.le_refl _) (Nat.le_refl _) (fun X5 X6 X4 T0 T lo cs sl g q ce XS hg hpc hW hce hvm hcls hm hc => px_f1 XS X4 (X1 := kx_io) (X5 _ (pm_c6 217 rfl rfl)) (va_Nw.use rfl (X6.2.2.2.2.2.2.2.2.2.1 _ (List.mem_cons_of_mem _ List.mem_cons_self))) het (by decide) hg (by rw [hpc]; decide) hW hce hvm hcls hm hc) ?_
  intro q
  refine pm_asxn (k := 3) (by decide +kernel) (by decide) ?_
  refine pm_blk (pc' := 14) (L' := []) (S' := [.int 1]) (M' := sm (sx g) u) [pm_oi (.iconst 1) 1] (by decide +kernel) rfl ?_
  exact pm_reti rfl (by decide +kernel) rfl rfl rfl
