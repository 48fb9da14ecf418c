set_option maxHeartbeats 4000000 in
set_option maxRecDepth 100000 in
theorem hd_Md_init (l : Launch) (h0 : Nat) (D : pm_D) {p : Program} {e : Env} {R : Room} {s : State} {m : MethodId} {args : Array Value} {below : List Frame} {meth : Method} {c : Code} {Q : State → Prop} (kk : pm_V (p, l, e, R, s, m, args, below, meth, c) m_Md_init h0 D (65, 126369, 139, 1225793, 1) Q 54 [(0, .ref 64)] [] (cm 70 132977 rf_85 ua_41)) : pm_V (p, l, e, R, s, m, args, below, meth, c) m_Md_init h0 D (65, 126369, 139, 1225793, 1) Q 0 [(0, .ref 64)] [] (cm 65 126369 rf_80 ua_40) := by
  refine pm_blk (pc' := 1) (L' := [(0, .ref 64)]) (S' := [.ref 64]) (M' := cm 65 126369 rf_80 ua_40) [pm_o (.aload_n 0)] (by decide +kernel) rfl ?_
  refine pm_obj (idx := 1) (by decide +kernel) (pm_c8 53 rfl rfl) (pm_c1 38 rfl rfl) (pm_c1 39 rfl rfl) (Nat.le_of_ble_eq_true rfl) (Nat.le_of_ble_eq_true rfl) ?_
  refine pm_blk (pc' := 8) (L' := [(0, .ref 64)]) (S' := [.int 3000, .ref 64]) (M' := cm 65 126369 rf_80 ua_40) [pm_o (.aload_n 0), pm_oi (.sipush 3000) 3000] (by decide +kernel) rfl ?_
  refine pm_newi 3000 (by decide +kernel) (pm_c1 53 rfl rfl) (by decide) (by decide) (Nat.le_of_ble_eq_true rfl) (Nat.le_of_ble_eq_true rfl) (Nat.le_of_ble_eq_true rfl) ?_
  refine pm_weak (M' := cm 66 129369 rf_80 ua_40) rfl rfl (fun _ _ h => cm_na rfl (fun _ => rfl) (fun _ => rfl) (fun _ => rfl) (fun _ => rfl) h) ?_
  refine pm_blk (pc' := 22) (L' := [(0, .ref 64)]) (S' := [.int 902, .ref 64]) (M' := cm 66 129369 rf_81 ua_41) [pm_of (.putfield 7) 12 0 2, pm_o (.aload_n 0), pm_oi (.iconst (-1)) (-1), pm_of (.putfield 13) 12 5 0, pm_o (.aload_n 0), pm_oi (.sipush 902) 902] (by decide +kernel) rfl ?_
  refine pm_newi 902 (by decide +kernel) (pm_c1 53 rfl rfl) (by decide) (by decide) (Nat.le_of_ble_eq_true rfl) (Nat.le_of_ble_eq_true rfl) (Nat.le_of_ble_eq_true rfl) ?_
  refine pm_weak (M' := cm 67 130271 rf_81 ua_41) rfl rfl (fun _ _ h => cm_na rfl (fun _ => rfl) (fun _ => rfl) (fun _ => rfl) (fun _ => rfl) h) ?_
  refine pm_blk (pc' := 31) (L' := [(0, .ref 64)]) (S' := [.int 902, .ref 64]) (M' := cm 67 130271 rf_82 ua_41) [pm_of (.putfield 17) 12 6 2, pm_o (.aload_n 0), pm_oi (.sipush 902) 902] (by decide +kernel) rfl ?_
  refine pm_newi 902 (by decide +kernel) (pm_c1 53 rfl rfl) (by decide) (by decide) (Nat.le_of_ble_eq_true rfl) (Nat.le_of_ble_eq_true rfl) (Nat.le_of_ble_eq_true rfl) ?_
  refine pm_weak (M' := cm 68 131173 rf_82 ua_41) rfl rfl (fun _ _ h => cm_na rfl (fun _ => rfl) (fun _ => rfl) (fun _ => rfl) (fun _ => rfl) h) ?_
  refine pm_blk (pc' := 40) (L' := [(0, .ref 64)]) (S' := [.int 902, .ref 64]) (M' := cm 68 131173 rf_83 ua_41) [pm_of (.putfield 20) 12 7 2, pm_o (.aload_n 0), pm_oi (.sipush 902) 902] (by decide +kernel) rfl ?_
  refine pm_newi 902 (by decide +kernel) (pm_c1 53 rfl rfl) (by decide) (by decide) (Nat.le_of_ble_eq_true rfl) (Nat.le_of_ble_eq_true rfl) (Nat.le_of_ble_eq_true rfl) ?_
  refine pm_weak (M' := cm 69 132075 rf_83 ua_41) rfl rfl (fun _ _ h => cm_na rfl (fun _ => rfl) (fun _ => rfl) (fun _ => rfl) (fun _ => rfl) h) ?_
  refine pm_blk (pc' := 49) (L' := [(0, .ref 64)]) (S' := [.int 902, .ref 64]) (M' := cm 69 132075 rf_84 ua_41) [pm_of (.putfield 23) 12 8 2, pm_o (.aload_n 0), pm_oi (.sipush 902) 902] (by decide +kernel) rfl ?_
  refine pm_newj 902 (by decide +kernel) (pm_c1 54 rfl rfl) (by decide) (by decide) (Nat.le_of_ble_eq_true rfl) (Nat.le_of_ble_eq_true rfl) (Nat.le_of_ble_eq_true rfl) ?_
  refine pm_weak (M' := cm 70 132977 rf_84 ua_41) rfl rfl (fun _ _ h => cm_na rfl (fun _ => rfl) (fun _ => rfl) (fun _ => rfl) (fun _ => rfl) h) ?_
  refine pm_blk (pc' := 54) (L' := [(0, .ref 64)]) (S' := []) (M' := cm 70 132977 rf_85 ua_41) [pm_of (.putfield 26) 12 9 2] (by decide +kernel) rfl ?_
  exact kk
theorem cN2_Md_noTypes (l : Launch) (h0 : Nat) (D : pm_D) {N : Nat} {uN : pm_J} (hN : F_Md_noTypes N (0, 0, 0, 0) ua_54 = some uN) : pm_C l h0 D m_Md_noTypes 0 [.ref 64] (cm 139 1225793 rf_154 ua_54) none (cm 139 1225793 rf_154 uN) := cN_Md_noTypes l h0 D hN
set_option maxHeartbeats 4000000 in
set_option maxRecDepth 100000 in
theorem tl3_Md_init (l : Launch) (h0 : Nat) (D : pm_D) {uN : pm_J} {p : Program} {e : Env} {R : Room} {s : State} {m : MethodId} {args : Array Value} {below : List Frame} {meth : Method} {c : Code} : pm_V (p, l, e, R, s, m, args, below, meth, c) m_Md_init h0 D (65, 126369, 139, 1225793, 1) (pm_E (p, l, e, R, s, m, args, below, meth, c) h0 D (cm 65 126369 rf_80 ua_40) none (cm 139 1225793 rf_154 uN)) 706 [(1, .int 6), (0, .ref 64)] [] (cm 139 1225793 rf_154 uN) := by
  exact pm_retv rfl (by decide +kernel) rfl rfl
set_option maxHeartbeats 4000000 in
set_option maxRecDepth 100000 in
theorem tl2_Md_init (l : Launch) (h0 : Nat) (D : pm_D) {N : Nat} {uN : pm_J} (hN : F_Md_noTypes N (0, 0, 0, 0) ua_54 = some uN) {p : Program} {e : Env} {R : Room} {s : State} {m : MethodId} {args : Array Value} {below : List Frame} {meth : Method} {c : Code} : pm_V (p, l, e, R, s, m, args, below, meth, c) m_Md_init h0 D (65, 126369, 139, 1225793, 1) (pm_E (p, l, e, R, s, m, args, below, meth, c) h0 D (cm 65 126369 rf_80 ua_40) none (cm 139 1225793 rf_154 uN)) 703 [(1, .int 6), (0, .ref 64)] [.ref 64] (cm 139 1225793 rf_154 ua_54) := by
  refine pm_cV (idx := 243) m_Md_noTypes (cN2_Md_noTypes l h0 D hN) (As := []) (S0 := []) rfl (by decide +kernel) k_Md_noTypes l_Md_243 (Nat.le_of_ble_eq_true rfl) (Nat.le_of_ble_eq_true rfl) (Nat.le_refl _) (Nat.le_refl _) ?_
  exact tl3_Md_init l h0 D
set_option maxHeartbeats 4000000 in
set_option maxRecDepth 100000 in
theorem tk_Md_init_0 (l : Launch) (h0 : Nat) (D : pm_D) {p : Program} {e : Env} {R : Room} {s : State} {m : MethodId} {args : Array Value} {below : List Frame} {meth : Method} {c : Code} {Q : State → Prop} (kk : pm_V (p, l, e, R, s, m, args, below, meth, c) m_Md_init h0 D (65, 126369, 139, 1225793, 1) Q 94 [(0, .ref 64)] [] (cm 75 632977 rf_90 ua_41)) : pm_V (p, l, e, R, s, m, args, below, meth, c) m_Md_init h0 D (65, 126369, 139, 1225793, 1) Q 54 [(0, .ref 64)] [] (cm 70 132977 rf_85 ua_41) := by
  refine pm_blk (pc' := 57) (L' := [(0, .ref 64)]) (S' := [.int 100000, .ref 64]) (M' := cm 70 132977 rf_85 ua_41) [pm_o (.aload_n 0), pm_oi (.ldc 30) 100000] (by decide +kernel) rfl ?_
  refine pm_newz 100000 (by decide +kernel) (pm_c1 214 rfl rfl) (by decide) (by decide) (Nat.le_of_ble_eq_true rfl) (Nat.le_of_ble_eq_true rfl) (Nat.le_of_ble_eq_true rfl) ?_
  refine pm_weak (M' := cm 71 232977 rf_85 ua_41) rfl rfl (fun _ _ h => cm_na rfl (fun _ => rfl) (fun _ => rfl) (fun _ => rfl) (fun _ => rfl) h) ?_
  refine pm_blk (pc' := 65) (L' := [(0, .ref 64)]) (S' := [.int 100000, .ref 64]) (M' := cm 71 232977 rf_86 ua_41) [pm_of (.putfield 31) 12 11 2, pm_o (.aload_n 0), pm_oi (.ldc 30) 100000] (by decide +kernel) rfl ?_
  refine pm_newi 100000 (by decide +kernel) (pm_c1 53 rfl rfl) (by decide) (by decide) (Nat.le_of_ble_eq_true rfl) (Nat.le_of_ble_eq_true rfl) (Nat.le_of_ble_eq_true rfl) ?_
  refine pm_weak (M' := cm 72 332977 rf_86 ua_41) rfl rfl (fun _ _ h => cm_na rfl (fun _ => rfl) (fun _ => rfl) (fun _ => rfl) (fun _ => rfl) h) ?_
  refine pm_blk (pc' := 73) (L' := [(0, .ref 64)]) (S' := [.int 100000, .ref 64]) (M' := cm 72 332977 rf_87 ua_41) [pm_of (.putfield 35) 12 12 2, pm_o (.aload_n 0), pm_oi (.ldc 30) 100000] (by decide +kernel) rfl ?_
  refine pm_newi 100000 (by decide +kernel) (pm_c1 53 rfl rfl) (by decide) (by decide) (Nat.le_of_ble_eq_true rfl) (Nat.le_of_ble_eq_true rfl) (Nat.le_of_ble_eq_true rfl) ?_
  refine pm_weak (M' := cm 73 432977 rf_87 ua_41) rfl rfl (fun _ _ h => cm_na rfl (fun _ => rfl) (fun _ => rfl) (fun _ => rfl) (fun _ => rfl) h) ?_
  refine pm_blk (pc' := 81) (L' := [(0, .ref 64)]) (S' := [.int 100000, .ref 64]) (M' := cm 73 432977 rf_88 ua_41) [pm_of (.putfield 38) 12 13 2, pm_o (.aload_n 0), pm_oi (.ldc 30) 100000] (by decide +kernel) rfl ?_
  refine pm_newi 100000 (by decide +kernel) (pm_c1 53 rfl rfl) (by decide) (by decide) (Nat.le_of_ble_eq_true rfl) (Nat.le_of_ble_eq_true rfl) (Nat.le_of_ble_eq_true rfl) ?_
  refine pm_weak (M' := cm 74 532977 rf_88 ua_41) rfl rfl (fun _ _ h => cm_na rfl (fun _ => rfl) (fun _ => rfl) (fun _ => rfl) (fun _ => rfl) h) ?_
  refine pm_blk (pc' := 89) (L' := [(0, .ref 64)]) (S' := [.int 100000, .ref 64]) (M' := cm 74 532977 rf_89 ua_41) [pm_of (.putfield 41) 12 14 2, pm_o (.aload_n 0), pm_oi (.ldc 30) 100000] (by decide +kernel) rfl ?_
  refine pm_newi 100000 (by decide +kernel) (pm_c1 53 rfl rfl) (by decide) (by decide) (Nat.le_of_ble_eq_true rfl) (Nat.le_of_ble_eq_true rfl) (Nat.le_of_ble_eq_true rfl) ?_
  refine pm_weak (M' := cm 75 632977 rf_89 ua_41) rfl rfl (fun _ _ h => cm_na rfl (fun _ => rfl) (fun _ => rfl) (fun _ => rfl) (fun _ => rfl) h) ?_
  refine pm_blk (pc' := 94) (L' := [(0, .ref 64)]) (S' := []) (M' := cm 75 632977 rf_90 ua_41) [pm_of (.putfield 44) 12 15 2] (by decide +kernel) rfl ?_
  exact kk
set_option maxHeartbeats 4000000 in
set_option maxRecDepth 100000 in
theorem tk_Md_init_1 (l : Launch) (h0 : Nat) (D : pm_D) {p : Program} {e : Env} {R : Room} {s : State} {m : MethodId} {args : Array Value} {below : List Frame} {meth : Method} {c : Code} {Q : State → Prop} (kk : pm_V (p, l, e, R, s, m, args, below, meth, c) m_Md_init h0 D (65, 126369, 139, 1225793, 1) Q 138 [(0, .ref 64)] [] (cm 80 748369 rf_95 ua_41)) : pm_V (p, l, e, R, s, m, args, below, meth, c) m_Md_init h0 D (65, 126369, 139, 1225793, 1) Q 94 [(0, .ref 64)] [] (cm 75 632977 rf_90 ua_41) := by
  refine pm_blk (pc' := 97) (L' := [(0, .ref 64)]) (S' := [.int 100000, .ref 64]) (M' := cm 75 632977 rf_90 ua_41) [pm_o (.aload_n 0), pm_oi (.ldc 30) 100000] (by decide +kernel) rfl ?_
  refine pm_newi 100000 (by decide +kernel) (pm_c1 53 rfl rfl) (by decide) (by decide) (Nat.le_of_ble_eq_true rfl) (Nat.le_of_ble_eq_true rfl) (Nat.le_of_ble_eq_true rfl) ?_
  refine pm_weak (M' := cm 76 732977 rf_90 ua_41) rfl rfl (fun _ _ h => cm_na rfl (fun _ => rfl) (fun _ => rfl) (fun _ => rfl) (fun _ => rfl) h) ?_
  refine pm_blk (pc' := 106) (L' := [(0, .ref 64)]) (S' := [.int 8192, .ref 64]) (M' := cm 76 732977 rf_91 ua_41) [pm_of (.putfield 47) 12 16 2, pm_o (.aload_n 0), pm_oi (.sipush 8192) 8192] (by decide +kernel) rfl ?_
  refine pm_newi 8192 (by decide +kernel) (pm_c1 53 rfl rfl) (by decide) (by decide) (Nat.le_of_ble_eq_true rfl) (Nat.le_of_ble_eq_true rfl) (Nat.le_of_ble_eq_true rfl) ?_
  refine pm_weak (M' := cm 77 741169 rf_91 ua_41) rfl rfl (fun _ _ h => cm_na rfl (fun _ => rfl) (fun _ => rfl) (fun _ => rfl) (fun _ => rfl) h) ?_
  refine pm_blk (pc' := 115) (L' := [(0, .ref 64)]) (S' := [.int 2400, .ref 64]) (M' := cm 77 741169 rf_92 ua_41) [pm_of (.putfield 50) 12 17 2, pm_o (.aload_n 0), pm_oi (.sipush 2400) 2400] (by decide +kernel) rfl ?_
  refine pm_newi 2400 (by decide +kernel) (pm_c1 53 rfl rfl) (by decide) (by decide) (Nat.le_of_ble_eq_true rfl) (Nat.le_of_ble_eq_true rfl) (Nat.le_of_ble_eq_true rfl) ?_
  refine pm_weak (M' := cm 78 743569 rf_92 ua_41) rfl rfl (fun _ _ h => cm_na rfl (fun _ => rfl) (fun _ => rfl) (fun _ => rfl) (fun _ => rfl) h) ?_
  refine pm_blk (pc' := 124) (L' := [(0, .ref 64)]) (S' := [.int 2400, .ref 64]) (M' := cm 78 743569 rf_93 ua_41) [pm_of (.putfield 53) 12 19 2, pm_o (.aload_n 0), pm_oi (.sipush 2400) 2400] (by decide +kernel) rfl ?_
  refine pm_newi 2400 (by decide +kernel) (pm_c1 53 rfl rfl) (by decide) (by decide) (Nat.le_of_ble_eq_true rfl) (Nat.le_of_ble_eq_true rfl) (Nat.le_of_ble_eq_true rfl) ?_
  refine pm_weak (M' := cm 79 745969 rf_93 ua_41) rfl rfl (fun _ _ h => cm_na rfl (fun _ => rfl) (fun _ => rfl) (fun _ => rfl) (fun _ => rfl) h) ?_
  refine pm_blk (pc' := 133) (L' := [(0, .ref 64)]) (S' := [.int 2400, .ref 64]) (M' := cm 79 745969 rf_94 ua_41) [pm_of (.putfield 56) 12 20 2, pm_o (.aload_n 0), pm_oi (.sipush 2400) 2400] (by decide +kernel) rfl ?_
  refine pm_newi 2400 (by decide +kernel) (pm_c1 53 rfl rfl) (by decide) (by decide) (Nat.le_of_ble_eq_true rfl) (Nat.le_of_ble_eq_true rfl) (Nat.le_of_ble_eq_true rfl) ?_
  refine pm_weak (M' := cm 80 748369 rf_94 ua_41) rfl rfl (fun _ _ h => cm_na rfl (fun _ => rfl) (fun _ => rfl) (fun _ => rfl) (fun _ => rfl) h) ?_
  refine pm_blk (pc' := 138) (L' := [(0, .ref 64)]) (S' := []) (M' := cm 80 748369 rf_95 ua_41) [pm_of (.putfield 59) 12 21 2] (by decide +kernel) rfl ?_
  exact kk
set_option maxHeartbeats 4000000 in
set_option maxRecDepth 100000 in
theorem tk_Md_init_2 (l : Launch) (h0 : Nat) (D : pm_D) {p : Program} {e : Env} {R : Room} {s : State} {m : MethodId} {args : Array Value} {below : List Frame} {meth : Method} {c : Code} {Q : State → Prop} (kk : pm_V (p, l, e, R, s, m, args, below, meth, c) m_Md_init h0 D (65, 126369, 139, 1225793, 1) Q 183 [(0, .ref 64)] [] (cm 85 760369 rf_100 ua_41)) : pm_V (p, l, e, R, s, m, args, below, meth, c) m_Md_init h0 D (65, 126369, 139, 1225793, 1) Q 138 [(0, .ref 64)] [] (cm 80 748369 rf_95 ua_41) := by
  refine pm_blk (pc' := 142) (L' := [(0, .ref 64)]) (S' := [.int 2400, .ref 64]) (M' := cm 80 748369 rf_95 ua_41) [pm_o (.aload_n 0), pm_oi (.sipush 2400) 2400] (by decide +kernel) rfl ?_
  refine pm_newi 2400 (by decide +kernel) (pm_c1 53 rfl rfl) (by decide) (by decide) (Nat.le_of_ble_eq_true rfl) (Nat.le_of_ble_eq_true rfl) (Nat.le_of_ble_eq_true rfl) ?_
  refine pm_weak (M' := cm 81 750769 rf_95 ua_41) rfl rfl (fun _ _ h => cm_na rfl (fun _ => rfl) (fun _ => rfl) (fun _ => rfl) (fun _ => rfl) h) ?_
  refine pm_blk (pc' := 151) (L' := [(0, .ref 64)]) (S' := [.int 2400, .ref 64]) (M' := cm 81 750769 rf_96 ua_41) [pm_of (.putfield 62) 12 22 2, pm_o (.aload_n 0), pm_oi (.sipush 2400) 2400] (by decide +kernel) rfl ?_
  refine pm_newi 2400 (by decide +kernel) (pm_c1 53 rfl rfl) (by decide) (by decide) (Nat.le_of_ble_eq_true rfl) (Nat.le_of_ble_eq_true rfl) (Nat.le_of_ble_eq_true rfl) ?_
  refine pm_weak (M' := cm 82 753169 rf_96 ua_41) rfl rfl (fun _ _ h => cm_na rfl (fun _ => rfl) (fun _ => rfl) (fun _ => rfl) (fun _ => rfl) h) ?_
  refine pm_blk (pc' := 160) (L' := [(0, .ref 64)]) (S' := [.int 2400, .ref 64]) (M' := cm 82 753169 rf_97 ua_41) [pm_of (.putfield 65) 12 23 2, pm_o (.aload_n 0), pm_oi (.sipush 2400) 2400] (by decide +kernel) rfl ?_
  refine pm_newi 2400 (by decide +kernel) (pm_c1 53 rfl rfl) (by decide) (by decide) (Nat.le_of_ble_eq_true rfl) (Nat.le_of_ble_eq_true rfl) (Nat.le_of_ble_eq_true rfl) ?_
  refine pm_weak (M' := cm 83 755569 rf_97 ua_41) rfl rfl (fun _ _ h => cm_na rfl (fun _ => rfl) (fun _ => rfl) (fun _ => rfl) (fun _ => rfl) h) ?_
  refine pm_blk (pc' := 169) (L' := [(0, .ref 64)]) (S' := [.int 2400, .ref 64]) (M' := cm 83 755569 rf_98 ua_41) [pm_of (.putfield 68) 12 24 2, pm_o (.aload_n 0), pm_oi (.sipush 2400) 2400] (by decide +kernel) rfl ?_
  refine pm_newi 2400 (by decide +kernel) (pm_c1 53 rfl rfl) (by decide) (by decide) (Nat.le_of_ble_eq_true rfl) (Nat.le_of_ble_eq_true rfl) (Nat.le_of_ble_eq_true rfl) ?_
  refine pm_weak (M' := cm 84 757969 rf_98 ua_41) rfl rfl (fun _ _ h => cm_na rfl (fun _ => rfl) (fun _ => rfl) (fun _ => rfl) (fun _ => rfl) h) ?_
  refine pm_blk (pc' := 178) (L' := [(0, .ref 64)]) (S' := [.int 2400, .ref 64]) (M' := cm 84 757969 rf_99 ua_41) [pm_of (.putfield 71) 12 25 2, pm_o (.aload_n 0), pm_oi (.sipush 2400) 2400] (by decide +kernel) rfl ?_
  refine pm_newi 2400 (by decide +kernel) (pm_c1 53 rfl rfl) (by decide) (by decide) (Nat.le_of_ble_eq_true rfl) (Nat.le_of_ble_eq_true rfl) (Nat.le_of_ble_eq_true rfl) ?_
  refine pm_weak (M' := cm 85 760369 rf_99 ua_41) rfl rfl (fun _ _ h => cm_na rfl (fun _ => rfl) (fun _ => rfl) (fun _ => rfl) (fun _ => rfl) h) ?_
  refine pm_blk (pc' := 183) (L' := [(0, .ref 64)]) (S' := []) (M' := cm 85 760369 rf_100 ua_41) [pm_of (.putfield 74) 12 26 2] (by decide +kernel) rfl ?_
  exact kk
set_option maxHeartbeats 4000000 in
set_option maxRecDepth 100000 in
theorem tk_Md_init_3 (l : Launch) (h0 : Nat) (D : pm_D) {p : Program} {e : Env} {R : Room} {s : State} {m : MethodId} {args : Array Value} {below : List Frame} {meth : Method} {c : Code} {Q : State → Prop} (kk : pm_V (p, l, e, R, s, m, args, below, meth, c) m_Md_init h0 D (65, 126369, 139, 1225793, 1) Q 228 [(0, .ref 64)] [] (cm 90 772369 rf_105 ua_41)) : pm_V (p, l, e, R, s, m, args, below, meth, c) m_Md_init h0 D (65, 126369, 139, 1225793, 1) Q 183 [(0, .ref 64)] [] (cm 85 760369 rf_100 ua_41) := by
  refine pm_blk (pc' := 187) (L' := [(0, .ref 64)]) (S' := [.int 2400, .ref 64]) (M' := cm 85 760369 rf_100 ua_41) [pm_o (.aload_n 0), pm_oi (.sipush 2400) 2400] (by decide +kernel) rfl ?_
  refine pm_newi 2400 (by decide +kernel) (pm_c1 53 rfl rfl) (by decide) (by decide) (Nat.le_of_ble_eq_true rfl) (Nat.le_of_ble_eq_true rfl) (Nat.le_of_ble_eq_true rfl) ?_
  refine pm_weak (M' := cm 86 762769 rf_100 ua_41) rfl rfl (fun _ _ h => cm_na rfl (fun _ => rfl) (fun _ => rfl) (fun _ => rfl) (fun _ => rfl) h) ?_
  refine pm_blk (pc' := 196) (L' := [(0, .ref 64)]) (S' := [.int 2400, .ref 64]) (M' := cm 86 762769 rf_101 ua_41) [pm_of (.putfield 77) 12 27 2, pm_o (.aload_n 0), pm_oi (.sipush 2400) 2400] (by decide +kernel) rfl ?_
  refine pm_newi 2400 (by decide +kernel) (pm_c1 53 rfl rfl) (by decide) (by decide) (Nat.le_of_ble_eq_true rfl) (Nat.le_of_ble_eq_true rfl) (Nat.le_of_ble_eq_true rfl) ?_
  refine pm_weak (M' := cm 87 765169 rf_101 ua_41) rfl rfl (fun _ _ h => cm_na rfl (fun _ => rfl) (fun _ => rfl) (fun _ => rfl) (fun _ => rfl) h) ?_
  refine pm_blk (pc' := 205) (L' := [(0, .ref 64)]) (S' := [.int 2400, .ref 64]) (M' := cm 87 765169 rf_102 ua_41) [pm_of (.putfield 80) 12 28 2, pm_o (.aload_n 0), pm_oi (.sipush 2400) 2400] (by decide +kernel) rfl ?_
  refine pm_newi 2400 (by decide +kernel) (pm_c1 53 rfl rfl) (by decide) (by decide) (Nat.le_of_ble_eq_true rfl) (Nat.le_of_ble_eq_true rfl) (Nat.le_of_ble_eq_true rfl) ?_
  refine pm_weak (M' := cm 88 767569 rf_102 ua_41) rfl rfl (fun _ _ h => cm_na rfl (fun _ => rfl) (fun _ => rfl) (fun _ => rfl) (fun _ => rfl) h) ?_
  refine pm_blk (pc' := 214) (L' := [(0, .ref 64)]) (S' := [.int 2400, .ref 64]) (M' := cm 88 767569 rf_103 ua_41) [pm_of (.putfield 83) 12 29 2, pm_o (.aload_n 0), pm_oi (.sipush 2400) 2400] (by decide +kernel) rfl ?_
  refine pm_newi 2400 (by decide +kernel) (pm_c1 53 rfl rfl) (by decide) (by decide) (Nat.le_of_ble_eq_true rfl) (Nat.le_of_ble_eq_true rfl) (Nat.le_of_ble_eq_true rfl) ?_
  refine pm_weak (M' := cm 89 769969 rf_103 ua_41) rfl rfl (fun _ _ h => cm_na rfl (fun _ => rfl) (fun _ => rfl) (fun _ => rfl) (fun _ => rfl) h) ?_
  refine pm_blk (pc' := 223) (L' := [(0, .ref 64)]) (S' := [.int 2400, .ref 64]) (M' := cm 89 769969 rf_104 ua_41) [pm_of (.putfield 86) 12 30 2, pm_o (.aload_n 0), pm_oi (.sipush 2400) 2400] (by decide +kernel) rfl ?_
  refine pm_newz 2400 (by decide +kernel) (pm_c1 214 rfl rfl) (by decide) (by decide) (Nat.le_of_ble_eq_true rfl) (Nat.le_of_ble_eq_true rfl) (Nat.le_of_ble_eq_true rfl) ?_
  refine pm_weak (M' := cm 90 772369 rf_104 ua_41) rfl rfl (fun _ _ h => cm_na rfl (fun _ => rfl) (fun _ => rfl) (fun _ => rfl) (fun _ => rfl) h) ?_
  refine pm_blk (pc' := 228) (L' := [(0, .ref 64)]) (S' := []) (M' := cm 90 772369 rf_105 ua_41) [pm_of (.putfield 89) 12 31 2] (by decide +kernel) rfl ?_
  exact kk
set_option maxHeartbeats 4000000 in
set_option maxRecDepth 100000 in
theorem tk_Md_init_4 (l : Launch) (h0 : Nat) (D : pm_D) {p : Program} {e : Env} {R : Room} {s : State} {m : MethodId} {args : Array Value} {below : List Frame} {meth : Method} {c : Code} {Q : State → Prop} (kk : pm_V (p, l, e, R, s, m, args, below, meth, c) m_Md_init h0 D (65, 126369, 139, 1225793, 1) Q 269 [(0, .ref 64)] [] (cm 95 782089 rf_110 ua_41)) : pm_V (p, l, e, R, s, m, args, below, meth, c) m_Md_init h0 D (65, 126369, 139, 1225793, 1) Q 228 [(0, .ref 64)] [] (cm 90 772369 rf_105 ua_41) := by
  refine pm_blk (pc' := 232) (L' := [(0, .ref 64)]) (S' := [.int 9600, .ref 64]) (M' := cm 90 772369 rf_105 ua_41) [pm_o (.aload_n 0), pm_oi (.sipush 9600) 9600] (by decide +kernel) rfl ?_
  refine pm_newi 9600 (by decide +kernel) (pm_c1 53 rfl rfl) (by decide) (by decide) (Nat.le_of_ble_eq_true rfl) (Nat.le_of_ble_eq_true rfl) (Nat.le_of_ble_eq_true rfl) ?_
  refine pm_weak (M' := cm 91 781969 rf_105 ua_41) rfl rfl (fun _ _ h => cm_na rfl (fun _ => rfl) (fun _ => rfl) (fun _ => rfl) (fun _ => rfl) h) ?_
  refine pm_blk (pc' := 240) (L' := [(0, .ref 64)]) (S' := [.int 30, .ref 64]) (M' := cm 91 781969 rf_106 ua_41) [pm_of (.putfield 92) 12 32 2, pm_o (.aload_n 0), pm_oi (.bipush 30) 30] (by decide +kernel) rfl ?_
  refine pm_newi 30 (by decide +kernel) (pm_c1 53 rfl rfl) (by decide) (by decide) (Nat.le_of_ble_eq_true rfl) (Nat.le_of_ble_eq_true rfl) (Nat.le_of_ble_eq_true rfl) ?_
  refine pm_weak (M' := cm 92 781999 rf_106 ua_41) rfl rfl (fun _ _ h => cm_na rfl (fun _ => rfl) (fun _ => rfl) (fun _ => rfl) (fun _ => rfl) h) ?_
  refine pm_blk (pc' := 248) (L' := [(0, .ref 64)]) (S' := [.int 30, .ref 64]) (M' := cm 92 781999 rf_107 ua_41) [pm_of (.putfield 95) 12 34 2, pm_o (.aload_n 0), pm_oi (.bipush 30) 30] (by decide +kernel) rfl ?_
  refine pm_newi 30 (by decide +kernel) (pm_c1 53 rfl rfl) (by decide) (by decide) (Nat.le_of_ble_eq_true rfl) (Nat.le_of_ble_eq_true rfl) (Nat.le_of_ble_eq_true rfl) ?_
  refine pm_weak (M' := cm 93 782029 rf_107 ua_41) rfl rfl (fun _ _ h => cm_na rfl (fun _ => rfl) (fun _ => rfl) (fun _ => rfl) (fun _ => rfl) h) ?_
  refine pm_blk (pc' := 256) (L' := [(0, .ref 64)]) (S' := [.int 30, .ref 64]) (M' := cm 93 782029 rf_108 ua_41) [pm_of (.putfield 98) 12 35 2, pm_o (.aload_n 0), pm_oi (.bipush 30) 30] (by decide +kernel) rfl ?_
  refine pm_newi 30 (by decide +kernel) (pm_c1 53 rfl rfl) (by decide) (by decide) (Nat.le_of_ble_eq_true rfl) (Nat.le_of_ble_eq_true rfl) (Nat.le_of_ble_eq_true rfl) ?_
  refine pm_weak (M' := cm 94 782059 rf_108 ua_41) rfl rfl (fun _ _ h => cm_na rfl (fun _ => rfl) (fun _ => rfl) (fun _ => rfl) (fun _ => rfl) h) ?_
  refine pm_blk (pc' := 264) (L' := [(0, .ref 64)]) (S' := [.int 30, .ref 64]) (M' := cm 94 782059 rf_109 ua_41) [pm_of (.putfield 101) 12 36 2, pm_o (.aload_n 0), pm_oi (.bipush 30) 30] (by decide +kernel) rfl ?_
  refine pm_newi 30 (by decide +kernel) (pm_c1 53 rfl rfl) (by decide) (by decide) (Nat.le_of_ble_eq_true rfl) (Nat.le_of_ble_eq_true rfl) (Nat.le_of_ble_eq_true rfl) ?_
  refine pm_weak (M' := cm 95 782089 rf_109 ua_41) rfl rfl (fun _ _ h => cm_na rfl (fun _ => rfl) (fun _ => rfl) (fun _ => rfl) (fun _ => rfl) h) ?_
  refine pm_blk (pc' := 269) (L' := [(0, .ref 64)]) (S' := []) (M' := cm 95 782089 rf_110 ua_41) [pm_of (.putfield 104) 12 37 2] (by decide +kernel) rfl ?_
  exact kk
set_option maxHeartbeats 4000000 in
set_option maxRecDepth 100000 in
theorem tk_Md_init_5 (l : Launch) (h0 : Nat) (D : pm_D) {p : Program} {e : Env} {R : Room} {s : State} {m : MethodId} {args : Array Value} {below : List Frame} {meth : Method} {c : Code} {Q : State → Prop} (kk : pm_V (p, l, e, R, s, m, args, below, meth, c) m_Md_init h0 D (65, 126369, 139, 1225793, 1) Q 311 [(0, .ref 64)] [] (cm 100 782539 rf_115 ua_41)) : pm_V (p, l, e, R, s, m, args, below, meth, c) m_Md_init h0 D (65, 126369, 139, 1225793, 1) Q 269 [(0, .ref 64)] [] (cm 95 782089 rf_110 ua_41) := by
  refine pm_blk (pc' := 272) (L' := [(0, .ref 64)]) (S' := [.int 30, .ref 64]) (M' := cm 95 782089 rf_110 ua_41) [pm_o (.aload_n 0), pm_oi (.bipush 30) 30] (by decide +kernel) rfl ?_
  refine pm_newi 30 (by decide +kernel) (pm_c1 53 rfl rfl) (by decide) (by decide) (Nat.le_of_ble_eq_true rfl) (Nat.le_of_ble_eq_true rfl) (Nat.le_of_ble_eq_true rfl) ?_
  refine pm_weak (M' := cm 96 782119 rf_110 ua_41) rfl rfl (fun _ _ h => cm_na rfl (fun _ => rfl) (fun _ => rfl) (fun _ => rfl) (fun _ => rfl) h) ?_
  refine pm_blk (pc' := 280) (L' := [(0, .ref 64)]) (S' := [.int 30, .ref 64]) (M' := cm 96 782119 rf_111 ua_41) [pm_of (.putfield 107) 12 38 2, pm_o (.aload_n 0), pm_oi (.bipush 30) 30] (by decide +kernel) rfl ?_
  refine pm_newi 30 (by decide +kernel) (pm_c1 53 rfl rfl) (by decide) (by decide) (Nat.le_of_ble_eq_true rfl) (Nat.le_of_ble_eq_true rfl) (Nat.le_of_ble_eq_true rfl) ?_
  refine pm_weak (M' := cm 97 782149 rf_111 ua_41) rfl rfl (fun _ _ h => cm_na rfl (fun _ => rfl) (fun _ => rfl) (fun _ => rfl) (fun _ => rfl) h) ?_
  refine pm_blk (pc' := 288) (L' := [(0, .ref 64)]) (S' := [.int 30, .ref 64]) (M' := cm 97 782149 rf_112 ua_41) [pm_of (.putfield 110) 12 39 2, pm_o (.aload_n 0), pm_oi (.bipush 30) 30] (by decide +kernel) rfl ?_
  refine pm_newi 30 (by decide +kernel) (pm_c1 53 rfl rfl) (by decide) (by decide) (Nat.le_of_ble_eq_true rfl) (Nat.le_of_ble_eq_true rfl) (Nat.le_of_ble_eq_true rfl) ?_
  refine pm_weak (M' := cm 98 782179 rf_112 ua_41) rfl rfl (fun _ _ h => cm_na rfl (fun _ => rfl) (fun _ => rfl) (fun _ => rfl) (fun _ => rfl) h) ?_
  refine pm_blk (pc' := 297) (L' := [(0, .ref 64)]) (S' := [.int 180, .ref 64]) (M' := cm 98 782179 rf_113 ua_41) [pm_of (.putfield 113) 12 40 2, pm_o (.aload_n 0), pm_oi (.sipush 180) 180] (by decide +kernel) rfl ?_
  refine pm_newi 180 (by decide +kernel) (pm_c1 53 rfl rfl) (by decide) (by decide) (Nat.le_of_ble_eq_true rfl) (Nat.le_of_ble_eq_true rfl) (Nat.le_of_ble_eq_true rfl) ?_
  refine pm_weak (M' := cm 99 782359 rf_113 ua_41) rfl rfl (fun _ _ h => cm_na rfl (fun _ => rfl) (fun _ => rfl) (fun _ => rfl) (fun _ => rfl) h) ?_
  refine pm_blk (pc' := 306) (L' := [(0, .ref 64)]) (S' := [.int 180, .ref 64]) (M' := cm 99 782359 rf_114 ua_41) [pm_of (.putfield 116) 12 41 2, pm_o (.aload_n 0), pm_oi (.sipush 180) 180] (by decide +kernel) rfl ?_
  refine pm_newi 180 (by decide +kernel) (pm_c1 53 rfl rfl) (by decide) (by decide) (Nat.le_of_ble_eq_true rfl) (Nat.le_of_ble_eq_true rfl) (Nat.le_of_ble_eq_true rfl) ?_
  refine pm_weak (M' := cm 100 782539 rf_114 ua_41) rfl rfl (fun _ _ h => cm_na rfl (fun _ => rfl) (fun _ => rfl) (fun _ => rfl) (fun _ => rfl) h) ?_
  refine pm_blk (pc' := 311) (L' := [(0, .ref 64)]) (S' := []) (M' := cm 100 782539 rf_115 ua_41) [pm_of (.putfield 119) 12 42 2] (by decide +kernel) rfl ?_
  exact kk
set_option maxHeartbeats 4000000 in
set_option maxRecDepth 100000 in
theorem tk_Md_init_6 (l : Launch) (h0 : Nat) (D : pm_D) {p : Program} {e : Env} {R : Room} {s : State} {m : MethodId} {args : Array Value} {below : List Frame} {meth : Method} {c : Code} {Q : State → Prop} (kk : pm_V (p, l, e, R, s, m, args, below, meth, c) m_Md_init h0 D (65, 126369, 139, 1225793, 1) Q 354 [(0, .ref 64)] [] (cm 105 984059 rf_120 ua_41)) : pm_V (p, l, e, R, s, m, args, below, meth, c) m_Md_init h0 D (65, 126369, 139, 1225793, 1) Q 311 [(0, .ref 64)] [] (cm 100 782539 rf_115 ua_41) := by
  refine pm_blk (pc' := 315) (L' := [(0, .ref 64)]) (S' := [.int 720, .ref 64]) (M' := cm 100 782539 rf_115 ua_41) [pm_o (.aload_n 0), pm_oi (.sipush 720) 720] (by decide +kernel) rfl ?_
  refine pm_newi 720 (by decide +kernel) (pm_c1 53 rfl rfl) (by decide) (by decide) (Nat.le_of_ble_eq_true rfl) (Nat.le_of_ble_eq_true rfl) (Nat.le_of_ble_eq_true rfl) ?_
  refine pm_weak (M' := cm 101 783259 rf_115 ua_41) rfl rfl (fun _ _ h => cm_na rfl (fun _ => rfl) (fun _ => rfl) (fun _ => rfl) (fun _ => rfl) h) ?_
  refine pm_blk (pc' := 323) (L' := [(0, .ref 64)]) (S' := [.int 100000, .ref 64]) (M' := cm 101 783259 rf_116 ua_41) [pm_of (.putfield 122) 12 43 2, pm_o (.aload_n 0), pm_oi (.ldc 30) 100000] (by decide +kernel) rfl ?_
  refine pm_newi 100000 (by decide +kernel) (pm_c1 53 rfl rfl) (by decide) (by decide) (Nat.le_of_ble_eq_true rfl) (Nat.le_of_ble_eq_true rfl) (Nat.le_of_ble_eq_true rfl) ?_
  refine pm_weak (M' := cm 102 883259 rf_116 ua_41) rfl rfl (fun _ _ h => cm_na rfl (fun _ => rfl) (fun _ => rfl) (fun _ => rfl) (fun _ => rfl) h) ?_
  refine pm_blk (pc' := 331) (L' := [(0, .ref 64)]) (S' := [.int 100000, .ref 64]) (M' := cm 102 883259 rf_117 ua_41) [pm_of (.putfield 125) 12 47 2, pm_o (.aload_n 0), pm_oi (.ldc 30) 100000] (by decide +kernel) rfl ?_
  refine pm_newz 100000 (by decide +kernel) (pm_c1 214 rfl rfl) (by decide) (by decide) (Nat.le_of_ble_eq_true rfl) (Nat.le_of_ble_eq_true rfl) (Nat.le_of_ble_eq_true rfl) ?_
  refine pm_weak (M' := cm 103 983259 rf_117 ua_41) rfl rfl (fun _ _ h => cm_na rfl (fun _ => rfl) (fun _ => rfl) (fun _ => rfl) (fun _ => rfl) h) ?_
  refine pm_blk (pc' := 340) (L' := [(0, .ref 64)]) (S' := [.int 400, .ref 64]) (M' := cm 103 983259 rf_118 ua_41) [pm_of (.putfield 128) 12 48 2, pm_o (.aload_n 0), pm_oi (.sipush 400) 400] (by decide +kernel) rfl ?_
  refine pm_newi 400 (by decide +kernel) (pm_c1 53 rfl rfl) (by decide) (by decide) (Nat.le_of_ble_eq_true rfl) (Nat.le_of_ble_eq_true rfl) (Nat.le_of_ble_eq_true rfl) ?_
  refine pm_weak (M' := cm 104 983659 rf_118 ua_41) rfl rfl (fun _ _ h => cm_na rfl (fun _ => rfl) (fun _ => rfl) (fun _ => rfl) (fun _ => rfl) h) ?_
  refine pm_blk (pc' := 349) (L' := [(0, .ref 64)]) (S' := [.int 400, .ref 64]) (M' := cm 104 983659 rf_119 ua_41) [pm_of (.putfield 131) 12 49 2, pm_o (.aload_n 0), pm_oi (.sipush 400) 400] (by decide +kernel) rfl ?_
  refine pm_newi 400 (by decide +kernel) (pm_c1 53 rfl rfl) (by decide) (by decide) (Nat.le_of_ble_eq_true rfl) (Nat.le_of_ble_eq_true rfl) (Nat.le_of_ble_eq_true rfl) ?_
  refine pm_weak (M' := cm 105 984059 rf_119 ua_41) rfl rfl (fun _ _ h => cm_na rfl (fun _ => rfl) (fun _ => rfl) (fun _ => rfl) (fun _ => rfl) h) ?_
  refine pm_blk (pc' := 354) (L' := [(0, .ref 64)]) (S' := []) (M' := cm 105 984059 rf_120 ua_41) [pm_of (.putfield 134) 12 50 2] (by decide +kernel) rfl ?_
  exact kk
set_option maxHeartbeats 4000000 in
set_option maxRecDepth 100000 in
theorem tk_Md_init_7 (l : Launch) (h0 : Nat) (D : pm_D) {p : Program} {e : Env} {R : Room} {s : State} {m : MethodId} {args : Array Value} {below : List Frame} {meth : Method} {c : Code} {Q : State → Prop} (kk : pm_V (p, l, e, R, s, m, args, below, meth, c) m_Md_init h0 D (65, 126369, 139, 1225793, 1) Q 399 [(0, .ref 64)] [] (cm 110 1005359 rf_125 ua_41)) : pm_V (p, l, e, R, s, m, args, below, meth, c) m_Md_init h0 D (65, 126369, 139, 1225793, 1) Q 354 [(0, .ref 64)] [] (cm 105 984059 rf_120 ua_41) := by
  refine pm_blk (pc' := 358) (L' := [(0, .ref 64)]) (S' := [.int 6000, .ref 64]) (M' := cm 105 984059 rf_120 ua_41) [pm_o (.aload_n 0), pm_oi (.sipush 6000) 6000] (by decide +kernel) rfl ?_
  refine pm_newi 6000 (by decide +kernel) (pm_c1 53 rfl rfl) (by decide) (by decide) (Nat.le_of_ble_eq_true rfl) (Nat.le_of_ble_eq_true rfl) (Nat.le_of_ble_eq_true rfl) ?_
  refine pm_weak (M' := cm 106 990059 rf_120 ua_41) rfl rfl (fun _ _ h => cm_na rfl (fun _ => rfl) (fun _ => rfl) (fun _ => rfl) (fun _ => rfl) h) ?_
  refine pm_blk (pc' := 367) (L' := [(0, .ref 64)]) (S' := [.int 6000, .ref 64]) (M' := cm 106 990059 rf_121 ua_41) [pm_of (.putfield 137) 12 53 2, pm_o (.aload_n 0), pm_oi (.sipush 6000) 6000] (by decide +kernel) rfl ?_
  refine pm_newi 6000 (by decide +kernel) (pm_c1 53 rfl rfl) (by decide) (by decide) (Nat.le_of_ble_eq_true rfl) (Nat.le_of_ble_eq_true rfl) (Nat.le_of_ble_eq_true rfl) ?_
  refine pm_weak (M' := cm 107 996059 rf_121 ua_41) rfl rfl (fun _ _ h => cm_na rfl (fun _ => rfl) (fun _ => rfl) (fun _ => rfl) (fun _ => rfl) h) ?_
  refine pm_blk (pc' := 376) (L' := [(0, .ref 64)]) (S' := [.int 6000, .ref 64]) (M' := cm 107 996059 rf_122 ua_41) [pm_of (.putfield 140) 12 54 2, pm_o (.aload_n 0), pm_oi (.sipush 6000) 6000] (by decide +kernel) rfl ?_
  refine pm_newi 6000 (by decide +kernel) (pm_c1 53 rfl rfl) (by decide) (by decide) (Nat.le_of_ble_eq_true rfl) (Nat.le_of_ble_eq_true rfl) (Nat.le_of_ble_eq_true rfl) ?_
  refine pm_weak (M' := cm 108 1002059 rf_122 ua_41) rfl rfl (fun _ _ h => cm_na rfl (fun _ => rfl) (fun _ => rfl) (fun _ => rfl) (fun _ => rfl) h) ?_
  refine pm_blk (pc' := 385) (L' := [(0, .ref 64)]) (S' := [.int 2400, .ref 64]) (M' := cm 108 1002059 rf_123 ua_41) [pm_of (.putfield 143) 12 55 2, pm_o (.aload_n 0), pm_oi (.sipush 2400) 2400] (by decide +kernel) rfl ?_
  refine pm_newi 2400 (by decide +kernel) (pm_c1 53 rfl rfl) (by decide) (by decide) (Nat.le_of_ble_eq_true rfl) (Nat.le_of_ble_eq_true rfl) (Nat.le_of_ble_eq_true rfl) ?_
  refine pm_weak (M' := cm 109 1004459 rf_123 ua_41) rfl rfl (fun _ _ h => cm_na rfl (fun _ => rfl) (fun _ => rfl) (fun _ => rfl) (fun _ => rfl) h) ?_
  refine pm_blk (pc' := 394) (L' := [(0, .ref 64)]) (S' := [.int 900, .ref 64]) (M' := cm 109 1004459 rf_124 ua_41) [pm_of (.putfield 146) 12 57 2, pm_o (.aload_n 0), pm_oi (.sipush 900) 900] (by decide +kernel) rfl ?_
  refine pm_newi 900 (by decide +kernel) (pm_c1 53 rfl rfl) (by decide) (by decide) (Nat.le_of_ble_eq_true rfl) (Nat.le_of_ble_eq_true rfl) (Nat.le_of_ble_eq_true rfl) ?_
  refine pm_weak (M' := cm 110 1005359 rf_124 ua_41) rfl rfl (fun _ _ h => cm_na rfl (fun _ => rfl) (fun _ => rfl) (fun _ => rfl) (fun _ => rfl) h) ?_
  refine pm_blk (pc' := 399) (L' := [(0, .ref 64)]) (S' := []) (M' := cm 110 1005359 rf_125 ua_41) [pm_of (.putfield 149) 12 59 2] (by decide +kernel) rfl ?_
  exact kk
set_option maxHeartbeats 4000000 in
set_option maxRecDepth 100000 in
theorem tk_Md_init_8 (l : Launch) (h0 : Nat) (D : pm_D) {p : Program} {e : Env} {R : Room} {s : State} {m : MethodId} {args : Array Value} {below : List Frame} {meth : Method} {c : Code} {Q : State → Prop} (kk : pm_V (p, l, e, R, s, m, args, below, meth, c) m_Md_init h0 D (65, 126369, 139, 1225793, 1) Q 440 [(0, .ref 64)] [] (cm 115 1127887 rf_130 ua_41)) : pm_V (p, l, e, R, s, m, args, below, meth, c) m_Md_init h0 D (65, 126369, 139, 1225793, 1) Q 399 [(0, .ref 64)] [] (cm 110 1005359 rf_125 ua_41) := by
  refine pm_blk (pc' := 402) (L' := [(0, .ref 64)]) (S' := [.int 64, .ref 64]) (M' := cm 110 1005359 rf_125 ua_41) [pm_o (.aload_n 0), pm_oi (.bipush 64) 64] (by decide +kernel) rfl ?_
  refine pm_newi 64 (by decide +kernel) (pm_c1 53 rfl rfl) (by decide) (by decide) (Nat.le_of_ble_eq_true rfl) (Nat.le_of_ble_eq_true rfl) (Nat.le_of_ble_eq_true rfl) ?_
  refine pm_weak (M' := cm 111 1005423 rf_125 ua_41) rfl rfl (fun _ _ h => cm_na rfl (fun _ => rfl) (fun _ => rfl) (fun _ => rfl) (fun _ => rfl) h) ?_
  refine pm_blk (pc' := 410) (L' := [(0, .ref 64)]) (S' := [.int 64, .ref 64]) (M' := cm 111 1005423 rf_126 ua_41) [pm_of (.putfield 152) 12 65 2, pm_o (.aload_n 0), pm_oi (.bipush 64) 64] (by decide +kernel) rfl ?_
  refine pm_newi 64 (by decide +kernel) (pm_c1 53 rfl rfl) (by decide) (by decide) (Nat.le_of_ble_eq_true rfl) (Nat.le_of_ble_eq_true rfl) (Nat.le_of_ble_eq_true rfl) ?_
  refine pm_weak (M' := cm 112 1005487 rf_126 ua_41) rfl rfl (fun _ _ h => cm_na rfl (fun _ => rfl) (fun _ => rfl) (fun _ => rfl) (fun _ => rfl) h) ?_
  refine pm_blk (pc' := 419) (L' := [(0, .ref 64)]) (S' := [.int 2400, .ref 64]) (M' := cm 112 1005487 rf_127 ua_41) [pm_of (.putfield 155) 12 66 2, pm_o (.aload_n 0), pm_oi (.sipush 2400) 2400] (by decide +kernel) rfl ?_
  refine pm_newz 2400 (by decide +kernel) (pm_c1 214 rfl rfl) (by decide) (by decide) (Nat.le_of_ble_eq_true rfl) (Nat.le_of_ble_eq_true rfl) (Nat.le_of_ble_eq_true rfl) ?_
  refine pm_weak (M' := cm 113 1007887 rf_127 ua_41) rfl rfl (fun _ _ h => cm_na rfl (fun _ => rfl) (fun _ => rfl) (fun _ => rfl) (fun _ => rfl) h) ?_
  refine pm_blk (pc' := 427) (L' := [(0, .ref 64)]) (S' := [.int 60000, .ref 64]) (M' := cm 113 1007887 rf_128 ua_41) [pm_of (.putfield 158) 12 68 2, pm_o (.aload_n 0), pm_oi (.ldc 161) 60000] (by decide +kernel) rfl ?_
  refine pm_newi 60000 (by decide +kernel) (pm_c1 53 rfl rfl) (by decide) (by decide) (Nat.le_of_ble_eq_true rfl) (Nat.le_of_ble_eq_true rfl) (Nat.le_of_ble_eq_true rfl) ?_
  refine pm_weak (M' := cm 114 1067887 rf_128 ua_41) rfl rfl (fun _ _ h => cm_na rfl (fun _ => rfl) (fun _ => rfl) (fun _ => rfl) (fun _ => rfl) h) ?_
  refine pm_blk (pc' := 435) (L' := [(0, .ref 64)]) (S' := [.int 60000, .ref 64]) (M' := cm 114 1067887 rf_129 ua_41) [pm_of (.putfield 162) 12 70 2, pm_o (.aload_n 0), pm_oi (.ldc 161) 60000] (by decide +kernel) rfl ?_
  refine pm_newj 60000 (by decide +kernel) (pm_c1 54 rfl rfl) (by decide) (by decide) (Nat.le_of_ble_eq_true rfl) (Nat.le_of_ble_eq_true rfl) (Nat.le_of_ble_eq_true rfl) ?_
  refine pm_weak (M' := cm 115 1127887 rf_129 ua_41) rfl rfl (fun _ _ h => cm_na rfl (fun _ => rfl) (fun _ => rfl) (fun _ => rfl) (fun _ => rfl) h) ?_
  refine pm_blk (pc' := 440) (L' := [(0, .ref 64)]) (S' := []) (M' := cm 115 1127887 rf_130 ua_41) [pm_of (.putfield 165) 12 71 2] (by decide +kernel) rfl ?_
  exact kk
set_option maxHeartbeats 4000000 in
set_option maxRecDepth 100000 in
theorem tk_Md_init_9 (l : Launch) (h0 : Nat) (D : pm_D) {p : Program} {e : Env} {R : Room} {s : State} {m : MethodId} {args : Array Value} {below : List Frame} {meth : Method} {c : Code} {Q : State → Prop} (kk : pm_V (p, l, e, R, s, m, args, below, meth, c) m_Md_init h0 D (65, 126369, 139, 1225793, 1) Q 485 [(0, .ref 64)] [] (cm 120 1147887 rf_135 ua_41)) : pm_V (p, l, e, R, s, m, args, below, meth, c) m_Md_init h0 D (65, 126369, 139, 1225793, 1) Q 440 [(0, .ref 64)] [] (cm 115 1127887 rf_130 ua_41) := by
  refine pm_blk (pc' := 444) (L' := [(0, .ref 64)]) (S' := [.int 4000, .ref 64]) (M' := cm 115 1127887 rf_130 ua_41) [pm_o (.aload_n 0), pm_oi (.sipush 4000) 4000] (by decide +kernel) rfl ?_
  refine pm_newz 4000 (by decide +kernel) (pm_c1 214 rfl rfl) (by decide) (by decide) (Nat.le_of_ble_eq_true rfl) (Nat.le_of_ble_eq_true rfl) (Nat.le_of_ble_eq_true rfl) ?_
  refine pm_weak (M' := cm 116 1131887 rf_130 ua_41) rfl rfl (fun _ _ h => cm_na rfl (fun _ => rfl) (fun _ => rfl) (fun _ => rfl) (fun _ => rfl) h) ?_
  refine pm_blk (pc' := 453) (L' := [(0, .ref 64)]) (S' := [.int 4000, .ref 64]) (M' := cm 116 1131887 rf_131 ua_41) [pm_of (.putfield 168) 12 73 2, pm_o (.aload_n 0), pm_oi (.sipush 4000) 4000] (by decide +kernel) rfl ?_
  refine pm_newi 4000 (by decide +kernel) (pm_c1 53 rfl rfl) (by decide) (by decide) (Nat.le_of_ble_eq_true rfl) (Nat.le_of_ble_eq_true rfl) (Nat.le_of_ble_eq_true rfl) ?_
  refine pm_weak (M' := cm 117 1135887 rf_131 ua_41) rfl rfl (fun _ _ h => cm_na rfl (fun _ => rfl) (fun _ => rfl) (fun _ => rfl) (fun _ => rfl) h) ?_
  refine pm_blk (pc' := 462) (L' := [(0, .ref 64)]) (S' := [.int 4000, .ref 64]) (M' := cm 117 1135887 rf_132 ua_41) [pm_of (.putfield 171) 12 74 2, pm_o (.aload_n 0), pm_oi (.sipush 4000) 4000] (by decide +kernel) rfl ?_
  refine pm_newi 4000 (by decide +kernel) (pm_c1 53 rfl rfl) (by decide) (by decide) (Nat.le_of_ble_eq_true rfl) (Nat.le_of_ble_eq_true rfl) (Nat.le_of_ble_eq_true rfl) ?_
  refine pm_weak (M' := cm 118 1139887 rf_132 ua_41) rfl rfl (fun _ _ h => cm_na rfl (fun _ => rfl) (fun _ => rfl) (fun _ => rfl) (fun _ => rfl) h) ?_
  refine pm_blk (pc' := 471) (L' := [(0, .ref 64)]) (S' := [.int 4000, .ref 64]) (M' := cm 118 1139887 rf_133 ua_41) [pm_of (.putfield 174) 12 75 2, pm_o (.aload_n 0), pm_oi (.sipush 4000) 4000] (by decide +kernel) rfl ?_
  refine pm_newi 4000 (by decide +kernel) (pm_c1 53 rfl rfl) (by decide) (by decide) (Nat.le_of_ble_eq_true rfl) (Nat.le_of_ble_eq_true rfl) (Nat.le_of_ble_eq_true rfl) ?_
  refine pm_weak (M' := cm 119 1143887 rf_133 ua_41) rfl rfl (fun _ _ h => cm_na rfl (fun _ => rfl) (fun _ => rfl) (fun _ => rfl) (fun _ => rfl) h) ?_
  refine pm_blk (pc' := 480) (L' := [(0, .ref 64)]) (S' := [.int 4000, .ref 64]) (M' := cm 119 1143887 rf_134 ua_41) [pm_of (.putfield 177) 12 76 2, pm_o (.aload_n 0), pm_oi (.sipush 4000) 4000] (by decide +kernel) rfl ?_
  refine pm_newi 4000 (by decide +kernel) (pm_c1 53 rfl rfl) (by decide) (by decide) (Nat.le_of_ble_eq_true rfl) (Nat.le_of_ble_eq_true rfl) (Nat.le_of_ble_eq_true rfl) ?_
  refine pm_weak (M' := cm 120 1147887 rf_134 ua_41) rfl rfl (fun _ _ h => cm_na rfl (fun _ => rfl) (fun _ => rfl) (fun _ => rfl) (fun _ => rfl) h) ?_
  refine pm_blk (pc' := 485) (L' := [(0, .ref 64)]) (S' := []) (M' := cm 120 1147887 rf_135 ua_41) [pm_of (.putfield 180) 12 77 2] (by decide +kernel) rfl ?_
  exact kk
set_option maxHeartbeats 4000000 in
set_option maxRecDepth 100000 in
theorem tk_Md_init_10 (l : Launch) (h0 : Nat) (D : pm_D) {p : Program} {e : Env} {R : Room} {s : State} {m : MethodId} {args : Array Value} {below : List Frame} {meth : Method} {c : Code} {Q : State → Prop} (kk : pm_V (p, l, e, R, s, m, args, below, meth, c) m_Md_init h0 D (65, 126369, 139, 1225793, 1) Q 530 [(0, .ref 64)] [] (cm 125 1160187 rf_140 ua_41)) : pm_V (p, l, e, R, s, m, args, below, meth, c) m_Md_init h0 D (65, 126369, 139, 1225793, 1) Q 485 [(0, .ref 64)] [] (cm 120 1147887 rf_135 ua_41) := by
  refine pm_blk (pc' := 489) (L' := [(0, .ref 64)]) (S' := [.int 4000, .ref 64]) (M' := cm 120 1147887 rf_135 ua_41) [pm_o (.aload_n 0), pm_oi (.sipush 4000) 4000] (by decide +kernel) rfl ?_
  refine pm_newj 4000 (by decide +kernel) (pm_c1 54 rfl rfl) (by decide) (by decide) (Nat.le_of_ble_eq_true rfl) (Nat.le_of_ble_eq_true rfl) (Nat.le_of_ble_eq_true rfl) ?_
  refine pm_weak (M' := cm 121 1151887 rf_135 ua_41) rfl rfl (fun _ _ h => cm_na rfl (fun _ => rfl) (fun _ => rfl) (fun _ => rfl) (fun _ => rfl) h) ?_
  refine pm_blk (pc' := 498) (L' := [(0, .ref 64)]) (S' := [.int 4000, .ref 64]) (M' := cm 121 1151887 rf_136 ua_41) [pm_of (.putfield 183) 12 78 2, pm_o (.aload_n 0), pm_oi (.sipush 4000) 4000] (by decide +kernel) rfl ?_
  refine pm_newi 4000 (by decide +kernel) (pm_c1 53 rfl rfl) (by decide) (by decide) (Nat.le_of_ble_eq_true rfl) (Nat.le_of_ble_eq_true rfl) (Nat.le_of_ble_eq_true rfl) ?_
  refine pm_weak (M' := cm 122 1155887 rf_136 ua_41) rfl rfl (fun _ _ h => cm_na rfl (fun _ => rfl) (fun _ => rfl) (fun _ => rfl) (fun _ => rfl) h) ?_
  refine pm_blk (pc' := 507) (L' := [(0, .ref 64)]) (S' := [.int 4000, .ref 64]) (M' := cm 122 1155887 rf_137 ua_41) [pm_of (.putfield 186) 12 79 2, pm_o (.aload_n 0), pm_oi (.sipush 4000) 4000] (by decide +kernel) rfl ?_
  refine pm_newj 4000 (by decide +kernel) (pm_c1 54 rfl rfl) (by decide) (by decide) (Nat.le_of_ble_eq_true rfl) (Nat.le_of_ble_eq_true rfl) (Nat.le_of_ble_eq_true rfl) ?_
  refine pm_weak (M' := cm 123 1159887 rf_137 ua_41) rfl rfl (fun _ _ h => cm_na rfl (fun _ => rfl) (fun _ => rfl) (fun _ => rfl) (fun _ => rfl) h) ?_
  refine pm_blk (pc' := 516) (L' := [(0, .ref 64)]) (S' := [.int 150, .ref 64]) (M' := cm 123 1159887 rf_138 ua_41) [pm_of (.putfield 189) 12 80 2, pm_o (.aload_n 0), pm_oi (.sipush 150) 150] (by decide +kernel) rfl ?_
  refine pm_newz 150 (by decide +kernel) (pm_c1 214 rfl rfl) (by decide) (by decide) (Nat.le_of_ble_eq_true rfl) (Nat.le_of_ble_eq_true rfl) (Nat.le_of_ble_eq_true rfl) ?_
  refine pm_weak (M' := cm 124 1160037 rf_138 ua_41) rfl rfl (fun _ _ h => cm_na rfl (fun _ => rfl) (fun _ => rfl) (fun _ => rfl) (fun _ => rfl) h) ?_
  refine pm_blk (pc' := 525) (L' := [(0, .ref 64)]) (S' := [.int 150, .ref 64]) (M' := cm 124 1160037 rf_139 ua_41) [pm_of (.putfield 192) 12 82 2, pm_o (.aload_n 0), pm_oi (.sipush 150) 150] (by decide +kernel) rfl ?_
  refine pm_newi 150 (by decide +kernel) (pm_c1 53 rfl rfl) (by decide) (by decide) (Nat.le_of_ble_eq_true rfl) (Nat.le_of_ble_eq_true rfl) (Nat.le_of_ble_eq_true rfl) ?_
  refine pm_weak (M' := cm 125 1160187 rf_139 ua_41) rfl rfl (fun _ _ h => cm_na rfl (fun _ => rfl) (fun _ => rfl) (fun _ => rfl) (fun _ => rfl) h) ?_
  refine pm_blk (pc' := 530) (L' := [(0, .ref 64)]) (S' := []) (M' := cm 125 1160187 rf_140 ua_41) [pm_of (.putfield 195) 12 83 2] (by decide +kernel) rfl ?_
  exact kk
set_option maxHeartbeats 4000000 in
set_option maxRecDepth 100000 in
theorem tk_Md_init_11 (l : Launch) (h0 : Nat) (D : pm_D) {p : Program} {e : Env} {R : Room} {s : State} {m : MethodId} {args : Array Value} {below : List Frame} {meth : Method} {c : Code} {Q : State → Prop} (kk : pm_V (p, l, e, R, s, m, args, below, meth, c) m_Md_init h0 D (65, 126369, 139, 1225793, 1) Q 575 [(0, .ref 64)] [] (cm 130 1161787 rf_145 ua_41)) : pm_V (p, l, e, R, s, m, args, below, meth, c) m_Md_init h0 D (65, 126369, 139, 1225793, 1) Q 530 [(0, .ref 64)] [] (cm 125 1160187 rf_140 ua_41) := by
  refine pm_blk (pc' := 534) (L' := [(0, .ref 64)]) (S' := [.int 150, .ref 64]) (M' := cm 125 1160187 rf_140 ua_41) [pm_o (.aload_n 0), pm_oi (.sipush 150) 150] (by decide +kernel) rfl ?_
  refine pm_newi 150 (by decide +kernel) (pm_c1 53 rfl rfl) (by decide) (by decide) (Nat.le_of_ble_eq_true rfl) (Nat.le_of_ble_eq_true rfl) (Nat.le_of_ble_eq_true rfl) ?_
  refine pm_weak (M' := cm 126 1160337 rf_140 ua_41) rfl rfl (fun _ _ h => cm_na rfl (fun _ => rfl) (fun _ => rfl) (fun _ => rfl) (fun _ => rfl) h) ?_
  refine pm_blk (pc' := 543) (L' := [(0, .ref 64)]) (S' := [.int 150, .ref 64]) (M' := cm 126 1160337 rf_141 ua_41) [pm_of (.putfield 198) 12 84 2, pm_o (.aload_n 0), pm_oi (.sipush 150) 150] (by decide +kernel) rfl ?_
  refine pm_newi 150 (by decide +kernel) (pm_c1 53 rfl rfl) (by decide) (by decide) (Nat.le_of_ble_eq_true rfl) (Nat.le_of_ble_eq_true rfl) (Nat.le_of_ble_eq_true rfl) ?_
  refine pm_weak (M' := cm 127 1160487 rf_141 ua_41) rfl rfl (fun _ _ h => cm_na rfl (fun _ => rfl) (fun _ => rfl) (fun _ => rfl) (fun _ => rfl) h) ?_
  refine pm_blk (pc' := 552) (L' := [(0, .ref 64)]) (S' := [.int 150, .ref 64]) (M' := cm 127 1160487 rf_142 ua_41) [pm_of (.putfield 201) 12 85 2, pm_o (.aload_n 0), pm_oi (.sipush 150) 150] (by decide +kernel) rfl ?_
  refine pm_newi 150 (by decide +kernel) (pm_c1 53 rfl rfl) (by decide) (by decide) (Nat.le_of_ble_eq_true rfl) (Nat.le_of_ble_eq_true rfl) (Nat.le_of_ble_eq_true rfl) ?_
  refine pm_weak (M' := cm 128 1160637 rf_142 ua_41) rfl rfl (fun _ _ h => cm_na rfl (fun _ => rfl) (fun _ => rfl) (fun _ => rfl) (fun _ => rfl) h) ?_
  refine pm_blk (pc' := 561) (L' := [(0, .ref 64)]) (S' := [.int 150, .ref 64]) (M' := cm 128 1160637 rf_143 ua_41) [pm_of (.putfield 204) 12 86 2, pm_o (.aload_n 0), pm_oi (.sipush 150) 150] (by decide +kernel) rfl ?_
  refine pm_newj 150 (by decide +kernel) (pm_c1 54 rfl rfl) (by decide) (by decide) (Nat.le_of_ble_eq_true rfl) (Nat.le_of_ble_eq_true rfl) (Nat.le_of_ble_eq_true rfl) ?_
  refine pm_weak (M' := cm 129 1160787 rf_143 ua_41) rfl rfl (fun _ _ h => cm_na rfl (fun _ => rfl) (fun _ => rfl) (fun _ => rfl) (fun _ => rfl) h) ?_
  refine pm_blk (pc' := 570) (L' := [(0, .ref 64)]) (S' := [.int 1000, .ref 64]) (M' := cm 129 1160787 rf_144 ua_41) [pm_of (.putfield 207) 12 87 2, pm_o (.aload_n 0), pm_oi (.sipush 1000) 1000] (by decide +kernel) rfl ?_
  refine pm_newi 1000 (by decide +kernel) (pm_c1 53 rfl rfl) (by decide) (by decide) (Nat.le_of_ble_eq_true rfl) (Nat.le_of_ble_eq_true rfl) (Nat.le_of_ble_eq_true rfl) ?_
  refine pm_weak (M' := cm 130 1161787 rf_144 ua_41) rfl rfl (fun _ _ h => cm_na rfl (fun _ => rfl) (fun _ => rfl) (fun _ => rfl) (fun _ => rfl) h) ?_
  refine pm_blk (pc' := 575) (L' := [(0, .ref 64)]) (S' := []) (M' := cm 130 1161787 rf_145 ua_41) [pm_of (.putfield 210) 12 90 2] (by decide +kernel) rfl ?_
  exact kk
set_option maxHeartbeats 4000000 in
set_option maxRecDepth 100000 in
theorem tk_Md_init_12 (l : Launch) (h0 : Nat) (D : pm_D) {p : Program} {e : Env} {R : Room} {s : State} {m : MethodId} {args : Array Value} {below : List Frame} {meth : Method} {c : Code} {Q : State → Prop} (kk : pm_V (p, l, e, R, s, m, args, below, meth, c) m_Md_init h0 D (65, 126369, 139, 1225793, 1) Q 619 [(0, .ref 64)] [] (cm 135 1189793 rf_150 ua_41)) : pm_V (p, l, e, R, s, m, args, below, meth, c) m_Md_init h0 D (65, 126369, 139, 1225793, 1) Q 575 [(0, .ref 64)] [] (cm 130 1161787 rf_145 ua_41) := by
  refine pm_blk (pc' := 579) (L' := [(0, .ref 64)]) (S' := [.int 1000, .ref 64]) (M' := cm 130 1161787 rf_145 ua_41) [pm_o (.aload_n 0), pm_oi (.sipush 1000) 1000] (by decide +kernel) rfl ?_
  refine pm_newj 1000 (by decide +kernel) (pm_c1 54 rfl rfl) (by decide) (by decide) (Nat.le_of_ble_eq_true rfl) (Nat.le_of_ble_eq_true rfl) (Nat.le_of_ble_eq_true rfl) ?_
  refine pm_weak (M' := cm 131 1162787 rf_145 ua_41) rfl rfl (fun _ _ h => cm_na rfl (fun _ => rfl) (fun _ => rfl) (fun _ => rfl) (fun _ => rfl) h) ?_
  refine pm_blk (pc' := 587) (L' := [(0, .ref 64)]) (S' := [.int 6, .ref 64]) (M' := cm 131 1162787 rf_146 ua_41) [pm_of (.putfield 213) 12 91 2, pm_o (.aload_n 0), pm_oi (.bipush 6) 6] (by decide +kernel) rfl ?_
  refine pm_newj 6 (by decide +kernel) (pm_c1 54 rfl rfl) (by decide) (by decide) (Nat.le_of_ble_eq_true rfl) (Nat.le_of_ble_eq_true rfl) (Nat.le_of_ble_eq_true rfl) ?_
  refine pm_weak (M' := cm 132 1162793 rf_146 ua_41) rfl rfl (fun _ _ h => cm_na rfl (fun _ => rfl) (fun _ => rfl) (fun _ => rfl) (fun _ => rfl) h) ?_
  refine pm_blk (pc' := 596) (L' := [(0, .ref 64)]) (S' := [.int 9000, .ref 64]) (M' := cm 132 1162793 rf_147 ua_41) [pm_of (.putfield 216) 12 106 2, pm_o (.aload_n 0), pm_oi (.sipush 9000) 9000] (by decide +kernel) rfl ?_
  refine pm_newi 9000 (by decide +kernel) (pm_c1 53 rfl rfl) (by decide) (by decide) (Nat.le_of_ble_eq_true rfl) (Nat.le_of_ble_eq_true rfl) (Nat.le_of_ble_eq_true rfl) ?_
  refine pm_weak (M' := cm 133 1171793 rf_147 ua_41) rfl rfl (fun _ _ h => cm_na rfl (fun _ => rfl) (fun _ => rfl) (fun _ => rfl) (fun _ => rfl) h) ?_
  refine pm_blk (pc' := 605) (L' := [(0, .ref 64)]) (S' := [.int 9000, .ref 64]) (M' := cm 133 1171793 rf_148 ua_41) [pm_of (.putfield 219) 12 110 2, pm_o (.aload_n 0), pm_oi (.sipush 9000) 9000] (by decide +kernel) rfl ?_
  refine pm_newi 9000 (by decide +kernel) (pm_c1 53 rfl rfl) (by decide) (by decide) (Nat.le_of_ble_eq_true rfl) (Nat.le_of_ble_eq_true rfl) (Nat.le_of_ble_eq_true rfl) ?_
  refine pm_weak (M' := cm 134 1180793 rf_148 ua_41) rfl rfl (fun _ _ h => cm_na rfl (fun _ => rfl) (fun _ => rfl) (fun _ => rfl) (fun _ => rfl) h) ?_
  refine pm_blk (pc' := 614) (L' := [(0, .ref 64)]) (S' := [.int 9000, .ref 64]) (M' := cm 134 1180793 rf_149 ua_41) [pm_of (.putfield 222) 12 111 2, pm_o (.aload_n 0), pm_oi (.sipush 9000) 9000] (by decide +kernel) rfl ?_
  refine pm_newi 9000 (by decide +kernel) (pm_c1 53 rfl rfl) (by decide) (by decide) (Nat.le_of_ble_eq_true rfl) (Nat.le_of_ble_eq_true rfl) (Nat.le_of_ble_eq_true rfl) ?_
  refine pm_weak (M' := cm 135 1189793 rf_149 ua_41) rfl rfl (fun _ _ h => cm_na rfl (fun _ => rfl) (fun _ => rfl) (fun _ => rfl) (fun _ => rfl) h) ?_
  refine pm_blk (pc' := 619) (L' := [(0, .ref 64)]) (S' := []) (M' := cm 135 1189793 rf_150 ua_41) [pm_of (.putfield 225) 12 112 2] (by decide +kernel) rfl ?_
  exact kk
set_option maxHeartbeats 4000000 in
set_option maxRecDepth 100000 in
theorem tk_Md_init_13 (l : Launch) (h0 : Nat) (D : pm_D) {p : Program} {e : Env} {R : Room} {s : State} {m : MethodId} {args : Array Value} {below : List Frame} {meth : Method} {c : Code} {Q : State → Prop} (kk : pm_V (p, l, e, R, s, m, args, below, meth, c) m_Md_init h0 D (65, 126369, 139, 1225793, 1) Q 663 [(1, .int 0), (0, .ref 64)] [] (cm 139 1225793 rf_154 ua_42)) : pm_V (p, l, e, R, s, m, args, below, meth, c) m_Md_init h0 D (65, 126369, 139, 1225793, 1) Q 619 [(0, .ref 64)] [] (cm 135 1189793 rf_150 ua_41) := by
  refine pm_blk (pc' := 623) (L' := [(0, .ref 64)]) (S' := [.int 9000, .ref 64]) (M' := cm 135 1189793 rf_150 ua_41) [pm_o (.aload_n 0), pm_oi (.sipush 9000) 9000] (by decide +kernel) rfl ?_
  refine pm_newi 9000 (by decide +kernel) (pm_c1 53 rfl rfl) (by decide) (by decide) (Nat.le_of_ble_eq_true rfl) (Nat.le_of_ble_eq_true rfl) (Nat.le_of_ble_eq_true rfl) ?_
  refine pm_weak (M' := cm 136 1198793 rf_150 ua_41) rfl rfl (fun _ _ h => cm_na rfl (fun _ => rfl) (fun _ => rfl) (fun _ => rfl) (fun _ => rfl) h) ?_
  refine pm_blk (pc' := 632) (L' := [(0, .ref 64)]) (S' := [.int 9000, .ref 64]) (M' := cm 136 1198793 rf_151 ua_41) [pm_of (.putfield 228) 12 113 2, pm_o (.aload_n 0), pm_oi (.sipush 9000) 9000] (by decide +kernel) rfl ?_
  refine pm_newj 9000 (by decide +kernel) (pm_c1 54 rfl rfl) (by decide) (by decide) (Nat.le_of_ble_eq_true rfl) (Nat.le_of_ble_eq_true rfl) (Nat.le_of_ble_eq_true rfl) ?_
  refine pm_weak (M' := cm 137 1207793 rf_151 ua_41) rfl rfl (fun _ _ h => cm_na rfl (fun _ => rfl) (fun _ => rfl) (fun _ => rfl) (fun _ => rfl) h) ?_
  refine pm_blk (pc' := 641) (L' := [(0, .ref 64)]) (S' := [.int 9000, .ref 64]) (M' := cm 137 1207793 rf_152 ua_41) [pm_of (.putfield 231) 12 114 2, pm_o (.aload_n 0), pm_oi (.sipush 9000) 9000] (by decide +kernel) rfl ?_
  refine pm_newi 9000 (by decide +kernel) (pm_c1 53 rfl rfl) (by decide) (by decide) (Nat.le_of_ble_eq_true rfl) (Nat.le_of_ble_eq_true rfl) (Nat.le_of_ble_eq_true rfl) ?_
  refine pm_weak (M' := cm 138 1216793 rf_152 ua_41) rfl rfl (fun _ _ h => cm_na rfl (fun _ => rfl) (fun _ => rfl) (fun _ => rfl) (fun _ => rfl) h) ?_
  refine pm_blk (pc' := 650) (L' := [(0, .ref 64)]) (S' := [.int 9000, .ref 64]) (M' := cm 138 1216793 rf_153 ua_41) [pm_of (.putfield 234) 12 116 2, pm_o (.aload_n 0), pm_oi (.sipush 9000) 9000] (by decide +kernel) rfl ?_
  refine pm_newj 9000 (by decide +kernel) (pm_c1 54 rfl rfl) (by decide) (by decide) (Nat.le_of_ble_eq_true rfl) (Nat.le_of_ble_eq_true rfl) (Nat.le_of_ble_eq_true rfl) ?_
  refine pm_weak (M' := cm 139 1225793 rf_153 ua_41) rfl rfl (fun _ _ h => cm_na rfl (fun _ => rfl) (fun _ => rfl) (fun _ => rfl) (fun _ => rfl) h) ?_
  refine pm_blk (pc' := 663) (L' := [(1, .int 0), (0, .ref 64)]) (S' := []) (M' := cm 139 1225793 rf_154 ua_42) [pm_of (.putfield 237) 12 117 2, pm_o (.aload_n 0), pm_oi (.bipush 6) 6, pm_of (.putfield 240) 12 18 0, pm_oi (.iconst 0) 0, pm_o (.istore_n 1)] (by decide +kernel) rfl ?_
  exact kk
set_option maxHeartbeats 4000000 in
set_option maxRecDepth 100000 in
theorem tk_Md_init_14 (l : Launch) (h0 : Nat) (D : pm_D) {p : Program} {e : Env} {R : Room} {s : State} {m : MethodId} {args : Array Value} {below : List Frame} {meth : Method} {c : Code} {Q : State → Prop} (kk : pm_V (p, l, e, R, s, m, args, below, meth, c) m_Md_init h0 D (65, 126369, 139, 1225793, 1) Q 663 [(1, .int 1), (0, .ref 64)] [] (cm 139 1225793 rf_154 ua_44)) : pm_V (p, l, e, R, s, m, args, below, meth, c) m_Md_init h0 D (65, 126369, 139, 1225793, 1) Q 663 [(1, .int 0), (0, .ref 64)] [] (cm 139 1225793 rf_154 ua_42) := by
  refine pm_blk (pc' := 666) (L' := [(1, .int 0), (0, .ref 64)]) (S' := [.int 6, .int 0]) (M' := cm 139 1225793 rf_154 ua_42) [pm_o (.iload_n 1), pm_oi (.bipush 6) 6] (by decide +kernel) rfl ?_
  refine pm_ic_ge (off := 36) 702 (by decide +kernel) (by decide) (fun hc => ?_) (fun hc => ?_)
  · exact absurd hc (by decide +kernel)
  refine pm_blk (pc' := 676) (L' := [(1, .int 0), (0, .ref 64)]) (S' := [.int 2, .int 0, .int 0, .ref 73]) (M' := cm 139 1225793 rf_154 ua_42) [pm_o (.aload_n 0), pm_of (.getfield 41) 12 14 2, pm_o (.iload_n 1), pm_o (.iload_n 1), pm_oi (.iconst 2) 2] (by decide +kernel) rfl ?_
  refine pm_ic_ge (off := 7) 683 (by decide +kernel) (by decide) (fun hc => ?_) (fun hc => ?_)
  · exact absurd hc (by decide +kernel)
  refine pm_blk (pc' := 680) (L' := [(1, .int 0), (0, .ref 64)]) (S' := [.int 0, .int 0, .ref 73]) (M' := cm 139 1225793 rf_154 ua_42) [pm_oi (.iconst 0) 0] (by decide +kernel) rfl ?_
  refine pm_goto (off := 8) 688 (by decide +kernel) (by decide) ?_
  refine pm_iast (by decide +kernel) rfl (pm_ok_in (by decide +kernel)) ?_
  refine pm_blk (pc' := 695) (L' := [(1, .int 0), (0, .ref 64)]) (S' := [.int 1, .int 0, .ref 74]) (M' := cm 139 1225793 rf_154 ua_43) [pm_o (.aload_n 0), pm_of (.getfield 44) 12 15 2, pm_o (.iload_n 1), pm_oi (.iconst 1) 1] (by decide +kernel) rfl ?_
  refine pm_iast (by decide +kernel) rfl (pm_ok_in (by decide +kernel)) ?_
  refine pm_blk (pc' := 699) (L' := [(1, .int 1), (0, .ref 64)]) (S' := []) (M' := cm 139 1225793 rf_154 ua_44) [pm_oi (.iinc 1 1) 1] (by decide +kernel) rfl ?_
  refine pm_goto (off := -36) 663 (by decide +kernel) (by decide) ?_
  exact kk
set_option maxHeartbeats 4000000 in
set_option maxRecDepth 100000 in
theorem tk_Md_init_15 (l : Launch) (h0 : Nat) (D : pm_D) {p : Program} {e : Env} {R : Room} {s : State} {m : MethodId} {args : Array Value} {below : List Frame} {meth : Method} {c : Code} {Q : State → Prop} (kk : pm_V (p, l, e, R, s, m, args, below, meth, c) m_Md_init h0 D (65, 126369, 139, 1225793, 1) Q 663 [(1, .int 2), (0, .ref 64)] [] (cm 139 1225793 rf_154 ua_46)) : pm_V (p, l, e, R, s, m, args, below, meth, c) m_Md_init h0 D (65, 126369, 139, 1225793, 1) Q 663 [(1, .int 1), (0, .ref 64)] [] (cm 139 1225793 rf_154 ua_44) := by
  refine pm_blk (pc' := 666) (L' := [(1, .int 1), (0, .ref 64)]) (S' := [.int 6, .int 1]) (M' := cm 139 1225793 rf_154 ua_44) [pm_o (.iload_n 1), pm_oi (.bipush 6) 6] (by decide +kernel) rfl ?_
  refine pm_ic_ge (off := 36) 702 (by decide +kernel) (by decide) (fun hc => ?_) (fun hc => ?_)
  · exact absurd hc (by decide +kernel)
  refine pm_blk (pc' := 676) (L' := [(1, .int 1), (0, .ref 64)]) (S' := [.int 2, .int 1, .int 1, .ref 73]) (M' := cm 139 1225793 rf_154 ua_44) [pm_o (.aload_n 0), pm_of (.getfield 41) 12 14 2, pm_o (.iload_n 1), pm_o (.iload_n 1), pm_oi (.iconst 2) 2] (by decide +kernel) rfl ?_
  refine pm_ic_ge (off := 7) 683 (by decide +kernel) (by decide) (fun hc => ?_) (fun hc => ?_)
  · exact absurd hc (by decide +kernel)
  refine pm_blk (pc' := 680) (L' := [(1, .int 1), (0, .ref 64)]) (S' := [.int 0, .int 1, .ref 73]) (M' := cm 139 1225793 rf_154 ua_44) [pm_oi (.iconst 0) 0] (by decide +kernel) rfl ?_
  refine pm_goto (off := 8) 688 (by decide +kernel) (by decide) ?_
  refine pm_iast (by decide +kernel) rfl (pm_ok_in (by decide +kernel)) ?_
  refine pm_blk (pc' := 695) (L' := [(1, .int 1), (0, .ref 64)]) (S' := [.int 1, .int 1, .ref 74]) (M' := cm 139 1225793 rf_154 ua_45) [pm_o (.aload_n 0), pm_of (.getfield 44) 12 15 2, pm_o (.iload_n 1), pm_oi (.iconst 1) 1] (by decide +kernel) rfl ?_
  refine pm_iast (by decide +kernel) rfl (pm_ok_in (by decide +kernel)) ?_
  refine pm_blk (pc' := 699) (L' := [(1, .int 2), (0, .ref 64)]) (S' := []) (M' := cm 139 1225793 rf_154 ua_46) [pm_oi (.iinc 1 1) 1] (by decide +kernel) rfl ?_
  refine pm_goto (off := -36) 663 (by decide +kernel) (by decide) ?_
  exact kk
set_option maxHeartbeats 4000000 in
set_option maxRecDepth 100000 in
theorem tk_Md_init_16 (l : Launch) (h0 : Nat) (D : pm_D) {p : Program} {e : Env} {R : Room} {s : State} {m : MethodId} {args : Array Value} {below : List Frame} {meth : Method} {c : Code} {Q : State → Prop} (kk : pm_V (p, l, e, R, s, m, args, below, meth, c) m_Md_init h0 D (65, 126369, 139, 1225793, 1) Q 663 [(1, .int 3), (0, .ref 64)] [] (cm 139 1225793 rf_154 ua_48)) : pm_V (p, l, e, R, s, m, args, below, meth, c) m_Md_init h0 D (65, 126369, 139, 1225793, 1) Q 663 [(1, .int 2), (0, .ref 64)] [] (cm 139 1225793 rf_154 ua_46) := by
  refine pm_blk (pc' := 666) (L' := [(1, .int 2), (0, .ref 64)]) (S' := [.int 6, .int 2]) (M' := cm 139 1225793 rf_154 ua_46) [pm_o (.iload_n 1), pm_oi (.bipush 6) 6] (by decide +kernel) rfl ?_
  refine pm_ic_ge (off := 36) 702 (by decide +kernel) (by decide) (fun hc => ?_) (fun hc => ?_)
  · exact absurd hc (by decide +kernel)
  refine pm_blk (pc' := 676) (L' := [(1, .int 2), (0, .ref 64)]) (S' := [.int 2, .int 2, .int 2, .ref 73]) (M' := cm 139 1225793 rf_154 ua_46) [pm_o (.aload_n 0), pm_of (.getfield 41) 12 14 2, pm_o (.iload_n 1), pm_o (.iload_n 1), pm_oi (.iconst 2) 2] (by decide +kernel) rfl ?_
  refine pm_ic_ge (off := 7) 683 (by decide +kernel) (by decide) (fun hc => ?_) (fun hc => ?_)
  rotate_left
  · exact absurd hc (by decide +kernel)
  refine pm_blk (pc' := 688) (L' := [(1, .int 2), (0, .ref 64)]) (S' := [.int 1, .int 2, .ref 73]) (M' := cm 139 1225793 rf_154 ua_46) [pm_oi (.iconst 1) 1, pm_o (.iload_n 1), pm_oi (.iconst 2) 2, pm_o .isub, pm_o .ishl] (by decide +kernel) rfl ?_
  refine pm_iast (by decide +kernel) rfl (pm_ok_in (by decide +kernel)) ?_
  refine pm_blk (pc' := 695) (L' := [(1, .int 2), (0, .ref 64)]) (S' := [.int 1, .int 2, .ref 74]) (M' := cm 139 1225793 rf_154 ua_47) [pm_o (.aload_n 0), pm_of (.getfield 44) 12 15 2, pm_o (.iload_n 1), pm_oi (.iconst 1) 1] (by decide +kernel) rfl ?_
  refine pm_iast (by decide +kernel) rfl (pm_ok_in (by decide +kernel)) ?_
  refine pm_blk (pc' := 699) (L' := [(1, .int 3), (0, .ref 64)]) (S' := []) (M' := cm 139 1225793 rf_154 ua_48) [pm_oi (.iinc 1 1) 1] (by decide +kernel) rfl ?_
  refine pm_goto (off := -36) 663 (by decide +kernel) (by decide) ?_
  exact kk
set_option maxHeartbeats 4000000 in
set_option maxRecDepth 100000 in
theorem tk_Md_init_17 (l : Launch) (h0 : Nat) (D : pm_D) {p : Program} {e : Env} {R : Room} {s : State} {m : MethodId} {args : Array Value} {below : List Frame} {meth : Method} {c : Code} {Q : State → Prop} (kk : pm_V (p, l, e, R, s, m, args, below, meth, c) m_Md_init h0 D (65, 126369, 139, 1225793, 1) Q 663 [(1, .int 4), (0, .ref 64)] [] (cm 139 1225793 rf_154 ua_50)) : pm_V (p, l, e, R, s, m, args, below, meth, c) m_Md_init h0 D (65, 126369, 139, 1225793, 1) Q 663 [(1, .int 3), (0, .ref 64)] [] (cm 139 1225793 rf_154 ua_48) := by
  refine pm_blk (pc' := 666) (L' := [(1, .int 3), (0, .ref 64)]) (S' := [.int 6, .int 3]) (M' := cm 139 1225793 rf_154 ua_48) [pm_o (.iload_n 1), pm_oi (.bipush 6) 6] (by decide +kernel) rfl ?_
  refine pm_ic_ge (off := 36) 702 (by decide +kernel) (by decide) (fun hc => ?_) (fun hc => ?_)
  · exact absurd hc (by decide +kernel)
  refine pm_blk (pc' := 676) (L' := [(1, .int 3), (0, .ref 64)]) (S' := [.int 2, .int 3, .int 3, .ref 73]) (M' := cm 139 1225793 rf_154 ua_48) [pm_o (.aload_n 0), pm_of (.getfield 41) 12 14 2, pm_o (.iload_n 1), pm_o (.iload_n 1), pm_oi (.iconst 2) 2] (by decide +kernel) rfl ?_
  refine pm_ic_ge (off := 7) 683 (by decide +kernel) (by decide) (fun hc => ?_) (fun hc => ?_)
  rotate_left
  · exact absurd hc (by decide +kernel)
  refine pm_blk (pc' := 688) (L' := [(1, .int 3), (0, .ref 64)]) (S' := [.int 2, .int 3, .ref 73]) (M' := cm 139 1225793 rf_154 ua_48) [pm_oi (.iconst 1) 1, pm_o (.iload_n 1), pm_oi (.iconst 2) 2, pm_o .isub, pm_o .ishl] (by decide +kernel) rfl ?_
  refine pm_iast (by decide +kernel) rfl (pm_ok_in (by decide +kernel)) ?_
  refine pm_blk (pc' := 695) (L' := [(1, .int 3), (0, .ref 64)]) (S' := [.int 1, .int 3, .ref 74]) (M' := cm 139 1225793 rf_154 ua_49) [pm_o (.aload_n 0), pm_of (.getfield 44) 12 15 2, pm_o (.iload_n 1), pm_oi (.iconst 1) 1] (by decide +kernel) rfl ?_
  refine pm_iast (by decide +kernel) rfl (pm_ok_in (by decide +kernel)) ?_
  refine pm_blk (pc' := 699) (L' := [(1, .int 4), (0, .ref 64)]) (S' := []) (M' := cm 139 1225793 rf_154 ua_50) [pm_oi (.iinc 1 1) 1] (by decide +kernel) rfl ?_
  refine pm_goto (off := -36) 663 (by decide +kernel) (by decide) ?_
  exact kk
set_option maxHeartbeats 4000000 in
set_option maxRecDepth 100000 in
theorem tk_Md_init_18 (l : Launch) (h0 : Nat) (D : pm_D) {p : Program} {e : Env} {R : Room} {s : State} {m : MethodId} {args : Array Value} {below : List Frame} {meth : Method} {c : Code} {Q : State → Prop} (kk : pm_V (p, l, e, R, s, m, args, below, meth, c) m_Md_init h0 D (65, 126369, 139, 1225793, 1) Q 663 [(1, .int 5), (0, .ref 64)] [] (cm 139 1225793 rf_154 ua_52)) : pm_V (p, l, e, R, s, m, args, below, meth, c) m_Md_init h0 D (65, 126369, 139, 1225793, 1) Q 663 [(1, .int 4), (0, .ref 64)] [] (cm 139 1225793 rf_154 ua_50) := by
  refine pm_blk (pc' := 666) (L' := [(1, .int 4), (0, .ref 64)]) (S' := [.int 6, .int 4]) (M' := cm 139 1225793 rf_154 ua_50) [pm_o (.iload_n 1), pm_oi (.bipush 6) 6] (by decide +kernel) rfl ?_
  refine pm_ic_ge (off := 36) 702 (by decide +kernel) (by decide) (fun hc => ?_) (fun hc => ?_)
  · exact absurd hc (by decide +kernel)
  refine pm_blk (pc' := 676) (L' := [(1, .int 4), (0, .ref 64)]) (S' := [.int 2, .int 4, .int 4, .ref 73]) (M' := cm 139 1225793 rf_154 ua_50) [pm_o (.aload_n 0), pm_of (.getfield 41) 12 14 2, pm_o (.iload_n 1), pm_o (.iload_n 1), pm_oi (.iconst 2) 2] (by decide +kernel) rfl ?_
  refine pm_ic_ge (off := 7) 683 (by decide +kernel) (by decide) (fun hc => ?_) (fun hc => ?_)
  rotate_left
  · exact absurd hc (by decide +kernel)
  refine pm_blk (pc' := 688) (L' := [(1, .int 4), (0, .ref 64)]) (S' := [.int 4, .int 4, .ref 73]) (M' := cm 139 1225793 rf_154 ua_50) [pm_oi (.iconst 1) 1, pm_o (.iload_n 1), pm_oi (.iconst 2) 2, pm_o .isub, pm_o .ishl] (by decide +kernel) rfl ?_
  refine pm_iast (by decide +kernel) rfl (pm_ok_in (by decide +kernel)) ?_
  refine pm_blk (pc' := 695) (L' := [(1, .int 4), (0, .ref 64)]) (S' := [.int 1, .int 4, .ref 74]) (M' := cm 139 1225793 rf_154 ua_51) [pm_o (.aload_n 0), pm_of (.getfield 44) 12 15 2, pm_o (.iload_n 1), pm_oi (.iconst 1) 1] (by decide +kernel) rfl ?_
  refine pm_iast (by decide +kernel) rfl (pm_ok_in (by decide +kernel)) ?_
  refine pm_blk (pc' := 699) (L' := [(1, .int 5), (0, .ref 64)]) (S' := []) (M' := cm 139 1225793 rf_154 ua_52) [pm_oi (.iinc 1 1) 1] (by decide +kernel) rfl ?_
  refine pm_goto (off := -36) 663 (by decide +kernel) (by decide) ?_
  exact kk
set_option maxHeartbeats 4000000 in
set_option maxRecDepth 100000 in
theorem tk_Md_init_19 (l : Launch) (h0 : Nat) (D : pm_D) {p : Program} {e : Env} {R : Room} {s : State} {m : MethodId} {args : Array Value} {below : List Frame} {meth : Method} {c : Code} {Q : State → Prop} (kk : pm_V (p, l, e, R, s, m, args, below, meth, c) m_Md_init h0 D (65, 126369, 139, 1225793, 1) Q 663 [(1, .int 6), (0, .ref 64)] [] (cm 139 1225793 rf_154 ua_54)) : pm_V (p, l, e, R, s, m, args, below, meth, c) m_Md_init h0 D (65, 126369, 139, 1225793, 1) Q 663 [(1, .int 5), (0, .ref 64)] [] (cm 139 1225793 rf_154 ua_52) := by
  refine pm_blk (pc' := 666) (L' := [(1, .int 5), (0, .ref 64)]) (S' := [.int 6, .int 5]) (M' := cm 139 1225793 rf_154 ua_52) [pm_o (.iload_n 1), pm_oi (.bipush 6) 6] (by decide +kernel) rfl ?_
  refine pm_ic_ge (off := 36) 702 (by decide +kernel) (by decide) (fun hc => ?_) (fun hc => ?_)
  · exact absurd hc (by decide +kernel)
  refine pm_blk (pc' := 676) (L' := [(1, .int 5), (0, .ref 64)]) (S' := [.int 2, .int 5, .int 5, .ref 73]) (M' := cm 139 1225793 rf_154 ua_52) [pm_o (.aload_n 0), pm_of (.getfield 41) 12 14 2, pm_o (.iload_n 1), pm_o (.iload_n 1), pm_oi (.iconst 2) 2] (by decide +kernel) rfl ?_
  refine pm_ic_ge (off := 7) 683 (by decide +kernel) (by decide) (fun hc => ?_) (fun hc => ?_)
  rotate_left
  · exact absurd hc (by decide +kernel)
  refine pm_blk (pc' := 688) (L' := [(1, .int 5), (0, .ref 64)]) (S' := [.int 8, .int 5, .ref 73]) (M' := cm 139 1225793 rf_154 ua_52) [pm_oi (.iconst 1) 1, pm_o (.iload_n 1), pm_oi (.iconst 2) 2, pm_o .isub, pm_o .ishl] (by decide +kernel) rfl ?_
  refine pm_iast (by decide +kernel) rfl (pm_ok_in (by decide +kernel)) ?_
  refine pm_blk (pc' := 695) (L' := [(1, .int 5), (0, .ref 64)]) (S' := [.int 1, .int 5, .ref 74]) (M' := cm 139 1225793 rf_154 ua_53) [pm_o (.aload_n 0), pm_of (.getfield 44) 12 15 2, pm_o (.iload_n 1), pm_oi (.iconst 1) 1] (by decide +kernel) rfl ?_
  refine pm_iast (by decide +kernel) rfl (pm_ok_in (by decide +kernel)) ?_
  refine pm_blk (pc' := 699) (L' := [(1, .int 6), (0, .ref 64)]) (S' := []) (M' := cm 139 1225793 rf_154 ua_54) [pm_oi (.iinc 1 1) 1] (by decide +kernel) rfl ?_
  refine pm_goto (off := -36) 663 (by decide +kernel) (by decide) ?_
  exact kk
set_option maxHeartbeats 4000000 in
set_option maxRecDepth 100000 in
theorem tl_Md_init (l : Launch) (h0 : Nat) (D : pm_D) {N : Nat} {uN : pm_J} (hN : F_Md_noTypes N (0, 0, 0, 0) ua_54 = some uN) {p : Program} {e : Env} {R : Room} {s : State} {m : MethodId} {args : Array Value} {below : List Frame} {meth : Method} {c : Code} : pm_V (p, l, e, R, s, m, args, below, meth, c) m_Md_init h0 D (65, 126369, 139, 1225793, 1) (pm_E (p, l, e, R, s, m, args, below, meth, c) h0 D (cm 65 126369 rf_80 ua_40) none (cm 139 1225793 rf_154 uN)) 663 [(1, .int 6), (0, .ref 64)] [] (cm 139 1225793 rf_154 ua_54) := by
  refine pm_blk (pc' := 666) (L' := [(1, .int 6), (0, .ref 64)]) (S' := [.int 6, .int 6]) (M' := cm 139 1225793 rf_154 ua_54) [pm_o (.iload_n 1), pm_oi (.bipush 6) 6] (by decide +kernel) rfl ?_
  refine pm_ic_ge (off := 36) 702 (by decide +kernel) (by decide) (fun hc => ?_) (fun hc => ?_)
  rotate_left
  · exact absurd hc (by decide +kernel)
  refine pm_blk (pc' := 703) (L' := [(1, .int 6), (0, .ref 64)]) (S' := [.ref 64]) (M' := cm 139 1225793 rf_154 ua_54) [pm_o (.aload_n 0)] (by decide +kernel) rfl ?_
  exact tl2_Md_init l h0 D hN
set_option maxHeartbeats 4000000 in
set_option maxRecDepth 100000 in
theorem ci_Md_init (l : Launch) (h0 : Nat) (D : pm_D) {N : Nat} {uN : pm_J} (hN : F_Md_noTypes N (0, 0, 0, 0) ua_54 = some uN) : pm_C l h0 D m_Md_init 1 [.ref 64] (cm 65 126369 rf_80 ua_40) none (cm 139 1225793 rf_154 uN) := by
  refine pm_met (by decide +kernel) (Nat.le_of_ble_eq_true rfl) (Nat.le_of_ble_eq_true rfl) (Nat.le_of_ble_eq_true rfl) ?_
  intro p e R s m args below meth c
  refine hd_Md_init l h0 D ?_
  refine tk_Md_init_0 l h0 D ?_
  refine tk_Md_init_1 l h0 D ?_
  refine tk_Md_init_2 l h0 D ?_
  refine tk_Md_init_3 l h0 D ?_
  refine tk_Md_init_4 l h0 D ?_
  refine tk_Md_init_5 l h0 D ?_
  refine tk_Md_init_6 l h0 D ?_
  refine tk_Md_init_7 l h0 D ?_
  refine tk_Md_init_8 l h0 D ?_
  refine tk_Md_init_9 l h0 D ?_
  refine tk_Md_init_10 l h0 D ?_
  refine tk_Md_init_11 l h0 D ?_
  refine tk_Md_init_12 l h0 D ?_
  refine tk_Md_init_13 l h0 D ?_
  refine tk_Md_init_14 l h0 D ?_
  refine tk_Md_init_15 l h0 D ?_
  refine tk_Md_init_16 l h0 D ?_
  refine tk_Md_init_17 l h0 D ?_
  refine tk_Md_init_18 l h0 D ?_
  refine tk_Md_init_19 l h0 D ?_
  exact tl_Md_init l h0 D hN
