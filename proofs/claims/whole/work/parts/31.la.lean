/-- one call of the script, by both; the reference compiles with its own fuel -/
def LC (N M : Nat) (c0 c1 c2 c3 : Int32) (g : pm_s) (u : pm_J) : Option (Unit × pm_s × pm_J) := pm_S g (if (c0 &&& 15) = 0 then (FX_feed N c1 ((c2.toInt64 <<< ((32 : Int32).toInt64 &&& 63)) ||| (c3.toInt64 &&& 4294967295)) g u).bind fun q2 => if sh_Tb q2.2.1 = true then pm_S q2.2.1 ((F_Md_feed N c1 ((c2.toInt64 <<< ((32 : Int32).toInt64 &&& 63)) ||| (c3.toInt64 &&& 4294967295)) q2.2.1 q2.2.2).bind fun q5 => (F_Md_thrown q2.2.1 q5.2).bind fun q6 => if q6 = q2.1 then if q2.1 = 0 then if pm_ok 0 1 = true then if (lg_cmp (q5.2.2 139 0) q5.1.toInt64) = 0 then some ((), q2.2.1, q5.2) else none else none else some ((), q2.2.1, q5.2) else none) else none else if (c0 &&& 15) = 1 then (F_BC_wipe N g u).bind fun q12 => (F_Md_wipe g q12.2).bind fun q13 => if q12.1 = q13.1 then some ((), g, q13.2) else none else if (c0 &&& 15) = 2 then (F_BC_compile N g u).bind fun q16 => if sh_Tb q16.2.1 = true then pm_S q16.2.1 ((F_Md_compile M q16.2.1 q16.2.2).bind fun q19 => if q16.1 = q19.1 then some ((), q16.2.1, q19.2) else none) else none else if (c0 &&& 15) = 3 then (F_BC_place g u).bind fun q22 => (F_Md_place g u).bind fun q23 => if q22 = q23.1 then some ((), g, q23.2) else none else if (c0 &&& 15) = 4 then (F_BC_defs g u).bind fun q26 => (F_Md_defs g u).bind fun q27 => if q26 = q27.1 then some ((), g, q27.2) else none else if (c0 &&& 15) = 5 then (FX_def N c1 c2 g u).bind fun q30 => if sh_Tb q30.2.1 = true then pm_S q30.2.1 ((F_Md_def N c1 c2 q30.2.1 q30.2.2).bind fun q33 => (F_Md_thrown q30.2.1 q33.2).bind fun q34 => if q34 = q30.1 then if q30.1 = 0 then if pm_ok 0 1 = true then if (lg_cmp (q33.2.2 139 0) q33.1.toInt64) = 0 then some ((), q30.2.1, q33.2) else none else none else some ((), q30.2.1, q33.2) else none) else none else if (c0 &&& 15) = 6 then (FX_argument N ((c1.toInt64 <<< ((32 : Int32).toInt64 &&& 63)) ||| (c2.toInt64 &&& 4294967295)) g u).bind fun q40 => if sh_Tb q40.2.1 = true then pm_S q40.2.1 ((F_Md_argument N ((c1.toInt64 <<< ((32 : Int32).toInt64 &&& 63)) ||| (c2.toInt64 &&& 4294967295)) q40.2.1 q40.2.2).bind fun q43 => (F_Md_thrown q40.2.1 q43.2).bind fun q44 => if q44 = q40.1 then if q40.1 = 0 then if pm_ok 0 1 = true then if (lg_cmp (q43.2.2 139 0) q43.1.toInt64) = 0 then some ((), q40.2.1, q43.2) else none else none else some ((), q40.2.1, q43.2) else none) else none else if (c0 &&& 15) = 7 then if c2 = 0 then (FX_run N c1 0 c3 g u).bind fun q51 => if sh_Tb q51.2.1 = true then pm_S q51.2.1 (if c2 = 0 then (F_Md_run N c1 0 c3 q51.2.1 q51.2.2).bind fun q55 => (F_Md_thrown q51.2.1 q55.2).bind fun q56 => if q56 = q51.1 then if q51.1 = 0 then if pm_ok 0 1 = true then if (lg_cmp (q55.2.2 139 0) q55.1.toInt64) = 0 then some ((), q51.2.1, q55.2) else none else none else some ((), q51.2.1, q55.2) else none else (F_Md_run N c1 1 c3 q51.2.1 q51.2.2).bind fun q61 => (F_Md_thrown q51.2.1 q61.2).bind fun q62 => if q62 = q51.1 then if q51.1 = 0 then if pm_ok 0 1 = true then if (lg_cmp (q61.2.2 139 0) q61.1.toInt64) = 0 then some ((), q51.2.1, q61.2) else none else none else some ((), q51.2.1, q61.2) else none) else none else (FX_run N c1 1 c3 g u).bind fun q67 => if sh_Tb q67.2.1 = true then pm_S q67.2.1 (if c2 = 0 then (F_Md_run N c1 0 c3 q67.2.1 q67.2.2).bind fun q71 => (F_Md_thrown q67.2.1 q71.2).bind fun q72 => if q72 = q67.1 then if q67.1 = 0 then if pm_ok 0 1 = true then if (lg_cmp (q71.2.2 139 0) q71.1.toInt64) = 0 then some ((), q67.2.1, q71.2) else none else none else some ((), q67.2.1, q71.2) else none else (F_Md_run N c1 1 c3 q67.2.1 q67.2.2).bind fun q77 => (F_Md_thrown q67.2.1 q77.2).bind fun q78 => if q78 = q67.1 then if q67.1 = 0 then if pm_ok 0 1 = true then if (lg_cmp (q77.2.2 139 0) q77.1.toInt64) = 0 then some ((), q67.2.1, q77.2) else none else none else some ((), q67.2.1, q77.2) else none) else none else if (c0 &&& 15) = 8 then (FX_told N c1 g u).bind fun q84 => if sh_Tb q84.2.1 = true then pm_S q84.2.1 ((F_Md_told N c1 q84.2.1 q84.2.2).bind fun q87 => (F_Md_thrown q84.2.1 q87.2).bind fun q88 => if q88 = q84.1 then if q84.1 = 0 then if pm_ok 0 1 = true then if (lg_cmp (q87.2.2 139 0) q87.1.toInt64) = 0 then some ((), q84.2.1, q87.2) else none else none else some ((), q84.2.1, q87.2) else none) else none else if (c0 &&& 15) = 9 then (F_BC_sort N c1 g u).bind fun q94 => (F_Md_sort N c1 g u).bind fun q95 => if q94 = q95.1 then some ((), g, q95.2) else none else if (c0 &&& 15) = 10 then (F_BC_result N c1 g u).bind fun q98 => (F_Md_result N c1 g u).bind fun q99 => if (lg_cmp q98 q99.1) = 0 then some ((), g, q99.2) else none else some ((), g, u))
set_option maxHeartbeats 4000000 in
set_option maxRecDepth 100000 in
theorem w_LC {l : Launch} (hfl : l.flags = pinnedFlags ++ [noTraceFlag]) (h0 : Nat) (D : pm_D) {N M : Nat} {g : pm_s} {u : pm_J} {out : Unit × pm_s × pm_J} {c0 c1 c2 c3 i : Int32} {b n : Nat} {xs : Nat → Int32} {p : Program} {e : Env} {R : Room} {s : State} {m : MethodId} {args : Array Value} {below : List Frame} {meth : Method} {c : Code} {Q : State → Prop} (hT : sh_T g) (hX : va_X b n xs s s.heap) (hb : b < h0) (hi0 : vp_in (i) n ∧ xs (i).toNatClampNeg = c0) (hi1 : vp_in (i + 1) n ∧ xs (i + 1).toNatClampNeg = c1) (hi2 : vp_in (i + 2) n ∧ xs (i + 2).toNatClampNeg = c2) (hi3 : vp_in (i + 3) n ∧ xs (i + 3).toNatClampNeg = c3) (ho1 : out.2.1.1 ≤ 601024) (ho2 : out.2.1.2.1 ≤ 7293034) (h : LC N M c0 c1 c2 c3 g u = some out) (kk : pm_V (p, l, e, R, s, m, args, below, meth, c) m_Law_law h0 D (0, 0, 601024, 7293034, 248) Q 607 [(4, .int i), (3, .ref 139), (2, .ref 64), (1, .ref 0), (0, .retAddr b)] [] (sm out.2.1 out.2.2)) : pm_V (p, l, e, R, s, m, args, below, meth, c) m_Law_law h0 D (0, 0, 601024, 7293034, 248) Q 32 [(4, .int i), (3, .ref 139), (2, .ref 64), (1, .ref 0), (0, .retAddr b)] [] (sm g u) := by
  unfold LC at h
  obtain ⟨h, hle⟩ := pm_Ss h
  refine pm_alx (k := 0) (i := 0) (q := b) (by decide +kernel) rfl rfl ?_
  refine pm_blk (pc' := 35) (L' := [(4, .int i), (3, .ref 139), (2, .ref 64), (1, .ref 0), (0, .retAddr b)]) (S' := [.int i, .retAddr b]) (M' := sm g u) [pm_o (.iload 4)] (by decide +kernel) rfl ?_
  refine pm_xald (by decide +kernel) hX hb hi0.1 hi0.2 ?_
  refine pm_blk (pc' := 39) (L' := [(4, .int i), (3, .ref 139), (2, .ref 64), (1, .ref 0), (0, .retAddr b)]) (S' := [.int (c0 &&& 15)]) (M' := sm g u) [pm_oi (.bipush 15) 15, pm_o .iand] (by decide +kernel) rfl ?_
  refine pm_tsw (dflt := 568) (lo := 0) (hi := 10) (offs := #[57, 157, 170, 183, 196, 209, 277, 365, 461, 517, 542]) (len := 57) [(0, 96), (1, 196), (2, 209), (3, 222), (4, 235), (5, 248), (6, 316), (7, 404), (8, 500), (9, 556), (10, 581)] 607 (by decide +kernel) (by decide +kernel) ?_
  by_cases hs1 : (c0 &&& 15) = 0
  · rw [if_pos hs1] at h
    rw [pm_sw_pos hs1]
    refine pm_blk (pc' := 97) (L' := [(4, .int i), (3, .ref 139), (2, .ref 64), (1, .ref 0), (0, .retAddr b)]) (S' := [.ref 0]) (M' := sm g u) [pm_o (.aload_n 1)] (by decide +kernel) rfl ?_
    refine pm_alx (k := 0) (i := 0) (q := b) (by decide +kernel) rfl rfl ?_
    refine pm_blk (pc' := 102) (L' := [(4, .int i), (3, .ref 139), (2, .ref 64), (1, .ref 0), (0, .retAddr b)]) (S' := [.int (i + 1), .retAddr b, .ref 0]) (M' := sm g u) [pm_o (.iload 4), pm_oi (.iconst 1) 1, pm_o .iadd] (by decide +kernel) rfl ?_
    refine pm_xald (by decide +kernel) hX hb hi1.1 hi1.2 ?_
    refine pm_blk (pc' := 103) (L' := [(4, .int i), (3, .ref 139), (2, .ref 64), (1, .ref 0), (0, .retAddr b)]) (S' := [.int c1, .ref 0]) (M' := sm g u) [] (by decide +kernel) rfl ?_
    refine pm_alx (k := 0) (i := 0) (q := b) (by decide +kernel) rfl rfl ?_
    refine pm_blk (pc' := 108) (L' := [(4, .int i), (3, .ref 139), (2, .ref 64), (1, .ref 0), (0, .retAddr b)]) (S' := [.int (i + 2), .retAddr b, .int c1, .ref 0]) (M' := sm g u) [pm_o (.iload 4), pm_oi (.iconst 2) 2, pm_o .iadd] (by decide +kernel) rfl ?_
    refine pm_xald (by decide +kernel) hX hb hi2.1 hi2.2 ?_
    refine pm_blk (pc' := 113) (L' := [(4, .int i), (3, .ref 139), (2, .ref 64), (1, .ref 0), (0, .retAddr b)]) (S' := [.long (c2.toInt64 <<< ((32 : Int32).toInt64 &&& 63)), .int c1, .ref 0]) (M' := sm g u) [pm_o .i2l, pm_oi (.bipush 32) 32, pm_o .lshl] (by decide +kernel) rfl ?_
    refine pm_alx (k := 0) (i := 0) (q := b) (by decide +kernel) rfl rfl ?_
    refine pm_blk (pc' := 118) (L' := [(4, .int i), (3, .ref 139), (2, .ref 64), (1, .ref 0), (0, .retAddr b)]) (S' := [.int (i + 3), .retAddr b, .long (c2.toInt64 <<< ((32 : Int32).toInt64 &&& 63)), .int c1, .ref 0]) (M' := sm g u) [pm_o (.iload 4), pm_oi (.iconst 3) 3, pm_o .iadd] (by decide +kernel) rfl ?_
    refine pm_xald (by decide +kernel) hX hb hi3.1 hi3.2 ?_
    refine pm_blk (pc' := 126) (L' := [(4, .int i), (3, .ref 139), (2, .ref 64), (1, .ref 0), (0, .retAddr b)]) (S' := [.ref 139, .long ((c2.toInt64 <<< ((32 : Int32).toInt64 &&& 63)) ||| (c3.toInt64 &&& 4294967295)), .int c1, .ref 0]) (M' := sm g u) [pm_o .i2l, pm_ol (.ldc2_w 39) 4294967295, pm_o .land, pm_o .lor, pm_o (.aload_n 3)] (by decide +kernel) rfl ?_
    obtain ⟨q2, hq2, h⟩ := pm_bd h
    obtain ⟨hu3, h⟩ := pm_ifs h
    obtain ⟨h, hl4⟩ := pm_Ss h
    refine pm_cSW (idx := 41) m_Law_feed (cX_feed hfl h0 D hT hq2) (As := [.ref 0, .int c1, .long ((c2.toInt64 <<< ((32 : Int32).toInt64 &&& 63)) ||| (c3.toInt64 &&& 4294967295)), .ref 139]) (S0 := []) rfl (by decide +kernel) kW_feed l_Law_41 (Nat.le_of_ble_eq_true rfl) (Nat.le_of_ble_eq_true rfl) (Nat.le_trans hl4.1 ho1) (Nat.le_trans hl4.2 ho2) ?_
    refine pm_blk (pc' := 132) (L' := [(5, .int q2.1), (4, .int i), (3, .ref 139), (2, .ref 64), (1, .ref 0), (0, .retAddr b)]) (S' := [.ref 64]) (M' := sm q2.2.1 q2.2.2) [pm_o (.istore 5), pm_o (.aload_n 2)] (by decide +kernel) rfl ?_
    refine pm_alx (k := 0) (i := 0) (q := b) (by decide +kernel) rfl rfl ?_
    refine pm_blk (pc' := 137) (L' := [(5, .int q2.1), (4, .int i), (3, .ref 139), (2, .ref 64), (1, .ref 0), (0, .retAddr b)]) (S' := [.int (i + 1), .retAddr b, .ref 64]) (M' := sm q2.2.1 q2.2.2) [pm_o (.iload 4), pm_oi (.iconst 1) 1, pm_o .iadd] (by decide +kernel) rfl ?_
    refine pm_xald (by decide +kernel) hX hb hi1.1 hi1.2 ?_
    refine pm_blk (pc' := 138) (L' := [(5, .int q2.1), (4, .int i), (3, .ref 139), (2, .ref 64), (1, .ref 0), (0, .retAddr b)]) (S' := [.int c1, .ref 64]) (M' := sm q2.2.1 q2.2.2) [] (by decide +kernel) rfl ?_
    refine pm_alx (k := 0) (i := 0) (q := b) (by decide +kernel) rfl rfl ?_
    refine pm_blk (pc' := 143) (L' := [(5, .int q2.1), (4, .int i), (3, .ref 139), (2, .ref 64), (1, .ref 0), (0, .retAddr b)]) (S' := [.int (i + 2), .retAddr b, .int c1, .ref 64]) (M' := sm q2.2.1 q2.2.2) [pm_o (.iload 4), pm_oi (.iconst 2) 2, pm_o .iadd] (by decide +kernel) rfl ?_
    refine pm_xald (by decide +kernel) hX hb hi2.1 hi2.2 ?_
    refine pm_blk (pc' := 148) (L' := [(5, .int q2.1), (4, .int i), (3, .ref 139), (2, .ref 64), (1, .ref 0), (0, .retAddr b)]) (S' := [.long (c2.toInt64 <<< ((32 : Int32).toInt64 &&& 63)), .int c1, .ref 64]) (M' := sm q2.2.1 q2.2.2) [pm_o .i2l, pm_oi (.bipush 32) 32, pm_o .lshl] (by decide +kernel) rfl ?_
    refine pm_alx (k := 0) (i := 0) (q := b) (by decide +kernel) rfl rfl ?_
    refine pm_blk (pc' := 153) (L' := [(5, .int q2.1), (4, .int i), (3, .ref 139), (2, .ref 64), (1, .ref 0), (0, .retAddr b)]) (S' := [.int (i + 3), .retAddr b, .long (c2.toInt64 <<< ((32 : Int32).toInt64 &&& 63)), .int c1, .ref 64]) (M' := sm q2.2.1 q2.2.2) [pm_o (.iload 4), pm_oi (.iconst 3) 3, pm_o .iadd] (by decide +kernel) rfl ?_
    refine pm_xald (by decide +kernel) hX hb hi3.1 hi3.2 ?_
    refine pm_blk (pc' := 160) (L' := [(5, .int q2.1), (4, .int i), (3, .ref 139), (2, .ref 64), (1, .ref 0), (0, .retAddr b)]) (S' := [.long ((c2.toInt64 <<< ((32 : Int32).toInt64 &&& 63)) ||| (c3.toInt64 &&& 4294967295)), .int c1, .ref 64]) (M' := sm q2.2.1 q2.2.2) [pm_o .i2l, pm_ol (.ldc2_w 39) 4294967295, pm_o .land, pm_o .lor] (by decide +kernel) rfl ?_
    obtain ⟨q5, hq5, h⟩ := pm_bd h
    refine pm_cV (idx := 46) m_Md_feed (c_Md_feed l h0 D (sh_Tb_s hu3) hq5) (As := [.int c1, .long ((c2.toInt64 <<< ((32 : Int32).toInt64 &&& 63)) ||| (c3.toInt64 &&& 4294967295))]) (S0 := []) rfl (by decide +kernel) k_Md_feed l_Law_46 (Nat.le_of_ble_eq_true rfl) (Nat.le_of_ble_eq_true rfl) (Nat.le_trans hl4.1 ho1) (Nat.le_trans hl4.2 ho2) ?_
    refine pm_blk (pc' := 166) (L' := [(6, .int q5.1), (5, .int q2.1), (4, .int i), (3, .ref 139), (2, .ref 64), (1, .ref 0), (0, .retAddr b)]) (S' := [.ref 64]) (M' := sm q2.2.1 q5.2) [pm_o (.istore 6), pm_o (.aload_n 2)] (by decide +kernel) rfl ?_
    obtain ⟨q6, hq6, h⟩ := pm_bd h
    refine pm_cV (idx := 47) m_Md_thrown (c_Md_thrown l h0 D (sh_Tb_s hu3) hq6) (As := []) (S0 := []) rfl (by decide +kernel) k_Md_thrown l_Law_47 (Nat.le_of_ble_eq_true rfl) (Nat.le_of_ble_eq_true rfl) (Nat.le_trans hl4.1 ho1) (Nat.le_trans hl4.2 ho2) ?_
    refine pm_blk (pc' := 171) (L' := [(6, .int q5.1), (5, .int q2.1), (4, .int i), (3, .ref 139), (2, .ref 64), (1, .ref 0), (0, .retAddr b)]) (S' := [.int q2.1, .int q6]) (M' := sm q2.2.1 q5.2) [pm_o (.iload 5)] (by decide +kernel) rfl ?_
    refine pm_ic_eq (off := 5) 176 (by decide +kernel) (by decide) (fun hc7 => ?_) (fun hc7 => ?_)
    · rw [if_pos hc7] at h
      refine pm_blk (pc' := 178) (L' := [(6, .int q5.1), (5, .int q2.1), (4, .int i), (3, .ref 139), (2, .ref 64), (1, .ref 0), (0, .retAddr b)]) (S' := [.int q2.1]) (M' := sm q2.2.1 q5.2) [pm_o (.iload 5)] (by decide +kernel) rfl ?_
      refine pm_if_ne (off := 15) 193 (by decide +kernel) (by decide) (fun hc8 => ?_) (fun hc8 => ?_)
      · rw [if_neg hc8] at h
        refine pm_goto (off := 414) 607 (by decide +kernel) (by decide) ?_
        have h9 := Option.some.inj h
        subst h9
        refine pm_loc [2, 3, 4, 5, 6] rfl ?_
        exact kk
      · rw [if_pos hc8] at h
        refine pm_blk (pc' := 183) (L' := [(6, .int q5.1), (5, .int q2.1), (4, .int i), (3, .ref 139), (2, .ref 64), (1, .ref 0), (0, .retAddr b)]) (S' := [.int 0, .ref 139]) (M' := sm q2.2.1 q5.2) [pm_o (.aload_n 3), pm_oi (.iconst 0) 0] (by decide +kernel) rfl ?_
        obtain ⟨ho9, h⟩ := pm_ifs h
        refine pm_lald (by decide +kernel) rfl (pm_ok_in ho9) ?_
        refine pm_blk (pc' := 188) (L' := [(6, .int q5.1), (5, .int q2.1), (4, .int i), (3, .ref 139), (2, .ref 64), (1, .ref 0), (0, .retAddr b)]) (S' := [.int (lg_cmp (q5.2.2 139 0) q5.1.toInt64)]) (M' := sm q2.2.1 q5.2) [pm_o (.iload 6), pm_o .i2l, pm_o .lcmp] (by decide +kernel) rfl ?_
        refine pm_if_eq (off := 5) 193 (by decide +kernel) (by decide) (fun hc10 => ?_) (fun hc10 => ?_)
        · rw [if_pos hc10] at h
          refine pm_goto (off := 414) 607 (by decide +kernel) (by decide) ?_
          have h9 := Option.some.inj h
          subst h9
          refine pm_loc [2, 3, 4, 5, 6] rfl ?_
          exact kk
        · rw [if_neg hc10] at h
          cases h
    · rw [if_neg hc7] at h
      cases h
  rw [if_neg hs1] at h
  rw [pm_sw_neg hs1]
  by_cases hs11 : (c0 &&& 15) = 1
  · rw [if_pos hs11] at h
    rw [pm_sw_pos hs11]
    refine pm_blk (pc' := 197) (L' := [(4, .int i), (3, .ref 139), (2, .ref 64), (1, .ref 0), (0, .retAddr b)]) (S' := [.ref 0]) (M' := sm g u) [pm_o (.aload_n 1)] (by decide +kernel) rfl ?_
    obtain ⟨q12, hq12, h⟩ := pm_bd h
    refine pm_cV (idx := 51) m_BC_wipe (c_BC_wipe l h0 D hT hq12) (As := []) (S0 := []) rfl (by decide +kernel) k_BC_wipe l_Law_51 (Nat.le_of_ble_eq_true rfl) (Nat.le_of_ble_eq_true rfl) (Nat.le_trans hle.1 ho1) (Nat.le_trans hle.2 ho2) ?_
    refine pm_blk (pc' := 201) (L' := [(4, .int i), (3, .ref 139), (2, .ref 64), (1, .ref 0), (0, .retAddr b)]) (S' := [.ref 64, .int q12.1]) (M' := sm g q12.2) [pm_o (.aload_n 2)] (by decide +kernel) rfl ?_
    obtain ⟨q13, hq13, h⟩ := pm_bd h
    refine pm_cV (idx := 54) m_Md_wipe (c_Md_wipe l h0 D hT hq13) (As := []) (S0 := [.int q12.1]) rfl (by decide +kernel) k_Md_wipe l_Law_54 (Nat.le_of_ble_eq_true rfl) (Nat.le_of_ble_eq_true rfl) (Nat.le_trans hle.1 ho1) (Nat.le_trans hle.2 ho2) ?_
    refine pm_blk (pc' := 204) (L' := [(4, .int i), (3, .ref 139), (2, .ref 64), (1, .ref 0), (0, .retAddr b)]) (S' := [.int q13.1, .int q12.1]) (M' := sm g q13.2) [] (by decide +kernel) rfl ?_
    refine pm_ic_eq (off := 403) 607 (by decide +kernel) (by decide) (fun hc14 => ?_) (fun hc14 => ?_)
    · rw [if_pos hc14] at h
      have h9 := Option.some.inj h
      subst h9
      refine pm_loc [0, 1, 2, 3, 4] rfl ?_
      exact kk
    · rw [if_neg hc14] at h
      cases h
  rw [if_neg hs11] at h
  rw [pm_sw_neg hs11]
  by_cases hs15 : (c0 &&& 15) = 2
  · rw [if_pos hs15] at h
    rw [pm_sw_pos hs15]
    refine pm_blk (pc' := 210) (L' := [(4, .int i), (3, .ref 139), (2, .ref 64), (1, .ref 0), (0, .retAddr b)]) (S' := [.ref 0]) (M' := sm g u) [pm_o (.aload_n 1)] (by decide +kernel) rfl ?_
    obtain ⟨q16, hq16, h⟩ := pm_bd h
    obtain ⟨hu17, h⟩ := pm_ifs h
    obtain ⟨h, hl18⟩ := pm_Ss h
    refine pm_cV (idx := 55) m_BC_compile (c_BC_compile l h0 D hT hq16) (As := []) (S0 := []) rfl (by decide +kernel) k_BC_compile l_Law_55 (Nat.le_of_ble_eq_true rfl) (Nat.le_of_ble_eq_true rfl) (Nat.le_trans hl18.1 ho1) (Nat.le_trans hl18.2 ho2) ?_
    refine pm_blk (pc' := 214) (L' := [(4, .int i), (3, .ref 139), (2, .ref 64), (1, .ref 0), (0, .retAddr b)]) (S' := [.ref 64, .int q16.1]) (M' := sm q16.2.1 q16.2.2) [pm_o (.aload_n 2)] (by decide +kernel) rfl ?_
    obtain ⟨q19, hq19, h⟩ := pm_bd h
    refine pm_cV (idx := 58) m_Md_compile (c_Md_compile l h0 D (sh_Tb_s hu17) hq19) (As := []) (S0 := [.int q16.1]) rfl (by decide +kernel) k_Md_compile l_Law_58 (Nat.le_of_ble_eq_true rfl) (Nat.le_of_ble_eq_true rfl) (Nat.le_trans hl18.1 ho1) (Nat.le_trans hl18.2 ho2) ?_
    refine pm_blk (pc' := 217) (L' := [(4, .int i), (3, .ref 139), (2, .ref 64), (1, .ref 0), (0, .retAddr b)]) (S' := [.int q19.1, .int q16.1]) (M' := sm q16.2.1 q19.2) [] (by decide +kernel) rfl ?_
    refine pm_ic_eq (off := 390) 607 (by decide +kernel) (by decide) (fun hc20 => ?_) (fun hc20 => ?_)
    · rw [if_pos hc20] at h
      have h9 := Option.some.inj h
      subst h9
      refine pm_loc [0, 1, 2, 3, 4] rfl ?_
      exact kk
    · rw [if_neg hc20] at h
      cases h
  rw [if_neg hs15] at h
  rw [pm_sw_neg hs15]
  by_cases hs21 : (c0 &&& 15) = 3
  · rw [if_pos hs21] at h
    rw [pm_sw_pos hs21]
    refine pm_blk (pc' := 223) (L' := [(4, .int i), (3, .ref 139), (2, .ref 64), (1, .ref 0), (0, .retAddr b)]) (S' := [.ref 0]) (M' := sm g u) [pm_o (.aload_n 1)] (by decide +kernel) rfl ?_
    obtain ⟨q22, hq22, h⟩ := pm_bd h
    refine pm_cV (idx := 59) m_BC_place (c_BC_place l h0 D hT hq22) (As := []) (S0 := []) rfl (by decide +kernel) k_BC_place l_Law_59 (Nat.le_of_ble_eq_true rfl) (Nat.le_of_ble_eq_true rfl) (Nat.le_trans hle.1 ho1) (Nat.le_trans hle.2 ho2) ?_
    refine pm_blk (pc' := 227) (L' := [(4, .int i), (3, .ref 139), (2, .ref 64), (1, .ref 0), (0, .retAddr b)]) (S' := [.ref 64, .int q22]) (M' := sm g u) [pm_o (.aload_n 2)] (by decide +kernel) rfl ?_
    obtain ⟨q23, hq23, h⟩ := pm_bd h
    refine pm_cV (idx := 62) m_Md_place (c_Md_place l h0 D hT hq23) (As := []) (S0 := [.int q22]) rfl (by decide +kernel) k_Md_place l_Law_62 (Nat.le_of_ble_eq_true rfl) (Nat.le_of_ble_eq_true rfl) (Nat.le_trans hle.1 ho1) (Nat.le_trans hle.2 ho2) ?_
    refine pm_blk (pc' := 230) (L' := [(4, .int i), (3, .ref 139), (2, .ref 64), (1, .ref 0), (0, .retAddr b)]) (S' := [.int q23.1, .int q22]) (M' := sm g q23.2) [] (by decide +kernel) rfl ?_
    refine pm_ic_eq (off := 377) 607 (by decide +kernel) (by decide) (fun hc24 => ?_) (fun hc24 => ?_)
    · rw [if_pos hc24] at h
      have h9 := Option.some.inj h
      subst h9
      refine pm_loc [0, 1, 2, 3, 4] rfl ?_
      exact kk
    · rw [if_neg hc24] at h
      cases h
  rw [if_neg hs21] at h
  rw [pm_sw_neg hs21]
  by_cases hs25 : (c0 &&& 15) = 4
  · rw [if_pos hs25] at h
    rw [pm_sw_pos hs25]
    refine pm_blk (pc' := 236) (L' := [(4, .int i), (3, .ref 139), (2, .ref 64), (1, .ref 0), (0, .retAddr b)]) (S' := [.ref 0]) (M' := sm g u) [pm_o (.aload_n 1)] (by decide +kernel) rfl ?_
    obtain ⟨q26, hq26, h⟩ := pm_bd h
    refine pm_cV (idx := 63) m_BC_defs (c_BC_defs l h0 D hT hq26) (As := []) (S0 := []) rfl (by decide +kernel) k_BC_defs l_Law_63 (Nat.le_of_ble_eq_true rfl) (Nat.le_of_ble_eq_true rfl) (Nat.le_trans hle.1 ho1) (Nat.le_trans hle.2 ho2) ?_
    refine pm_blk (pc' := 240) (L' := [(4, .int i), (3, .ref 139), (2, .ref 64), (1, .ref 0), (0, .retAddr b)]) (S' := [.ref 64, .int q26]) (M' := sm g u) [pm_o (.aload_n 2)] (by decide +kernel) rfl ?_
    obtain ⟨q27, hq27, h⟩ := pm_bd h
    refine pm_cV (idx := 66) m_Md_defs (c_Md_defs l h0 D hT hq27) (As := []) (S0 := [.int q26]) rfl (by decide +kernel) k_Md_defs l_Law_66 (Nat.le_of_ble_eq_true rfl) (Nat.le_of_ble_eq_true rfl) (Nat.le_trans hle.1 ho1) (Nat.le_trans hle.2 ho2) ?_
    refine pm_blk (pc' := 243) (L' := [(4, .int i), (3, .ref 139), (2, .ref 64), (1, .ref 0), (0, .retAddr b)]) (S' := [.int q27.1, .int q26]) (M' := sm g q27.2) [] (by decide +kernel) rfl ?_
    refine pm_ic_eq (off := 364) 607 (by decide +kernel) (by decide) (fun hc28 => ?_) (fun hc28 => ?_)
    · rw [if_pos hc28] at h
      have h9 := Option.some.inj h
      subst h9
      refine pm_loc [0, 1, 2, 3, 4] rfl ?_
      exact kk
    · rw [if_neg hc28] at h
      cases h
  rw [if_neg hs25] at h
  rw [pm_sw_neg hs25]
  by_cases hs29 : (c0 &&& 15) = 5
  · rw [if_pos hs29] at h
    rw [pm_sw_pos hs29]
    refine pm_blk (pc' := 249) (L' := [(4, .int i), (3, .ref 139), (2, .ref 64), (1, .ref 0), (0, .retAddr b)]) (S' := [.ref 0]) (M' := sm g u) [pm_o (.aload_n 1)] (by decide +kernel) rfl ?_
    refine pm_alx (k := 0) (i := 0) (q := b) (by decide +kernel) rfl rfl ?_
    refine pm_blk (pc' := 254) (L' := [(4, .int i), (3, .ref 139), (2, .ref 64), (1, .ref 0), (0, .retAddr b)]) (S' := [.int (i + 1), .retAddr b, .ref 0]) (M' := sm g u) [pm_o (.iload 4), pm_oi (.iconst 1) 1, pm_o .iadd] (by decide +kernel) rfl ?_
    refine pm_xald (by decide +kernel) hX hb hi1.1 hi1.2 ?_
    refine pm_blk (pc' := 255) (L' := [(4, .int i), (3, .ref 139), (2, .ref 64), (1, .ref 0), (0, .retAddr b)]) (S' := [.int c1, .ref 0]) (M' := sm g u) [] (by decide +kernel) rfl ?_
    refine pm_alx (k := 0) (i := 0) (q := b) (by decide +kernel) rfl rfl ?_
    refine pm_blk (pc' := 260) (L' := [(4, .int i), (3, .ref 139), (2, .ref 64), (1, .ref 0), (0, .retAddr b)]) (S' := [.int (i + 2), .retAddr b, .int c1, .ref 0]) (M' := sm g u) [pm_o (.iload 4), pm_oi (.iconst 2) 2, pm_o .iadd] (by decide +kernel) rfl ?_
    refine pm_xald (by decide +kernel) hX hb hi2.1 hi2.2 ?_
    refine pm_blk (pc' := 262) (L' := [(4, .int i), (3, .ref 139), (2, .ref 64), (1, .ref 0), (0, .retAddr b)]) (S' := [.ref 139, .int c2, .int c1, .ref 0]) (M' := sm g u) [pm_o (.aload_n 3)] (by decide +kernel) rfl ?_
    obtain ⟨q30, hq30, h⟩ := pm_bd h
    obtain ⟨hu31, h⟩ := pm_ifs h
    obtain ⟨h, hl32⟩ := pm_Ss h
    refine pm_cSW (idx := 67) m_Law_def (cX_def hfl h0 D hT hq30) (As := [.ref 0, .int c1, .int c2, .ref 139]) (S0 := []) rfl (by decide +kernel) kW_def l_Law_67 (Nat.le_of_ble_eq_true rfl) (Nat.le_of_ble_eq_true rfl) (Nat.le_trans hl32.1 ho1) (Nat.le_trans hl32.2 ho2) ?_
    refine pm_blk (pc' := 268) (L' := [(5, .int q30.1), (4, .int i), (3, .ref 139), (2, .ref 64), (1, .ref 0), (0, .retAddr b)]) (S' := [.ref 64]) (M' := sm q30.2.1 q30.2.2) [pm_o (.istore 5), pm_o (.aload_n 2)] (by decide +kernel) rfl ?_
    refine pm_alx (k := 0) (i := 0) (q := b) (by decide +kernel) rfl rfl ?_
    refine pm_blk (pc' := 273) (L' := [(5, .int q30.1), (4, .int i), (3, .ref 139), (2, .ref 64), (1, .ref 0), (0, .retAddr b)]) (S' := [.int (i + 1), .retAddr b, .ref 64]) (M' := sm q30.2.1 q30.2.2) [pm_o (.iload 4), pm_oi (.iconst 1) 1, pm_o .iadd] (by decide +kernel) rfl ?_
    refine pm_xald (by decide +kernel) hX hb hi1.1 hi1.2 ?_
    refine pm_blk (pc' := 274) (L' := [(5, .int q30.1), (4, .int i), (3, .ref 139), (2, .ref 64), (1, .ref 0), (0, .retAddr b)]) (S' := [.int c1, .ref 64]) (M' := sm q30.2.1 q30.2.2) [] (by decide +kernel) rfl ?_
    refine pm_alx (k := 0) (i := 0) (q := b) (by decide +kernel) rfl rfl ?_
    refine pm_blk (pc' := 279) (L' := [(5, .int q30.1), (4, .int i), (3, .ref 139), (2, .ref 64), (1, .ref 0), (0, .retAddr b)]) (S' := [.int (i + 2), .retAddr b, .int c1, .ref 64]) (M' := sm q30.2.1 q30.2.2) [pm_o (.iload 4), pm_oi (.iconst 2) 2, pm_o .iadd] (by decide +kernel) rfl ?_
    refine pm_xald (by decide +kernel) hX hb hi2.1 hi2.2 ?_
    refine pm_blk (pc' := 280) (L' := [(5, .int q30.1), (4, .int i), (3, .ref 139), (2, .ref 64), (1, .ref 0), (0, .retAddr b)]) (S' := [.int c2, .int c1, .ref 64]) (M' := sm q30.2.1 q30.2.2) [] (by decide +kernel) rfl ?_
    obtain ⟨q33, hq33, h⟩ := pm_bd h
    refine pm_cV (idx := 70) m_Md_def (c_Md_def l h0 D (sh_Tb_s hu31) hq33) (As := [.int c1, .int c2]) (S0 := []) rfl (by decide +kernel) k_Md_def l_Law_70 (Nat.le_of_ble_eq_true rfl) (Nat.le_of_ble_eq_true rfl) (Nat.le_trans hl32.1 ho1) (Nat.le_trans hl32.2 ho2) ?_
    refine pm_blk (pc' := 286) (L' := [(6, .int q33.1), (5, .int q30.1), (4, .int i), (3, .ref 139), (2, .ref 64), (1, .ref 0), (0, .retAddr b)]) (S' := [.ref 64]) (M' := sm q30.2.1 q33.2) [pm_o (.istore 6), pm_o (.aload_n 2)] (by decide +kernel) rfl ?_
    obtain ⟨q34, hq34, h⟩ := pm_bd h
    refine pm_cV (idx := 47) m_Md_thrown (c_Md_thrown l h0 D (sh_Tb_s hu31) hq34) (As := []) (S0 := []) rfl (by decide +kernel) k_Md_thrown l_Law_47 (Nat.le_of_ble_eq_true rfl) (Nat.le_of_ble_eq_true rfl) (Nat.le_trans hl32.1 ho1) (Nat.le_trans hl32.2 ho2) ?_
    refine pm_blk (pc' := 291) (L' := [(6, .int q33.1), (5, .int q30.1), (4, .int i), (3, .ref 139), (2, .ref 64), (1, .ref 0), (0, .retAddr b)]) (S' := [.int q30.1, .int q34]) (M' := sm q30.2.1 q33.2) [pm_o (.iload 5)] (by decide +kernel) rfl ?_
    refine pm_ic_eq (off := 5) 296 (by decide +kernel) (by decide) (fun hc35 => ?_) (fun hc35 => ?_)
    · rw [if_pos hc35] at h
      refine pm_blk (pc' := 298) (L' := [(6, .int q33.1), (5, .int q30.1), (4, .int i), (3, .ref 139), (2, .ref 64), (1, .ref 0), (0, .retAddr b)]) (S' := [.int q30.1]) (M' := sm q30.2.1 q33.2) [pm_o (.iload 5)] (by decide +kernel) rfl ?_
      refine pm_if_ne (off := 15) 313 (by decide +kernel) (by decide) (fun hc36 => ?_) (fun hc36 => ?_)
      · rw [if_neg hc36] at h
        refine pm_goto (off := 294) 607 (by decide +kernel) (by decide) ?_
        have h9 := Option.some.inj h
        subst h9
        refine pm_loc [2, 3, 4, 5, 6] rfl ?_
        exact kk
      · rw [if_pos hc36] at h
        refine pm_blk (pc' := 303) (L' := [(6, .int q33.1), (5, .int q30.1), (4, .int i), (3, .ref 139), (2, .ref 64), (1, .ref 0), (0, .retAddr b)]) (S' := [.int 0, .ref 139]) (M' := sm q30.2.1 q33.2) [pm_o (.aload_n 3), pm_oi (.iconst 0) 0] (by decide +kernel) rfl ?_
        obtain ⟨ho37, h⟩ := pm_ifs h
        refine pm_lald (by decide +kernel) rfl (pm_ok_in ho37) ?_
        refine pm_blk (pc' := 308) (L' := [(6, .int q33.1), (5, .int q30.1), (4, .int i), (3, .ref 139), (2, .ref 64), (1, .ref 0), (0, .retAddr b)]) (S' := [.int (lg_cmp (q33.2.2 139 0) q33.1.toInt64)]) (M' := sm q30.2.1 q33.2) [pm_o (.iload 6), pm_o .i2l, pm_o .lcmp] (by decide +kernel) rfl ?_
        refine pm_if_eq (off := 5) 313 (by decide +kernel) (by decide) (fun hc38 => ?_) (fun hc38 => ?_)
        · rw [if_pos hc38] at h
          refine pm_goto (off := 294) 607 (by decide +kernel) (by decide) ?_
          have h9 := Option.some.inj h
          subst h9
          refine pm_loc [2, 3, 4, 5, 6] rfl ?_
          exact kk
        · rw [if_neg hc38] at h
          cases h
    · rw [if_neg hc35] at h
      cases h
  rw [if_neg hs29] at h
  rw [pm_sw_neg hs29]
  by_cases hs39 : (c0 &&& 15) = 6
  · rw [if_pos hs39] at h
    rw [pm_sw_pos hs39]
    refine pm_blk (pc' := 317) (L' := [(4, .int i), (3, .ref 139), (2, .ref 64), (1, .ref 0), (0, .retAddr b)]) (S' := [.ref 0]) (M' := sm g u) [pm_o (.aload_n 1)] (by decide +kernel) rfl ?_
    refine pm_alx (k := 0) (i := 0) (q := b) (by decide +kernel) rfl rfl ?_
    refine pm_blk (pc' := 322) (L' := [(4, .int i), (3, .ref 139), (2, .ref 64), (1, .ref 0), (0, .retAddr b)]) (S' := [.int (i + 1), .retAddr b, .ref 0]) (M' := sm g u) [pm_o (.iload 4), pm_oi (.iconst 1) 1, pm_o .iadd] (by decide +kernel) rfl ?_
    refine pm_xald (by decide +kernel) hX hb hi1.1 hi1.2 ?_
    refine pm_blk (pc' := 327) (L' := [(4, .int i), (3, .ref 139), (2, .ref 64), (1, .ref 0), (0, .retAddr b)]) (S' := [.long (c1.toInt64 <<< ((32 : Int32).toInt64 &&& 63)), .ref 0]) (M' := sm g u) [pm_o .i2l, pm_oi (.bipush 32) 32, pm_o .lshl] (by decide +kernel) rfl ?_
    refine pm_alx (k := 0) (i := 0) (q := b) (by decide +kernel) rfl rfl ?_
    refine pm_blk (pc' := 332) (L' := [(4, .int i), (3, .ref 139), (2, .ref 64), (1, .ref 0), (0, .retAddr b)]) (S' := [.int (i + 2), .retAddr b, .long (c1.toInt64 <<< ((32 : Int32).toInt64 &&& 63)), .ref 0]) (M' := sm g u) [pm_o (.iload 4), pm_oi (.iconst 2) 2, pm_o .iadd] (by decide +kernel) rfl ?_
    refine pm_xald (by decide +kernel) hX hb hi2.1 hi2.2 ?_
    refine pm_blk (pc' := 340) (L' := [(4, .int i), (3, .ref 139), (2, .ref 64), (1, .ref 0), (0, .retAddr b)]) (S' := [.ref 139, .long ((c1.toInt64 <<< ((32 : Int32).toInt64 &&& 63)) ||| (c2.toInt64 &&& 4294967295)), .ref 0]) (M' := sm g u) [pm_o .i2l, pm_ol (.ldc2_w 39) 4294967295, pm_o .land, pm_o .lor, pm_o (.aload_n 3)] (by decide +kernel) rfl ?_
    obtain ⟨q40, hq40, h⟩ := pm_bd h
    obtain ⟨hu41, h⟩ := pm_ifs h
    obtain ⟨h, hl42⟩ := pm_Ss h
    refine pm_cSW (idx := 71) m_Law_argument (cX_argument hfl h0 D hT hq40) (As := [.ref 0, .long ((c1.toInt64 <<< ((32 : Int32).toInt64 &&& 63)) ||| (c2.toInt64 &&& 4294967295)), .ref 139]) (S0 := []) rfl (by decide +kernel) kW_argument l_Law_71 (Nat.le_of_ble_eq_true rfl) (Nat.le_of_ble_eq_true rfl) (Nat.le_trans hl42.1 ho1) (Nat.le_trans hl42.2 ho2) ?_
    refine pm_blk (pc' := 346) (L' := [(5, .int q40.1), (4, .int i), (3, .ref 139), (2, .ref 64), (1, .ref 0), (0, .retAddr b)]) (S' := [.ref 64]) (M' := sm q40.2.1 q40.2.2) [pm_o (.istore 5), pm_o (.aload_n 2)] (by decide +kernel) rfl ?_
    refine pm_alx (k := 0) (i := 0) (q := b) (by decide +kernel) rfl rfl ?_
    refine pm_blk (pc' := 351) (L' := [(5, .int q40.1), (4, .int i), (3, .ref 139), (2, .ref 64), (1, .ref 0), (0, .retAddr b)]) (S' := [.int (i + 1), .retAddr b, .ref 64]) (M' := sm q40.2.1 q40.2.2) [pm_o (.iload 4), pm_oi (.iconst 1) 1, pm_o .iadd] (by decide +kernel) rfl ?_
    refine pm_xald (by decide +kernel) hX hb hi1.1 hi1.2 ?_
    refine pm_blk (pc' := 356) (L' := [(5, .int q40.1), (4, .int i), (3, .ref 139), (2, .ref 64), (1, .ref 0), (0, .retAddr b)]) (S' := [.long (c1.toInt64 <<< ((32 : Int32).toInt64 &&& 63)), .ref 64]) (M' := sm q40.2.1 q40.2.2) [pm_o .i2l, pm_oi (.bipush 32) 32, pm_o .lshl] (by decide +kernel) rfl ?_
    refine pm_alx (k := 0) (i := 0) (q := b) (by decide +kernel) rfl rfl ?_
    refine pm_blk (pc' := 361) (L' := [(5, .int q40.1), (4, .int i), (3, .ref 139), (2, .ref 64), (1, .ref 0), (0, .retAddr b)]) (S' := [.int (i + 2), .retAddr b, .long (c1.toInt64 <<< ((32 : Int32).toInt64 &&& 63)), .ref 64]) (M' := sm q40.2.1 q40.2.2) [pm_o (.iload 4), pm_oi (.iconst 2) 2, pm_o .iadd] (by decide +kernel) rfl ?_
    refine pm_xald (by decide +kernel) hX hb hi2.1 hi2.2 ?_
    refine pm_blk (pc' := 368) (L' := [(5, .int q40.1), (4, .int i), (3, .ref 139), (2, .ref 64), (1, .ref 0), (0, .retAddr b)]) (S' := [.long ((c1.toInt64 <<< ((32 : Int32).toInt64 &&& 63)) ||| (c2.toInt64 &&& 4294967295)), .ref 64]) (M' := sm q40.2.1 q40.2.2) [pm_o .i2l, pm_ol (.ldc2_w 39) 4294967295, pm_o .land, pm_o .lor] (by decide +kernel) rfl ?_
    obtain ⟨q43, hq43, h⟩ := pm_bd h
    refine pm_cV (idx := 74) m_Md_argument (c_Md_argument l h0 D (sh_Tb_s hu41) hq43) (As := [.long ((c1.toInt64 <<< ((32 : Int32).toInt64 &&& 63)) ||| (c2.toInt64 &&& 4294967295))]) (S0 := []) rfl (by decide +kernel) k_Md_argument l_Law_74 (Nat.le_of_ble_eq_true rfl) (Nat.le_of_ble_eq_true rfl) (Nat.le_trans hl42.1 ho1) (Nat.le_trans hl42.2 ho2) ?_
    refine pm_blk (pc' := 374) (L' := [(6, .int q43.1), (5, .int q40.1), (4, .int i), (3, .ref 139), (2, .ref 64), (1, .ref 0), (0, .retAddr b)]) (S' := [.ref 64]) (M' := sm q40.2.1 q43.2) [pm_o (.istore 6), pm_o (.aload_n 2)] (by decide +kernel) rfl ?_
    obtain ⟨q44, hq44, h⟩ := pm_bd h
    refine pm_cV (idx := 47) m_Md_thrown (c_Md_thrown l h0 D (sh_Tb_s hu41) hq44) (As := []) (S0 := []) rfl (by decide +kernel) k_Md_thrown l_Law_47 (Nat.le_of_ble_eq_true rfl) (Nat.le_of_ble_eq_true rfl) (Nat.le_trans hl42.1 ho1) (Nat.le_trans hl42.2 ho2) ?_
    refine pm_blk (pc' := 379) (L' := [(6, .int q43.1), (5, .int q40.1), (4, .int i), (3, .ref 139), (2, .ref 64), (1, .ref 0), (0, .retAddr b)]) (S' := [.int q40.1, .int q44]) (M' := sm q40.2.1 q43.2) [pm_o (.iload 5)] (by decide +kernel) rfl ?_
    refine pm_ic_eq (off := 5) 384 (by decide +kernel) (by decide) (fun hc45 => ?_) (fun hc45 => ?_)
    · rw [if_pos hc45] at h
      refine pm_blk (pc' := 386) (L' := [(6, .int q43.1), (5, .int q40.1), (4, .int i), (3, .ref 139), (2, .ref 64), (1, .ref 0), (0, .retAddr b)]) (S' := [.int q40.1]) (M' := sm q40.2.1 q43.2) [pm_o (.iload 5)] (by decide +kernel) rfl ?_
      refine pm_if_ne (off := 15) 401 (by decide +kernel) (by decide) (fun hc46 => ?_) (fun hc46 => ?_)
      · rw [if_neg hc46] at h
        refine pm_goto (off := 206) 607 (by decide +kernel) (by decide) ?_
        have h9 := Option.some.inj h
        subst h9
        refine pm_loc [2, 3, 4, 5, 6] rfl ?_
        exact kk
      · rw [if_pos hc46] at h
        refine pm_blk (pc' := 391) (L' := [(6, .int q43.1), (5, .int q40.1), (4, .int i), (3, .ref 139), (2, .ref 64), (1, .ref 0), (0, .retAddr b)]) (S' := [.int 0, .ref 139]) (M' := sm q40.2.1 q43.2) [pm_o (.aload_n 3), pm_oi (.iconst 0) 0] (by decide +kernel) rfl ?_
        obtain ⟨ho47, h⟩ := pm_ifs h
        refine pm_lald (by decide +kernel) rfl (pm_ok_in ho47) ?_
        refine pm_blk (pc' := 396) (L' := [(6, .int q43.1), (5, .int q40.1), (4, .int i), (3, .ref 139), (2, .ref 64), (1, .ref 0), (0, .retAddr b)]) (S' := [.int (lg_cmp (q43.2.2 139 0) q43.1.toInt64)]) (M' := sm q40.2.1 q43.2) [pm_o (.iload 6), pm_o .i2l, pm_o .lcmp] (by decide +kernel) rfl ?_
        refine pm_if_eq (off := 5) 401 (by decide +kernel) (by decide) (fun hc48 => ?_) (fun hc48 => ?_)
        · rw [if_pos hc48] at h
          refine pm_goto (off := 206) 607 (by decide +kernel) (by decide) ?_
          have h9 := Option.some.inj h
          subst h9
          refine pm_loc [2, 3, 4, 5, 6] rfl ?_
          exact kk
        · rw [if_neg hc48] at h
          cases h
    · rw [if_neg hc45] at h
      cases h
  rw [if_neg hs39] at h
  rw [pm_sw_neg hs39]
  by_cases hs49 : (c0 &&& 15) = 7
  · rw [if_pos hs49] at h
    rw [pm_sw_pos hs49]
    refine pm_blk (pc' := 405) (L' := [(4, .int i), (3, .ref 139), (2, .ref 64), (1, .ref 0), (0, .retAddr b)]) (S' := [.ref 0]) (M' := sm g u) [pm_o (.aload_n 1)] (by decide +kernel) rfl ?_
    refine pm_alx (k := 0) (i := 0) (q := b) (by decide +kernel) rfl rfl ?_
    refine pm_blk (pc' := 410) (L' := [(4, .int i), (3, .ref 139), (2, .ref 64), (1, .ref 0), (0, .retAddr b)]) (S' := [.int (i + 1), .retAddr b, .ref 0]) (M' := sm g u) [pm_o (.iload 4), pm_oi (.iconst 1) 1, pm_o .iadd] (by decide +kernel) rfl ?_
    refine pm_xald (by decide +kernel) hX hb hi1.1 hi1.2 ?_
    refine pm_blk (pc' := 411) (L' := [(4, .int i), (3, .ref 139), (2, .ref 64), (1, .ref 0), (0, .retAddr b)]) (S' := [.int c1, .ref 0]) (M' := sm g u) [] (by decide +kernel) rfl ?_
    refine pm_alx (k := 0) (i := 0) (q := b) (by decide +kernel) rfl rfl ?_
    refine pm_blk (pc' := 416) (L' := [(4, .int i), (3, .ref 139), (2, .ref 64), (1, .ref 0), (0, .retAddr b)]) (S' := [.int (i + 2), .retAddr b, .int c1, .ref 0]) (M' := sm g u) [pm_o (.iload 4), pm_oi (.iconst 2) 2, pm_o .iadd] (by decide +kernel) rfl ?_
    refine pm_xald (by decide +kernel) hX hb hi2.1 hi2.2 ?_
    refine pm_blk (pc' := 417) (L' := [(4, .int i), (3, .ref 139), (2, .ref 64), (1, .ref 0), (0, .retAddr b)]) (S' := [.int c2, .int c1, .ref 0]) (M' := sm g u) [] (by decide +kernel) rfl ?_
    refine pm_if_eq (off := 7) 424 (by decide +kernel) (by decide) (fun hc50 => ?_) (fun hc50 => ?_)
    · rw [if_pos hc50] at h
      refine pm_blk (pc' := 425) (L' := [(4, .int i), (3, .ref 139), (2, .ref 64), (1, .ref 0), (0, .retAddr b)]) (S' := [.int 0, .int c1, .ref 0]) (M' := sm g u) [pm_oi (.iconst 0) 0] (by decide +kernel) rfl ?_
      refine pm_alx (k := 0) (i := 0) (q := b) (by decide +kernel) rfl rfl ?_
      refine pm_blk (pc' := 430) (L' := [(4, .int i), (3, .ref 139), (2, .ref 64), (1, .ref 0), (0, .retAddr b)]) (S' := [.int (i + 3), .retAddr b, .int 0, .int c1, .ref 0]) (M' := sm g u) [pm_o (.iload 4), pm_oi (.iconst 3) 3, pm_o .iadd] (by decide +kernel) rfl ?_
      refine pm_xald (by decide +kernel) hX hb hi3.1 hi3.2 ?_
      refine pm_blk (pc' := 432) (L' := [(4, .int i), (3, .ref 139), (2, .ref 64), (1, .ref 0), (0, .retAddr b)]) (S' := [.ref 139, .int c3, .int 0, .int c1, .ref 0]) (M' := sm g u) [pm_o (.aload_n 3)] (by decide +kernel) rfl ?_
      obtain ⟨q51, hq51, h⟩ := pm_bd h
      obtain ⟨hu52, h⟩ := pm_ifs h
      obtain ⟨h, hl53⟩ := pm_Ss h
      refine pm_cSW (idx := 75) m_Law_run (cX_run hfl h0 D hT hq51) (As := [.ref 0, .int c1, .int 0, .int c3, .ref 139]) (S0 := []) rfl (by decide +kernel) kW_run l_Law_75 (Nat.le_of_ble_eq_true rfl) (Nat.le_of_ble_eq_true rfl) (Nat.le_trans hl53.1 ho1) (Nat.le_trans hl53.2 ho2) ?_
      refine pm_blk (pc' := 438) (L' := [(5, .int q51.1), (4, .int i), (3, .ref 139), (2, .ref 64), (1, .ref 0), (0, .retAddr b)]) (S' := [.ref 64]) (M' := sm q51.2.1 q51.2.2) [pm_o (.istore 5), pm_o (.aload_n 2)] (by decide +kernel) rfl ?_
      refine pm_alx (k := 0) (i := 0) (q := b) (by decide +kernel) rfl rfl ?_
      refine pm_blk (pc' := 443) (L' := [(5, .int q51.1), (4, .int i), (3, .ref 139), (2, .ref 64), (1, .ref 0), (0, .retAddr b)]) (S' := [.int (i + 1), .retAddr b, .ref 64]) (M' := sm q51.2.1 q51.2.2) [pm_o (.iload 4), pm_oi (.iconst 1) 1, pm_o .iadd] (by decide +kernel) rfl ?_
      refine pm_xald (by decide +kernel) hX hb hi1.1 hi1.2 ?_
      refine pm_blk (pc' := 444) (L' := [(5, .int q51.1), (4, .int i), (3, .ref 139), (2, .ref 64), (1, .ref 0), (0, .retAddr b)]) (S' := [.int c1, .ref 64]) (M' := sm q51.2.1 q51.2.2) [] (by decide +kernel) rfl ?_
      refine pm_alx (k := 0) (i := 0) (q := b) (by decide +kernel) rfl rfl ?_
      refine pm_blk (pc' := 449) (L' := [(5, .int q51.1), (4, .int i), (3, .ref 139), (2, .ref 64), (1, .ref 0), (0, .retAddr b)]) (S' := [.int (i + 2), .retAddr b, .int c1, .ref 64]) (M' := sm q51.2.1 q51.2.2) [pm_o (.iload 4), pm_oi (.iconst 2) 2, pm_o .iadd] (by decide +kernel) rfl ?_
      refine pm_xald (by decide +kernel) hX hb hi2.1 hi2.2 ?_
      refine pm_blk (pc' := 450) (L' := [(5, .int q51.1), (4, .int i), (3, .ref 139), (2, .ref 64), (1, .ref 0), (0, .retAddr b)]) (S' := [.int c2, .int c1, .ref 64]) (M' := sm q51.2.1 q51.2.2) [] (by decide +kernel) rfl ?_
      refine pm_if_eq (off := 7) 457 (by decide +kernel) (by decide) (fun hc54 => ?_) (fun hc54 => ?_)
      · rw [if_pos hc54] at h
        refine pm_blk (pc' := 458) (L' := [(5, .int q51.1), (4, .int i), (3, .ref 139), (2, .ref 64), (1, .ref 0), (0, .retAddr b)]) (S' := [.int 0, .int c1, .ref 64]) (M' := sm q51.2.1 q51.2.2) [pm_oi (.iconst 0) 0] (by decide +kernel) rfl ?_
        refine pm_alx (k := 0) (i := 0) (q := b) (by decide +kernel) rfl rfl ?_
        refine pm_blk (pc' := 463) (L' := [(5, .int q51.1), (4, .int i), (3, .ref 139), (2, .ref 64), (1, .ref 0), (0, .retAddr b)]) (S' := [.int (i + 3), .retAddr b, .int 0, .int c1, .ref 64]) (M' := sm q51.2.1 q51.2.2) [pm_o (.iload 4), pm_oi (.iconst 3) 3, pm_o .iadd] (by decide +kernel) rfl ?_
        refine pm_xald (by decide +kernel) hX hb hi3.1 hi3.2 ?_
        refine pm_blk (pc' := 464) (L' := [(5, .int q51.1), (4, .int i), (3, .ref 139), (2, .ref 64), (1, .ref 0), (0, .retAddr b)]) (S' := [.int c3, .int 0, .int c1, .ref 64]) (M' := sm q51.2.1 q51.2.2) [] (by decide +kernel) rfl ?_
        obtain ⟨q55, hq55, h⟩ := pm_bd h
        refine pm_cV (idx := 78) m_Md_run (c_Md_run l h0 D (sh_Tb_s hu52) hq55) (As := [.int c1, .int 0, .int c3]) (S0 := []) rfl (by decide +kernel) k_Md_run l_Law_78 (Nat.le_of_ble_eq_true rfl) (Nat.le_of_ble_eq_true rfl) (Nat.le_trans hl53.1 ho1) (Nat.le_trans hl53.2 ho2) ?_
        refine pm_blk (pc' := 470) (L' := [(6, .int q55.1), (5, .int q51.1), (4, .int i), (3, .ref 139), (2, .ref 64), (1, .ref 0), (0, .retAddr b)]) (S' := [.ref 64]) (M' := sm q51.2.1 q55.2) [pm_o (.istore 6), pm_o (.aload_n 2)] (by decide +kernel) rfl ?_
        obtain ⟨q56, hq56, h⟩ := pm_bd h
        refine pm_cV (idx := 47) m_Md_thrown (c_Md_thrown l h0 D (sh_Tb_s hu52) hq56) (As := []) (S0 := []) rfl (by decide +kernel) k_Md_thrown l_Law_47 (Nat.le_of_ble_eq_true rfl) (Nat.le_of_ble_eq_true rfl) (Nat.le_trans hl53.1 ho1) (Nat.le_trans hl53.2 ho2) ?_
        refine pm_blk (pc' := 475) (L' := [(6, .int q55.1), (5, .int q51.1), (4, .int i), (3, .ref 139), (2, .ref 64), (1, .ref 0), (0, .retAddr b)]) (S' := [.int q51.1, .int q56]) (M' := sm q51.2.1 q55.2) [pm_o (.iload 5)] (by decide +kernel) rfl ?_
        refine pm_ic_eq (off := 5) 480 (by decide +kernel) (by decide) (fun hc57 => ?_) (fun hc57 => ?_)
        · rw [if_pos hc57] at h
          refine pm_blk (pc' := 482) (L' := [(6, .int q55.1), (5, .int q51.1), (4, .int i), (3, .ref 139), (2, .ref 64), (1, .ref 0), (0, .retAddr b)]) (S' := [.int q51.1]) (M' := sm q51.2.1 q55.2) [pm_o (.iload 5)] (by decide +kernel) rfl ?_
          refine pm_if_ne (off := 15) 497 (by decide +kernel) (by decide) (fun hc58 => ?_) (fun hc58 => ?_)
          · rw [if_neg hc58] at h
            refine pm_goto (off := 110) 607 (by decide +kernel) (by decide) ?_
            have h9 := Option.some.inj h
            subst h9
            refine pm_loc [2, 3, 4, 5, 6] rfl ?_
            exact kk
          · rw [if_pos hc58] at h
            refine pm_blk (pc' := 487) (L' := [(6, .int q55.1), (5, .int q51.1), (4, .int i), (3, .ref 139), (2, .ref 64), (1, .ref 0), (0, .retAddr b)]) (S' := [.int 0, .ref 139]) (M' := sm q51.2.1 q55.2) [pm_o (.aload_n 3), pm_oi (.iconst 0) 0] (by decide +kernel) rfl ?_
            obtain ⟨ho59, h⟩ := pm_ifs h
            refine pm_lald (by decide +kernel) rfl (pm_ok_in ho59) ?_
            refine pm_blk (pc' := 492) (L' := [(6, .int q55.1), (5, .int q51.1), (4, .int i), (3, .ref 139), (2, .ref 64), (1, .ref 0), (0, .retAddr b)]) (S' := [.int (lg_cmp (q55.2.2 139 0) q55.1.toInt64)]) (M' := sm q51.2.1 q55.2) [pm_o (.iload 6), pm_o .i2l, pm_o .lcmp] (by decide +kernel) rfl ?_
            refine pm_if_eq (off := 5) 497 (by decide +kernel) (by decide) (fun hc60 => ?_) (fun hc60 => ?_)
            · rw [if_pos hc60] at h
              refine pm_goto (off := 110) 607 (by decide +kernel) (by decide) ?_
              have h9 := Option.some.inj h
              subst h9
              refine pm_loc [2, 3, 4, 5, 6] rfl ?_
              exact kk
            · rw [if_neg hc60] at h
              cases h
        · rw [if_neg hc57] at h
          cases h
      · rw [if_neg hc54] at h
        refine pm_blk (pc' := 454) (L' := [(5, .int q51.1), (4, .int i), (3, .ref 139), (2, .ref 64), (1, .ref 0), (0, .retAddr b)]) (S' := [.int 1, .int c1, .ref 64]) (M' := sm q51.2.1 q51.2.2) [pm_oi (.iconst 1) 1] (by decide +kernel) rfl ?_
        refine pm_goto (off := 4) 458 (by decide +kernel) (by decide) ?_
        refine pm_alx (k := 0) (i := 0) (q := b) (by decide +kernel) rfl rfl ?_
        refine pm_blk (pc' := 463) (L' := [(5, .int q51.1), (4, .int i), (3, .ref 139), (2, .ref 64), (1, .ref 0), (0, .retAddr b)]) (S' := [.int (i + 3), .retAddr b, .int 1, .int c1, .ref 64]) (M' := sm q51.2.1 q51.2.2) [pm_o (.iload 4), pm_oi (.iconst 3) 3, pm_o .iadd] (by decide +kernel) rfl ?_
        refine pm_xald (by decide +kernel) hX hb hi3.1 hi3.2 ?_
        refine pm_blk (pc' := 464) (L' := [(5, .int q51.1), (4, .int i), (3, .ref 139), (2, .ref 64), (1, .ref 0), (0, .retAddr b)]) (S' := [.int c3, .int 1, .int c1, .ref 64]) (M' := sm q51.2.1 q51.2.2) [] (by decide +kernel) rfl ?_
        obtain ⟨q61, hq61, h⟩ := pm_bd h
        refine pm_cV (idx := 78) m_Md_run (c_Md_run l h0 D (sh_Tb_s hu52) hq61) (As := [.int c1, .int 1, .int c3]) (S0 := []) rfl (by decide +kernel) k_Md_run l_Law_78 (Nat.le_of_ble_eq_true rfl) (Nat.le_of_ble_eq_true rfl) (Nat.le_trans hl53.1 ho1) (Nat.le_trans hl53.2 ho2) ?_
        refine pm_blk (pc' := 470) (L' := [(6, .int q61.1), (5, .int q51.1), (4, .int i), (3, .ref 139), (2, .ref 64), (1, .ref 0), (0, .retAddr b)]) (S' := [.ref 64]) (M' := sm q51.2.1 q61.2) [pm_o (.istore 6), pm_o (.aload_n 2)] (by decide +kernel) rfl ?_
        obtain ⟨q62, hq62, h⟩ := pm_bd h
        refine pm_cV (idx := 47) m_Md_thrown (c_Md_thrown l h0 D (sh_Tb_s hu52) hq62) (As := []) (S0 := []) rfl (by decide +kernel) k_Md_thrown l_Law_47 (Nat.le_of_ble_eq_true rfl) (Nat.le_of_ble_eq_true rfl) (Nat.le_trans hl53.1 ho1) (Nat.le_trans hl53.2 ho2) ?_
        refine pm_blk (pc' := 475) (L' := [(6, .int q61.1), (5, .int q51.1), (4, .int i), (3, .ref 139), (2, .ref 64), (1, .ref 0), (0, .retAddr b)]) (S' := [.int q51.1, .int q62]) (M' := sm q51.2.1 q61.2) [pm_o (.iload 5)] (by decide +kernel) rfl ?_
        refine pm_ic_eq (off := 5) 480 (by decide +kernel) (by decide) (fun hc63 => ?_) (fun hc63 => ?_)
        · rw [if_pos hc63] at h
          refine pm_blk (pc' := 482) (L' := [(6, .int q61.1), (5, .int q51.1), (4, .int i), (3, .ref 139), (2, .ref 64), (1, .ref 0), (0, .retAddr b)]) (S' := [.int q51.1]) (M' := sm q51.2.1 q61.2) [pm_o (.iload 5)] (by decide +kernel) rfl ?_
          refine pm_if_ne (off := 15) 497 (by decide +kernel) (by decide) (fun hc64 => ?_) (fun hc64 => ?_)
          · rw [if_neg hc64] at h
            refine pm_goto (off := 110) 607 (by decide +kernel) (by decide) ?_
            have h9 := Option.some.inj h
            subst h9
            refine pm_loc [2, 3, 4, 5, 6] rfl ?_
            exact kk
          · rw [if_pos hc64] at h
            refine pm_blk (pc' := 487) (L' := [(6, .int q61.1), (5, .int q51.1), (4, .int i), (3, .ref 139), (2, .ref 64), (1, .ref 0), (0, .retAddr b)]) (S' := [.int 0, .ref 139]) (M' := sm q51.2.1 q61.2) [pm_o (.aload_n 3), pm_oi (.iconst 0) 0] (by decide +kernel) rfl ?_
            obtain ⟨ho65, h⟩ := pm_ifs h
            refine pm_lald (by decide +kernel) rfl (pm_ok_in ho65) ?_
            refine pm_blk (pc' := 492) (L' := [(6, .int q61.1), (5, .int q51.1), (4, .int i), (3, .ref 139), (2, .ref 64), (1, .ref 0), (0, .retAddr b)]) (S' := [.int (lg_cmp (q61.2.2 139 0) q61.1.toInt64)]) (M' := sm q51.2.1 q61.2) [pm_o (.iload 6), pm_o .i2l, pm_o .lcmp] (by decide +kernel) rfl ?_
            refine pm_if_eq (off := 5) 497 (by decide +kernel) (by decide) (fun hc66 => ?_) (fun hc66 => ?_)
            · rw [if_pos hc66] at h
              refine pm_goto (off := 110) 607 (by decide +kernel) (by decide) ?_
              have h9 := Option.some.inj h
              subst h9
              refine pm_loc [2, 3, 4, 5, 6] rfl ?_
              exact kk
            · rw [if_neg hc66] at h
              cases h
        · rw [if_neg hc63] at h
          cases h
    · rw [if_neg hc50] at h
      refine pm_blk (pc' := 421) (L' := [(4, .int i), (3, .ref 139), (2, .ref 64), (1, .ref 0), (0, .retAddr b)]) (S' := [.int 1, .int c1, .ref 0]) (M' := sm g u) [pm_oi (.iconst 1) 1] (by decide +kernel) rfl ?_
      refine pm_goto (off := 4) 425 (by decide +kernel) (by decide) ?_
      refine pm_alx (k := 0) (i := 0) (q := b) (by decide +kernel) rfl rfl ?_
      refine pm_blk (pc' := 430) (L' := [(4, .int i), (3, .ref 139), (2, .ref 64), (1, .ref 0), (0, .retAddr b)]) (S' := [.int (i + 3), .retAddr b, .int 1, .int c1, .ref 0]) (M' := sm g u) [pm_o (.iload 4), pm_oi (.iconst 3) 3, pm_o .iadd] (by decide +kernel) rfl ?_
      refine pm_xald (by decide +kernel) hX hb hi3.1 hi3.2 ?_
      refine pm_blk (pc' := 432) (L' := [(4, .int i), (3, .ref 139), (2, .ref 64), (1, .ref 0), (0, .retAddr b)]) (S' := [.ref 139, .int c3, .int 1, .int c1, .ref 0]) (M' := sm g u) [pm_o (.aload_n 3)] (by decide +kernel) rfl ?_
      obtain ⟨q67, hq67, h⟩ := pm_bd h
      obtain ⟨hu68, h⟩ := pm_ifs h
      obtain ⟨h, hl69⟩ := pm_Ss h
      refine pm_cSW (idx := 75) m_Law_run (cX_run hfl h0 D hT hq67) (As := [.ref 0, .int c1, .int 1, .int c3, .ref 139]) (S0 := []) rfl (by decide +kernel) kW_run l_Law_75 (Nat.le_of_ble_eq_true rfl) (Nat.le_of_ble_eq_true rfl) (Nat.le_trans hl69.1 ho1) (Nat.le_trans hl69.2 ho2) ?_
      refine pm_blk (pc' := 438) (L' := [(5, .int q67.1), (4, .int i), (3, .ref 139), (2, .ref 64), (1, .ref 0), (0, .retAddr b)]) (S' := [.ref 64]) (M' := sm q67.2.1 q67.2.2) [pm_o (.istore 5), pm_o (.aload_n 2)] (by decide +kernel) rfl ?_
      refine pm_alx (k := 0) (i := 0) (q := b) (by decide +kernel) rfl rfl ?_
      refine pm_blk (pc' := 443) (L' := [(5, .int q67.1), (4, .int i), (3, .ref 139), (2, .ref 64), (1, .ref 0), (0, .retAddr b)]) (S' := [.int (i + 1), .retAddr b, .ref 64]) (M' := sm q67.2.1 q67.2.2) [pm_o (.iload 4), pm_oi (.iconst 1) 1, pm_o .iadd] (by decide +kernel) rfl ?_
      refine pm_xald (by decide +kernel) hX hb hi1.1 hi1.2 ?_
      refine pm_blk (pc' := 444) (L' := [(5, .int q67.1), (4, .int i), (3, .ref 139), (2, .ref 64), (1, .ref 0), (0, .retAddr b)]) (S' := [.int c1, .ref 64]) (M' := sm q67.2.1 q67.2.2) [] (by decide +kernel) rfl ?_
      refine pm_alx (k := 0) (i := 0) (q := b) (by decide +kernel) rfl rfl ?_
      refine pm_blk (pc' := 449) (L' := [(5, .int q67.1), (4, .int i), (3, .ref 139), (2, .ref 64), (1, .ref 0), (0, .retAddr b)]) (S' := [.int (i + 2), .retAddr b, .int c1, .ref 64]) (M' := sm q67.2.1 q67.2.2) [pm_o (.iload 4), pm_oi (.iconst 2) 2, pm_o .iadd] (by decide +kernel) rfl ?_
      refine pm_xald (by decide +kernel) hX hb hi2.1 hi2.2 ?_
      refine pm_blk (pc' := 450) (L' := [(5, .int q67.1), (4, .int i), (3, .ref 139), (2, .ref 64), (1, .ref 0), (0, .retAddr b)]) (S' := [.int c2, .int c1, .ref 64]) (M' := sm q67.2.1 q67.2.2) [] (by decide +kernel) rfl ?_
      refine pm_if_eq (off := 7) 457 (by decide +kernel) (by decide) (fun hc70 => ?_) (fun hc70 => ?_)
      · rw [if_pos hc70] at h
        refine pm_blk (pc' := 458) (L' := [(5, .int q67.1), (4, .int i), (3, .ref 139), (2, .ref 64), (1, .ref 0), (0, .retAddr b)]) (S' := [.int 0, .int c1, .ref 64]) (M' := sm q67.2.1 q67.2.2) [pm_oi (.iconst 0) 0] (by decide +kernel) rfl ?_
        refine pm_alx (k := 0) (i := 0) (q := b) (by decide +kernel) rfl rfl ?_
        refine pm_blk (pc' := 463) (L' := [(5, .int q67.1), (4, .int i), (3, .ref 139), (2, .ref 64), (1, .ref 0), (0, .retAddr b)]) (S' := [.int (i + 3), .retAddr b, .int 0, .int c1, .ref 64]) (M' := sm q67.2.1 q67.2.2) [pm_o (.iload 4), pm_oi (.iconst 3) 3, pm_o .iadd] (by decide +kernel) rfl ?_
        refine pm_xald (by decide +kernel) hX hb hi3.1 hi3.2 ?_
        refine pm_blk (pc' := 464) (L' := [(5, .int q67.1), (4, .int i), (3, .ref 139), (2, .ref 64), (1, .ref 0), (0, .retAddr b)]) (S' := [.int c3, .int 0, .int c1, .ref 64]) (M' := sm q67.2.1 q67.2.2) [] (by decide +kernel) rfl ?_
        obtain ⟨q71, hq71, h⟩ := pm_bd h
        refine pm_cV (idx := 78) m_Md_run (c_Md_run l h0 D (sh_Tb_s hu68) hq71) (As := [.int c1, .int 0, .int c3]) (S0 := []) rfl (by decide +kernel) k_Md_run l_Law_78 (Nat.le_of_ble_eq_true rfl) (Nat.le_of_ble_eq_true rfl) (Nat.le_trans hl69.1 ho1) (Nat.le_trans hl69.2 ho2) ?_
        refine pm_blk (pc' := 470) (L' := [(6, .int q71.1), (5, .int q67.1), (4, .int i), (3, .ref 139), (2, .ref 64), (1, .ref 0), (0, .retAddr b)]) (S' := [.ref 64]) (M' := sm q67.2.1 q71.2) [pm_o (.istore 6), pm_o (.aload_n 2)] (by decide +kernel) rfl ?_
        obtain ⟨q72, hq72, h⟩ := pm_bd h
        refine pm_cV (idx := 47) m_Md_thrown (c_Md_thrown l h0 D (sh_Tb_s hu68) hq72) (As := []) (S0 := []) rfl (by decide +kernel) k_Md_thrown l_Law_47 (Nat.le_of_ble_eq_true rfl) (Nat.le_of_ble_eq_true rfl) (Nat.le_trans hl69.1 ho1) (Nat.le_trans hl69.2 ho2) ?_
        refine pm_blk (pc' := 475) (L' := [(6, .int q71.1), (5, .int q67.1), (4, .int i), (3, .ref 139), (2, .ref 64), (1, .ref 0), (0, .retAddr b)]) (S' := [.int q67.1, .int q72]) (M' := sm q67.2.1 q71.2) [pm_o (.iload 5)] (by decide +kernel) rfl ?_
        refine pm_ic_eq (off := 5) 480 (by decide +kernel) (by decide) (fun hc73 => ?_) (fun hc73 => ?_)
        · rw [if_pos hc73] at h
          refine pm_blk (pc' := 482) (L' := [(6, .int q71.1), (5, .int q67.1), (4, .int i), (3, .ref 139), (2, .ref 64), (1, .ref 0), (0, .retAddr b)]) (S' := [.int q67.1]) (M' := sm q67.2.1 q71.2) [pm_o (.iload 5)] (by decide +kernel) rfl ?_
          refine pm_if_ne (off := 15) 497 (by decide +kernel) (by decide) (fun hc74 => ?_) (fun hc74 => ?_)
          · rw [if_neg hc74] at h
            refine pm_goto (off := 110) 607 (by decide +kernel) (by decide) ?_
            have h9 := Option.some.inj h
            subst h9
            refine pm_loc [2, 3, 4, 5, 6] rfl ?_
            exact kk
          · rw [if_pos hc74] at h
            refine pm_blk (pc' := 487) (L' := [(6, .int q71.1), (5, .int q67.1), (4, .int i), (3, .ref 139), (2, .ref 64), (1, .ref 0), (0, .retAddr b)]) (S' := [.int 0, .ref 139]) (M' := sm q67.2.1 q71.2) [pm_o (.aload_n 3), pm_oi (.iconst 0) 0] (by decide +kernel) rfl ?_
            obtain ⟨ho75, h⟩ := pm_ifs h
            refine pm_lald (by decide +kernel) rfl (pm_ok_in ho75) ?_
            refine pm_blk (pc' := 492) (L' := [(6, .int q71.1), (5, .int q67.1), (4, .int i), (3, .ref 139), (2, .ref 64), (1, .ref 0), (0, .retAddr b)]) (S' := [.int (lg_cmp (q71.2.2 139 0) q71.1.toInt64)]) (M' := sm q67.2.1 q71.2) [pm_o (.iload 6), pm_o .i2l, pm_o .lcmp] (by decide +kernel) rfl ?_
            refine pm_if_eq (off := 5) 497 (by decide +kernel) (by decide) (fun hc76 => ?_) (fun hc76 => ?_)
            · rw [if_pos hc76] at h
              refine pm_goto (off := 110) 607 (by decide +kernel) (by decide) ?_
              have h9 := Option.some.inj h
              subst h9
              refine pm_loc [2, 3, 4, 5, 6] rfl ?_
              exact kk
            · rw [if_neg hc76] at h
              cases h
        · rw [if_neg hc73] at h
          cases h
      · rw [if_neg hc70] at h
        refine pm_blk (pc' := 454) (L' := [(5, .int q67.1), (4, .int i), (3, .ref 139), (2, .ref 64), (1, .ref 0), (0, .retAddr b)]) (S' := [.int 1, .int c1, .ref 64]) (M' := sm q67.2.1 q67.2.2) [pm_oi (.iconst 1) 1] (by decide +kernel) rfl ?_
        refine pm_goto (off := 4) 458 (by decide +kernel) (by decide) ?_
        refine pm_alx (k := 0) (i := 0) (q := b) (by decide +kernel) rfl rfl ?_
        refine pm_blk (pc' := 463) (L' := [(5, .int q67.1), (4, .int i), (3, .ref 139), (2, .ref 64), (1, .ref 0), (0, .retAddr b)]) (S' := [.int (i + 3), .retAddr b, .int 1, .int c1, .ref 64]) (M' := sm q67.2.1 q67.2.2) [pm_o (.iload 4), pm_oi (.iconst 3) 3, pm_o .iadd] (by decide +kernel) rfl ?_
        refine pm_xald (by decide +kernel) hX hb hi3.1 hi3.2 ?_
        refine pm_blk (pc' := 464) (L' := [(5, .int q67.1), (4, .int i), (3, .ref 139), (2, .ref 64), (1, .ref 0), (0, .retAddr b)]) (S' := [.int c3, .int 1, .int c1, .ref 64]) (M' := sm q67.2.1 q67.2.2) [] (by decide +kernel) rfl ?_
        obtain ⟨q77, hq77, h⟩ := pm_bd h
        refine pm_cV (idx := 78) m_Md_run (c_Md_run l h0 D (sh_Tb_s hu68) hq77) (As := [.int c1, .int 1, .int c3]) (S0 := []) rfl (by decide +kernel) k_Md_run l_Law_78 (Nat.le_of_ble_eq_true rfl) (Nat.le_of_ble_eq_true rfl) (Nat.le_trans hl69.1 ho1) (Nat.le_trans hl69.2 ho2) ?_
        refine pm_blk (pc' := 470) (L' := [(6, .int q77.1), (5, .int q67.1), (4, .int i), (3, .ref 139), (2, .ref 64), (1, .ref 0), (0, .retAddr b)]) (S' := [.ref 64]) (M' := sm q67.2.1 q77.2) [pm_o (.istore 6), pm_o (.aload_n 2)] (by decide +kernel) rfl ?_
        obtain ⟨q78, hq78, h⟩ := pm_bd h
        refine pm_cV (idx := 47) m_Md_thrown (c_Md_thrown l h0 D (sh_Tb_s hu68) hq78) (As := []) (S0 := []) rfl (by decide +kernel) k_Md_thrown l_Law_47 (Nat.le_of_ble_eq_true rfl) (Nat.le_of_ble_eq_true rfl) (Nat.le_trans hl69.1 ho1) (Nat.le_trans hl69.2 ho2) ?_
        refine pm_blk (pc' := 475) (L' := [(6, .int q77.1), (5, .int q67.1), (4, .int i), (3, .ref 139), (2, .ref 64), (1, .ref 0), (0, .retAddr b)]) (S' := [.int q67.1, .int q78]) (M' := sm q67.2.1 q77.2) [pm_o (.iload 5)] (by decide +kernel) rfl ?_
        refine pm_ic_eq (off := 5) 480 (by decide +kernel) (by decide) (fun hc79 => ?_) (fun hc79 => ?_)
        · rw [if_pos hc79] at h
          refine pm_blk (pc' := 482) (L' := [(6, .int q77.1), (5, .int q67.1), (4, .int i), (3, .ref 139), (2, .ref 64), (1, .ref 0), (0, .retAddr b)]) (S' := [.int q67.1]) (M' := sm q67.2.1 q77.2) [pm_o (.iload 5)] (by decide +kernel) rfl ?_
          refine pm_if_ne (off := 15) 497 (by decide +kernel) (by decide) (fun hc80 => ?_) (fun hc80 => ?_)
          · rw [if_neg hc80] at h
            refine pm_goto (off := 110) 607 (by decide +kernel) (by decide) ?_
            have h9 := Option.some.inj h
            subst h9
            refine pm_loc [2, 3, 4, 5, 6] rfl ?_
            exact kk
          · rw [if_pos hc80] at h
            refine pm_blk (pc' := 487) (L' := [(6, .int q77.1), (5, .int q67.1), (4, .int i), (3, .ref 139), (2, .ref 64), (1, .ref 0), (0, .retAddr b)]) (S' := [.int 0, .ref 139]) (M' := sm q67.2.1 q77.2) [pm_o (.aload_n 3), pm_oi (.iconst 0) 0] (by decide +kernel) rfl ?_
            obtain ⟨ho81, h⟩ := pm_ifs h
            refine pm_lald (by decide +kernel) rfl (pm_ok_in ho81) ?_
            refine pm_blk (pc' := 492) (L' := [(6, .int q77.1), (5, .int q67.1), (4, .int i), (3, .ref 139), (2, .ref 64), (1, .ref 0), (0, .retAddr b)]) (S' := [.int (lg_cmp (q77.2.2 139 0) q77.1.toInt64)]) (M' := sm q67.2.1 q77.2) [pm_o (.iload 6), pm_o .i2l, pm_o .lcmp] (by decide +kernel) rfl ?_
            refine pm_if_eq (off := 5) 497 (by decide +kernel) (by decide) (fun hc82 => ?_) (fun hc82 => ?_)
            · rw [if_pos hc82] at h
              refine pm_goto (off := 110) 607 (by decide +kernel) (by decide) ?_
              have h9 := Option.some.inj h
              subst h9
              refine pm_loc [2, 3, 4, 5, 6] rfl ?_
              exact kk
            · rw [if_neg hc82] at h
              cases h
        · rw [if_neg hc79] at h
          cases h
  rw [if_neg hs49] at h
  rw [pm_sw_neg hs49]
  by_cases hs83 : (c0 &&& 15) = 8
  · rw [if_pos hs83] at h
    rw [pm_sw_pos hs83]
    refine pm_blk (pc' := 501) (L' := [(4, .int i), (3, .ref 139), (2, .ref 64), (1, .ref 0), (0, .retAddr b)]) (S' := [.ref 0]) (M' := sm g u) [pm_o (.aload_n 1)] (by decide +kernel) rfl ?_
    refine pm_alx (k := 0) (i := 0) (q := b) (by decide +kernel) rfl rfl ?_
    refine pm_blk (pc' := 506) (L' := [(4, .int i), (3, .ref 139), (2, .ref 64), (1, .ref 0), (0, .retAddr b)]) (S' := [.int (i + 1), .retAddr b, .ref 0]) (M' := sm g u) [pm_o (.iload 4), pm_oi (.iconst 1) 1, pm_o .iadd] (by decide +kernel) rfl ?_
    refine pm_xald (by decide +kernel) hX hb hi1.1 hi1.2 ?_
    refine pm_blk (pc' := 508) (L' := [(4, .int i), (3, .ref 139), (2, .ref 64), (1, .ref 0), (0, .retAddr b)]) (S' := [.ref 139, .int c1, .ref 0]) (M' := sm g u) [pm_o (.aload_n 3)] (by decide +kernel) rfl ?_
    obtain ⟨q84, hq84, h⟩ := pm_bd h
    obtain ⟨hu85, h⟩ := pm_ifs h
    obtain ⟨h, hl86⟩ := pm_Ss h
    refine pm_cSW (idx := 79) m_Law_told (cX_told hfl h0 D hT hq84) (As := [.ref 0, .int c1, .ref 139]) (S0 := []) rfl (by decide +kernel) kW_told l_Law_79 (Nat.le_of_ble_eq_true rfl) (Nat.le_of_ble_eq_true rfl) (Nat.le_trans hl86.1 ho1) (Nat.le_trans hl86.2 ho2) ?_
    refine pm_blk (pc' := 514) (L' := [(5, .int q84.1), (4, .int i), (3, .ref 139), (2, .ref 64), (1, .ref 0), (0, .retAddr b)]) (S' := [.ref 64]) (M' := sm q84.2.1 q84.2.2) [pm_o (.istore 5), pm_o (.aload_n 2)] (by decide +kernel) rfl ?_
    refine pm_alx (k := 0) (i := 0) (q := b) (by decide +kernel) rfl rfl ?_
    refine pm_blk (pc' := 519) (L' := [(5, .int q84.1), (4, .int i), (3, .ref 139), (2, .ref 64), (1, .ref 0), (0, .retAddr b)]) (S' := [.int (i + 1), .retAddr b, .ref 64]) (M' := sm q84.2.1 q84.2.2) [pm_o (.iload 4), pm_oi (.iconst 1) 1, pm_o .iadd] (by decide +kernel) rfl ?_
    refine pm_xald (by decide +kernel) hX hb hi1.1 hi1.2 ?_
    refine pm_blk (pc' := 520) (L' := [(5, .int q84.1), (4, .int i), (3, .ref 139), (2, .ref 64), (1, .ref 0), (0, .retAddr b)]) (S' := [.int c1, .ref 64]) (M' := sm q84.2.1 q84.2.2) [] (by decide +kernel) rfl ?_
    obtain ⟨q87, hq87, h⟩ := pm_bd h
    refine pm_cV (idx := 82) m_Md_told (c_Md_told l h0 D (sh_Tb_s hu85) hq87) (As := [.int c1]) (S0 := []) rfl (by decide +kernel) k_Md_told l_Law_82 (Nat.le_of_ble_eq_true rfl) (Nat.le_of_ble_eq_true rfl) (Nat.le_trans hl86.1 ho1) (Nat.le_trans hl86.2 ho2) ?_
    refine pm_blk (pc' := 526) (L' := [(6, .int q87.1), (5, .int q84.1), (4, .int i), (3, .ref 139), (2, .ref 64), (1, .ref 0), (0, .retAddr b)]) (S' := [.ref 64]) (M' := sm q84.2.1 q87.2) [pm_o (.istore 6), pm_o (.aload_n 2)] (by decide +kernel) rfl ?_
    obtain ⟨q88, hq88, h⟩ := pm_bd h
    refine pm_cV (idx := 47) m_Md_thrown (c_Md_thrown l h0 D (sh_Tb_s hu85) hq88) (As := []) (S0 := []) rfl (by decide +kernel) k_Md_thrown l_Law_47 (Nat.le_of_ble_eq_true rfl) (Nat.le_of_ble_eq_true rfl) (Nat.le_trans hl86.1 ho1) (Nat.le_trans hl86.2 ho2) ?_
    refine pm_blk (pc' := 531) (L' := [(6, .int q87.1), (5, .int q84.1), (4, .int i), (3, .ref 139), (2, .ref 64), (1, .ref 0), (0, .retAddr b)]) (S' := [.int q84.1, .int q88]) (M' := sm q84.2.1 q87.2) [pm_o (.iload 5)] (by decide +kernel) rfl ?_
    refine pm_ic_eq (off := 5) 536 (by decide +kernel) (by decide) (fun hc89 => ?_) (fun hc89 => ?_)
    · rw [if_pos hc89] at h
      refine pm_blk (pc' := 538) (L' := [(6, .int q87.1), (5, .int q84.1), (4, .int i), (3, .ref 139), (2, .ref 64), (1, .ref 0), (0, .retAddr b)]) (S' := [.int q84.1]) (M' := sm q84.2.1 q87.2) [pm_o (.iload 5)] (by decide +kernel) rfl ?_
      refine pm_if_ne (off := 15) 553 (by decide +kernel) (by decide) (fun hc90 => ?_) (fun hc90 => ?_)
      · rw [if_neg hc90] at h
        refine pm_goto (off := 54) 607 (by decide +kernel) (by decide) ?_
        have h9 := Option.some.inj h
        subst h9
        refine pm_loc [2, 3, 4, 5, 6] rfl ?_
        exact kk
      · rw [if_pos hc90] at h
        refine pm_blk (pc' := 543) (L' := [(6, .int q87.1), (5, .int q84.1), (4, .int i), (3, .ref 139), (2, .ref 64), (1, .ref 0), (0, .retAddr b)]) (S' := [.int 0, .ref 139]) (M' := sm q84.2.1 q87.2) [pm_o (.aload_n 3), pm_oi (.iconst 0) 0] (by decide +kernel) rfl ?_
        obtain ⟨ho91, h⟩ := pm_ifs h
        refine pm_lald (by decide +kernel) rfl (pm_ok_in ho91) ?_
        refine pm_blk (pc' := 548) (L' := [(6, .int q87.1), (5, .int q84.1), (4, .int i), (3, .ref 139), (2, .ref 64), (1, .ref 0), (0, .retAddr b)]) (S' := [.int (lg_cmp (q87.2.2 139 0) q87.1.toInt64)]) (M' := sm q84.2.1 q87.2) [pm_o (.iload 6), pm_o .i2l, pm_o .lcmp] (by decide +kernel) rfl ?_
        refine pm_if_eq (off := 5) 553 (by decide +kernel) (by decide) (fun hc92 => ?_) (fun hc92 => ?_)
        · rw [if_pos hc92] at h
          refine pm_goto (off := 54) 607 (by decide +kernel) (by decide) ?_
          have h9 := Option.some.inj h
          subst h9
          refine pm_loc [2, 3, 4, 5, 6] rfl ?_
          exact kk
        · rw [if_neg hc92] at h
          cases h
    · rw [if_neg hc89] at h
      cases h
  rw [if_neg hs83] at h
  rw [pm_sw_neg hs83]
  by_cases hs93 : (c0 &&& 15) = 9
  · rw [if_pos hs93] at h
    rw [pm_sw_pos hs93]
    refine pm_blk (pc' := 557) (L' := [(4, .int i), (3, .ref 139), (2, .ref 64), (1, .ref 0), (0, .retAddr b)]) (S' := [.ref 0]) (M' := sm g u) [pm_o (.aload_n 1)] (by decide +kernel) rfl ?_
    refine pm_alx (k := 0) (i := 0) (q := b) (by decide +kernel) rfl rfl ?_
    refine pm_blk (pc' := 562) (L' := [(4, .int i), (3, .ref 139), (2, .ref 64), (1, .ref 0), (0, .retAddr b)]) (S' := [.int (i + 1), .retAddr b, .ref 0]) (M' := sm g u) [pm_o (.iload 4), pm_oi (.iconst 1) 1, pm_o .iadd] (by decide +kernel) rfl ?_
    refine pm_xald (by decide +kernel) hX hb hi1.1 hi1.2 ?_
    refine pm_blk (pc' := 563) (L' := [(4, .int i), (3, .ref 139), (2, .ref 64), (1, .ref 0), (0, .retAddr b)]) (S' := [.int c1, .ref 0]) (M' := sm g u) [] (by decide +kernel) rfl ?_
    obtain ⟨q94, hq94, h⟩ := pm_bd h
    refine pm_cV (idx := 83) m_BC_sort (c_BC_sort l h0 D hT hq94) (As := [.int c1]) (S0 := []) rfl (by decide +kernel) k_BC_sort l_Law_83 (Nat.le_of_ble_eq_true rfl) (Nat.le_of_ble_eq_true rfl) (Nat.le_trans hle.1 ho1) (Nat.le_trans hle.2 ho2) ?_
    refine pm_blk (pc' := 567) (L' := [(4, .int i), (3, .ref 139), (2, .ref 64), (1, .ref 0), (0, .retAddr b)]) (S' := [.ref 64, .int q94]) (M' := sm g u) [pm_o (.aload_n 2)] (by decide +kernel) rfl ?_
    refine pm_alx (k := 0) (i := 0) (q := b) (by decide +kernel) rfl rfl ?_
    refine pm_blk (pc' := 572) (L' := [(4, .int i), (3, .ref 139), (2, .ref 64), (1, .ref 0), (0, .retAddr b)]) (S' := [.int (i + 1), .retAddr b, .ref 64, .int q94]) (M' := sm g u) [pm_o (.iload 4), pm_oi (.iconst 1) 1, pm_o .iadd] (by decide +kernel) rfl ?_
    refine pm_xald (by decide +kernel) hX hb hi1.1 hi1.2 ?_
    refine pm_blk (pc' := 573) (L' := [(4, .int i), (3, .ref 139), (2, .ref 64), (1, .ref 0), (0, .retAddr b)]) (S' := [.int c1, .ref 64, .int q94]) (M' := sm g u) [] (by decide +kernel) rfl ?_
    obtain ⟨q95, hq95, h⟩ := pm_bd h
    refine pm_cV (idx := 86) m_Md_sort (c_Md_sort l h0 D hT hq95) (As := [.int c1]) (S0 := [.int q94]) rfl (by decide +kernel) k_Md_sort l_Law_86 (Nat.le_of_ble_eq_true rfl) (Nat.le_of_ble_eq_true rfl) (Nat.le_trans hle.1 ho1) (Nat.le_trans hle.2 ho2) ?_
    refine pm_blk (pc' := 576) (L' := [(4, .int i), (3, .ref 139), (2, .ref 64), (1, .ref 0), (0, .retAddr b)]) (S' := [.int q95.1, .int q94]) (M' := sm g q95.2) [] (by decide +kernel) rfl ?_
    refine pm_ic_eq (off := 31) 607 (by decide +kernel) (by decide) (fun hc96 => ?_) (fun hc96 => ?_)
    · rw [if_pos hc96] at h
      have h9 := Option.some.inj h
      subst h9
      refine pm_loc [0, 1, 2, 3, 4] rfl ?_
      exact kk
    · rw [if_neg hc96] at h
      cases h
  rw [if_neg hs93] at h
  rw [pm_sw_neg hs93]
  by_cases hs97 : (c0 &&& 15) = 10
  · rw [if_pos hs97] at h
    rw [pm_sw_pos hs97]
    refine pm_blk (pc' := 582) (L' := [(4, .int i), (3, .ref 139), (2, .ref 64), (1, .ref 0), (0, .retAddr b)]) (S' := [.ref 0]) (M' := sm g u) [pm_o (.aload_n 1)] (by decide +kernel) rfl ?_
    refine pm_alx (k := 0) (i := 0) (q := b) (by decide +kernel) rfl rfl ?_
    refine pm_blk (pc' := 587) (L' := [(4, .int i), (3, .ref 139), (2, .ref 64), (1, .ref 0), (0, .retAddr b)]) (S' := [.int (i + 1), .retAddr b, .ref 0]) (M' := sm g u) [pm_o (.iload 4), pm_oi (.iconst 1) 1, pm_o .iadd] (by decide +kernel) rfl ?_
    refine pm_xald (by decide +kernel) hX hb hi1.1 hi1.2 ?_
    refine pm_blk (pc' := 588) (L' := [(4, .int i), (3, .ref 139), (2, .ref 64), (1, .ref 0), (0, .retAddr b)]) (S' := [.int c1, .ref 0]) (M' := sm g u) [] (by decide +kernel) rfl ?_
    obtain ⟨q98, hq98, h⟩ := pm_bd h
    refine pm_cV (idx := 87) m_BC_result (c_BC_result l h0 D hT hq98) (As := [.int c1]) (S0 := []) rfl (by decide +kernel) k_BC_result l_Law_87 (Nat.le_of_ble_eq_true rfl) (Nat.le_of_ble_eq_true rfl) (Nat.le_trans hle.1 ho1) (Nat.le_trans hle.2 ho2) ?_
    refine pm_blk (pc' := 592) (L' := [(4, .int i), (3, .ref 139), (2, .ref 64), (1, .ref 0), (0, .retAddr b)]) (S' := [.ref 64, .long q98]) (M' := sm g u) [pm_o (.aload_n 2)] (by decide +kernel) rfl ?_
    refine pm_alx (k := 0) (i := 0) (q := b) (by decide +kernel) rfl rfl ?_
    refine pm_blk (pc' := 597) (L' := [(4, .int i), (3, .ref 139), (2, .ref 64), (1, .ref 0), (0, .retAddr b)]) (S' := [.int (i + 1), .retAddr b, .ref 64, .long q98]) (M' := sm g u) [pm_o (.iload 4), pm_oi (.iconst 1) 1, pm_o .iadd] (by decide +kernel) rfl ?_
    refine pm_xald (by decide +kernel) hX hb hi1.1 hi1.2 ?_
    refine pm_blk (pc' := 598) (L' := [(4, .int i), (3, .ref 139), (2, .ref 64), (1, .ref 0), (0, .retAddr b)]) (S' := [.int c1, .ref 64, .long q98]) (M' := sm g u) [] (by decide +kernel) rfl ?_
    obtain ⟨q99, hq99, h⟩ := pm_bd h
    refine pm_cV (idx := 91) m_Md_result (c_Md_result l h0 D hT hq99) (As := [.int c1]) (S0 := [.long q98]) rfl (by decide +kernel) k_Md_result l_Law_91 (Nat.le_of_ble_eq_true rfl) (Nat.le_of_ble_eq_true rfl) (Nat.le_trans hle.1 ho1) (Nat.le_trans hle.2 ho2) ?_
    refine pm_blk (pc' := 602) (L' := [(4, .int i), (3, .ref 139), (2, .ref 64), (1, .ref 0), (0, .retAddr b)]) (S' := [.int (lg_cmp q98 q99.1)]) (M' := sm g q99.2) [pm_o .lcmp] (by decide +kernel) rfl ?_
    refine pm_if_eq (off := 5) 607 (by decide +kernel) (by decide) (fun hc100 => ?_) (fun hc100 => ?_)
    · rw [if_pos hc100] at h
      have h9 := Option.some.inj h
      subst h9
      refine pm_loc [0, 1, 2, 3, 4] rfl ?_
      exact kk
    · rw [if_neg hc100] at h
      cases h
  rw [if_neg hs97] at h
  rw [pm_sw_neg hs97]
  refine pm_pc (pc' := 607) rfl ?_
  have h9 := Option.some.inj h
  subst h9
  refine pm_loc [0, 1, 2, 3, 4] rfl ?_
  exact kk
