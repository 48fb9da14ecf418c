/-! texts below h0: String.length, String.charAt of the two constants -/
section PMX
variable {x : pm_c} {y : pm_m} {h0 : Nat} {D : pm_D} {b : pm_b} {Q : State → Prop} {pc : Nat} {L : List (Nat × Value)} {S : List Value} {M : pm_M}
theorem pm_getx {n d : String} {idx q : Nat} {v : Value} (hE : ∀ s, pm_KS h0 D s → va_OF "java/lang/String" n d (pm_cv h0 v) q (fun q => h0 ≤ q) s s.heap) (hl : Cond.fieldLink y.1.cls idx "java/lang/String" n d ∈ pm_tbl) (hd : decode y.2.1 pc = .ok (.getfield idx, 3)) (kk : pm_V x y h0 D b Q (pc + 3) L (v :: S) M) : pm_V x y h0 D b Q pc L (.retAddr q :: S) M := by
  obtain ⟨p, l, e, R, s, m, args, below, meth, c⟩ := x
  intro X H locs ls hR hF hlo hL hn hz
  obtain ⟨X1, X2, X3, X4, X5, X6, X7⟩ := id X
  obtain ⟨cf, k, fi, f, cell, h1, h2, h3, h4, h5, h6⟩ := (hE s X6.2.2).kept (H1 := H) (fun a _ h => hF a (by omega))
  exact W.getf X1 X2 X4 (X5 _ hl) h1 h2 h3 h4 h5 rfl rfl hd (kk X H locs ls hR hF hlo hL hn hz)
theorem pm_alenx {q N : Nat} {f : Nat → Value} (hE : ∀ s, pm_KS h0 D s → va_T .byte q N f (fun q => h0 ≤ q) s s.heap) (hd : decode y.2.1 pc = .ok (.arraylength, 1)) (kk : pm_V x y h0 D b Q (pc + 1) L (.int (nI N) :: S) M) : pm_V x y h0 D b Q pc L (.retAddr q :: S) M := by
  obtain ⟨p, l, e, R, s, m, args, below, meth, c⟩ := x
  intro X H locs ls hR hF hlo hL hn hz
  obtain ⟨X1, X2, X3, X4, X5, X6, X7⟩ := id X
  obtain ⟨cell, h1, h2, h3, h4, h5, h6, h7⟩ := (hE s X6.2.2).kept (H1 := H) (fun a _ h => hF a (by omega))
  exact W.alen (n := nI N) X1 X2 h1 h2 h5 rfl rfl hd (kk X H locs ls hR hF hlo hL hn hz)
theorem pm_bldx {q N : Nat} {f : Nat → Int32} {i : Int32} (hE : ∀ s, pm_KS h0 D s → va_T .byte q N (fun j => .int (f j)) (fun q => h0 ≤ q) s s.heap) (hi : vp_in i N) (hd : decode y.2.1 pc = .ok (.baload, 1)) (kk : pm_V x y h0 D b Q (pc + 1) L (.int (f i.toNatClampNeg) :: S) M) : pm_V x y h0 D b Q pc L (.int i :: .retAddr q :: S) M := by
  obtain ⟨p, l, e, R, s, m, args, below, meth, c⟩ := x
  intro X H locs ls hR hF hlo hL hn hz
  obtain ⟨X1, X2, X3, X4, X5, X6, X7⟩ := id X
  obtain ⟨cell, h1, h2, h3, h4, h5, h6, h7⟩ := (hE s X6.2.2).kept (H1 := H) (fun a _ h => hF a (by omega))
  have hlt : i.toNatClampNeg < N := Nat.not_le.mp fun q => hi (Or.inr q)
  have hin' : ¬ (i < 0 ∨ cell.slots.size ≤ i.toNatClampNeg) := by
    intro q
    rcases q with q | q
    · exact hi (Or.inl q)
    · omega
  exact W.bald X1 X2 h1 h2 h3 hin' (h6 _ hlt) rfl rfl hd (kk X H locs ls hR hF hlo hL hn hz)
theorem pm_getsx {C n d : String} {idx : Nat} {v : Value} (hE : ∀ s, pm_KS h0 D s → va_Z C n d (pm_cv h0 v) (fun q => h0 ≤ q) s s.heap) (hl : Cond.fieldLink y.1.cls idx C n d ∈ pm_tbl) (hd : decode y.2.1 pc = .ok (.getstatic idx, 3)) (kk : pm_V x y h0 D b Q (pc + 3) L (v :: S) M) : pm_V x y h0 D b Q pc L S M := by
  obtain ⟨p, l, e, R, s, m, args, below, meth, c⟩ := x
  intro X H locs ls hR hF hlo hL hn hz
  obtain ⟨X1, X2, X3, X4, X5, X6, X7⟩ := id X
  obtain ⟨cf, kf, fi, f, a, cell, h1, h2, h3, h4, h5, h6, h7, h8⟩ := (hE s X6.2.2).kept (H1 := H) (fun a _ h => hF a (by omega))
  exact W.gets X1 X2 X4 (X5 _ hl) h1 h2 h3 h4 h5 (fun e => by rw [e] at h6; cases h6) h7 rfl hd (kk X H locs ls hR hF hlo hL hn hz)
/-- a static of which only 'a reference or null' is said -/
theorem pm_getsq {C n d : String} {idx : Nat} (hE : ∀ s, pm_KS h0 D s → va_Zq C n d (fun q => h0 ≤ q) s s.heap) (hl : Cond.fieldLink y.1.cls idx C n d ∈ pm_tbl) (hd : decode y.2.1 pc = .ok (.getstatic idx, 3)) (kn : pm_V x y h0 D b Q (pc + 3) L (.null :: S) M) (kr : ∀ t, pm_V x y h0 D b Q (pc + 3) L (.retAddr t :: S) M) : pm_V x y h0 D b Q pc L S M := by
  obtain ⟨p, l, e, R, s, m, args, below, meth, c⟩ := x
  intro X H locs ls hR hF hlo hL hn hz
  obtain ⟨X1, X2, X3, X4, X5, X6, X7⟩ := id X
  have hk : ∀ a : Nat, a < s.heap.size → ¬ (h0 ≤ a) → H[a]? = s.heap[a]? := fun a _ h => hF a (by omega)
  rcases hE s X6.2.2 with hZ | ⟨t, hZ⟩
  · obtain ⟨cf, kf, fi, f, a, cell, h1, h2, h3, h4, h5, h6, h7, h8⟩ := hZ.kept hk
    exact W.gets X1 X2 X4 (X5 _ hl) h1 h2 h3 h4 h5 (fun e => by rw [e] at h6; cases h6) h7 rfl hd (kn X H locs ls hR hF hlo hL hn hz)
  · obtain ⟨cf, kf, fi, f, a, cell, h1, h2, h3, h4, h5, h6, h7, h8⟩ := hZ.kept hk
    exact W.gets X1 X2 X4 (X5 _ hl) h1 h2 h3 h4 h5 (fun e => by rw [e] at h6; cases h6) h7 rfl hd (kr t X H locs ls hR hF hlo hL hn hz)
theorem pm_ldcx {tx : String} {idx q : Nat} (hE : ∀ s, pm_KS h0 D s → vk_R y.1.cls idx tx q s) (hd : decode y.2.1 pc = .ok (.ldc idx, 2)) (kk : pm_V x y h0 D b Q (pc + 2) L (.retAddr q :: S) M) : pm_V x y h0 D b Q pc L S M := by
  obtain ⟨p, l, e, R, s, m, args, below, meth, c⟩ := x
  intro X H locs ls hR hF hlo hL hn hz
  obtain ⟨X1, X2, X3, X4, X5, X6, X7⟩ := id X
  exact va_ldcS X1 X2 X4 (hE s X6.2.2) hd (kk X H locs ls hR hF hlo hL hn hz)
theorem pm_i2c {u : Int32} (hd : decode y.2.1 pc = .ok (.i2c, 1)) (kk : pm_V x y h0 D b Q (pc + 1) L (.int (u.toUInt32 % 65536).toInt32 :: S) M) : pm_V x y h0 D b Q pc L (.int u :: S) M := by
  obtain ⟨p, l, e, R, s, m, args, below, meth, c⟩ := x
  intro X H locs ls hR hF hlo hL hn hz
  exact lv_i2c X.1 X.2.1 hd rfl (kk X H locs ls hR hF hlo hL hn hz)
theorem pm_alx {k : Fin 4} {i q : Nat} (hd : decode y.2.1 pc = .ok (.aload_n k, 1)) (hi : (k : Nat) = i) (hl : pm_lk L i = some (.retAddr q)) (kk : pm_V x y h0 D b Q (pc + 1) L (.retAddr q :: S) M) : pm_V x y h0 D b Q pc L S M := by
  obtain ⟨p, l, e, R, s, m, args, below, meth, c⟩ := x
  intro X H locs ls hR hF hlo hL hn hz
  exact lv_aload_n X.1 X.2.1 hd hi (pm_has hL hl) (kk X H locs ls hR hF hlo hL hn hz)
theorem pm_retn {d : Nat} {M0 M1 : pm_M} {ty : FieldType} {v w : Int32} (hr : y.2.2.2 = some ty) (hd : decode y.2.1 pc = .ok (.ireturn, 1)) (h2 : narrow ty (.int v) = .int v) (hv : v = w) (hM : M = M1) (hb : b = (M0.1.1, M0.1.2.1, M1.1.1, M1.1.2.1, d)) : pm_V x y h0 D b (pm_E x h0 D M0 (some (.int w)) M1) pc L [.int v] M := by
  obtain ⟨p, l, e, R, s, m, args, below, meth, c⟩ := x
  subst hv; subst hM; subst hb
  intro X H locs ls hR hF hlo hL hn hz
  obtain ⟨X1, X2, X3, X4, X5, X6, X7, X8, X9, X10⟩ := id X
  exact W.zret X1 X2 (X8.trans hr) h2 (fun t ht hW => ⟨rfl, by rw [ht]; exact hR.moved hW.alike, fun q hq => by rw [ht]; exact hF q hq⟩) hlo hd X7
end PMX
section PMXC
variable {p : Program} {l : Launch} {e : Env} {R : Room} {s : State} {m : MethodId} {args : Array Value} {below : List Frame} {meth : Method} {c : Code} {y : pm_m} {h0 : Nat} {D : pm_D} {b : pm_b} {Q : State → Prop} {pc : Nat} {L : List (Nat × Value)} {S : List Value} {M M1 : pm_M}
/-- a method of String on one of the two texts -/
theorem pm_cVx (y2 : pm_m) {d2 idx i : Nat} {As S0 : List Value} {r : Option Value} (hi : i < 2) (hC : pm_C l h0 D y2 d2 (.retAddr (D.2.1 i) :: As) M r M1) (hS : S = As.reverse ++ .retAddr (D.2.1 i) :: S0) (hd : decode y.2.1 pc = .ok (.invokevirtual idx, 3)) (hk : pm_kB y2 As.length) (hk1 : Cond.instanceMethod y2.1 ∈ pm_tbl) (hk2 : Cond.selects y2.1.cls y2.1 y2.1 ∈ pm_tbl) (hk3 : y2.1.cls = "java/lang/String") (hln : pm_kL y idx y2) (hd2 : d2 + 1 ≤ b.2.2.2.2) (hW : (S0.map fun v => v.category).sum ≤ 8) (hn1 : M1.1.1 ≤ b.2.2.1) (hz1 : M1.1.2.1 ≤ b.2.2.2.1) (kk : pm_V (p, l, e, R, s, m, args, below, meth, c) y h0 D b Q (pc + 3) L (r.toList ++ S0) M1) : pm_V (p, l, e, R, s, m, args, below, meth, c) y h0 D b Q pc L S M := by
  intro X H locs ls hR hF hlo hL hn hz
  obtain ⟨X1, X2, X3, X4, X5, X6, X7, X8, X9, X10, X11, X12, X13⟩ := id X
  obtain ⟨C1, C2, C3⟩ := hC
  obtain ⟨k1, k2, k3, k4, k5, k6⟩ := hk
  have hln := X5 _ hln
  have hrm := pm_room X12 X13 hd2 k6
  subst hS
  have hrc : ∃ cellB : Cell, H[D.2.1 i]? = some cellB ∧ cellB.vm.isStatics = false ∧ s.vm.findClass y2.1.cls = some cellB.cls := by
    obtain ⟨cell, h1, h2, h3, -⟩ := (X6.2.2.1.1.1 i hi).1.kept (H1 := H) (fun a _ h => hF a (by omega))
    exact ⟨cell, h1, h2, by rw [hk3]; exact h3⟩
  refine pm_after (va_runV (As := As.map (pm_cv h0)) (rest := S0.map (pm_cv h0)) ⟨X1, X2, X3, X4, X5⟩ C3 ⟨callB_of As.length X5 (pm_gin k2) rfl rfl rfl (X5 _ k1) hln ⟨k3, k4, k5⟩ hrm, X5 _ hk1, X5 _ hk2⟩ ⟨pm_blind, hrc, pm_pre (As := .retAddr (D.2.1 i) :: As) hR X6 hF⟩ rfl (by simp) hL.1 (by simp [pm_cv]) (lv_room (pm_cat h0 hW)) hd ⟨by omega, by omega⟩) hF hlo (fun H1 locs1 hR1 hF1 hlo1 => ?_)
  have h9 := kk X H1 locs1 ls hR1 hF1 hlo1 hL (Nat.le_trans hn C1) (Nat.le_trans hz C2)
  rw [pm_tol]
  have c1 : M1.1.1 - b.1 = M.1.1 - b.1 + (M1.1.1 - M.1.1) := by omega
  have c2 : M1.1.2.1 - b.2.1 = M.1.2.1 - b.2.1 + (M1.1.2.1 - M.1.2.1) := by omega
  rw [c1, c2] at h9
  exact h9
end PMXC
def mJ_length : pm_m := (⟨"java/lang/String", "length", "()I"⟩, prog_25_method_54_code, 1, some .int)
def mJ_coder : pm_m := (⟨"java/lang/String", "coder", "()B"⟩, prog_25_method_152_code, 1, some .byte)
def mJ_latin : pm_m := (⟨"java/lang/String", "isLatin1", "()Z"⟩, prog_25_method_154_code, 1, some .boolean)
def mJ_charAt : pm_m := (⟨"java/lang/String", "charAt", "(I)C"⟩, prog_25_method_56_code, 2, some .char)
def mJ_lcharAt : pm_m := (⟨"java/lang/StringLatin1", "charAt", "([BI)C"⟩, prog_27_method_2_code, 2, some .char)
def mJ_check : pm_m := (⟨"java/lang/String", "checkIndex", "(II)V"⟩, prog_25_method_155_code, 2, none)
def mJ_pre : pm_m := (⟨"jdk/internal/util/Preconditions", "checkIndex", "(IILjava/util/function/BiFunction;)I"⟩, prog_33_method_11_code, 3, some .int)
theorem kJ_length : pm_kB mJ_length 0 := ⟨pm_c1 4 rfl rfl, pm_c1 65 rfl rfl, by decide, by decide, by decide +kernel, by decide⟩
theorem kJ_coder : pm_kB mJ_coder 0 := ⟨pm_c1 4 rfl rfl, pm_c1 69 rfl rfl, by decide, by decide, by decide +kernel, by decide⟩
theorem kJ_latin : pm_kB mJ_latin 0 := ⟨pm_c1 4 rfl rfl, pm_c1 79 rfl rfl, by decide, by decide, by decide +kernel, by decide⟩
theorem kJ_charAt : pm_kB mJ_charAt 1 := ⟨pm_c1 4 rfl rfl, pm_c1 75 rfl rfl, by decide, by decide, by decide +kernel, by decide⟩
theorem kJ_lcharAt : pm_kS mJ_lcharAt 2 := ⟨⟨pm_c1 5 rfl rfl, pm_c1 82 rfl rfl, by decide, by decide, by decide +kernel, by decide⟩, pm_c1 81 rfl rfl⟩
theorem kJ_check : pm_kS mJ_check 2 := ⟨⟨pm_c1 4 rfl rfl, pm_c1 85 rfl rfl, by decide, by decide, by decide +kernel, by decide⟩, pm_c1 84 rfl rfl⟩
theorem kJ_pre : pm_kS mJ_pre 3 := ⟨⟨pm_c1 6 rfl rfl, pm_c1 90 rfl rfl, by decide, by decide, by decide +kernel, by decide⟩, pm_c1 89 rfl rfl⟩
set_option maxHeartbeats 4000000 in
set_option maxRecDepth 100000 in
theorem cJ_coder (l : Launch) (h0 : Nat) (D : pm_D) {M : pm_M} {i : Nat} (hi : i < 2) : pm_C l h0 D mJ_coder 0 [.retAddr (D.2.1 i)] M (some (.int 0)) M := by
  refine pm_met (by decide +kernel) (Nat.le_of_ble_eq_true rfl) (Nat.le_refl _) (Nat.le_refl _) ?_
  intro p e R s m args below meth c
  refine pm_getsx (idx := 38) (v := .int 1) (fun s h => h.2.2.1) (pm_c1 70 rfl rfl) (by decide +kernel) ?_
  refine pm_if_eq (off := 10) 13 (by decide +kernel) (by decide) (fun hc => absurd hc (by decide)) (fun _ => ?_)
  refine pm_alx (k := 0) (by decide +kernel) (i := 0) rfl rfl ?_
  refine pm_getx (idx := 15) (v := .int 0) (fun s h => (h.1.1.1 i hi).2.1) (pm_c5 119 rfl rfl) (by decide +kernel) ?_
  refine pm_goto (off := 4) 14 (by decide +kernel) (by decide) ?_
  exact pm_retn rfl (by decide +kernel) rfl rfl rfl rfl
set_option maxHeartbeats 4000000 in
set_option maxRecDepth 100000 in
theorem cJ_latin (l : Launch) (h0 : Nat) (D : pm_D) {M : pm_M} {i : Nat} (hi : i < 2) : pm_C l h0 D mJ_latin 0 [.retAddr (D.2.1 i)] M (some (.int 1)) M := by
  refine pm_met (by decide +kernel) (Nat.le_of_ble_eq_true rfl) (Nat.le_refl _) (Nat.le_refl _) ?_
  intro p e R s m args below meth c
  refine pm_getsx (idx := 38) (v := .int 1) (fun s h => h.2.2.1) (pm_c1 70 rfl rfl) (by decide +kernel) ?_
  refine pm_if_eq (off := 14) 17 (by decide +kernel) (by decide) (fun hc => absurd hc (by decide)) (fun _ => ?_)
  refine pm_alx (k := 0) (by decide +kernel) (i := 0) rfl rfl ?_
  refine pm_getx (idx := 15) (v := .int 0) (fun s h => (h.1.1.1 i hi).2.1) (pm_c5 119 rfl rfl) (by decide +kernel) ?_
  refine pm_if_ne (off := 7) 17 (by decide +kernel) (by decide) (fun hc => absurd rfl hc) (fun _ => ?_)
  refine pm_blk (pc' := 14) (L' := [(0, .retAddr (D.2.1 i))]) (S' := [.int 1]) (M' := M) [pm_oi (.iconst 1) 1] (by decide +kernel) rfl ?_
  refine pm_goto (off := 4) 18 (by decide +kernel) (by decide) ?_
  exact pm_retz rfl (by decide +kernel) rfl rfl rfl rfl
set_option maxHeartbeats 4000000 in
set_option maxRecDepth 100000 in
theorem cJ_length (l : Launch) (h0 : Nat) (D : pm_D) {M : pm_M} {i : Nat} (hi : i < 2) : pm_C l h0 D mJ_length 1 [.retAddr (D.2.1 i)] M (some (.int (nI (ks_len.getD i 0)))) M := by
  refine pm_met (by decide +kernel) (Nat.le_of_ble_eq_true rfl) (Nat.le_refl _) (Nat.le_refl _) ?_
  intro p e R s m args below meth c
  refine pm_alx (k := 0) (by decide +kernel) (i := 0) rfl rfl ?_
  refine pm_getx (idx := 9) (v := .retAddr (D.2.2 i)) (fun s h => (h.1.1.1 i hi).2.2.1) (pm_c5 118 rfl rfl) (by decide +kernel) ?_
  refine pm_alenx (fun s h => (h.1.1.1 i hi).2.2.2) (by decide +kernel) ?_
  refine pm_alx (k := 0) (by decide +kernel) (i := 0) rfl rfl ?_
  refine pm_cVx (idx := 335) mJ_coder hi (cJ_coder l h0 D hi) (As := []) (S0 := [.int (nI (ks_len.getD i 0))]) rfl (by decide +kernel) kJ_coder (pm_c1 67 rfl rfl) (pm_c1 68 rfl rfl) rfl (pm_c1 66 rfl rfl) (Nat.le_refl _) (Nat.le_of_ble_eq_true rfl) (Nat.le_refl _) (Nat.le_refl _) ?_
  refine pm_blk (pc' := 10) (L' := [(0, .retAddr (D.2.1 i))]) (S' := [.int (nI (ks_len.getD i 0) >>> ((0 : Int32) &&& 31))]) (M' := M) [pm_o .ishr] (by decide +kernel) rfl ?_
  exact pm_reti rfl (by decide +kernel) (sb_shr0 _) rfl rfl
set_option maxHeartbeats 4000000 in
set_option maxRecDepth 100000 in
theorem cJ_pre (l : Launch) (h0 : Nat) (D : pm_D) {M : pm_M} {j n : Nat} {w : Value} (hw : w = .null ∨ ∃ t, w = .retAddr t) (hj : j < n) (hn : n < 2 ^ 31) : pm_C l h0 D mJ_pre 0 [.int (nI j), .int (nI n), w] M (some (.int (nI j))) M := by
  have hl : (lg_sl [.int (nI j), .int (nI n), w]).length ≤ 3 := by rcases hw with rfl | ⟨t, rfl⟩ <;> exact Nat.le_of_ble_eq_true rfl
  refine pm_met (by decide +kernel) hl (Nat.le_refl _) (Nat.le_refl _) ?_
  intro p e R s m args below meth c
  refine pm_blk (pc' := 1) (L' := [(0, .int (nI j)), (1, .int (nI n)), (2, w)]) (S' := [.int (nI j)]) (M' := M) [pm_o (.iload_n 0)] (by decide +kernel) rfl ?_
  refine pm_if_lt (off := 8) 9 (by decide +kernel) (by decide) (fun hc => absurd hc (nI_pos (by omega))) (fun _ => ?_)
  refine pm_blk (pc' := 6) (L' := [(0, .int (nI j)), (1, .int (nI n)), (2, w)]) (S' := [.int (nI n), .int (nI j)]) (M' := M) [pm_o (.iload_n 0), pm_o (.iload_n 1)] (by decide +kernel) rfl ?_
  refine pm_ic_lt (off := 10) 16 (by decide +kernel) (by decide) (fun _ => ?_) (fun hc => absurd (nI_lt hj hn) hc)
  refine pm_blk (pc' := 17) (L' := [(0, .int (nI j)), (1, .int (nI n)), (2, w)]) (S' := [.int (nI j)]) (M' := M) [pm_o (.iload_n 0)] (by decide +kernel) rfl ?_
  exact pm_reti rfl (by decide +kernel) rfl rfl rfl
set_option maxHeartbeats 4000000 in
set_option maxRecDepth 100000 in
theorem cJ_check (l : Launch) (h0 : Nat) (D : pm_D) {M : pm_M} {j n : Nat} (hj : j < n) (hn : n < 2 ^ 31) : pm_C l h0 D mJ_check 1 [.int (nI j), .int (nI n)] M none M := by
  refine pm_met (by decide +kernel) (Nat.le_of_ble_eq_true rfl) (Nat.le_refl _) (Nat.le_refl _) ?_
  intro p e R s m args below meth c
  refine pm_blk (pc' := 2) (L' := [(0, .int (nI j)), (1, .int (nI n))]) (S' := [.int (nI n), .int (nI j)]) (M' := M) [pm_o (.iload_n 0), pm_o (.iload_n 1)] (by decide +kernel) rfl ?_
  have go : ∀ w : Value, (w = .null ∨ ∃ t, w = .retAddr t) → pm_V (p, l, e, R, s, m, args, below, meth, c) mJ_check h0 D (M.1.1, M.1.2.1, M.1.1, M.1.2.1, 1) (pm_E (p, l, e, R, s, m, args, below, meth, c) h0 D M none M) 5 [(0, .int (nI j)), (1, .int (nI n))] [w, .int (nI n), .int (nI j)] M := by
    intro w hw
    refine pm_cS (idx := 1059) mJ_pre (cJ_pre l h0 D hw hj hn) (As := [.int (nI j), .int (nI n), w]) (S0 := []) rfl (by decide +kernel) kJ_pre (pm_c1 88 rfl rfl) (Nat.le_refl _) (Nat.le_of_ble_eq_true rfl) (Nat.le_refl _) (Nat.le_refl _) ?_
    refine pm_blk (pc' := 9) (L' := [(0, .int (nI j)), (1, .int (nI n))]) (S' := []) (M' := M) [pm_o .pop] (by decide +kernel) rfl ?_
    exact pm_retv rfl (by decide +kernel) rfl rfl
  exact pm_getsq (idx := 1053) (fun s h => h.2.2.2.1) (pm_c1 86 rfl rfl) (by decide +kernel) (go .null (Or.inl rfl)) (fun t => go (.retAddr t) (Or.inr ⟨t, rfl⟩))
def ks_ch (i j : Nat) : Int32 := (((ks_byt.getD i []).getD j 0 &&& 255).toUInt32 % 65536).toInt32
set_option maxHeartbeats 4000000 in
set_option maxRecDepth 100000 in
theorem cJ_lcharAt (l : Launch) (h0 : Nat) (D : pm_D) {M : pm_M} {i j : Nat} (hi : i < 2) (hj : j < ks_len.getD i 0) : pm_C l h0 D mJ_lcharAt 2 [.retAddr (D.2.2 i), .int (nI j)] M (some (.int (ks_ch i j))) M := by
  have hlen : ks_len.getD i 0 < 2 ^ 31 := by
    rcases (show i = 0 ∨ i = 1 by omega) with rfl | rfl <;> decide
  refine pm_met (by decide +kernel) (Nat.le_of_ble_eq_true rfl) (Nat.le_refl _) (Nat.le_refl _) ?_
  intro p e R s m args below meth c
  refine pm_blk (pc' := 1) (L' := [(0, .retAddr (D.2.2 i)), (1, .int (nI j))]) (S' := [.int (nI j)]) (M' := M) [pm_o (.iload_n 1)] (by decide +kernel) rfl ?_
  refine pm_alx (k := 0) (by decide +kernel) (i := 0) rfl rfl ?_
  refine pm_alenx (fun s h => (h.1.1.1 i hi).2.2.2) (by decide +kernel) ?_
  refine pm_cS (idx := 9) mJ_check (cJ_check l h0 D hj hlen) (As := [.int (nI j), .int (nI (ks_len.getD i 0))]) (S0 := []) rfl (by decide +kernel) kJ_check (pm_c1 83 rfl rfl) (Nat.le_refl _) (Nat.le_of_ble_eq_true rfl) (Nat.le_refl _) (Nat.le_refl _) ?_
  refine pm_blk (pc' := 6) (L' := [(0, .retAddr (D.2.2 i)), (1, .int (nI j))]) (S' := []) (M' := M) [] (by decide +kernel) rfl ?_
  refine pm_alx (k := 0) (by decide +kernel) (i := 0) rfl rfl ?_
  refine pm_blk (pc' := 8) (L' := [(0, .retAddr (D.2.2 i)), (1, .int (nI j))]) (S' := [.int (nI j), .retAddr (D.2.2 i)]) (M' := M) [pm_o (.iload_n 1)] (by decide +kernel) rfl ?_
  refine pm_bldx (f := fun k => (ks_byt.getD i []).getD k 0) (fun s h => (h.1.1.1 i hi).2.2.2) (vp_in_nI hj hlen) (by decide +kernel) ?_
  rw [nI_clamp (by omega)]
  refine pm_blk (pc' := 13) (L' := [(0, .retAddr (D.2.2 i)), (1, .int (nI j))]) (S' := [.int ((ks_byt.getD i []).getD j 0 &&& 255)]) (M' := M) [pm_oi (.sipush 255) 255, pm_o .iand] (by decide +kernel) rfl ?_
  refine pm_i2c (by decide +kernel) ?_
  exact pm_retn rfl (by decide +kernel) (pk_nc _) rfl rfl rfl
set_option maxHeartbeats 4000000 in
set_option maxRecDepth 100000 in
theorem cJ_charAt (l : Launch) (h0 : Nat) (D : pm_D) {M : pm_M} {i j : Nat} (hi : i < 2) (hj : j < ks_len.getD i 0) : pm_C l h0 D mJ_charAt 3 [.retAddr (D.2.1 i), .int (nI j)] M (some (.int (ks_ch i j))) M := by
  refine pm_met (by decide +kernel) (Nat.le_of_ble_eq_true rfl) (Nat.le_refl _) (Nat.le_refl _) ?_
  intro p e R s m args below meth c
  refine pm_alx (k := 0) (by decide +kernel) (i := 0) rfl rfl ?_
  refine pm_cVx (idx := 492) mJ_latin hi (cJ_latin l h0 D hi) (As := []) (S0 := []) rfl (by decide +kernel) kJ_latin (pm_c1 77 rfl rfl) (pm_c1 78 rfl rfl) rfl (pm_c1 76 rfl rfl) (Nat.le_of_ble_eq_true rfl) (Nat.le_of_ble_eq_true rfl) (Nat.le_refl _) (Nat.le_refl _) ?_
  refine pm_if_eq (off := 12) 16 (by decide +kernel) (by decide) (fun hc => absurd hc (by decide)) (fun _ => ?_)
  refine pm_alx (k := 0) (by decide +kernel) (i := 0) rfl rfl ?_
  refine pm_getx (idx := 9) (v := .retAddr (D.2.2 i)) (fun s h => (h.1.1.1 i hi).2.2.1) (pm_c5 118 rfl rfl) (by decide +kernel) ?_
  refine pm_blk (pc' := 12) (L' := [(0, .retAddr (D.2.1 i)), (1, .int (nI j))]) (S' := [.int (nI j), .retAddr (D.2.2 i)]) (M' := M) [pm_o (.iload_n 1)] (by decide +kernel) rfl ?_
  refine pm_cS (idx := 495) mJ_lcharAt (cJ_lcharAt l h0 D hi hj) (As := [.retAddr (D.2.2 i), .int (nI j)]) (S0 := []) rfl (by decide +kernel) kJ_lcharAt (pm_c1 80 rfl rfl) (Nat.le_refl _) (Nat.le_of_ble_eq_true rfl) (Nat.le_refl _) (Nat.le_refl _) ?_
  refine pm_blk (pc' := 15) (L' := [(0, .retAddr (D.2.1 i)), (1, .int (nI j))]) (S' := [.int (ks_ch i j)]) (M' := M) [] (by decide +kernel) rfl ?_
  exact pm_retn rfl (by decide +kernel) (pk_nc _) rfl rfl rfl
theorem cJ_char (l : Launch) (h0 : Nat) (D : pm_D) {M : pm_M} {i n : Nat} {v : Int32} (hi : i < 2) (hn : ks_len.getD i 0 = n) (hv : pm_ok v n = true) : pm_C l h0 D mJ_charAt 3 [.retAddr (D.2.1 i), .int v] M (some (.int (ks_ch i v.toNatClampNeg))) M := by
  have hlen : n < 2 ^ 31 := by
    rw [← hn]
    rcases (show i = 0 ∨ i = 1 by omega) with rfl | rfl <;> decide
  obtain ⟨j, hj, rfl⟩ := vp_in_of (pm_ok_in hv) hlen
  rw [nI_clamp (by omega)]
  exact cJ_charAt l h0 D hi (by rw [hn]; exact hj)
