/-! calls -/
def pm_kB (y2 : pm_m) (n : Nat) : Prop := Cond.initialized y2.1.cls ∈ pm_tbl ∧ Cond.code y2.1 y2.2.1 y2.2.2.1 y2.2.2.2 ∈ pm_tbl ∧ y2.1.cls ≠ "java/lang/invoke/MethodHandle" ∧ y2.1.cls ≠ "java/lang/invoke/VarHandle" ∧ (parseMethodDescriptor y2.1.desc).map (fun d => d.parameters.length) = some n ∧ y2.2.2.1 ≤ 45
def pm_kV (y2 : pm_m) (ci n : Nat) : Prop := pm_kB y2 n ∧ Cond.instanceMethod y2.1 ∈ pm_tbl ∧ Cond.selects y2.1.cls y2.1 y2.1 ∈ pm_tbl ∧ ci < 100 ∧ pm_on ci = y2.1.cls
def pm_kI (y2 : pm_m) (n : Nat) : Prop := pm_kB y2 n ∧ Cond.instanceMethod y2.1 ∈ pm_tbl ∧ y2.1.name = "<init>"
def pm_kS (y2 : pm_m) (n : Nat) : Prop := pm_kB y2 n ∧ Cond.static y2.1 ∈ pm_tbl
def pm_kL (y : pm_m) (idx : Nat) (y2 : pm_m) : Prop := Cond.methodLink y.1.cls idx y2.1 ∈ pm_tbl
theorem pm_gin {y2 : pm_m} (h : Cond.code y2.1 y2.2.1 y2.2.2.1 y2.2.2.2 ∈ pm_tbl) : GoodIn pm_tbl (pm_w y2) := by
  have hg : ∀ w ∈ pm_tbl, w ∈ pm_tbl ∧ ((w.onTables && w.keeps) = true ∨ ∃ ty, w = .arrayClass ty) := fun w hw => ⟨hw, good_of_word (List.all_eq_true.mp pm_tbl_good w hw)⟩
  intro w hw
  rcases List.mem_cons.mp hw with rfl | hw
  · exact hg _ h
  · exact hg w hw
theorem pm_blind {h0 : Nat} {D : pm_D} {As : List Value} {M : pm_M} : FrameBlind (pm_P h0 D As M) := by
  intro a U g mk h
  obtain ⟨h1, h2, h3, h4, h5⟩ := h
  exact ⟨h1, h2.moved (U := U.calling g mk a) (Vm.Alike.refl U.vm), va_K.moved (u := U) (U := U.calling g mk a) (Vm.Alike.refl U.vm) h3, fun q hq => va_Nw.same (U := U.calling g mk a) rfl rfl (h4 q hq), pm_KS.same (U := U.calling g mk a) rfl rfl h5⟩
section PMC
variable {p : Program} {l : Launch} {e : Env} {R : Room} {s : State} {m : MethodId} {args : Array Value} {below : List Frame} {meth : Method} {c : Code} {y : pm_m} {h0 : Nat} {D : pm_D} {b : pm_b} {Q : State → Prop} {pc : Nat} {L : List (Nat × Value)} {S : List Value} {M M1 : pm_M}
theorem pm_after {H : Heap} {locs : List Loc} {cells slots mc ms : Nat} {ls : Array Slot} {st0 rest : List Value} {a : Array Value} {r : Option Value} (hr : va_Run p l e R s m args below meth c H locs cells slots mc ms (F0 m pc ls st0) rest (pm_Q h0 D r M1 a) (fun q => h0 ≤ q)) (hF : ∀ q, q < h0 → H[q]? = s.heap[q]?) (hlo : ∀ z ∈ locs, h0 ≤ z.base)
    (kk : ∀ (H1 : Heap) (locs1 : List Loc), pm_R s h0 D M1 H1 → (∀ q, q < h0 → H1[q]? = s.heap[q]?) → (∀ z ∈ locs1, h0 ≤ z.base) → W p l e R s m args below meth c H1 locs1 (cells + mc) (slots + ms) Q (F0 m (pc + 3) ls ((r.map (pm_cv h0)).toList ++ rest))) : W p l e R s m args below meth c H locs cells slots Q (F0 m pc ls st0) := by
  intro T hT X
  obtain ⟨v, st₀, t, T', L', g0, X', hL', e1, e2, ⟨hv, hR, hk⟩, st⟩ := hr T hT X
  cases hv
  have hvm : s.vm.Alike t.vm := by rw [← e2]; exact X'.warmed.alike
  obtain ⟨t2, a1, b1⟩ := kk T'.heap (locs ++ L') (by rw [e1]; exact hR.moved hvm.symm) (fun q hq => by rw [e1, hk q hq, g0]; exact hF q hq) (fun z hz => by
    rcases List.mem_append.mp hz with h | h
    · exact hlo z h
    · exact hL' z h) T' rfl X'
  exact ⟨t2, st t2 a1, b1⟩
theorem pm_cat (h0 : Nat) {S : List Value} (hS : (S.map fun v => v.category).sum ≤ 8) : ((S.map (pm_cv h0)).map fun v => v.category).sum ≤ 8 := by
  rw [List.map_map]
  have : ((fun v : Value => v.category) ∘ pm_cv h0) = fun v => v.category := funext fun v => pm_cv_cat h0 v
  rw [this]; exact hS
theorem pm_tol (h0 : Nat) (r : Option Value) (S : List Value) : (r.map (pm_cv h0)).toList ++ S.map (pm_cv h0) = (r.toList ++ S).map (pm_cv h0) := by cases r <;> simp
theorem pm_room {R : Room} {d d2 n : Nat} (h1 : d ≤ R.frames) (h2 : 64 * d ≤ R.locals) (h3 : d2 + 1 ≤ d) (h4 : n ≤ 45) : d2 + 1 ≤ R.frames ∧ 8 + (n + 11) + 64 * d2 ≤ R.locals := ⟨by omega, by omega⟩
theorem pm_pre {H : Heap} {As : List Value} (hR : pm_R s h0 D M H) (hK : pm_K h0 D s) (hF : ∀ q, q < h0 → H[q]? = s.heap[q]?) : ∀ U : State, U.heap = H → s.WarmedH U.vm → pm_P h0 D As M (As.map (pm_cv h0)).toArray U := fun U hU hW => ⟨rfl, by rw [hU]; exact hR.moved hW.alike, hK.warm hW (fun q hq => by rw [hU]; exact hF q hq)⟩
theorem pm_cV (y2 : pm_m) {d2 idx : Nat} {a : Nat} {As S0 : List Value} {r : Option Value} (hC : pm_C l h0 D y2 d2 (.ref a :: As) M r M1) (hS : S = As.reverse ++ .ref a :: S0) (hd : decode y.2.1 pc = .ok (.invokevirtual idx, 3)) (hk : pm_kV y2 (M.1.2.2.1 a) As.length) (hln : pm_kL y idx y2) (hd2 : d2 + 1 ≤ b.2.2.2.2) (hW : (S0.map fun v => v.category).sum ≤ 8) (hn1 : M1.1.1 ≤ b.2.2.1) (hz1 : M1.1.2.1 ≤ b.2.2.2.1) (kk : pm_V (p, l, e, R, s, m, args, below, meth, c) y h0 D b Q (pc + 3) L (r.toList ++ S0) M1) : pm_V (p, l, e, R, s, m, args, below, meth, c) y h0 D b Q pc L S M := by
  intro X H locs ls hR hF hlo hL hn hz
  obtain ⟨X1, X2, X3, X4, X5, X6, X7, X8, X9, X10, X11, X12, X13⟩ := id X
  obtain ⟨C1, C2, C3⟩ := hC
  obtain ⟨⟨k1, k2, k3, k4, k5, k6⟩, k7, k8, k9, k10⟩ := hk
  have hln := X5 _ hln
  have hrm := pm_room X12 X13 hd2 k6
  subst hS
  have hrc : ∃ cellB : Cell, H[h0 + a]? = some cellB ∧ cellB.vm.isStatics = false ∧ s.vm.findClass y2.1.cls = some cellB.cls := by
    obtain ⟨q, h1, cell, g1, g2, g3, -⟩ := (hR.2.1 a (by omega)).2.1 k9
    refine ⟨cell, g1, by rw [g3]; rfl, ?_⟩
    have h2 := (X6.1.1 _ q h1).2.1
    rw [g2, ← k10]
    unfold pm_on
    rw [h1]
    exact h2
  refine pm_after (va_runV (As := As.map (pm_cv h0)) (rest := S0.map (pm_cv h0)) ⟨X1, X2, X3, X4, X5⟩ C3 ⟨callB_of As.length X5 (pm_gin k2) rfl rfl rfl (X5 _ k1) hln ⟨k3, k4, k5⟩ hrm, X5 _ k7, X5 _ k8⟩ ⟨pm_blind, hrc, pm_pre (As := .ref a :: As) hR X6 hF⟩ rfl (by simp) hL.1 (by simp [pm_cv]) (lv_room (pm_cat h0 hW)) hd ⟨by omega, by omega⟩) hF hlo (fun H1 locs1 hR1 hF1 hlo1 => ?_)
  have h9 := kk X H1 locs1 ls hR1 hF1 hlo1 hL (Nat.le_trans hn C1) (Nat.le_trans hz C2)
  rw [pm_tol]
  have c1 : M1.1.1 - b.1 = M.1.1 - b.1 + (M1.1.1 - M.1.1) := by omega
  have c2 : M1.1.2.1 - b.2.1 = M.1.2.1 - b.2.1 + (M1.1.2.1 - M.1.2.1) := by omega
  rw [c1, c2] at h9
  exact h9
theorem pm_cVN (y2 : pm_m) {d2 idx : Nat} {a : Nat} {As S0 : List Value} {r : Option Value} (hC : pm_C l h0 D y2 d2 (.ref a :: As) M r M1) (hS : S = As.reverse ++ .ref a :: S0) (hd : decode y.2.1 pc = .ok (.invokevirtual idx, 3)) (hk : pm_kV y2 (M.1.2.2.1 a) As.length) (host : String) (hln : (y.1.cls, idx, y2.1, host) ∈ pm_nestM) (hd2 : d2 + 1 ≤ b.2.2.2.2) (hW : (S0.map fun v => v.category).sum ≤ 8) (hn1 : M1.1.1 ≤ b.2.2.1) (hz1 : M1.1.2.1 ≤ b.2.2.2.1) (kk : pm_V (p, l, e, R, s, m, args, below, meth, c) y h0 D b Q (pc + 3) L (r.toList ++ S0) M1) : pm_V (p, l, e, R, s, m, args, below, meth, c) y h0 D b Q pc L S M := by
  intro X H locs ls hR hF hlo hL hn hz
  obtain ⟨X1, X2, X3, X4, X5, X6, X7, X8, X9, X10, X11, X12, X13⟩ := id X
  obtain ⟨C1, C2, C3⟩ := hC
  obtain ⟨⟨k1, k2, k3, k4, k5, k6⟩, k7, k8, k9, k10⟩ := hk
  have hln := X6.2.1 _ hln
  have hrm := pm_room X12 X13 hd2 k6
  subst hS
  have hrc : ∃ cellB : Cell, H[h0 + a]? = some cellB ∧ cellB.vm.isStatics = false ∧ s.vm.findClass y2.1.cls = some cellB.cls := by
    obtain ⟨q, h1, cell, g1, g2, g3, -⟩ := (hR.2.1 a (by omega)).2.1 k9
    refine ⟨cell, g1, by rw [g3]; rfl, ?_⟩
    have h2 := (X6.1.1 _ q h1).2.1
    rw [g2, ← k10]
    unfold pm_on
    rw [h1]
    exact h2
  refine pm_after (va_runVN (As := As.map (pm_cv h0)) (rest := S0.map (pm_cv h0)) ⟨X1, X2, X3, X4, X5⟩ C3 ⟨va_cnB As.length X5 (pm_gin k2) rfl rfl rfl hln (X5 _ k1) ⟨k3, k4, k5⟩ hrm, X5 _ k7, X5 _ k8⟩ ⟨pm_blind, hrc, pm_pre (As := .ref a :: As) hR X6 hF⟩ rfl (by simp) hL.1 (by simp [pm_cv]) (lv_room (pm_cat h0 hW)) hd ⟨by omega, by omega⟩) hF hlo (fun H1 locs1 hR1 hF1 hlo1 => ?_)
  have h9 := kk X H1 locs1 ls hR1 hF1 hlo1 hL (Nat.le_trans hn C1) (Nat.le_trans hz C2)
  rw [pm_tol]
  have c1 : M1.1.1 - b.1 = M.1.1 - b.1 + (M1.1.1 - M.1.1) := by omega
  have c2 : M1.1.2.1 - b.2.1 = M.1.2.1 - b.2.1 + (M1.1.2.1 - M.1.2.1) := by omega
  rw [c1, c2] at h9
  exact h9
theorem pm_cS (y2 : pm_m) {d2 idx : Nat} {As S0 : List Value} {r : Option Value} (hC : pm_C l h0 D y2 d2 As M r M1) (hS : S = As.reverse ++ S0) (hd : decode y.2.1 pc = .ok (.invokestatic idx, 3)) (hk : pm_kS y2 As.length) (hln : pm_kL y idx y2) (hd2 : d2 + 1 ≤ b.2.2.2.2) (hW : (S0.map fun v => v.category).sum ≤ 8) (hn1 : M1.1.1 ≤ b.2.2.1) (hz1 : M1.1.2.1 ≤ b.2.2.2.1) (kk : pm_V (p, l, e, R, s, m, args, below, meth, c) y h0 D b Q (pc + 3) L (r.toList ++ S0) M1) : pm_V (p, l, e, R, s, m, args, below, meth, c) y h0 D b Q pc L S M := by
  intro X H locs ls hR hF hlo hL hn hz
  obtain ⟨X1, X2, X3, X4, X5, X6, X7, X8, X9, X10, X11, X12, X13⟩ := id X
  obtain ⟨C1, C2, C3⟩ := hC
  obtain ⟨⟨k1, k2, k3, k4, k5, k6⟩, k7⟩ := hk
  have hln := X5 _ hln
  have hrm := pm_room X12 X13 hd2 k6
  subst hS
  refine pm_after (va_runS (As := As.map (pm_cv h0)) (rest := S0.map (pm_cv h0)) ⟨X1, X2, X3, X4, X5⟩ C3 ⟨callB_of As.length X5 (pm_gin k2) rfl rfl rfl (X5 _ k1) hln ⟨k3, k4, k5⟩ hrm, X5 _ k7⟩ ⟨pm_blind, pm_pre (As := As) hR X6 hF⟩ rfl (by simp) hL.1 (by simp [pm_cv]) (lv_room (pm_cat h0 hW)) hd ⟨by omega, by omega⟩) hF hlo (fun H1 locs1 hR1 hF1 hlo1 => ?_)
  have h9 := kk X H1 locs1 ls hR1 hF1 hlo1 hL (Nat.le_trans hn C1) (Nat.le_trans hz C2)
  rw [pm_tol]
  have c1 : M1.1.1 - b.1 = M.1.1 - b.1 + (M1.1.1 - M.1.1) := by omega
  have c2 : M1.1.2.1 - b.2.1 = M.1.2.1 - b.2.1 + (M1.1.2.1 - M.1.2.1) := by omega
  rw [c1, c2] at h9
  exact h9
theorem pm_cSN (y2 : pm_m) {d2 idx : Nat} {As S0 : List Value} {r : Option Value} (hC : pm_C l h0 D y2 d2 As M r M1) (hS : S = As.reverse ++ S0) (hd : decode y.2.1 pc = .ok (.invokestatic idx, 3)) (hk : pm_kS y2 As.length) (host : String) (hln : (y.1.cls, idx, y2.1, host) ∈ pm_nestM) (hd2 : d2 + 1 ≤ b.2.2.2.2) (hW : (S0.map fun v => v.category).sum ≤ 8) (hn1 : M1.1.1 ≤ b.2.2.1) (hz1 : M1.1.2.1 ≤ b.2.2.2.1) (kk : pm_V (p, l, e, R, s, m, args, below, meth, c) y h0 D b Q (pc + 3) L (r.toList ++ S0) M1) : pm_V (p, l, e, R, s, m, args, below, meth, c) y h0 D b Q pc L S M := by
  intro X H locs ls hR hF hlo hL hn hz
  obtain ⟨X1, X2, X3, X4, X5, X6, X7, X8, X9, X10, X11, X12, X13⟩ := id X
  obtain ⟨C1, C2, C3⟩ := hC
  obtain ⟨⟨k1, k2, k3, k4, k5, k6⟩, k7⟩ := hk
  have hln := X6.2.1 _ hln
  have hrm := pm_room X12 X13 hd2 k6
  subst hS
  refine pm_after (va_runSN (As := As.map (pm_cv h0)) (rest := S0.map (pm_cv h0)) ⟨X1, X2, X3, X4, X5⟩ C3 ⟨va_cnB As.length X5 (pm_gin k2) rfl rfl rfl hln (X5 _ k1) ⟨k3, k4, k5⟩ hrm, X5 _ k7, trivial⟩ ⟨pm_blind, pm_pre (As := As) hR X6 hF⟩ rfl (by simp) hL.1 (by simp [pm_cv]) (lv_room (pm_cat h0 hW)) hd ⟨by omega, by omega⟩) hF hlo (fun H1 locs1 hR1 hF1 hlo1 => ?_)
  have h9 := kk X H1 locs1 ls hR1 hF1 hlo1 hL (Nat.le_trans hn C1) (Nat.le_trans hz C2)
  rw [pm_tol]
  have c1 : M1.1.1 - b.1 = M.1.1 - b.1 + (M1.1.1 - M.1.1) := by omega
  have c2 : M1.1.2.1 - b.2.1 = M.1.2.1 - b.2.1 + (M1.1.2.1 - M.1.2.1) := by omega
  rw [c1, c2] at h9
  exact h9
theorem pm_cI (y2 : pm_m) {d2 idx : Nat} {a : Nat} {As S0 : List Value} {r : Option Value} (hC : pm_C l h0 D y2 d2 (.ref a :: As) M r M1) (hS : S = As.reverse ++ .ref a :: S0) (hd : decode y.2.1 pc = .ok (.invokespecial idx, 3)) (hnone : y2.2.2.2 = none) (hk : pm_kI y2 As.length) (hln : pm_kL y idx y2) (hd2 : d2 + 1 ≤ b.2.2.2.2) (hW : (S0.map fun v => v.category).sum ≤ 8) (hn1 : M1.1.1 ≤ b.2.2.1) (hz1 : M1.1.2.1 ≤ b.2.2.2.1) (kk : pm_V (p, l, e, R, s, m, args, below, meth, c) y h0 D b Q (pc + 3) L (r.toList ++ S0) M1) : pm_V (p, l, e, R, s, m, args, below, meth, c) y h0 D b Q pc L S M := by
  intro X H locs ls hR hF hlo hL hn hz
  obtain ⟨X1, X2, X3, X4, X5, X6, X7, X8, X9, X10, X11, X12, X13⟩ := id X
  obtain ⟨C1, C2, C3⟩ := hC
  obtain ⟨⟨k1, k2, k3, k4, k5, k6⟩, k7, k8⟩ := hk
  have hln := X5 _ hln
  have hrm := pm_room X12 X13 hd2 k6
  subst hS
  obtain ⟨yn, yc, yl, yr⟩ := y2
  have hyr : yr = none := hnone
  subst hyr
  refine pm_after (va_runI (As := As.map (pm_cv h0)) (rest := S0.map (pm_cv h0)) ⟨X1, X2, X3, X4, X5⟩ C3 ⟨callB_of As.length X5 (pm_gin k2) rfl rfl rfl (X5 _ k1) hln ⟨k3, k4, k5⟩ hrm, k8, X5 _ k7⟩ ⟨pm_blind, pm_pre (As := .ref a :: As) hR X6 hF⟩ rfl (by simp) hL.1 (by simp [pm_cv]) (lv_room (pm_cat h0 hW)) hd ⟨by omega, by omega⟩) hF hlo (fun H1 locs1 hR1 hF1 hlo1 => ?_)
  have h9 := kk X H1 locs1 ls hR1 hF1 hlo1 hL (Nat.le_trans hn C1) (Nat.le_trans hz C2)
  rw [pm_tol]
  have c1 : M1.1.1 - b.1 = M.1.1 - b.1 + (M1.1.1 - M.1.1) := by omega
  have c2 : M1.1.2.1 - b.2.1 = M.1.2.1 - b.2.1 + (M1.1.2.1 - M.1.2.1) := by omega
  rw [c1, c2] at h9
  exact h9
theorem pm_cIN (y2 : pm_m) {d2 idx : Nat} {a : Nat} {As S0 : List Value} {r : Option Value} (hC : pm_C l h0 D y2 d2 (.ref a :: As) M r M1) (hS : S = As.reverse ++ .ref a :: S0) (hd : decode y.2.1 pc = .ok (.invokespecial idx, 3)) (hnone : y2.2.2.2 = none) (hk : pm_kI y2 As.length) (host : String) (hln : (y.1.cls, idx, y2.1, host) ∈ pm_nestM) (hd2 : d2 + 1 ≤ b.2.2.2.2) (hW : (S0.map fun v => v.category).sum ≤ 8) (hn1 : M1.1.1 ≤ b.2.2.1) (hz1 : M1.1.2.1 ≤ b.2.2.2.1) (kk : pm_V (p, l, e, R, s, m, args, below, meth, c) y h0 D b Q (pc + 3) L (r.toList ++ S0) M1) : pm_V (p, l, e, R, s, m, args, below, meth, c) y h0 D b Q pc L S M := by
  intro X H locs ls hR hF hlo hL hn hz
  obtain ⟨X1, X2, X3, X4, X5, X6, X7, X8, X9, X10, X11, X12, X13⟩ := id X
  obtain ⟨C1, C2, C3⟩ := hC
  obtain ⟨⟨k1, k2, k3, k4, k5, k6⟩, k7, k8⟩ := hk
  have hln := X6.2.1 _ hln
  have hrm := pm_room X12 X13 hd2 k6
  subst hS
  obtain ⟨yn, yc, yl, yr⟩ := y2
  have hyr : yr = none := hnone
  subst hyr
  refine pm_after (va_runIN (As := As.map (pm_cv h0)) (rest := S0.map (pm_cv h0)) ⟨X1, X2, X3, X4, X5⟩ C3 ⟨va_cnB As.length X5 (pm_gin k2) rfl rfl rfl hln (X5 _ k1) ⟨k3, k4, k5⟩ hrm, k8, X5 _ k7⟩ ⟨pm_blind, pm_pre (As := .ref a :: As) hR X6 hF⟩ rfl (by simp) hL.1 (by simp [pm_cv]) (lv_room (pm_cat h0 hW)) hd ⟨by omega, by omega⟩) hF hlo (fun H1 locs1 hR1 hF1 hlo1 => ?_)
  have h9 := kk X H1 locs1 ls hR1 hF1 hlo1 hL (Nat.le_trans hn C1) (Nat.le_trans hz C2)
  rw [pm_tol]
  have c1 : M1.1.1 - b.1 = M.1.1 - b.1 + (M1.1.1 - M.1.1) := by omega
  have c2 : M1.1.2.1 - b.2.1 = M.1.2.1 - b.2.1 + (M1.1.2.1 - M.1.2.1) := by omega
  rw [c1, c2] at h9
  exact h9
end PMC
