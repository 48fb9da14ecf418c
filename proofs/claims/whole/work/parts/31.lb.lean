/-! the law's loop, over the pure step -/
def lrunC (N : Nat) (xs : Nat → Int32) : List Nat → Nat → pm_s → pm_J → Option (pm_s × pm_J)
  | [], _, g, u => some (g, u)
  | M :: Ms, j, g, u => (LC N M (xs (4 * j)) (xs (4 * j + 1)) (xs (4 * j + 2)) (xs (4 * j + 3)) g u).bind fun o => if sh_Tb o.2.1 = true then lrunC N xs Ms (j + 1) o.2.1 o.2.2 else none
theorem lrunC_mono {N : Nat} {xs : Nat → Int32} (Ms : List Nat) : ∀ (j : Nat) (g : pm_s) (u : pm_J) (out : pm_s × pm_J), lrunC N xs Ms j g u = some out → g.1 ≤ out.1.1 ∧ g.2.1 ≤ out.1.2.1 := by
  induction Ms with
  | nil => intro j g u out h; cases h; exact ⟨Nat.le_refl _, Nat.le_refl _⟩
  | cons M Ms ih =>
    intro j g u out h
    obtain ⟨o, ho, h⟩ := pm_bd h
    obtain ⟨-, h⟩ := pm_ifs h
    have h1 := ih _ _ _ _ h
    unfold LC at ho
    have h2 := (pm_Ss ho).2
    exact ⟨Nat.le_trans h2.1 h1.1, Nat.le_trans h2.2 h1.2⟩
section LWLC
variable {p : Program} {l : Launch} {e : Env} {R : Room} {s : State} {m : MethodId} {below : List Frame} {meth : Method} {c : Code} {h0 : Nat} {D : pm_D} {b L : Nat} {xs : Nat → Int32}
set_option maxHeartbeats 1000000 in
theorem lw_loopC (hfl : l.flags = pinnedFlags ++ [noTraceFlag]) (hh : h0 = s.heap.size) (hX : va_X b L xs s s.heap) (hb : b < h0) (hL : L ≤ 2048) {N : Nat} {out : pm_s × pm_J} (ho1 : out.1.1 ≤ 601024) (ho2 : out.1.2.1 ≤ 7293034) (Ms : List Nat) : ∀ (j : Nat) (g : pm_s) (u : pm_J), sh_T g → j + Ms.length = L / 4 → lrunC N xs Ms j g u = some out →
    pm_V (p, l, e, room_1, s, m, #[Value.ref b], below, meth, c) m_Law_law h0 D (0, 0, 601024, 7293034, 248) (lw_Z below #[Value.ref b] s) 23 [(4, .int (nI (4 * j))), (3, .ref 139), (2, .ref 64), (1, .ref 0), (0, .retAddr b)] [] (sm g u) := by
  induction Ms with
  | nil =>
    intro j g u hT hj h
    have hj : j = L / 4 := hj
    cases h
    refine pm_blk (pc' := 25) (L' := [(4, .int (nI (4 * j))), (3, .ref 139), (2, .ref 64), (1, .ref 0), (0, .retAddr b)]) (S' := [.int (nI (4 * j))]) (M' := sm g u) [pm_o (.iload 4)] (by decide +kernel) rfl ?_
    refine pm_alx (k := 0) (i := 0) (q := b) (by decide +kernel) rfl rfl ?_
    refine pm_xalen (by decide +kernel) hX hb ?_
    refine pm_blk (pc' := 29) (L' := [(4, .int (nI (4 * j))), (3, .ref 139), (2, .ref 64), (1, .ref 0), (0, .retAddr b)]) (S' := [.int (L.toInt32 - 4), .int (nI (4 * j))]) (M' := sm g u) [pm_oi (.iconst 4) 4, pm_o .isub] (by decide +kernel) rfl ?_
    refine pm_ic_gt (off := 584) 613 (by decide +kernel) (by decide) (fun hc => ?_) (fun hc => ?_)
    · refine pm_blk (pc' := 614) (L' := [(4, .int (nI (4 * j))), (3, .ref 139), (2, .ref 64), (1, .ref 0), (0, .retAddr b)]) (S' := [.int 1]) (M' := sm g u) [pm_oi (.iconst 1) 1] (by decide +kernel) rfl ?_
      exact pm_lawret hh ho1 ho2
    · exact absurd ((lw_gt hL (by omega)).mpr (by omega)) hc
  | cons M Ms ih =>
    intro j g u hT hj h
    have hj : j + (Ms.length + 1) = L / 4 := hj
    obtain ⟨o, ho, h⟩ := pm_bd h
    obtain ⟨hTb, h⟩ := pm_ifs h
    have hm := lrunC_mono _ _ _ _ _ h
    refine pm_blk (pc' := 25) (L' := [(4, .int (nI (4 * j))), (3, .ref 139), (2, .ref 64), (1, .ref 0), (0, .retAddr b)]) (S' := [.int (nI (4 * j))]) (M' := sm g u) [pm_o (.iload 4)] (by decide +kernel) rfl ?_
    refine pm_alx (k := 0) (i := 0) (q := b) (by decide +kernel) rfl rfl ?_
    refine pm_xalen (by decide +kernel) hX hb ?_
    refine pm_blk (pc' := 29) (L' := [(4, .int (nI (4 * j))), (3, .ref 139), (2, .ref 64), (1, .ref 0), (0, .retAddr b)]) (S' := [.int (L.toInt32 - 4), .int (nI (4 * j))]) (M' := sm g u) [pm_oi (.iconst 4) 4, pm_o .isub] (by decide +kernel) rfl ?_
    refine pm_ic_gt (off := 584) 613 (by decide +kernel) (by decide) (fun hc => ?_) (fun hc => ?_)
    · exact absurd ((lw_gt hL (by omega)).mp hc) (by omega)
    · have i0 : vp_in (nI (4 * j)) L ∧ xs (nI (4 * j)).toNatClampNeg = xs (4 * j) := ⟨nI_in (by omega) (by omega), by rw [nI_clamp (by omega)]⟩
      refine w_LC hfl h0 D hT hX hb i0 (lw_idx hL (k := 1) (by omega) (by decide)) (lw_idx hL (k := 2) (by omega) (by decide)) (lw_idx hL (k := 3) (by omega) (by decide)) (Nat.le_trans hm.1 ho1) (Nat.le_trans hm.2 ho2) ho ?_
      refine pm_blk (pc' := 610) (L' := [(4, .int (nI (4 * j) + 4)), (3, .ref 139), (2, .ref 64), (1, .ref 0), (0, .retAddr b)]) (S' := []) (M' := sm o.2.1 o.2.2) [pm_oi (.iinc 4 4) 4] (by decide +kernel) rfl ?_
      refine pm_goto (off := -587) 23 (by decide +kernel) (by decide) ?_
      have e4 : nI (4 * j) + 4 = nI (4 * (j + 1)) := by
        have h9 := nI_add (4 * j) 4
        rw [show 4 * (j + 1) = 4 * j + 4 by omega, ← h9]
        rfl
      rw [e4]
      exact ih (j + 1) _ _ (sh_Tb_s hTb) (by omega) h
end LWLC
/-- THE PURE STATEMENT: on every script both answer alike, within the room -/
def lw_pureC : Prop := ∀ (xs : Nat → Int32) (k : Nat), k ≤ 512 → ∃ (N : Nat) (Ms : List Nat) (uN : pm_J) (out : pm_s × pm_J), Ms.length = k ∧ F_Md_noTypes N (0, 0, 0, 0) ua_54 = some uN ∧ (∀ i, uN.1 139 i = 0 ∧ uN.2 139 i = 0) ∧ lrunC N xs Ms 0 (140, 1225794, 11, 2048) uN = some out ∧ out.1.1 ≤ 601024 ∧ out.1.2.1 ≤ 7293034
set_option maxHeartbeats 1000000 in
theorem whole_startC (hP : lw_pureC) {p : Program} {e : Env} {s : State} {m : MethodId} {below : List Frame} {meth : Method} {c : Code} {l : Launch} (hfl : l.flags = pinnedFlags ++ [noTraceFlag]) {b L : Nat} {xs : Nat → Int32} (hL : L ≤ 2048) (C0 : lw_At p s m meth c b L xs) : W p l e room_1 s m #[Value.ref b] below meth c s.heap [] 0 0 (lw_Z below #[Value.ref b] s) (entryFrame m ([Value.ref b] : List Value).toArray 7) := by
  obtain ⟨A1, A2, A3, A4, A5, A6, A7, A8, A9, A10, A11⟩ := C0
  obtain ⟨D, hK⟩ := lw_K A6 A10
  obtain ⟨N, Ms, uN, out, hMs, hN, hu, hrun, ho1, ho2⟩ := hP xs (L / 4) (by omega)
  have hlv := lv_entry ([Value.retAddr b].map (pm_cv s.heap.size)) (n := 7) (Nat.le_of_ble_eq_true rfl)
  rw [pm_args_map] at hlv
  have key : pm_V (p, l, e, room_1, s, m, #[Value.ref b], below, meth, c) m_Law_law s.heap.size D (0, 0, 601024, 7293034, 248) (lw_Z below #[Value.ref b] s) 0 (lv_args 0 [Value.retAddr b]) [] (cm 0 0 rf_0 ua_0) := by
    refine pm_new 0 (idx := 8) (q := ("BoxedCore", cl_BC, 14)) (by decide +kernel) rfl (by decide) (pm_c1 32 rfl rfl) (pm_c1 33 rfl rfl) (pm_c1 1 rfl rfl) (Nat.le_of_ble_eq_true rfl) (Nat.le_of_ble_eq_true rfl) (by decide +kernel) ?_
    refine pm_weak (M' := cm 1 14 rf_0 ua_0) rfl rfl (fun _ _ h => cm_na rfl (fun h => absurd h (by decide)) (fun _ => rfl) (fun _ => rfl) (fun _ => rfl) h) ?_
    refine pm_blk (pc' := 4) (L' := [(0, .retAddr b)]) (S' := [.ref 0, .ref 0]) (M' := cm 1 14 rf_0 ua_0) [pm_o .dup] (by decide +kernel) rfl ?_
    refine pm_cI (idx := 35) m_BC_init (ci_BC_init l s.heap.size D) (As := []) (S0 := [.ref 0]) rfl (by decide +kernel) rfl k_BC_init l_Law_35 (Nat.le_of_ble_eq_true rfl) (Nat.le_of_ble_eq_true rfl) (Nat.le_of_ble_eq_true rfl) (Nat.le_of_ble_eq_true rfl) ?_
    refine pm_blk (pc' := 8) (L' := [(1, .ref 0), (0, .retAddr b)]) (S' := []) (M' := cm 64 126250 rf_80 ua_40) [pm_o (.astore_n 1)] (by decide +kernel) rfl ?_
    refine pm_new 12 (idx := 36) (q := ("BoxedCoreModel", cl_Md, 119)) (by decide +kernel) rfl (by decide) (pm_c8 48 rfl rfl) (pm_c8 49 rfl rfl) (pm_c1 18 rfl rfl) (Nat.le_of_ble_eq_true rfl) (Nat.le_of_ble_eq_true rfl) (by decide +kernel) ?_
    refine pm_weak (M' := cm 65 126369 rf_80 ua_40) rfl rfl (fun _ _ h => cm_na rfl (fun h => absurd h (by decide)) (fun _ => rfl) (fun _ => rfl) (fun _ => rfl) h) ?_
    refine pm_blk (pc' := 12) (L' := [(1, .ref 0), (0, .retAddr b)]) (S' := [.ref 64, .ref 64]) (M' := cm 65 126369 rf_80 ua_40) [pm_o .dup] (by decide +kernel) rfl ?_
    refine pm_cI (idx := 38) m_Md_init (ci_Md_init l s.heap.size D hN) (As := []) (S0 := [.ref 64]) rfl (by decide +kernel) rfl k_Md_init l_Law_38 (Nat.le_of_ble_eq_true rfl) (Nat.le_of_ble_eq_true rfl) (show 139 ≤ 601024 from Nat.le_of_ble_eq_true rfl) (show 1225793 ≤ 7293034 from Nat.le_of_ble_eq_true rfl) ?_
    refine pm_blk (pc' := 17) (L' := [(2, .ref 64), (1, .ref 0), (0, .retAddr b)]) (S' := [.int 1]) (M' := cm 139 1225793 rf_154 uN) [pm_o (.astore_n 2), pm_oi (.iconst 1) 1] (by decide +kernel) rfl ?_
    refine pm_newj 1 (by decide +kernel) (pm_c1 54 rfl rfl) (by decide) (by decide) (Nat.le_of_ble_eq_true rfl) (show 140 ≤ 601024 from Nat.le_of_ble_eq_true rfl) (show 1225794 ≤ 7293034 from Nat.le_of_ble_eq_true rfl) ?_
    refine pm_weak (M' := cm 140 1225794 rf_154 uN) rfl rfl (fun _ _ h => cm_na rfl (fun _ => rfl) (fun _ => rfl) (fun k => (hu k).1) (fun k => (hu k).2) h) ?_
    refine pm_weak (M' := sm (140, 1225794, 11, 2048) uN) rfl rfl (fun _ _ h => cm_fin h) ?_
    refine pm_blk (pc' := 23) (L' := [(4, .int (nI (4 * 0))), (3, .ref 139), (2, .ref 64), (1, .ref 0), (0, .retAddr b)]) (S' := []) (M' := sm (140, 1225794, 11, 2048) uN) [pm_o (.astore_n 3), pm_oi (.iconst 0) 0, pm_o (.istore 4)] (by decide +kernel) rfl ?_
    exact lw_loopC hfl rfl A7 A8 hL ho1 ho2 Ms 0 _ _ (Or.inl ⟨rfl, rfl⟩) (by omega) hrun
  have h9 := key ⟨A1, A2, A4, A5, fun w hw => A6 w (pm_lw hw), hK, A9, A3, A11, rfl, rfl, by decide, by decide⟩ s.heap [] _ ⟨rfl, fun a ha => absurd ha (by show ¬ (999 < 999); decide), fun q c hq hc => absurd (Array.getElem?_eq_some_iff.mp hc).1 (by omega)⟩ (fun _ _ => rfl) (fun _ h => by cases h) hlv (Nat.le_refl _) (Nat.le_refl _)
  rw [lg_entry_eq]
  exact h9

set_option maxHeartbeats 4000000 in
theorem lw_walkC (hP9 : lw_pureC) {l : Launch} (hfl : l.flags = pinnedFlags ++ [noTraceFlag]) (b : Addr) (xs : List Int32) : MetFree l x (headSpec (Jvm.Cond.code x code maxLocals ret :: tables_1) room_1) (lw_P b xs) (fun _ _ _ _ _ => True) lw_Q := by
  refine MetFree.of_bodyS (code := code) (maxLocals := maxLocals) (ret := ret) (by decide) ?_ ?_
  · intro args s m h hn
    obtain ⟨meth, c, h1, h2, h3, h4, h5, h6, -, -⟩ := Cond.code_spec hn (atoms_spec (ws := Jvm.Cond.code x code maxLocals ret :: tables_1) h _ List.mem_cons_self)
    exact ⟨meth, c, h1, h2, h3, h4, h5, h6⟩
  · intro p e s m args below meth c s₁ B hml0 hP _
    obtain ⟨rfl, hx, hbd, hgv⟩ := hP
    obtain ⟨scr, harrAt, hlist, hof, hsmall⟩ := hx
    obtain ⟨hcb, hkn, -, -⟩ := State.arrayAt?_spec harrAt
    have hown : s.vm.findClass R_law = some m.cls := findClass_of_methodNamed B.named
    have hts0 : ∀ c ∈ (Jvm.Cond.code x code maxLocals ret :: tables_1), c.before #[Value.ref b] s = true := atoms_spec (ws := Jvm.Cond.code x code maxLocals ret :: tables_1) B.pre
    have hts : ∀ w ∈ lw_tbl, w.before #[Value.ref b] s = true := k2_hts_sels lw_privs (fun w hw => hts0 w (List.mem_cons_of_mem _ hw)) lw_privs_ok
    have hml : c.maxLocals = 7 := B.maxLocals_eq (hts0 _ List.mem_cons_self)
    have X₀ : Stand p l e room_1 s m #[Value.ref b] below meth c s₁ [] 0 0 := Stand.of_body B
    have hh0 : s₁.heap = s.heap := by rw [B.state]; rfl
    have hsz : scr.slots.size = xs.length := by rw [← Array.length_toList, hlist, List.length_map]
    have hval : ∀ j : Nat, j < xs.length → scr.slots[j]? = some (.int (xs.getD j 0)) := fun j hj => by
      rw [← Array.getElem?_toList, hlist]
      simp [hj]
    have hbl : b < s.heap.size := (Array.getElem?_eq_some_iff.mp hcb).1
    have hX : va_X b xs.length (fun j => xs.getD j 0) s s.heap := ⟨scr, hcb, hof, hkn, hsz, hval⟩
    have K : W p l e room_1 s m #[Value.ref b] below meth c s₁.heap [] 0 0 (lw_Z below #[Value.ref b] s) (entryFrame m ([Value.ref b] : List Value).toArray 7) := by
      rw [hh0]
      exact whole_startC hP9 hfl hbd ⟨B.exec, B.bytes, B.returns, hml, hown, hts, hX, hbl, B.notSynchronized, hgv, (name_of_methodNamed B.named B.method).1⟩
    obtain ⟨t, a1, o, b1, b2, b3⟩ := K s₁ rfl X₀
    exact ⟨t, o, a1, b1, b2, b3⟩
theorem lw_comesC (hP9 : lw_pureC) {l : Launch} (hfl : l.flags = pinnedFlags ++ [noTraceFlag]) : Comes l x (Jvm.Cond.code x code maxLocals ret :: tables_1) room_1 (fun tb e args s => Calls_1 tb e args s ∧ rest_1 tb e args s ∧ Pre_1 tb e args s)
    (fun _ _ args s o t => lw_Q args s o t) := by
  intro p e ha hc hk s m args below hf hfit hheap happ hpre
  obtain ⟨b, xs, hP⟩ := lw_pre_spec hpre.2.2 hpre.2.1
  obtain ⟨k, o, h1, h2, h3, hQ⟩ := lw_walkC hP9 hfl b xs p e ha hc hk s m args below hf ((Spec.applies_iff_loose hf).mp happ).1 hP trivial
  exact ⟨k, o, h1, h2, h3, hQ⟩
theorem lw_limbC (hP9 : lw_pureC) (L : Cond) (hL : ∀ (args : Array Value) (s t : State), L.after args s (.returned (some (.int 1))) t = true) :
    ArmFor flags0 classFile x code maxLocals ret World_1 tables_1 room_1 Calls_1 rest_1 Pre_1
      (fun tb e a s o t => postC L tb e a s o t ∧ Framed s o t (fieldLocs frame_1_writes a s ++ arrayLocs frame_1_arrays a s ++ staticLocs frame_1_statics s) 601024 7293034) := by
  intro l hfl _ _ p e ha hc hk s m args below hf hfit hheap happ hpre
  obtain ⟨k, o, h1, h2, h3, rfl, hF⟩ := lw_comesC hP9 hfl p e ha hc hk s m args below hf hfit hheap happ hpre
  exact ⟨k, _, h1, h2, h3, hL args s _, lw_frame hF⟩

theorem i_redC (hP9 : lw_pureC) : Claimed_1_1 ∧ Claimed_1_2 := ⟨lw_limbC hP9 limb_1_1 (fun args s t => by simp [limb_1_1, Cond.after, Cond.holds, Cond.value]), lw_limbC hP9 limb_1_2 (fun args s t => Cond.after_iff.mpr (by
  first | (rw [show limb_1_2 = Cond.eq .result (.int 1) from rfl, Cond.eq_ints (x := 1) (y := 1) rfl rfl]; simp; done) | (simp [limb_1_2, Cond.value, Term.eval]; done)))⟩

