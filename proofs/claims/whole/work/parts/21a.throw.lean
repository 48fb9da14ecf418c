/-! THROWS: a method that throws one of the three, and is no more; the cell that is thrown isn't followed -/
def pm_xc (M : pm_M) : pm_M := ((M.1.1 + 1, M.1.2.1 + 6, M.1.2.2), M.2)
def pm_QT (h0 : Nat) (D : pm_D) (X : String) (M1 : pm_M) : Array Value → State → Outcome → State → Prop := fun _ st o t => ∃ (q : Nat) (ce : Cell), o = .threw q ∧ t.heap[q]? = some ce ∧ st.vm.findClass X = some ce.cls ∧ ce.vm = .none ∧ pm_R t h0 D M1 t.heap ∧ ∀ a, a < h0 → t.heap[a]? = st.heap[a]?
def pm_FT (h0 mc ms : Nat) (st t : State) : Prop := st.WarmedH t.vm ∧ ∃ L : List Loc, st.sameButNew ({ t with vm := st.vm } : State) L mc ms ∧ ∀ q ∈ L, h0 ≤ q.base
/-- A CONTRACT of a throw: with the arguments As in the memory M0 the method y throws an X -/
def pm_T (l : Launch) (h0 : Nat) (D : pm_D) (y : pm_m) (d : Nat) (As : List Value) (M0 : pm_M) (X : String) : Prop :=
  MetFree l y.1 (headSpec (pm_w y) { frames := d, cells := 1, slots := 6, locals := 64 * d }) (pm_P h0 D As M0) (fun _ _ _ _ _ => True) (fun a st o t => pm_QT h0 D X (pm_xc M0) a st o t ∧ pm_FT h0 1 6 st t)
def pm_ET (x : pm_c) (h0 : Nat) (D : pm_D) (M0 : pm_M) (X : String) : State → Prop := match x with
  | (_, _, _, _, s, _, args, below, _, _) => fun t => ∃ o, t.status = .running ∧ Ended t below o ∧ pm_QT h0 D X (pm_xc M0) args s o t ∧ pm_FT h0 1 6 s t
theorem pm_celleq {c c' : Cell} (h1 : c' = { c with slots := c'.slots }) (h2 : c'.slots.size = c.slots.size) (h3 : ∀ i : Nat, c'.slots[i]? = c.slots[i]?) : c' = c := by
  have e : c'.slots = c.slots := by
    apply Array.ext h2
    intro i ha hb
    have h9 := h3 i
    rw [Array.getElem?_eq_getElem ha, Array.getElem?_eq_getElem hb] at h9
    exact Option.some.inj h9
  rw [h1, e]
/-- the slots that have truly changed -/
theorem pm_minL (P : Loc → Prop) (locs : List Loc) : ∃ lo : List Loc, (∀ z ∈ lo, z ∈ locs ∧ P z) ∧ ∀ z ∈ locs, P z → z ∈ lo := by
  induction locs with
  | nil => exact ⟨[], (fun z h => nomatch h), (fun z h => nomatch h)⟩
  | cons w t ih =>
    obtain ⟨lo, h1, h2⟩ := ih
    by_cases h : P w
    · refine ⟨w :: lo, fun z hz => ?_, fun z hz hp => ?_⟩
      · rcases List.mem_cons.mp hz with rfl | hz
        · exact ⟨List.mem_cons_self, h⟩
        · exact ⟨List.mem_cons_of_mem _ (h1 z hz).1, (h1 z hz).2⟩
      · rcases List.mem_cons.mp hz with rfl | hz
        · exact List.mem_cons_self
        · exact List.mem_cons_of_mem _ (h2 z hz hp)
    · refine ⟨lo, fun z hz => ⟨List.mem_cons_of_mem _ (h1 z hz).1, (h1 z hz).2⟩, fun z hz hp => ?_⟩
      rcases List.mem_cons.mp hz with rfl | hz
      · exact absurd hp h
      · exact h2 z hz hp
theorem pm_mnl {p : Program} {l : Launch} {e : Env} {R : Room} {s : State} {m : MethodId} {args : Array Value} {below : List Frame} {meth : Method} {c : Code} {T : State} {locs : List Loc} {cells slots : Nat} (X : Stand p l e R s m args below meth c T locs cells slots) :
    ∃ lo : List Loc, (∀ z ∈ lo, z ∈ locs ∧ ∃ ca cb : Cell, s.heap[z.base]? = some ca ∧ T.heap[z.base]? = some cb ∧ cb.slots[z.slot]? ≠ ca.slots[z.slot]?) ∧ (∀ z ∈ lo, z ∈ locs) ∧ Stand p l e R s m args below meth c T lo cells slots := by
  obtain ⟨lo, h1, h2⟩ := pm_minL (fun z => ∃ ca cb : Cell, s.heap[z.base]? = some ca ∧ T.heap[z.base]? = some cb ∧ cb.slots[z.slot]? ≠ ca.slots[z.slot]?) locs
  obtain ⟨s1, s2, s3, s4, s5, s6⟩ := X.same
  refine ⟨lo, h1, fun z hz => (h1 z hz).1, X.admits, X.cas, X.clock, X.frames, X.room, X.hears, X.method, X.code, X.here, X.tail, X.warmed, X.limits, X.bytes, s1, s2, s3, s4, s5, fun a ca hca => ?_⟩
  obtain ⟨c', q1, q2, q3, q4⟩ := s6 a ca hca
  refine ⟨c', q1, q2, q3, fun i hi => ?_⟩
  by_cases hm : (⟨a, i⟩ : Loc) ∈ locs
  · by_cases he : c'.slots[i]? = ca.slots[i]?
    · exact he
    · exact absurd (h2 _ hm ⟨ca, c', hca, q1, he⟩) hi
  · exact q4 i hm
section PMT
variable {y : pm_m} {h0 : Nat} {D : pm_D}
theorem pm_metT {l : Launch} {d : Nat} {As : List Value} {M0 : pm_M} {X : String} (hy : plainName y.1.cls = true) (hl : (lg_sl As).length ≤ y.2.2.1)
    (body : ∀ p e R s m args below meth c, c.exceptionTable.isEmpty = true → pm_R s h0 D M0 s.heap → pm_V (p, l, e, R, s, m, args, below, meth, c) y h0 D (M0.1.1, M0.1.2.1, M0.1.1 + 1, M0.1.2.1 + 6, d) (pm_ET (p, l, e, R, s, m, args, below, meth, c) h0 D M0 X) 0 (lv_args 0 As) [] M0) : pm_T l h0 D y d As M0 X := by
  refine MetFree.of_bodyS (code := y.2.1) (maxLocals := y.2.2.1) (ret := y.2.2.2) hy ?_ ?_
  · intro args s m h hn
    obtain ⟨meth, c, h1, h2, h3, h4, h5, h6, -, -⟩ := Cond.code_spec hn (atoms_spec (ws := pm_w y) h _ List.mem_cons_self)
    exact ⟨meth, c, h1, h2, h3, h4, h5, h6⟩
  · intro p e s m args below meth c s₁ B hml hv _
    have hh0 : s₁.heap = s.heap := by rw [B.state]; rfl
    obtain ⟨rfl, hR, hK⟩ := hv
    have hts := atoms_spec (ws := pm_w y) B.pre
    have X0 := Stand.of_body B
    obtain ⟨meth', c', q1, q2, -, -, -, -, q7, -⟩ := Cond.code_spec B.named (hts _ List.mem_cons_self)
    cases X0.method.symm.trans q1
    cases X0.code.symm.trans q2
    have hown : s.vm.findClass y.1.cls = some m.cls := findClass_of_methodNamed B.named
    have hnm : meth.name = y.1.name := (name_of_methodNamed B.named B.method).1
    have hlv := lv_entry (As.map (pm_cv h0)) (n := y.2.2.1) (by rw [pm_sl]; exact hl)
    rw [pm_args_map] at hlv
    rw [lg_entry_eq]
    have hb := body p e (headSpec (pm_w y) { frames := d, cells := 1, slots := 6, locals := 64 * d }).room s m (As.map (pm_cv h0)).toArray below meth c q7 hR
      ⟨B.exec, B.bytes, hml, hown, fun w hw => hts w (List.mem_cons_of_mem _ hw), hK, B.notSynchronized, B.returns, hnm, by show 1 = M0.1.1 + 1 - M0.1.1; omega, by show 6 = M0.1.2.1 + 6 - M0.1.2.1; omega, Nat.le_refl _, Nat.le_refl _⟩ s.heap [] _ hR (fun _ _ => rfl) (fun _ h => by cases h) hlv (Nat.le_refl _) (Nat.le_refl _)
    simp only [Nat.sub_self] at hb
    obtain ⟨t, a1, o, b1, b2, b3⟩ := hb s₁ hh0 X0
    exact ⟨t, o, a1, b1, b2, b3⟩
theorem pm_isR {C n d : String} {A : Nat → Prop} {s : State} {args : Array Value} (h : va_Zq C n d A s s.heap) : (Cond.isRef (.static C n d)).before args s = true := by
  rcases h with ⟨cf, kf, fi, f, a, cell, h1, h2, h3, h4, h5, h6, h7, -⟩ | ⟨t, cf, kf, fi, f, a, cell, h1, h2, h3, h4, h5, h6, h7, -⟩
  · simp [Cond.before, Cond.holds, Cond.value, Term.eval, State.fieldNamed?, h1, h2, h4, h5, h6, h7]
  · simp [Cond.before, Cond.holds, Cond.value, Term.eval, State.fieldNamed?, h1, h2, h4, h5, h6, h7]
/-- one cell more, which isn't followed -/
theorem pm_xc_R {U : State} {M : pm_M} {H H' : Heap} (hR : pm_R U h0 D M H) (z : H'.size = h0 + M.1.1 + 1) (o : ∀ q, q < h0 + M.1.1 → H'[q]? = H[q]?) (hc : ∀ c, H'[h0 + M.1.1]? = some c → c.vm.isStatics = false) : pm_R U h0 D (pm_xc M) H' := by
  refine ⟨z, fun a ha => ?_, fun q c hq h => ?_⟩
  · obtain ⟨h1, h2⟩ := hR.2.1 a ha
    exact ⟨Nat.lt_succ_of_lt h1, h2.kept rfl rfl (fun _ => rfl) (fun _ => rfl) (fun _ => rfl) (o _ (by omega))⟩
  · by_cases e : q = h0 + M.1.1
    · subst e
      exact hc c h
    · have hl : q < H'.size := (Array.getElem?_eq_some_iff.mp h).1
      exact hR.2.2 q c hq (by rw [← o q (by omega)]; exact h)
end PMT
section PMTW
variable {p : Program} {l : Launch} {e : Env} {R : Room} {s : State} {m : MethodId} {args : Array Value} {below : List Frame} {meth : Method} {c : Code} {y : pm_m} {h0 : Nat} {D : pm_D} {pc : Nat} {L : List (Nat × Value)} {M : pm_M}
/-- new X; dup; ldc; X(String); athrow -/
theorem pm_thr {X msg : String} {iN iM ic d : Nat} {names : List String} (hfl : l.flags = pinnedFlags ++ [noTraceFlag]) (hex : c.exceptionTable.isEmpty = true) (hR0 : pm_R s h0 D M s.heap)
    (hd1 : decode y.2.1 pc = .ok (.new iN, 3)) (hd2 : decode y.2.1 (pc + 3) = .ok (.dup, 1)) (hd3 : decode y.2.1 (pc + 4) = .ok (.ldc iM, 2)) (hd4 : decode y.2.1 (pc + 6) = .ok (.invokespecial ic, 3)) (hd5 : decode y.2.1 (pc + 9) = .ok (.athrow, 1))
    (hw1 : Cond.classLink y.1.cls iN X ∈ pm_tbl) (hw2 : Cond.instantiable X 6 ∈ pm_tbl) (hw3 : Cond.initialized X ∈ pm_tbl) (hm : (iM, msg) ∈ ks_msg) (hcl : y.1.cls = "BoxedCore")
    (hat : ∀ (s : State) (args : Array Value), (∀ w ∈ pm_tbl, w.before args s = true) → pm_KS h0 D s → ∀ a ∈ Bundle.ownAtoms y.1.cls ic X names, a.before args s = true) (hf1 : Bundle.fit X = true) (hf2 : ∀ n ∈ names, Bundle.fit n = true) (hn2 : names.length = 2) (hd6 : 6 ≤ d) :
    pm_V (p, l, e, R, s, m, args, below, meth, c) y h0 D (M.1.1, M.1.2.1, M.1.1 + 1, M.1.2.1 + 6, d) (pm_ET (p, l, e, R, s, m, args, below, meth, c) h0 D M X) pc L [] M := by
  intro XX H locs ls hR hF hlo hL hn hz
  obtain ⟨X1, X2, X3, X4, X5, X6, X7, X8, X9, X10, X11, X12, X13⟩ := id XX
  obtain ⟨am, ham⟩ := X6.2.2.2.1 _ hm
  rw [← hcl] at ham
  have e0 : M.1.1 - M.1.1 = 0 := Nat.sub_self _
  have e1 : M.1.2.1 - M.1.2.1 = 0 := Nat.sub_self _
  show W p l e R s m args below meth c H locs (M.1.1 - M.1.1) (M.1.2.1 - M.1.2.1) _ _
  rw [e0, e1]
  have X10 : R.cells = M.1.1 + 1 - M.1.1 := X10
  have X11 : R.slots = M.1.2.1 + 6 - M.1.2.1 := X11
  have X12 : d ≤ R.frames := X12
  have X13 : 64 * d ≤ R.locals := X13
  have hsz : s.heap.size = H.size := hR0.1.trans hR.1.symm
  intro T0 hT0 X00
  obtain ⟨lo, hlo1, hlo2, X01⟩ := pm_mnl X00
  have hlo' : ∀ z ∈ lo, h0 ≤ z.base := fun z hz => hlo z (hlo1 z hz).1
  have key : W p l e R s m args below meth c H lo 0 0 (pm_ET (p, l, e, R, s, m, args, below, meth, c) h0 D M X) (F0 m pc ls []) := by
    refine W.newc X1 X2 X4 (X5 _ hw1) (X5 _ hw2) (X5 _ hw3) (g := F0 m pc ls []) rfl hd1 (by omega) (by omega) fun cC kC g1 g2 g3 g4 => ?_
    refine lv_dup X1 X2 hd2 rfl ?_
    refine va_ldcS X1 X2 X4 ham hd3 ?_
    intro T hT X0
    have hfresh : T.heap[H.size]? = some (freshCell cC kC) := by rw [hT]; simp [freshCell]
    have hroom : 2 * (F0 m (pc + 6) ls [.ref am, .ref H.size, .ref H.size]).monitorRoom + (([Value.ref H.size]).map fun v => v.category).sum ≤ 8 := lv_room (show (([Value.ref H.size]).map fun v => v.category).sum ≤ 8 from Nat.le_of_ble_eq_true rfl)
    obtain ⟨U, hsteps, hrun, hend, hW, hsame, ce, hce, K⟩ := X0.ctorThrowS X1 (Launch.traces_off hfl X0.admits) (own := y.1.cls) (cls := X) (names := names) (ic := ic) X4 hf1 hf2 (hat s args X5 X6.2.2)
      (fun z hz9 cell hc9 => hR0.2.2 z.base cell (hlo' z hz9) hc9) g1 g2 hfresh (Nat.le_of_eq hsz) (msg := .ref am) rfl (g := F0 m (pc + 6) ls [.ref am, .ref H.size, .ref H.size]) rfl (by rw [X3]; exact hL.1) rfl rfl (rest := []) rfl (by rw [X2]; exact hd4) (by rw [X2]; exact hd5)
      (fun z hz9 => by
        have h9 : c.exceptionTable.toList = [] := by
          have h8 := Array.isEmpty_iff.mp hex
          rw [h8]
        rw [h9] at hz9
        cases hz9) (by rw [hn2]; omega) (by
        rw [hn2]
        exact Nat.le_trans (Nat.add_le_add_right hroom _) (by omega))
    have hU1 : U.heap.size = h0 + M.1.1 + 1 := by
      have h1 : H.size < U.heap.size := (Array.getElem?_eq_some_iff.mp hce).1
      have h2 : U.heap.size ≤ s.heap.size + (0 + 1) := hsame.2.2.1
      have h3 := hR.1
      omega
    have hcell : ∀ (q : Nat) (cc : Cell), s.heap[q]? = some cc → ∃ c', U.heap[q]? = some c' ∧ c' = { cc with slots := c'.slots } ∧ c'.slots.size = cc.slots.size ∧ ∀ i, (⟨q, i⟩ : Loc) ∉ lo → c'.slots[i]? = cc.slots[i]? := fun q cc hq => hsame.2.2.2.2.2 q cc hq
    refine ⟨U, hsteps, .threw H.size, hrun, hend, ⟨H.size, ce, rfl, hce, K.cls, K.vm, ?_, ?_⟩, hW, lo, hsame, hlo'⟩
    · have hR1 : pm_R U h0 D M s.heap := hR0.moved hW.alike
      refine ⟨hU1, fun a ha => ?_, fun q c9 hq hc9 => ?_⟩
      · obtain ⟨k1, k2, k3⟩ := hR1.2.1 a ha
        obtain ⟨-, j2, j3⟩ := hR.2.1 a ha
        refine ⟨Nat.lt_succ_of_lt k1, fun h100 => ?_, fun h100 => ?_⟩
        · obtain ⟨r, r1, cell, r2, r3, r4, r5⟩ := k2 h100
          obtain ⟨r', r1', cell2, r2', r3', r4', r5'⟩ := j2 h100
          cases r1.symm.trans r1'
          obtain ⟨c', q1, q2, q3, q4⟩ := hcell _ _ r2
          refine ⟨r, r1, c', q1, by rw [q2]; exact r3, by rw [q2]; exact r4, fun k hk => ?_⟩
          rw [q4 _ (fun hmem => ?_)]
          · exact r5 k hk
          · obtain ⟨-, ca, cb, u1, u2, u3⟩ := hlo1 _ hmem
            cases r2.symm.trans u1
            rw [hT0] at u2
            cases r2'.symm.trans u2
            exact u3 ((r5' k hk).trans (r5 k hk).symm)
        · obtain ⟨cA, r1, r2⟩ := k3 h100
          obtain ⟨cB, r1', r2'⟩ := j3 h100
          obtain ⟨c', q1, q2, q3, q4⟩ := hcell _ _ r2
          refine ⟨cA, r1, ?_⟩
          rw [q1]
          congr 1
          refine pm_celleq q2 q3 fun i => q4 i fun hmem => ?_
          obtain ⟨-, ca, cb, u1, u2, u3⟩ := hlo1 _ hmem
          cases r2.symm.trans u1
          rw [hT0] at u2
          cases r2'.symm.trans u2
          exact u3 rfl
      · by_cases e : q = H.size
        · subst e
          cases hce.symm.trans hc9
          rw [K.vm]; rfl
        · have hl : q < U.heap.size := (Array.getElem?_eq_some_iff.mp hc9).1
          have hl2 : q < s.heap.size := by have := hR.1; omega
          obtain ⟨c', q1, q2, -, -⟩ := hcell q _ (Array.getElem?_eq_some_iff.mpr ⟨hl2, rfl⟩)
          cases hc9.symm.trans q1
          have h9 := hR0.2.2 q _ hq (Array.getElem?_eq_some_iff.mpr ⟨hl2, rfl⟩)
          rw [q2]
          exact h9
    · intro a ha
      have hl2 : a < s.heap.size := by have := hR0.1; omega
      obtain ⟨c', q1, q2, q3, q4⟩ := hcell a _ (Array.getElem?_eq_some_iff.mpr ⟨hl2, rfl⟩)
      rw [q1, Array.getElem?_eq_some_iff.mpr ⟨hl2, rfl⟩]
      congr 1
      exact pm_celleq q2 q3 fun i => q4 i fun hmem => by
        have h9 := hlo' _ hmem
        have h8 : h0 ≤ a := h9
        omega
  exact key T0 hT0 X01
end PMTW
