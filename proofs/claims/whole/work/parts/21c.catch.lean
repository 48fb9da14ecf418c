/-! a call that throws, caught in the caller's own method -/
section PX
variable {Q : Handler → Pre} {E : CtlPost} {e : Env} {d : Bool} {acts : List Action} {s : State} {f : JFrame} {a : Addr}
/-- one row of the table whose class links, hit or missed -/
theorem px_row {x : ExceptionTableEntry} {t : List ExceptionTableEntry} {c : ClassId} {cell : Cell} (hx : covers x f.pc = true) (h0 : x.catchType ≠ 0) (hl : s.vm.ClassLinks e.platform f.method.cls x.catchType c) (hcell : s.heap[a]? = some cell) (hobj : ∀ k, cell.vm ≠ .statics k)
    (hk : ∃ k, s.vm.classes[cell.cls]? = some k) (hc : ∃ k, s.vm.classes[c]? = some k) :
    wp (findHandler.go f a (x :: t)) Q E e d acts s ↔ if s.vm.assignable cell.cls c = true then Q (.found x.handlerPc) d acts (s.setVm (s.vm.noted f.method.cls x.catchType (.cls c))) else wp (findHandler.go f a t) Q E e d acts (s.setVm (s.vm.noted f.method.cls x.catchType (.cls c))) := by
  simp only [covers] at hx
  obtain ⟨r1, r2⟩ := (resolveClass_links e.toSetting hl).op (op := VmOp.resolveClass f.method.cls x.catchType) rfl
  have hal : s.vm.Alike (s.vm.noted f.method.cls x.catchType (.cls c)) := (Vm.Alike.refl s.vm).noted _ _ _
  obtain ⟨k1, hk1⟩ := hk
  obtain ⟨k2, hk2⟩ := hc
  obtain ⟨k3, hk3, -⟩ := hal.2.2 _ _ hk1
  obtain ⟨k4, hk4, -⟩ := hal.2.2 _ _ hk2
  have has : (s.vm.noted f.method.cls x.catchType (.cls c)).assignable cell.cls c = s.vm.assignable cell.cls c := hal.assignable ..
  cases hfit : s.vm.assignable cell.cls c <;> rw [hfit] at has <;> simp [findHandler.go, hx, h0, r1, r2, hcell, hobj, hk3, hk4, has, VmOp.dirties, VmOp.acts]
end PX
/-- the search ends at hp, and only warms the tables -/
def px_F (e : Env) (s : State) (T : State) (g : JFrame) (q hp : Nat) : Prop := ∃ vm', s.WarmedH vm' ∧ ∀ (Q : Handler → Pre) (E : CtlPost) (d : Bool) (acts : List Action), wp (findHandler g q) Q E e d acts T ↔ Q (.found hp) d acts (T.setVm vm')
section PXS
variable {tb : Tables} {e : Env} {s target : State} {g : JFrame} {c : Code} {below : List Frame} {a : Addr}
theorem px_step (h : At s g.method c below) {pc : Nat} {vm' : Vm} (hf : ∀ (Q : Handler → Pre) (E : CtlPost) (d : Bool) (acts : List Action), wp (findHandler g a) Q E e d acts ((s.setTop g).pushFrame (.throwing a)) ↔ Q (.found pc) d acts (((s.setTop g).pushFrame (.throwing a)).setVm vm'))
    (hrest : Steps tb e below ((s.setVm vm').setTop { g with pc := pc, stack := [.ref a] }) target) : Steps tb e below ((s.setTop g).pushFrame (.throwing a)) target := by
  have hst : ∀ r, (stepThrowing e ((s.setTop g).pushFrame (.throwing a)) a (.java g :: r)).Is ((((s.setTop g).pushFrame (.throwing a)).setVm vm').setFrames (.java { g with pc := pc, stack := [.ref a] } :: r)) [] := by
    intro r
    simp only [stepThrowing, searchFrame, vmDo]
    generalize hr : Sem.go _ e false [] _ = res
    obtain ⟨as, rfl, ha⟩ := Sem.eq_ok_of hr (a := Handler.found pc) (s' := ((s.setTop g).pushFrame (.throwing a)).setVm vm') (acts' := []) (by simp [hf _ _ _ _])
    exact ⟨rfl, ha⟩
  obtain ⟨hgo, hw⟩ := h.throwing a
  refine Steps.head hgo hw ?_
  obtain ⟨g₀, hg⟩ := Option.isSome_iff_exists.mp h.top
  obtain ⟨r, hr⟩ := State.topJava?_eq_some.mp hg
  have hr' : (s.setVm vm').frames = .java g₀ :: r := hr
  rw [stepThread_throwing (frames_entered h.top _), (hst _).1]
  rw [State.setTop_of_frames _ hr'] at hrest
  have e1 : ((((s.setTop g).pushFrame (.throwing a)).setVm vm').setFrames (.java { g with pc := pc, stack := [.ref a] } :: s.frames.tail)) = (s.setVm vm').setFrames (.java { g with pc := pc, stack := [.ref a] } :: r) := by
    have e2 : ∀ (F G : List Frame), ((s.setFrames F).setVm vm').setFrames G = (s.setVm vm').setFrames G := fun F G => by
      have h1 : (s.setFrames F).setVm vm' = (s.setVm vm').setFrames F := rfl
      rw [h1, State.setFrames_setFrames]
    rw [hr, List.tail_cons, State.pushFrame, State.setTop_of_frames _ hr, State.setFrames_setFrames, e2]
  rw [e1]
  exact hrest
end PXS
section PXF
variable {p : Program} {l : Launch} {e : Env} {R : Room} {s : State} {m : MethodId} {args : Array Value} {below : List Frame} {meth : Method} {c : Code} {T0 T : State} {locs : List Loc} {cells slots : Nat} {h0 : Nat}
theorem px_links (X : Stand p l e R s m args below meth c T0 locs cells slots) {own name : String} {ct : Nat} (hown : s.vm.findClass own = some m.cls) (hlink : (Cond.classLink own ct name).before args s = true) : ∃ cc, s.vm.findClass name = some cc ∧ s.vm.ClassLinks e.platform m.cls ct cc ∧ (∃ k, s.vm.classes[cc]? = some k) ∧
    ∀ vm', s.WarmedH vm' → s.WarmedH (vm'.noted m.cls ct (.cls cc)) := by
  have hpl : e.platform.magicAccessors = ({} : Platform).magicAccessors := by rw [X.admits.platform]
  obtain ⟨cc, h1, h2⟩ := Cond.classLink_spec hown hlink e.platform hpl
  obtain ⟨dk, _, _, kt, hd, _, _, _, _, hkt, _, hopen⟩ := h2.here
  exact ⟨cc, h1, h2, ⟨kt, hkt⟩, fun vm' hW => hW.noted hd hopen (State.rightAt_cls h2)⟩
theorem px_has {vm vm' : Vm} (h : vm.Alike vm') {cc : ClassId} (hk : ∃ k, vm.classes[cc]? = some k) : ∃ k, vm'.classes[cc]? = some k := by
  obtain ⟨k, hk⟩ := hk
  obtain ⟨k2, h2, -⟩ := h.2.2 _ _ hk
  exact ⟨k2, h2⟩
/-- the first row hits -/
theorem px_f1 (X : Stand p l e R s m args below meth c T0 locs cells slots) {own : String} {st en hp ct : Nat} {rest : List (Nat × Nat × Nat × Nat)} (hown : s.vm.findClass own = some m.cls) {X1 : String} (hlink : (Cond.classLink own ct X1).before args s = true) (hcast : (Cond.castable X1 X1).before args s = true)
    (het : c.exceptionTable.toList.map (fun h => (h.startPc, h.endPc, h.handlerPc, h.catchType)) = (st, en, hp, ct) :: rest) (hct : ct ≠ 0) {g : JFrame} (hg : g.method = m) (hin : st ≤ g.pc ∧ g.pc < en) {q : Nat} {ce : Cell} (hW : s.WarmedH T.vm) (hce : T.heap[q]? = some ce) (hvm : ce.vm = .none) (hcls : s.vm.findClass X1 = some ce.cls)
    (hm : T.vm.method? m = some meth) (hc : meth.code = some c) : px_F e s T g q hp := by
  subst hg
  obtain ⟨x, t, hx, e1, -⟩ := List.map_eq_cons_iff.mp het
  simp only [Prod.mk.injEq] at e1
  obtain ⟨e1, e2, e3, e4⟩ := e1
  obtain ⟨cc, l1, l2, l3, l4⟩ := px_links X hown (by rw [← e4] at hlink; exact hlink)
  cases hcls.symm.trans l1
  obtain ⟨c3, c4, w1, w2, w3⟩ := Cond.castable_spec hcast
  cases hcls.symm.trans w1
  cases hcls.symm.trans w2
  refine ⟨_, l4 _ hW, fun Q E d acts => ?_⟩
  rw [_root_.Jvm.W.findHandler_eq hm hc, hx, px_row (c := ce.cls) (cell := ce) (by simp [covers, e1, e2, hin.1, hin.2]) (by rw [e4]; exact hct) (hW.classLinks l2) hce (fun k => by rw [hvm]; exact fun h => by cases h) (px_has hW.alike l3) (px_has hW.alike l3), if_pos (by rw [hW.alike.assignable]; exact w3), e3]
/-- the first row is missed, the second hits -/
theorem px_f2 (X : Stand p l e R s m args below meth c T0 locs cells slots) {own : String} {st en hp hp1 ct ct1 : Nat} {rest : List (Nat × Nat × Nat × Nat)} (hown : s.vm.findClass own = some m.cls) {X1 X2 : String} (hlink1 : (Cond.classLink own ct1 X2).before args s = true) (hno : ∃ a b : ClassId, s.vm.findClass X1 = some a ∧ s.vm.findClass X2 = some b ∧ s.vm.assignable a b = false) (hlink : (Cond.classLink own ct X1).before args s = true) (hcast : (Cond.castable X1 X1).before args s = true)
    (het : c.exceptionTable.toList.map (fun h => (h.startPc, h.endPc, h.handlerPc, h.catchType)) = (st, en, hp1, ct1) :: (st, en, hp, ct) :: rest) (hct1 : ct1 ≠ 0) (hct : ct ≠ 0) {g : JFrame} (hg : g.method = m) (hin : st ≤ g.pc ∧ g.pc < en) {q : Nat} {ce : Cell} (hW : s.WarmedH T.vm) (hce : T.heap[q]? = some ce) (hvm : ce.vm = .none) (hcls : s.vm.findClass X1 = some ce.cls)
    (hm : T.vm.method? m = some meth) (hc : meth.code = some c) : px_F e s T g q hp := by
  subst hg
  obtain ⟨x1, t1, hx1, f1, ht1⟩ := List.map_eq_cons_iff.mp het
  obtain ⟨x, t, hx, e1, -⟩ := List.map_eq_cons_iff.mp ht1
  simp only [Prod.mk.injEq] at e1 f1
  obtain ⟨e1, e2, e3, e4⟩ := e1
  obtain ⟨f1, f2, f3, f4⟩ := f1
  obtain ⟨cb, m1, m2, m3, m4⟩ := px_links X hown (by rw [← f4] at hlink1; exact hlink1)
  obtain ⟨cc, l1, l2, l3, l4⟩ := px_links X hown (by rw [← e4] at hlink; exact hlink)
  cases hcls.symm.trans l1
  obtain ⟨ca, cb', n1, n2, n3⟩ := hno
  cases hcls.symm.trans n1
  cases m1.symm.trans n2
  obtain ⟨c3, c4, w1, w2, w3⟩ := Cond.castable_spec hcast
  cases hcls.symm.trans w1
  cases hcls.symm.trans w2
  have hW2 := m4 _ hW
  have hw9 : (T.setVm (T.vm.noted g.method.cls x1.catchType (.cls cb))).vm.assignable ce.cls ce.cls = true := by
    show (T.vm.noted g.method.cls x1.catchType (.cls cb)).assignable ce.cls ce.cls = true
    rw [hW2.alike.assignable]; exact w3
  refine ⟨_, l4 _ hW2, fun Q E d acts => ?_⟩
  rw [_root_.Jvm.W.findHandler_eq hm hc, hx1, px_row (c := cb) (cell := ce) (by simp [covers, f1, f2, hin.1, hin.2]) (by rw [f4]; exact hct1) (hW.classLinks m2) hce (fun k => by rw [hvm]; exact fun h => by cases h) (px_has hW.alike l3) (px_has hW.alike m3), if_neg (by rw [hW.alike.assignable, n3]; decide), hx,
    px_row (s := T.setVm (T.vm.noted g.method.cls x1.catchType (.cls cb))) (c := ce.cls) (cell := ce) (by simp [covers, e1, e2, hin.1, hin.2]) (by rw [e4]; exact hct) (hW2.classLinks l2) hce (fun k => by rw [hvm]; exact fun h => by cases h) (px_has hW2.alike l3) (px_has hW2.alike l3), if_pos hw9, e3]
  rfl
end PXF
section PXC
variable {p : Program} {l : Launch} {e : Env} {R : Room} {s : State} {m : MethodId} {args : Array Value} {below : List Frame} {meth : Method} {c : Code} {y : pm_m} {h0 : Nat} {D : pm_D} {b : pm_b} {Q : State → Prop} {pc : Nat} {L : List (Nat × Value)} {S : List Value} {M M1 : pm_M}
set_option maxHeartbeats 1000000 in
/-- a call that throws and is caught here: at the handler, the cell alone on the stack -/
theorem pm_cT (y2 : pm_m) {d2 idx : Nat} {a : Nat} {As S0 : List Value} {X1 : String} (hp : Nat) (hC : pm_T l h0 D y2 d2 (.ref a :: As) M X1) (hS : S = As.reverse ++ .ref a :: S0) (hd : decode y.2.1 pc = .ok (.invokevirtual idx, 3)) (hk : pm_kV y2 (M.1.2.2.1 a) As.length) (hln : pm_kL y idx y2) (hd2 : d2 + 1 ≤ b.2.2.2.2) (hW : (S0.map fun v => v.category).sum ≤ 8) (hn1 : M.1.1 + 1 ≤ b.2.2.1) (hz1 : M.1.2.1 + 6 ≤ b.2.2.2.1)
    (hfind : (∀ w ∈ pm_tbl, w.before args s = true) → pm_K h0 D s → s.vm.findClass y.1.cls = some m.cls → ∀ (T0 T : State) (lo : List Loc) (cs sl : Nat) (g : JFrame) (q : Nat) (ce : Cell), Stand p l e R s m args below meth c T0 lo cs sl → g.method = m → g.pc = pc → s.WarmedH T.vm → T.heap[q]? = some ce → ce.vm = .none → s.vm.findClass X1 = some ce.cls → T.vm.method? m = some meth → meth.code = some c → px_F e s T g q hp)
    (kk : ∀ q, pm_V (p, l, e, R, s, m, args, below, meth, c) y h0 D b Q hp L [.retAddr q] (pm_xc M)) : pm_V (p, l, e, R, s, m, args, below, meth, c) y h0 D b Q pc L S M := by
  intro XX H locs ls hR hF hlo hL hn hz
  obtain ⟨X1', X2, X3, X4, X5, X6, X7, X8, X9, X10, X11, X12, X13⟩ := id XX
  obtain ⟨⟨k1, k2, k3, k4, k5, k6⟩, k7, k8, k9, k10⟩ := hk
  have hln := X5 _ hln
  have hrm := pm_room X12 X13 hd2 k6
  have hws := pay_in X5 (pm_gin k2)
  subst hS
  obtain ⟨cellB, hcB, hoB, hclB⟩ : ∃ cellB : Cell, H[h0 + a]? = some cellB ∧ cellB.vm.isStatics = false ∧ s.vm.findClass y2.1.cls = some cellB.cls := by
    obtain ⟨q, h1, cell, g1, g2, g3, -⟩ := (hR.2.1 a (by omega)).2.1 k9
    refine ⟨cell, g1, by rw [g3]; rfl, ?_⟩
    have h2 := (X6.1.1 _ q h1).2.1
    rw [g2, ← k10]
    unfold pm_on
    rw [h1]
    exact h2
  intro T hT X0
  obtain ⟨mk, methM, hnamed, hmethM, hstM, habM⟩ := Cond.instanceMethod_spec (X5 _ k7)
  obtain ⟨methM', cM, hmethM', -, -, -, -, -, -, hsigM⟩ := Cond.code_spec hnamed (X5 _ k2)
  cases hmethM.symm.trans hmethM'
  obtain ⟨c2, r2, m2, q1, q2, q3, q4, kP, hkP, hkPi⟩ := Cond.selects_spec (X5 _ k8)
  cases hclB.symm.trans q1
  cases (State.methodFound?_of_named hnamed ⟨k3, k4⟩).symm.trans q2
  cases hnamed.symm.trans q3
  have hselP : selectMethod e.platform s.vm cellB.cls mk = .method mk := by rw [Launch.admits_selectMethod X0.admits]; exact q4
  have hlen : (As.map (pm_cv h0)).length = methM.sig.parameters.length := by
    rw [hsigM] at k5
    rw [List.length_map]
    exact (Option.some.inj k5).symm
  obtain ⟨vm₁, X₁, hstep₁⟩ := X0.invokevirtual X1' X4 hln hnamed hmethM hstM hkP hkPi ⟨k3, k4⟩ (a := h0 + a) (cell := cellB) (by rw [hT]; exact hcB) (fun z h => by rw [h] at hoB; cases hoB) hselP hmethM habM hkP hkPi
    (g := F0 m pc ls ((As.reverse ++ .ref a :: S0).map (pm_cv h0))) rfl (argsL := As.map (pm_cv h0)) (rest := S0.map (pm_cv h0)) hlen (by simp [pm_cv]) (by rw [X2]; exact hd)
  have hna := X₁.named hnamed
  obtain ⟨methY, cY, hmY, hcY, -, hlY, -⟩ := Cond.code_spec hna (hws _ List.mem_cons_self ((Value.ref a :: As).map (pm_cv h0)).toArray _ X₁.warmed)
  obtain ⟨kY, hkY, -⟩ := className_of_methodNamed hna
  have hinitY : kY.init = .initialized := Cond.initialized_spec (args := ((Value.ref a :: As).map (pm_cv h0)).toArray) (findClass_of_methodNamed hna) hkY (word_at X₁.warmed (Or.inl rfl) (X5 _ k1))
  have hwr : 2 * (F0 m pc ls (S0.map (pm_cv h0))).monitorRoom + ((S0.map (pm_cv h0)).map fun v => v.category).sum ≤ 8 := lv_room (pm_cat h0 hW)
  have hAt : At (T.setVm vm₁) (F0 m pc ls (S0.map (pm_cv h0))).method c below := X₁.here
  have happ : (headSpec (pm_w y2) { frames := d2, cells := 1, slots := 6, locals := 64 * d2 }).appliesLoose y2.1 e.platform ((T.setVm vm₁).calling (F0 m pc ls (S0.map (pm_cv h0))) mk ((Value.ref a :: As).map (pm_cv h0)).toArray) = true :=
    Spec.appliesLoose_calling (g := F0 m pc ls (S0.map (pm_cv h0))) hAt (by rw [X2]; exact hd) hna hkY hinitY
      (X₁.room_calling (g := F0 m pc ls (S0.map (pm_cv h0))) (R' := { frames := d2, cells := 1, slots := 6, locals := 64 * d2 }) (by rw [X3]; exact hL.1) hmY hcY (by show d2 + 1 ≤ R.frames; exact hrm.1)
        (by rw [hlY]; exact Nat.le_trans (Nat.add_le_add_right (Nat.add_le_add_right hwr _) _) hrm.2) (by show M.1.1 - b.1 + 1 ≤ R.cells; omega) (by show M.1.2.1 - b.2.1 + 6 ≤ R.slots; omega)) (atoms_intro fun w hw => hws w hw _ _ X₁.warmed)
  obtain ⟨mid, hmid⟩ := hAt.above
  have hfr : ((T.setVm vm₁).setTop (F0 m pc ls (S0.map (pm_cv h0)))).frames = (.java (F0 m pc ls (S0.map (pm_cv h0))) :: mid) ++ below := by rw [State.frames_setTop' _ hAt.top, hmid]; rfl
  have hPc : pm_P h0 D (.ref a :: As) M ((Value.ref a :: As).map (pm_cv h0)).toArray ((T.setVm vm₁).calling (F0 m pc ls (S0.map (pm_cv h0))) mk ((Value.ref a :: As).map (pm_cv h0)).toArray) := pm_blind _ _ _ _ (pm_pre (As := .ref a :: As) hR X6 hF (T.setVm vm₁) hT X₁.warmed)
  obtain ⟨o, s₂, hsteps, -, hend, ⟨q, ce, rfl, hce, hcX, hvm, hR2, hF2⟩, hW₂, L2, hsm, hL2⟩ := Steps.callFree hC p X₁.admits X₁.cas X₁.clock (acts := []) hfr happ hPc trivial
  rw [State.frames_setTop' _ hAt.top] at hend
  have hf₂ : s₂.frames = .throwing q :: .java (F0 m pc ls (S0.map (pm_cv h0))) :: (T.setVm vm₁).frames.tail := hend
  obtain ⟨w2, v2, v3, v4, v5, v6⟩ := hsm
  have e3 : s₂ = ({ ((T.setVm vm₁).calling (F0 m pc ls (S0.map (pm_cv h0))) mk ((Value.ref a :: As).map (pm_cv h0)).toArray).setFrames s₂.frames with heap := s₂.heap, slotsUsed := s₂.slotsUsed } : State).setVm s₂.vm := by
    have h9 : s₂ = ({ s₂ with vm := ((T.setVm vm₁).calling (F0 m pc ls (S0.map (pm_cv h0))) mk ((Value.ref a :: As).map (pm_cv h0)).toArray).vm } : State).setVm s₂.vm := rfl
    rw [show ({ s₂ with vm := ((T.setVm vm₁).calling (F0 m pc ls (S0.map (pm_cv h0))) mk ((Value.ref a :: As).map (pm_cv h0)).toArray).vm } : State) = _ from w2] at h9
    exact h9
  have hWU : (T.setVm vm₁).WarmedH s₂.vm := hW₂
  obtain ⟨g₀, hg0⟩ := Option.isSome_iff_exists.mp hAt.top
  obtain ⟨r, hr⟩ := State.topJava?_eq_some.mp hg0
  have hs₂ : s₂ = ((({ (T.setVm vm₁) with heap := s₂.heap, slotsUsed := s₂.slotsUsed } : State).setVm s₂.vm).setTop (F0 m pc ls (S0.map (pm_cv h0)))).pushFrame (.throwing q) := by
    have hr' : (({ (T.setVm vm₁) with heap := s₂.heap, slotsUsed := s₂.slotsUsed } : State).setVm s₂.vm).frames = .java g₀ :: r := hr
    refine e3.trans ?_
    rw [hf₂, State.calling_eq hAt.top, State.setFrames_setFrames, State.pushFrame, State.frames_setTop _ hr', State.setTop_of_frames _ hr', State.setFrames_setFrames, hr]
    rfl
  have hsame : (T.setVm vm₁).sameButNew ({ (T.setVm vm₁) with heap := s₂.heap, slotsUsed := s₂.slotsUsed } : State) L2 1 6 := by
    refine ⟨?_, v2, v3, v4, v5, v6⟩
    obtain ⟨t, ht, -⟩ := State.frames_cons hr
    show ({ (T.setVm vm₁) with heap := s₂.heap, slotsUsed := s₂.slotsUsed } : State) = { (T.setVm vm₁).setFrames (T.setVm vm₁).frames with heap := s₂.heap, slotsUsed := s₂.slotsUsed }
    rw [State.setFrames_self ht]
  have XB : Stand p l e R s m args below meth c (({ (T.setVm vm₁) with heap := s₂.heap, slotsUsed := s₂.slotsUsed } : State).setVm s₂.vm) (locs ++ L2) (M.1.1 - b.1 + 1) (M.1.2.1 - b.2.1 + 6) :=
    ⟨X₁.admits, X₁.cas, X₁.clock, X₁.frames, X₁.room, X₁.hears, X₁.method, X₁.code, (X₁.here.setHeapUsed s₂.heap s₂.slotsUsed).setVm hWU.alike, X₁.tail, State.WarmedH.trans X₁.warmed hWU, X₁.limits, X₁.bytes, X₁.same.trans (hsame.setVm s.vm)⟩
  have hal : s.vm.Alike s₂.vm := XB.warmed.alike
  have hcX' : s.vm.findClass X1 = some ce.cls := by
    have h9 : vm₁.findClass X1 = some ce.cls := hcX
    rw [X₁.warmed.alike.symm.findClass]
    exact h9
  have hFX := hfind X5 X6 X4 _ s₂ _ _ _ (F0 m pc ls (S0.map (pm_cv h0))) q ce XB rfl rfl XB.warmed hce hvm hcX' XB.method' XB.code
  rw [hs₂] at hFX
  obtain ⟨vm', hW', hfd⟩ := hFX
  have XC := XB.noted hW'
  have h9 := kk q XX s₂.heap (locs ++ L2) ls (hR2.moved hal.symm) (fun a9 ha9 => (hF2 a9 ha9).trans (by
      show T.heap[a9]? = _
      rw [hT]; exact hF a9 ha9)) (fun z hz9 => by
      rcases List.mem_append.mp hz9 with h | h
      · exact hlo z h
      · exact hL2 z h) hL (Nat.le_succ_of_le hn) (Nat.le_trans hz (Nat.le_add_right _ _))
  have c1 : (pm_xc M).1.1 - b.1 = M.1.1 - b.1 + 1 := by show M.1.1 + 1 - b.1 = _; omega
  have c2 : (pm_xc M).1.2.1 - b.2.1 = M.1.2.1 - b.2.1 + 6 := by show M.1.2.1 + 6 - b.2.1 = _; omega
  rw [c1, c2] at h9
  obtain ⟨t, a1, b1⟩ := h9 ((({ (T.setVm vm₁) with heap := s₂.heap, slotsUsed := s₂.slotsUsed } : State).setVm s₂.vm).setVm vm') rfl XC
  refine ⟨t, ?_, b1⟩
  refine hstep₁ _ fun acts => ?_
  rw [doInvoke_state]
  have h8 : Steps p.tables e below s₂ t := by
    rw [hs₂]
    exact px_step XB.here hfd a1
  have e9 : (Value.ref (h0 + a) :: As.map (pm_cv h0)).toArray = ((Value.ref a :: As).map (pm_cv h0)).toArray := rfl
  exact hsteps.trans h8
end PXC
/-! a static method with an exception table -/
def pm_wW (y : pm_m) (hh : List (Nat × Nat × Nat × Nat)) : List Cond := .codeWith y.1 y.2.1 y.2.2.1 y.2.2.2 hh :: pm_tbl
def pm_CW (l : Launch) (h0 : Nat) (D : pm_D) (y : pm_m) (hh : List (Nat × Nat × Nat × Nat)) (d : Nat) (As : List Value) (M0 : pm_M) (r : Option Value) (M1 : pm_M) : Prop :=
  M0.1.1 ≤ M1.1.1 ∧ M0.1.2.1 ≤ M1.1.2.1 ∧ Met l y.1 (pm_wW y hh) { frames := d, cells := M1.1.1 - M0.1.1, slots := M1.1.2.1 - M0.1.2.1, locals := 64 * d } (pm_P h0 D As M0) (pm_Q h0 D r M1) (M1.1.1 - M0.1.1) (M1.1.2.1 - M0.1.2.1) (fun q => h0 ≤ q)
section PXW
variable {y : pm_m} {h0 : Nat} {D : pm_D} {hh : List (Nat × Nat × Nat × Nat)}
theorem pm_metW {l : Launch} {d : Nat} {As : List Value} {M0 M1 : pm_M} {r : Option Value} (hy : plainName y.1.cls = true) (hl : (lg_sl As).length ≤ y.2.2.1) (hn : M0.1.1 ≤ M1.1.1) (hz : M0.1.2.1 ≤ M1.1.2.1)
    (body : ∀ p e R s m args below meth c, c.exceptionTable.toList.map (fun h => (h.startPc, h.endPc, h.handlerPc, h.catchType)) = hh → pm_V (p, l, e, R, s, m, args, below, meth, c) y h0 D (M0.1.1, M0.1.2.1, M1.1.1, M1.1.2.1, d) (pm_E (p, l, e, R, s, m, args, below, meth, c) h0 D M0 r M1) 0 (lv_args 0 As) [] M0) : pm_CW l h0 D y hh d As M0 r M1 := by
  refine ⟨hn, hz, ?_⟩
  refine va_MetW (cc := y.2.1) (maxL := y.2.2.1) (ret := y.2.2.2) (hh := hh) hy rfl ?_
  intro p e s m args below meth c s₁ B hml hv
  obtain ⟨rfl, hR, hK⟩ := hv
  have hts := atoms_spec (ws := pm_wW y hh) B.pre
  have X0 := Stand.of_body B
  obtain ⟨m9, meth', c', q0, q1, q2, -, -, q7, -⟩ := Cond.codeWith_spec (hts _ List.mem_cons_self)
  cases B.named.symm.trans q0
  cases X0.method.symm.trans q1
  cases X0.code.symm.trans q2
  have hown : s.vm.findClass y.1.cls = some m.cls := findClass_of_methodNamed B.named
  have hnm : meth.name = y.1.name := (name_of_methodNamed B.named B.method).1
  have hlv := lv_entry (As.map (pm_cv h0)) (n := y.2.2.1) (by rw [pm_sl]; exact hl)
  rw [pm_args_map] at hlv
  rw [lg_entry_eq]
  have hb := body p e (headSpec (pm_wW y hh) { frames := d, cells := M1.1.1 - M0.1.1, slots := M1.1.2.1 - M0.1.2.1, locals := 64 * d }).room s m (As.map (pm_cv h0)).toArray below meth c q7
    ⟨B.exec, B.bytes, hml, hown, fun w hw => hts w (List.mem_cons_of_mem _ hw), hK, B.notSynchronized, B.returns, hnm, rfl, rfl, Nat.le_refl _, Nat.le_refl _⟩ s.heap [] _ hR (fun _ _ => rfl) (fun _ h => by cases h) hlv (Nat.le_refl _) (Nat.le_refl _)
  simp only [Nat.sub_self] at hb
  exact hb
end PXW
section PXR
variable {p : Program} {l : Launch} {e : Env} {R : Room} {s : State} {m : MethodId} {args : Array Value} {below : List Frame} {meth : Method} {c : Code} {H : Heap} {locs : List Loc} {cells slots : Nat}
theorem px_runSW {y : MethodName} {bytes cc : ByteArray} {maxL nL mc ms n index : Nat} {ret : Option FieldType} {hh : List (Nat × Nat × Nat × Nat)} {ws : List Cond} {rm : Room} {Pc : Array Value → State → Prop} {Qc : Array Value → State → Outcome → State → Prop} {free : Addr → Prop} {Ts : List Cond} {own : String} {As rest : List Value} {g : JFrame}
    (S : CallFix p m c cc nL s args Ts own) (hM : Met l y ws rm Pc Qc mc ms free) (hbl : FrameBlind Pc) (hrc : rm.cells = mc) (hrs : rm.slots = ms) (hR : rm.frames + 1 ≤ R.frames ∧ 8 + (maxL + 11) + rm.locals ≤ R.locals) (hws : ∀ w ∈ ws, ∀ (a' : Array Value) (U : State), s.WarmedH U.vm → w.before a' U = true) (hcw : Cond.codeWith y bytes maxL ret hh ∈ ws)
    (hl : (Cond.methodLink own index y).before args s = true) (hstt : (Cond.static y).before args s = true) (hini : (Cond.initialized y.cls).before args s = true) (hy : y.cls ≠ "java/lang/invoke/MethodHandle" ∧ y.cls ≠ "java/lang/invoke/VarHandle") (hlen : (parseMethodDescriptor y.desc).map (fun d => d.parameters.length) = some n)
    (hPc : ∀ U : State, U.heap = H → s.WarmedH U.vm → Pc As.toArray U) (hg : g.method = m) (hn : As.length = n) (hsize : g.locals.size = nL) (hstack : g.stack = As.reverse ++ rest) (hW : 2 * g.monitorRoom + (rest.map fun v => v.category).sum ≤ 8) (hdg : decode cc g.pc = .ok (.invokestatic index, 3)) (hf : cells + mc ≤ R.cells ∧ slots + ms ≤ R.slots) :
    va_Run p l e R s m args below meth c H locs cells slots mc ms g rest (Qc As.toArray) (free) := by
  have hK : Back l R p e below s args y 3 8 (PreOf R mc ms Pc) (PostOf Qc mc ms free) := va_backW (hh := hh) (bytes := bytes) (maxL := maxL) (ret := ret) hM hbl hrc hrs hR.1 hR.2 hws hcw (fun a' U hW => word_at hW (Or.inl rfl) hini)
  obtain ⟨hx, hb, hml, ho, -⟩ := S
  intro T hT X
  have hcode : (Cond.codeWith y bytes maxL ret hh).before args s = true := hws _ hcw args s (State.WarmedH.refl s)
  obtain ⟨mk, methM, cM, hnamed, hmethM, -, -, -, -, -, -, hsigM⟩ := Cond.codeWith_spec hcode
  have hstatic : methM.isStatic = true := Cond.static_spec hnamed hmethM hstt
  obtain ⟨kP, hkP, -⟩ := className_of_methodNamed hnamed
  have hinitP : kP.init = .initialized := Cond.initialized_spec (findClass_of_methodNamed hnamed) hkP hini
  rw [hsigM] at hlen
  obtain ⟨vm₁, X₁, hstep₁⟩ := X.invokestatic hx ho hl hnamed hmethM hstatic hkP hinitP hy (g := g) hg (argsL := As) (rest := rest) (hn.trans (Option.some.inj hlen).symm) hstack (by rw [hb]; exact hdg)
  obtain ⟨v, ⟨U', l2, c2, s2⟩, X', ⟨g', mk', t, L, e1, e2, hq, h1, hL, h2, h3⟩, hsteps⟩ := hK m meth c ⟨T.setVm vm₁, locs, cells, slots⟩ { g with stack := rest } (.invokestatic index) mk As.toArray X₁ hg (hsize.trans hml.symm) (by rw [hb]; exact hdg) hW (X₁.named hnamed) ⟨hf.1, hf.2, hPc (T.setVm vm₁) hT X₁.warmed⟩
  dsimp only [Pt.U, Pt.locs, Pt.cells, Pt.slots] at X' e1 e2 h1 h2 h3 hsteps
  subst h1; subst h2; subst h3
  exact ⟨v, (T.setVm vm₁).calling g' mk' As.toArray, t, U', L, hT, X', hL, e1, e2, hq, fun target h => hstep₁ _ fun acts => by rw [doInvoke_state]; exact hsteps.trans h⟩
end PXR
section PXCW
variable {p : Program} {l : Launch} {e : Env} {R : Room} {s : State} {m : MethodId} {args : Array Value} {below : List Frame} {meth : Method} {c : Code} {y : pm_m} {h0 : Nat} {D : pm_D} {b : pm_b} {Q : State → Prop} {pc : Nat} {L : List (Nat × Value)} {S : List Value} {M M1 : pm_M}
theorem pm_ginW {y2 : pm_m} {hh : List (Nat × Nat × Nat × Nat)} (h : Cond.codeWith y2.1 y2.2.1 y2.2.2.1 y2.2.2.2 hh ∈ pm_tbl) : GoodIn pm_tbl (pm_wW y2 hh) := by
  have hg : ∀ w ∈ pm_tbl, w ∈ pm_tbl ∧ ((w.onTables && w.keeps) = true ∨ ∃ ty, w = .arrayClass ty) := fun w hw => ⟨hw, good_of_word (List.all_eq_true.mp pm_tbl_good w hw)⟩
  intro w hw
  rcases List.mem_cons.mp hw with rfl | hw
  · exact hg _ h
  · exact hg w hw
def pm_kSW (y2 : pm_m) (hh : List (Nat × Nat × Nat × Nat)) (n : Nat) : Prop := Cond.initialized y2.1.cls ∈ pm_tbl ∧ Cond.codeWith y2.1 y2.2.1 y2.2.2.1 y2.2.2.2 hh ∈ pm_tbl ∧ y2.1.cls ≠ "java/lang/invoke/MethodHandle" ∧ y2.1.cls ≠ "java/lang/invoke/VarHandle" ∧ (parseMethodDescriptor y2.1.desc).map (fun d => d.parameters.length) = some n ∧ y2.2.2.1 ≤ 45 ∧ Cond.static y2.1 ∈ pm_tbl
theorem pm_cSW (y2 : pm_m) {hh : List (Nat × Nat × Nat × Nat)} {d2 idx : Nat} {As S0 : List Value} {r : Option Value} (hC : pm_CW l h0 D y2 hh d2 As M r M1) (hS : S = As.reverse ++ S0) (hd : decode y.2.1 pc = .ok (.invokestatic idx, 3)) (hk : pm_kSW y2 hh As.length) (hln : pm_kL y idx y2) (hd2 : d2 + 1 ≤ b.2.2.2.2) (hW : (S0.map fun v => v.category).sum ≤ 8) (hn1 : M1.1.1 ≤ b.2.2.1) (hz1 : M1.1.2.1 ≤ b.2.2.2.1) (kk : pm_V (p, l, e, R, s, m, args, below, meth, c) y h0 D b Q (pc + 3) L (r.toList ++ S0) M1) : pm_V (p, l, e, R, s, m, args, below, meth, c) y h0 D b Q pc L S M := by
  intro X H locs ls hR hF hlo hL hn hz
  obtain ⟨X1, X2, X3, X4, X5, X6, X7, X8, X9, X10, X11, X12, X13⟩ := id X
  obtain ⟨C1, C2, C3⟩ := hC
  obtain ⟨k1, k2, k3, k4, k5, k6, k7⟩ := hk
  have hln := X5 _ hln
  have hrm := pm_room X12 X13 hd2 k6
  subst hS
  refine pm_after (px_runSW (hh := hh) (As := As.map (pm_cv h0)) (rest := S0.map (pm_cv h0)) ⟨X1, X2, X3, X4, X5⟩ C3 pm_blind rfl rfl hrm (pay_in X5 (pm_ginW k2)) List.mem_cons_self hln (X5 _ k7) (X5 _ k1) ⟨k3, k4⟩ k5 (pm_pre (As := As) hR X6 hF) rfl (by simp) hL.1 (by simp [pm_cv]) (lv_room (pm_cat h0 hW)) hd ⟨by omega, by omega⟩) hF hlo (fun H1 locs1 hR1 hF1 hlo1 => ?_)
  have h9 := kk X H1 locs1 ls hR1 hF1 hlo1 hL (Nat.le_trans hn C1) (Nat.le_trans hz C2)
  rw [pm_tol]
  have c1 : M1.1.1 - b.1 = M.1.1 - b.1 + (M1.1.1 - M.1.1) := by omega
  have c2 : M1.1.2.1 - b.2.1 = M.1.2.1 - b.2.1 + (M1.1.2.1 - M.1.2.1) := by omega
  rw [c1, c2] at h9
  exact h9
end PXCW
