/-! objects, contracts, calls -/
section PMO
variable {x : pm_c} {y : pm_m} {h0 : Nat} {D : pm_D} {b : pm_b} {Q : State → Prop} {pc : Nat} {L L' : List (Nat × Value)} {S S' : List Value} {M M' : pm_M}
/-- new: a class by its number; all its fields at their defaults -/
theorem pm_new (ci : Nat) {idx : Nat} {q : vw_C} (hd : decode y.2.1 pc = .ok (.new idx, 3)) (hc : pm_cl[ci]? = some q) (hci : ci < 100) (hw1 : Cond.classLink y.1.cls idx q.1 ∈ pm_tbl) (hw2 : Cond.instantiable q.1 q.2.2 ∈ pm_tbl) (hw3 : Cond.initialized q.1 ∈ pm_tbl) (h1 : M.1.1 + 1 ≤ b.2.2.1) (h2 : M.1.2.1 + q.2.2 ≤ b.2.2.2.1) (ht : ∀ k, k < q.2.2 → pm_ft ci k ≠ 9)
    (kk : pm_V x y h0 D b Q (pc + 3) L (.ref M.1.1 :: S) (pm_na M ci q.2.2)) : pm_V x y h0 D b Q pc L S M := by
  obtain ⟨p, l, e, R, s, m, args, below, meth, c⟩ := x
  intro X H locs ls hR hF hlo hL hn hz
  obtain ⟨X1, X2, X3, X4, X5, X6, X7, X8, X9, X10, X11, X12⟩ := id X
  obtain ⟨C, T, N⟩ := q
  have h2 : M.1.2.1 + N ≤ b.2.2.2.1 := h2
  obtain ⟨hin, hnm, hpa⟩ := pm_ck_s hc
  have hpa2 : ∀ k, k < N → parseFieldDescriptor (T k).2.2.1 = some ((parseFieldDescriptor (T k).2.2.1).getD .int) := fun k hk => by
    obtain ⟨ty, e⟩ := hpa k hk
    rw [e]; rfl
  have hKn := X6.1.1 ci _ hc
  refine W.newcK X1 X2 X4 (X5 _ hw1) (X5 _ hw2) (X5 _ hw3) rfl hd (by omega) (by show M.1.2.1 - b.2.1 + N ≤ R.slots; omega) hKn.2.1 hR.1 fun H' kC hkC e1 e2 e3 => ?_
  have hob := u_born (fun k => (parseFieldDescriptor (T k).2.2.1).getD .int) X5 hin hKn hkC e1 hpa2
  have ek : (pm_na M ci N).1.2.2.1 M.1.1 = ci := by simp [pm_na]
  have h9 := kk X H' locs ls (pm_na_at hR e2 e3 ⟨fun _ => ?_, fun q => ?_⟩) (fun q hq => (e3 q (by omega)).trans (hF q hq)) hlo hL (Nat.le_succ_of_le hn) (Nat.le_trans hz (Nat.le_add_right _ _))
  · have c1 : (pm_na M ci N).1.1 - b.1 = M.1.1 - b.1 + 1 := by show M.1.1 + 1 - b.1 = _; omega
    have c2 : (pm_na M ci N).1.2.1 - b.2.1 = M.1.2.1 - b.2.1 + N := by show M.1.2.1 + N - b.2.1 = _; omega
    rw [c1, c2] at h9
    exact h9
  · rw [ek]
    refine ⟨_, hc, hob.to fun k hk => ?_⟩
    obtain ⟨ty, hty⟩ := hpa k hk
    have hft : pm_ft ci k = pm_tc ty := by
      unfold pm_ft
      rw [hc]
      simp only [hty]
    have h8 := ht k hk
    rw [hft] at h8
    rw [hft, hty]
    cases ty <;> first | (simp [pm_tc] at h8; done) | simp [pm_fv, pm_tc, pm_na, defaultValue, va_rf, pm_cv]
  · rw [ek] at q
    omega
def pm_P (h0 : Nat) (D : pm_D) (As : List Value) (M0 : pm_M) : Array Value → State → Prop := fun v U => v = (As.map (pm_cv h0)).toArray ∧ pm_R U h0 D M0 U.heap ∧ pm_K h0 D U
def pm_Q (h0 : Nat) (D : pm_D) (r : Option Value) (M1 : pm_M) : Array Value → State → Outcome → State → Prop := fun _ st o t => o = .returned (r.map (pm_cv h0)) ∧ pm_R t h0 D M1 t.heap ∧ ∀ q, q < h0 → t.heap[q]? = st.heap[q]?
def pm_w (y : pm_m) : List Cond := .code y.1 y.2.1 y.2.2.1 y.2.2.2 :: pm_tbl
/-- A CONTRACT: with the arguments As in the memory M0 the method y answers r and leaves M1; calls nest d deep -/
def pm_C (l : Launch) (h0 : Nat) (D : pm_D) (y : pm_m) (d : Nat) (As : List Value) (M0 : pm_M) (r : Option Value) (M1 : pm_M) : Prop :=
  M0.1.1 ≤ M1.1.1 ∧ M0.1.2.1 ≤ M1.1.2.1 ∧ Met l y.1 (pm_w y) { frames := d, cells := M1.1.1 - M0.1.1, slots := M1.1.2.1 - M0.1.2.1, locals := 64 * d } (pm_P h0 D As M0) (pm_Q h0 D r M1) (M1.1.1 - M0.1.1) (M1.1.2.1 - M0.1.2.1) (fun q => h0 ≤ q)
def pm_E (x : pm_c) (h0 : Nat) (D : pm_D) (M0 : pm_M) (r : Option Value) (M1 : pm_M) : State → Prop := match x with
  | (_, _, _, _, s, _, args, below, _, _) => MQ below (pm_Q h0 D r M1) args s (M1.1.1 - M0.1.1) (M1.1.2.1 - M0.1.2.1) (fun q => h0 ≤ q)
theorem pm_args_map (h0 : Nat) (vs : List Value) : ∀ i, lv_args i (vs.map (pm_cv h0)) = (lv_args i vs).map (pm_cp h0) := by
  induction vs with
  | nil => intro i; rfl
  | cons v vs ih =>
    intro i
    show (i, pm_cv h0 v) :: lv_args (if (pm_cv h0 v).category = 2 then i + 2 else i + 1) (vs.map (pm_cv h0)) = _
    rw [pm_cv_cat, ih]
    rfl
theorem pm_sl (h0 : Nat) (vs : List Value) : (lg_sl (vs.map (pm_cv h0))).length = (lg_sl vs).length := by
  induction vs with
  | nil => rfl
  | cons v vs ih =>
    have e : ∀ (w : Value) (ws : List Value), (lg_sl (w :: ws)).length = (if w.category = 2 then 2 else 1) + (lg_sl ws).length := by
      intro w ws
      by_cases h : w.category = 2
      · simp [lg_sl, h]; omega
      · simp [lg_sl, h]; omega
    rw [List.map_cons, e, e, ih, pm_cv_cat]
/-- the head of any method -/
theorem pm_met {l : Launch} {d : Nat} {As : List Value} {M0 M1 : pm_M} {r : Option Value} (hy : plainName y.1.cls = true) (hl : (lg_sl As).length ≤ y.2.2.1) (hn : M0.1.1 ≤ M1.1.1) (hz : M0.1.2.1 ≤ M1.1.2.1)
    (body : ∀ p e R s m args below meth c, pm_V (p, l, e, R, s, m, args, below, meth, c) y h0 D (M0.1.1, M0.1.2.1, M1.1.1, M1.1.2.1, d) (pm_E (p, l, e, R, s, m, args, below, meth, c) h0 D M0 r M1) 0 (lv_args 0 As) [] M0) : pm_C l h0 D y d As M0 r M1 := by
  refine ⟨hn, hz, ?_⟩
  refine Met.ofW (cc := y.2.1) (maxL := y.2.2.1) (ret := y.2.2.2) hy rfl ?_
  intro p e s m args below meth c s₁ B hml hv
  obtain ⟨rfl, hR, hK⟩ := hv
  have hts := atoms_spec (ws := pm_w y) B.pre
  have hown : s.vm.findClass y.1.cls = some m.cls := findClass_of_methodNamed B.named
  have hnm : meth.name = y.1.name := (name_of_methodNamed B.named B.method).1
  have hlv := lv_entry (As.map (pm_cv h0)) (n := y.2.2.1) (by rw [pm_sl]; exact hl)
  rw [pm_args_map] at hlv
  rw [lg_entry_eq]
  have hb := body p e (headSpec (pm_w y) { frames := d, cells := M1.1.1 - M0.1.1, slots := M1.1.2.1 - M0.1.2.1, locals := 64 * d }).room s m (As.map (pm_cv h0)).toArray below meth c
    ⟨B.exec, B.bytes, hml, hown, fun w hw => hts w (List.mem_cons_of_mem _ hw), hK, B.notSynchronized, B.returns, hnm, rfl, rfl, Nat.le_refl _, Nat.le_refl _⟩ s.heap [] _ hR (fun _ _ => rfl) (fun _ h => by cases h) hlv (Nat.le_refl _) (Nat.le_refl _)
  simp only [Nat.sub_self] at hb
  exact hb
/-- the ends -/
theorem pm_reti {d : Nat} {M0 M1 : pm_M} {v w : Int32} (hr : y.2.2.2 = some .int) (hd : decode y.2.1 pc = .ok (.ireturn, 1)) (hv : v = w) (hM : M = M1) (hb : b = (M0.1.1, M0.1.2.1, M1.1.1, M1.1.2.1, d)) : pm_V x y h0 D b (pm_E x h0 D M0 (some (.int w)) M1) pc L [.int v] M := by
  obtain ⟨p, l, e, R, s, m, args, below, meth, c⟩ := x
  subst hv; subst hM; subst hb
  intro X H locs ls hR hF hlo hL hn hz
  obtain ⟨X1, X2, X3, X4, X5, X6, X7, X8, X9, X10⟩ := id X
  exact W.iret X1 X2 (X8.trans hr) (fun t ht hW => ⟨rfl, by rw [ht]; exact hR.moved hW.alike, fun q hq => by rw [ht]; exact hF q hq⟩) hlo hd X7
theorem pm_retz {d : Nat} {M0 M1 : pm_M} {v w : Int32} (hr : y.2.2.2 = some .boolean) (hd : decode y.2.1 pc = .ok (.ireturn, 1)) (h2 : (v == 0 || v == 1) = true) (hv : v = w) (hM : M = M1) (hb : b = (M0.1.1, M0.1.2.1, M1.1.1, M1.1.2.1, d)) : pm_V x y h0 D b (pm_E x h0 D M0 (some (.int w)) M1) pc L [.int v] M := by
  obtain ⟨p, l, e, R, s, m, args, below, meth, c⟩ := x
  subst hv; subst hM; subst hb
  intro X H locs ls hR hF hlo hL hn hz
  obtain ⟨X1, X2, X3, X4, X5, X6, X7, X8, X9, X10⟩ := id X
  exact W.zret X1 X2 (X8.trans hr) (pm_fitz h2).1 (fun t ht hW => ⟨rfl, by rw [ht]; exact hR.moved hW.alike, fun q hq => by rw [ht]; exact hF q hq⟩) hlo hd X7
theorem pm_retl {d : Nat} {M0 M1 : pm_M} {v w : Int64} (hr : y.2.2.2 = some .long) (hd : decode y.2.1 pc = .ok (.lreturn, 1)) (hv : v = w) (hM : M = M1) (hb : b = (M0.1.1, M0.1.2.1, M1.1.1, M1.1.2.1, d)) : pm_V x y h0 D b (pm_E x h0 D M0 (some (.long w)) M1) pc L [.long v] M := by
  obtain ⟨p, l, e, R, s, m, args, below, meth, c⟩ := x
  subst hv; subst hM; subst hb
  intro X H locs ls hR hF hlo hL hn hz
  obtain ⟨X1, X2, X3, X4, X5, X6, X7, X8, X9, X10⟩ := id X
  exact W.lret X1 X2 (X8.trans hr) (fun t ht hW => ⟨rfl, by rw [ht]; exact hR.moved hW.alike, fun q hq => by rw [ht]; exact hF q hq⟩) hlo hd X7
theorem pm_retv {d : Nat} {M0 M1 : pm_M} (hr : y.2.2.2 = none) (hd : decode y.2.1 pc = .ok (.return_, 1)) (hM : M = M1) (hb : b = (M0.1.1, M0.1.2.1, M1.1.1, M1.1.2.1, d)) : pm_V x y h0 D b (pm_E x h0 D M0 none M1) pc L [] M := by
  obtain ⟨p, l, e, R, s, m, args, below, meth, c⟩ := x
  subst hM; subst hb
  intro X H locs ls hR hF hlo hL hn hz
  obtain ⟨X1, X2, X3, X4, X5, X6, X7, X8, X9, X10⟩ := id X
  exact W.vret X1 X2 (X8.trans hr) (fun t ht hW => ⟨rfl, by rw [ht]; exact hR.moved hW.alike, fun q hq => by rw [ht]; exact hF q hq⟩) hlo hd X7
/-- Object() -/
theorem pm_obj {a idx : Nat} (hd : decode y.2.1 pc = .ok (.invokespecial idx, 3)) (hw1 : Cond.methodLink y.1.cls idx Lib.objectInit ∈ pm_tbl) (hw2 : Cond.instanceMethod Lib.objectInit ∈ pm_tbl) (hw3 : Cond.code Lib.objectInit ⟨#[0xb1]⟩ 1 none ∈ pm_tbl) (hfr : 1 ≤ b.2.2.2.2) (hS : (S.map fun v => v.category).sum ≤ 8) (kk : pm_V x y h0 D b Q (pc + 3) L S M) : pm_V x y h0 D b Q pc L (.ref a :: S) M := by
  obtain ⟨p, l, e, R, s, m, args, below, meth, c⟩ := x
  intro X H locs ls hR hF hlo hL hn hz
  obtain ⟨X1, X2, X3, X4, X5, X6, X7, X8, X9, X10, X11, X12, X13⟩ := id X
  have hcat : ((S.map (pm_cv h0)).map fun v => v.category).sum ≤ 8 := by
    rw [List.map_map]
    have : ((fun v : Value => v.category) ∘ pm_cv h0) = fun v => v.category := funext fun v => pm_cv_cat h0 v
    rw [this]; exact hS
  refine W.objInit X1 X2 X4 (X5 _ hw1) (X5 _ hw2) (X5 _ hw3) rfl (by rw [X3]; exact hL.1) rfl hd (by omega) ?_ (kk X H locs ls hR hF hlo hL hn hz)
  have h9 := lv_room (m := m) (pc := pc) (ls := ls) (rest := S.map (pm_cv h0)) hcat
  have h8 : 2 * (F0 m pc ls (.ref (h0 + a) :: S.map (pm_cv h0))).monitorRoom + ((S.map (pm_cv h0)).map fun v => v.category).sum ≤ 8 := h9
  have h7 : 64 ≤ R.locals := by omega
  exact Nat.le_trans (Nat.add_le_add_right h8 12) (by omega)
end PMO
