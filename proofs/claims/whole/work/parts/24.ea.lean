/-! words of tables_1 by their places -/
theorem pm_t1 {w : Cond} (j : Nat) (h : tables_1_1[j]? = some w) : w ∈ tables_1 := List.mem_append_left _ (List.mem_of_getElem? h)
theorem pm_t2 {w : Cond} (j : Nat) (h : tables_1_2[j]? = some w) : w ∈ tables_1 := List.mem_append_right _ (List.mem_append_left _ (List.mem_of_getElem? h))
theorem pm_t3 {w : Cond} (j : Nat) (h : tables_1_3[j]? = some w) : w ∈ tables_1 := List.mem_append_right _ (List.mem_append_right _ (List.mem_append_left _ (List.mem_of_getElem? h)))
theorem pm_t4 {w : Cond} (j : Nat) (h : tables_1_4[j]? = some w) : w ∈ tables_1 := List.mem_append_right _ (List.mem_append_right _ (List.mem_append_right _ (List.mem_append_left _ (List.mem_of_getElem? h))))
theorem pm_t5 {w : Cond} (j : Nat) (h : tables_1_5[j]? = some w) : w ∈ tables_1 := List.mem_append_right _ (List.mem_append_right _ (List.mem_append_right _ (List.mem_append_right _ (List.mem_append_left _ (List.mem_of_getElem? h)))))
theorem pm_t6 {w : Cond} (j : Nat) (h : tables_1_6[j]? = some w) : w ∈ tables_1 := List.mem_append_right _ (List.mem_append_right _ (List.mem_append_right _ (List.mem_append_right _ (List.mem_append_right _ (List.mem_append_left _ (List.mem_of_getElem? h))))))
theorem pm_t7 {w : Cond} (j : Nat) (h : tables_1_7[j]? = some w) : w ∈ tables_1 := List.mem_append_right _ (List.mem_append_right _ (List.mem_append_right _ (List.mem_append_right _ (List.mem_append_right _ (List.mem_append_right _ (List.mem_append_left _ (List.mem_of_getElem? h)))))))
theorem pm_t8 {w : Cond} (j : Nat) (h : tables_1_8[j]? = some w) : w ∈ tables_1 := List.mem_append_right _ (List.mem_append_right _ (List.mem_append_right _ (List.mem_append_right _ (List.mem_append_right _ (List.mem_append_right _ (List.mem_append_right _ (List.mem_append_left _ (List.mem_of_getElem? h))))))))
theorem pm_t9 {w : Cond} (j : Nat) (h : tables_1_9[j]? = some w) : w ∈ tables_1 := List.mem_append_right _ (List.mem_append_right _ (List.mem_append_right _ (List.mem_append_right _ (List.mem_append_right _ (List.mem_append_right _ (List.mem_append_right _ (List.mem_append_right _ (List.mem_append_left _ (List.mem_of_getElem? h)))))))))
theorem pm_t10 {w : Cond} (j : Nat) (h : tables_1_10[j]? = some w) : w ∈ tables_1 := List.mem_append_right _ (List.mem_append_right _ (List.mem_append_right _ (List.mem_append_right _ (List.mem_append_right _ (List.mem_append_right _ (List.mem_append_right _ (List.mem_append_right _ (List.mem_append_right _ (List.mem_append_left _ (List.mem_of_getElem? h))))))))))
theorem pm_t11 {w : Cond} (j : Nat) (h : tables_1_11[j]? = some w) : w ∈ tables_1 := List.mem_append_right _ (List.mem_append_right _ (List.mem_append_right _ (List.mem_append_right _ (List.mem_append_right _ (List.mem_append_right _ (List.mem_append_right _ (List.mem_append_right _ (List.mem_append_right _ (List.mem_append_right _ (List.mem_of_getElem? h))))))))))
def R_law : String := "BoxedCoreLaw"
def lw_P (b : Addr) (xs : List Int32) (args : Array Value) (s : State) : Prop := args = #[.ref b] ∧ s.IntsAt b xs ∧ xs.length ≤ 2048 ∧ (Jvm.Cond.and given_1 narrow_1).before args s = true
def lw_Q (_ : Array Value) (s : State) (o : Outcome) (t : State) : Prop := o = .returned (some (.int 1)) ∧ Framed s o t [] 601024 7293034
def lw_Z (below : List Frame) (a : Array Value) (s : State) : State → Prop := fun t => ∃ o, t.status = .running ∧ Ended t below o ∧ lw_Q a s o t
/-- the law's own end, with 1 on the stack, nothing written that was there before, its room as the claim has it -/
theorem lw_ret {p : Program} {l : Launch} {e : Env} {s : State} {m : MethodId} {below : List Frame} {meth : Method} {c : Code} {b : Nat} (hx : p.tables.exec = Jvm.exec) (hb : c.code = code) (hr : meth.sig.returnType = ret) (hlocks : meth.locks = false) {pc : Nat} {H : Heap} {ls : Array Slot} (hdg : decode code pc = .ok (.ireturn, 1)) : W p l e room_1 s m #[Value.ref b] below meth c H [] 601024 7293034 (lw_Z below #[Value.ref b] s) (F0 m pc ls [.int 1]) := by
  intro T hT X
  obtain ⟨fs, hret, hrun, hended, hW, hframe⟩ := X.leave (v := some (.int 1)) (hlocks := hlocks) (fun h => by rw [hr] at h; cases h)
  have hmeth' : T.vm.method? m = some meth := X.method'
  refine ⟨T.setFrames fs, ?_, .returned (some (.int 1)), hrun, hended, rfl, ⟨_, rfl⟩, hW, hframe⟩
  jvm_step X.here [X.here.top, hx, hb, hdg, hmeth', hr, ret, narrow_b1]
  (try refine ⟨rfl, ?_⟩); (try refine ⟨rfl, ?_⟩)
  first | (intro acts; rw [hret _ acts rfl rfl rfl]) | rw [hret _ _ rfl rfl rfl]
  exact Steps.refl _
/-- what holds at the law's entry: the machine, the code, the tables' words (any of lw_tbl by 'hts w (by decide +kernel)'), the script of L ints xs at the cell b, what the Statement gives of the start (any of its parts by flat_of_before) -/
def lw_At (p : Program) (s : State) (m : MethodId) (meth : Method) (c : Code) (b L : Nat) (xs : Nat → Int32) : Prop :=
  p.tables.exec = Jvm.exec ∧ c.code = code ∧ meth.sig.returnType = ret ∧ c.maxLocals = 7 ∧ s.vm.findClass R_law = some m.cls ∧ (∀ w ∈ lw_tbl, w.before #[Value.ref b] s = true) ∧ va_X b L xs s s.heap ∧ b < s.heap.size ∧ meth.locks = false ∧ (Jvm.Cond.and given_1 narrow_1).before #[Value.ref b] s = true ∧ meth.name = "law"
/-! the law's loop, over the pure step -/
def lrun (N : Nat) (xs : Nat → Int32) : Nat → Nat → pm_s → pm_J → Option (pm_s × pm_J)
  | 0, _, g, u => some (g, u)
  | k + 1, j, g, u => (LB N (xs (4 * j)) (xs (4 * j + 1)) (xs (4 * j + 2)) (xs (4 * j + 3)) g u).bind fun o => if sh_Tb o.2.1 = true then lrun N xs k (j + 1) o.2.1 o.2.2 else none
theorem lrun_mono {N : Nat} {xs : Nat → Int32} (k : Nat) : ∀ (j : Nat) (g : pm_s) (u : pm_J) (out : pm_s × pm_J), lrun N xs k j g u = some out → g.1 ≤ out.1.1 ∧ g.2.1 ≤ out.1.2.1 := by
  induction k with
  | zero => intro j g u out h; cases h; exact ⟨Nat.le_refl _, Nat.le_refl _⟩
  | succ k ih =>
    intro j g u out h
    obtain ⟨o, ho, h⟩ := pm_bd h
    obtain ⟨-, h⟩ := pm_ifs h
    have h1 := ih _ _ _ _ h
    unfold LB at ho
    have h2 := (pm_Ss ho).2
    exact ⟨Nat.le_trans h2.1 h1.1, Nat.le_trans h2.2 h1.2⟩
theorem lw_idx {j L k : Nat} (hL : L ≤ 2048) (h : 4 * j + k < L) (hk : k < 4) {xs : Nat → Int32} : vp_in (nI (4 * j) + nI k) L ∧ xs (nI (4 * j) + nI k).toNatClampNeg = xs (4 * j + k) := by
  rw [nI_add]
  exact ⟨nI_in h (by omega), by rw [nI_clamp (by omega)]⟩
theorem lw_gt {j L : Nat} (hL : L ≤ 2048) (hj : 4 * j ≤ L) : (L.toInt32 - 4 < nI (4 * j)) ↔ L < 4 * j + 4 := by
  have e1 : (L.toInt32 - 4).toInt = (L : Int) - 4 := by
    have h1 : (L.toInt32).toInt = (L : Int) := nI_toInt (n := L) (by omega)
    rw [Int32.toInt_sub, h1]
    have h4 : (4 : Int32).toInt = 4 := by decide
    rw [h4]
    exact Int.bmod_eq_of_le (by omega) (by omega)
  rw [Int32.lt_iff_toInt_lt, e1, nI_toInt (by omega)]
  omega
section LWL
variable {p : Program} {l : Launch} {e : Env} {R : Room} {s : State} {m : MethodId} {below : List Frame} {meth : Method} {c : Code} {h0 : Nat} {D : pm_D} {b L : Nat} {xs : Nat → Int32}
/-- the law's end -/
theorem pm_lawret {M : pm_M} {Lc : List (Nat × Value)} (hh : h0 = s.heap.size) (h1 : M.1.1 ≤ 601024) (h2 : M.1.2.1 ≤ 7293034) : pm_V (p, l, e, room_1, s, m, #[Value.ref b], below, meth, c) m_Law_law h0 D (0, 0, 601024, 7293034, 248) (lw_Z below #[Value.ref b] s) 614 Lc [.int 1] M := by
  intro X H locs ls hR hF hlo hL hn hz
  obtain ⟨X1, X2, X3, X4, X5, X6, X7, X8, X9, X10⟩ := id X
  intro T hT X0
  have X9' : Stand p l e room_1 s m #[Value.ref b] below meth c T ([] ++ locs) (M.1.1 - 0) (M.1.2.1 - 0) := X0
  have Xf := Stand.forget (locs := []) (extra := locs) X9' (fun z hz9 => by rw [← hh]; exact hlo z hz9)
  have Xg : Stand p l e room_1 s m #[Value.ref b] below meth c T [] 601024 7293034 := ⟨Xf.admits, Xf.cas, Xf.clock, Xf.frames, Xf.room, Xf.hears, Xf.method, Xf.code, Xf.here, Xf.tail, Xf.warmed, Xf.limits, Xf.bytes, Xf.same.weaken (fun y hy _ => hy) (by omega) (by omega)⟩
  exact lw_ret X1 X2 X8 X7 (H := H) (ls := ls) (by decide +kernel) T hT Xg
set_option maxHeartbeats 1000000 in
theorem lw_loop (hfl : l.flags = pinnedFlags ++ [noTraceFlag]) (hh : h0 = s.heap.size) (hX : va_X b L xs s s.heap) (hb : b < h0) (hL : L ≤ 2048) {N : Nat} {out : pm_s × pm_J} (ho1 : out.1.1 ≤ 601024) (ho2 : out.1.2.1 ≤ 7293034) (k : Nat) : ∀ (j : Nat) (g : pm_s) (u : pm_J), sh_T g → j + k = L / 4 → lrun N xs k j g u = some out →
    pm_V (p, l, e, room_1, s, m, #[Value.ref b], below, meth, c) m_Law_law h0 D (0, 0, 601024, 7293034, 248) (lw_Z below #[Value.ref b] s) 23 [(4, .int (nI (4 * j))), (3, .ref 139), (2, .ref 64), (1, .ref 0), (0, .retAddr b)] [] (sm g u) := by
  induction k with
  | zero =>
    intro j g u hT hj h
    cases h
    refine pm_blk (pc' := 25) (L' := [(4, .int (nI (4 * j))), (3, .ref 139), (2, .ref 64), (1, .ref 0), (0, .retAddr b)]) (S' := [.int (nI (4 * j))]) (M' := sm g u) [pm_o (.iload 4)] (by decide +kernel) rfl ?_
    refine pm_alx (k := 0) (i := 0) (q := b) (by decide +kernel) rfl rfl ?_
    refine pm_xalen (by decide +kernel) hX hb ?_
    refine pm_blk (pc' := 29) (L' := [(4, .int (nI (4 * j))), (3, .ref 139), (2, .ref 64), (1, .ref 0), (0, .retAddr b)]) (S' := [.int (L.toInt32 - 4), .int (nI (4 * j))]) (M' := sm g u) [pm_oi (.iconst 4) 4, pm_o .isub] (by decide +kernel) rfl ?_
    refine pm_ic_gt (off := 584) 613 (by decide +kernel) (by decide) (fun hc => ?_) (fun hc => ?_)
    · refine pm_blk (pc' := 614) (L' := [(4, .int (nI (4 * j))), (3, .ref 139), (2, .ref 64), (1, .ref 0), (0, .retAddr b)]) (S' := [.int 1]) (M' := sm g u) [pm_oi (.iconst 1) 1] (by decide +kernel) rfl ?_
      exact pm_lawret hh ho1 ho2
    · exact absurd ((lw_gt hL (by omega)).mpr (by omega)) hc
  | succ k ih =>
    intro j g u hT hj h
    obtain ⟨o, ho, h⟩ := pm_bd h
    obtain ⟨hTb, h⟩ := pm_ifs h
    have hm := lrun_mono _ _ _ _ _ h
    refine pm_blk (pc' := 25) (L' := [(4, .int (nI (4 * j))), (3, .ref 139), (2, .ref 64), (1, .ref 0), (0, .retAddr b)]) (S' := [.int (nI (4 * j))]) (M' := sm g u) [pm_o (.iload 4)] (by decide +kernel) rfl ?_
    refine pm_alx (k := 0) (i := 0) (q := b) (by decide +kernel) rfl rfl ?_
    refine pm_xalen (by decide +kernel) hX hb ?_
    refine pm_blk (pc' := 29) (L' := [(4, .int (nI (4 * j))), (3, .ref 139), (2, .ref 64), (1, .ref 0), (0, .retAddr b)]) (S' := [.int (L.toInt32 - 4), .int (nI (4 * j))]) (M' := sm g u) [pm_oi (.iconst 4) 4, pm_o .isub] (by decide +kernel) rfl ?_
    refine pm_ic_gt (off := 584) 613 (by decide +kernel) (by decide) (fun hc => ?_) (fun hc => ?_)
    · exact absurd ((lw_gt hL (by omega)).mp hc) (by omega)
    · have i0 : vp_in (nI (4 * j)) L ∧ xs (nI (4 * j)).toNatClampNeg = xs (4 * j) := ⟨nI_in (by omega) (by omega), by rw [nI_clamp (by omega)]⟩
      refine w_LB hfl h0 D hT hX hb i0 (lw_idx hL (k := 1) (by omega) (by decide)) (lw_idx hL (k := 2) (by omega) (by decide)) (lw_idx hL (k := 3) (by omega) (by decide)) (Nat.le_trans hm.1 ho1) (Nat.le_trans hm.2 ho2) ho ?_
      refine pm_blk (pc' := 610) (L' := [(4, .int (nI (4 * j) + 4)), (3, .ref 139), (2, .ref 64), (1, .ref 0), (0, .retAddr b)]) (S' := []) (M' := sm o.2.1 o.2.2) [pm_oi (.iinc 4 4) 4] (by decide +kernel) rfl ?_
      refine pm_goto (off := -587) 23 (by decide +kernel) (by decide) ?_
      have e4 : nI (4 * j) + 4 = nI (4 * (j + 1)) := by
        have h9 := nI_add (4 * j) 4
        rw [show 4 * (j + 1) = 4 * j + 4 by omega, ← h9]
        rfl
      rw [e4]
      exact ih (j + 1) _ _ (sh_Tb_s hTb) (by omega) h
end LWL
