set_option maxRecDepth 100000
def aB (c _i : Nat) : Prop := c = 9 ∨ c = 39 ∨ c = 18 ∨ c = 29 ∨ c = 35 ∨ c = 73 ∨ c = 74
theorem liB_ag2 {u v : pm_J} (h : liB u) (ha : ag aB u v) : liB v := by
  obtain ⟨⟨w0, w1, w2, w3, w4, w5, w6, w7, w8, w9⟩, ⟨⟨b1, b1', b1''⟩, ⟨b2, b2', b2''⟩, ⟨b3, b3', b3''⟩, ⟨b4, b4', b4''⟩, b5⟩, h3⟩ := h
  have e : ∀ c i, c = 9 ∨ c = 39 ∨ c = 18 ∨ c = 29 ∨ c = 35 ∨ c = 73 ∨ c = 74 → v.1 c i = u.1 c i ∧ v.2 c i = u.2 c i := fun c i hc => ha c i hc
  refine ⟨⟨?_, ?_, ?_, ?_, ?_, ?_, ?_, ?_, ?_, ?_⟩, ⟨⟨b1, b1', (e _ _ (by omega)).1.trans b1''⟩, ⟨b2, b2', (e _ _ (by omega)).1.trans b2''⟩, ⟨b3, b3', (e _ _ (by omega)).1.trans b3''⟩, ⟨b4, b4', (e _ _ (by omega)).1.trans b4''⟩, fun d hd => ?_⟩, fun k hk => ⟨(e _ _ (by omega)).1.trans (h3 k hk).1, (e _ _ (by omega)).1.trans (h3 k hk).2⟩⟩
  · exact (e _ _ (by omega)).2.trans w0
  · exact (e _ _ (by omega)).2.trans w1
  · exact (e _ _ (by omega)).2.trans w2
  · exact (e _ _ (by omega)).2.trans w3
  · exact (e _ _ (by omega)).2.trans w4
  · exact (e _ _ (by omega)).2.trans w5
  · exact (e _ _ (by omega)).2.trans w6
  · exact (e _ _ (by omega)).2.trans w7
  · exact (e _ _ (by omega)).2.trans w8
  · exact (e _ _ (by omega)).2.trans w9
  · obtain ⟨b, x, y⟩ := b5 d hd
    exact ⟨b, x, (e _ _ (by omega)).1.trans y⟩
theorem c_bforget (N : Nat) (hN : 100 ≤ N) (g : pm_s) (u : pm_J) : ∃ w, F_BC_forget N g u = some w ∧ clC w ∧ w.1 0 2 = ie 0 ∧ w.1 0 4 = ie 0 ∧ ag (fun c i => ¬ (qG c i ∨ (c = 0 ∧ (i = 2 ∨ i = 4)))) u w := by
  obtain ⟨w, w1, w2, w3⟩ := c_mforget N hN g (wi (wi u 0 2 0) 0 4 0)
  refine ⟨w, ?_, w2, ?_, ?_, ?_⟩
  · unfold F_BC_forget; rw [w1]; rfl
  · exact (w3 0 2 (by unfold qG; omega)).1
  · exact (w3 0 4 (by unfold qG; omega)).1
  · exact ag_t (ag_wi (ag_wi (ag_r _ u) _ _ _ (by omega)) _ _ _ (by omega)) (ag_m w3 (fun c i hc => by unfold qG at hc ⊢; omega))
def clR (u : pm_J) : Prop := u.1 64 5 = ie (-1) ∧ u.1 64 44 = ie 0 ∧ u.1 64 107 = ie 0 ∧ u.1 64 97 = ie 0 ∧ u.1 64 99 = ie 0 ∧ u.1 64 100 = ie 0 ∧ u.1 64 101 = ie 0 ∧ u.1 64 102 = ie 0 ∧ u.1 64 103 = ie 0 ∧ u.1 64 104 = ie 0 ∧ u.1 64 89 = ie 0 ∧ u.1 64 105 = ie 0
theorem r_forget (g : pm_s) (u : pm_J) : ∃ w, F_Md_forget g u = some w ∧ clR w ∧ ag (fun c i => ¬ (c = 64 ∧ (3 ≤ i))) u w := by
  refine ⟨_, rfl, ⟨rfl, rfl, rfl, rfl, rfl, rfl, rfl, rfl, rfl, rfl, rfl, rfl⟩, ?_⟩
  refine ag_wi (ag_wi (ag_wi (ag_wi (ag_wi (ag_wi (ag_wi (ag_wi (ag_wi (ag_wi (ag_wi (ag_wi (ag_wi (ag_wi (ag_wi (ag_wi (ag_wi (ag_wi (ag_wi (ag_r _ u) _ _ _ ?_) _ _ _ ?_) _ _ _ ?_) _ _ _ ?_) _ _ _ ?_) _ _ _ ?_) _ _ _ ?_) _ _ _ ?_) _ _ _ ?_) _ _ _ ?_) _ _ _ ?_) _ _ _ ?_) _ _ _ ?_) _ _ _ ?_) _ _ _ ?_) _ _ _ ?_) _ _ _ ?_) _ _ _ ?_) _ _ _ ?_ <;> omega
theorem LI_new {o : Nat → Int} {n : Nat} {g : pm_s} {v : pm_J} (h1 : liT o n v) (h2 : liB v) (h3 : tyB g v) (h4 : gI g) (h5 : clC v) (h6 : v.1 0 2 = ie 0) (h7 : v.1 0 4 = ie 0) (h8 : clR v) : LI g v := by
  obtain ⟨r1, r2, r3, r4, r5, r6, r7, r8, r9, r10, r11, r12⟩ := h8
  obtain ⟨c1, c2, c3, c4, c5, c6, c7, c8, c9, c10, c11⟩ := h5
  refine ⟨o, n, [], h1, h2, ⟨by show 0 ≤ 6; omega, h7, r3, (fun i x hi => by cases hi)⟩, ⟨c8.trans r4.symm, ?_, c2.trans r6.symm, ?_, (c5 0 (by omega)).trans r8.symm, (c5 1 (by omega)).trans r9.symm, c7.trans r11.symm, c9.trans r10.symm⟩, Or.inl ⟨by rw [c10]; decide, r12⟩, Or.inl ⟨⟨h6, r1, r2, h3⟩, c10, r12⟩, h4⟩
  · rw [c5 2 (by omega), c5 3 (by omega), r5]; rfl
  · rw [c5 4 (by omega), c5 5 (by omega), r7]; rfl
theorem LI_Y {g : pm_s} {u : pm_J} (h : LI g u) : tyB g u := by
  obtain ⟨o, n, pu_W, _, _, _, _, _, h6, _⟩ := h
  rcases h6 with ⟨⟨_, _, _, h⟩, _⟩ | ⟨_, h, _⟩
  · exact h
  · revert h
    generalize cmpS o n = r
    intro h
    cases r with
    | inl q => obtain ⟨_, _, _, _, Y, a⟩ := h; exact tyB_of a
    | inr q => obtain ⟨Y, a1, _⟩ := h; exact tyB_of a1.2.1
theorem o_wipe {N : Nat} (hN : 100 ≤ N) {g : pm_s} {u : pm_J} (h : LI g u) : gLB g ((F_BC_wipe N g u).bind fun q12 => (F_Md_wipe g q12.2).bind fun q13 => if q12.1 = q13.1 then some ((), g, q13.2) else none) := by
  obtain ⟨o, n, pu_W, ⟨t1, t2, t3, t4⟩, h2, h3, h4, h5, h6, h7⟩ := id h
  have hY := LI_Y h
  obtain ⟨w, w1, w2, w3, w4, w5⟩ := c_bforget N hN g (wi u 0 1 0)
  obtain ⟨z, z1, z2, z3⟩ := r_forget g (wi (wi w 64 2 0) 64 1 0)
  have a1 : ag (fun c i => ¬ (c = 0 ∧ i = 1)) u (wi u 0 1 0) := ag_wi (ag_r _ u) _ _ _ (by omega)
  have a2 : ag (fun c i => ¬ (c = 64 ∧ (i = 2 ∨ i = 1))) w (wi (wi w 64 2 0) 64 1 0) := ag_wi (ag_wi (ag_r _ w) _ _ _ (by omega)) _ _ _ (by omega)
  have a3 : ag (fun c _ => c ≠ 64) w z := ag_t (ag_m a2 (fun c i hc => by omega)) (ag_m z3 (fun c i hc => by omega))
  have a4 : ag (fun c i => c ≠ 64 ∧ c ≠ 0 ∧ ¬ qG c i) u z := ag_t (ag_t (ag_m a1 (fun c i hc => by omega)) (ag_m w5 (fun c i hc => by unfold qG at hc ⊢; omega))) (ag_m a3 (fun c i hc => by omega))
  have e01 : z.1 0 1 = ie ((0 : Nat) : Int) := (a3 0 1 (by omega)).1.trans (w5 0 1 (by unfold qG; omega)).1
  have e641 : z.1 64 1 = ie ((0 : Nat) : Int) := (z3 64 1 (by omega)).1
  have hz : LI g z := LI_new (o := fun _ => -1) (n := 0) ⟨⟨by omega, fun _ _ => rfl, fun i hi => by omega⟩, e01, (fun i hi => by omega), e641, (fun i hi => by omega)⟩ (liB_ag2 h2 (ag_m a4 (fun c i hc => by unfold aB at hc; unfold qG; omega))) (tyB_ag hY (ag_m a4 (fun c i hc => by unfold qG; omega))) h7 (clC_ag w2 (ag_m a3 (fun c i hc => by unfold qG at hc; omega))) ((a3 _ _ (by omega)).1.trans w3) ((a3 _ _ (by omega)).1.trans w4) z2
  have ew : w.1 64 1 = ie n := ((w5 64 1 (by unfold qG; omega)).1.trans (a1 64 1 (by omega)).1).trans t4.1
  unfold F_BC_wipe
  rw [w1, Option.bind_some, Option.bind_some]
  unfold F_Md_wipe
  rw [z1, Option.bind_some, Option.bind_some]
  show gLB g (if u.1 0 1 = w.1 64 1 then _ else _)
  rw [t2, ew, if_pos rfl]
  exact gLB_0 hz
/-! the octets of a word -/
def btC (y : Int64) (j : Nat) : Int32 := (((y.toUInt64 >>> (((8 : Int32) * ie (j : Nat)).toInt64.toUInt64 &&& Int64.toUInt64 63)).toInt64).toInt32) &&& 255
def btR (y : Int64) (j : Nat) : Int32 := ((y >>> (((8 : Int32) * ie (j : Nat)).toInt64 &&& 63)) &&& 255).toInt32
theorem bt_sh (j : Nat) (hj : j < 8) : ((8 : Int32) * ie (j : Nat)).toInt64.toUInt64 &&& Int64.toUInt64 63 = UInt64.ofNat (8 * j) ∧ ((8 : Int32) * ie (j : Nat)).toInt64 &&& 63 = Int64.ofNat (8 * j) := by
  rcases (show j = 0 ∨ j = 1 ∨ j = 2 ∨ j = 3 ∨ j = 4 ∨ j = 5 ∨ j = 6 ∨ j = 7 by omega) with rfl | rfl | rfl | rfl | rfl | rfl | rfl | rfl <;> decide
theorem bt_255 (x : Int32) : ∃ k : Nat, x &&& 255 = ie (k : Nat) ∧ k ≤ 255 := by
  have h1 : (x &&& 255).toBitVec = x.toBitVec &&& 255#32 := rfl
  have h2 : (x.toBitVec &&& 255#32).toNat = x.toBitVec.toNat &&& 255 := by rw [BitVec.toNat_and]; rfl
  have h3 : x.toBitVec.toNat &&& 255 ≤ 255 := Nat.and_le_right
  refine ⟨(x &&& 255).toBitVec.toNat, ?_, by rw [h1, h2]; exact h3⟩
  apply Int32.toBitVec_inj.mp
  show _ = BitVec.ofInt 32 _
  apply BitVec.eq_of_toNat_eq
  rw [BitVec.ofInt_natCast, BitVec.toNat_ofNat, h1, h2, Nat.mod_eq_of_lt (by omega)]
theorem bt_lo : ∀ i : Fin 32, 8 ≤ i.1 → (255#64).getLsbD i.1 = false ∧ (255#32).getLsbD i.1 = false := by decide
theorem bt_hi : ∀ i : Fin 32, i.1 < 8 → (255#64).getLsbD i.1 = true ∧ (255#32).getLsbD i.1 = true := by decide
theorem bt_st (j : Nat) (hj : j < 8) : ((Int64.ofNat (8 * j)).toBitVec.smod 64#64).toNat = 8 * j ∧ ((UInt64.ofNat (8 * j)).toBitVec % 64#64).toNat = 8 * j := by
  rcases (show j = 0 ∨ j = 1 ∨ j = 2 ∨ j = 3 ∨ j = 4 ∨ j = 5 ∨ j = 6 ∨ j = 7 by omega) with rfl | rfl | rfl | rfl | rfl | rfl | rfl | rfl <;> decide
theorem bt_eq (y : Int64) (j : Nat) (hj : j < 8) : btR y j = btC y j := by
  obtain ⟨s1, s2⟩ := bt_sh j hj
  obtain ⟨t1, t2⟩ := bt_st j hj
  unfold btR btC
  rw [s1, s2]
  apply Int32.toBitVec_inj.mp
  apply BitVec.eq_of_getLsbD_eq
  intro i hi
  show ((y.toBitVec.sshiftRight ((Int64.ofNat (8 * j)).toBitVec.smod 64#64).toNat &&& 255#64).signExtend 32).getLsbD i = (((y.toBitVec >>> ((UInt64.ofNat (8 * j)).toBitVec % 64#64).toNat).signExtend 32) &&& 255#32).getLsbD i
  rw [t1, t2, BitVec.getLsbD_signExtend, BitVec.getLsbD_and, BitVec.getLsbD_and, BitVec.getLsbD_signExtend, BitVec.getLsbD_sshiftRight, BitVec.getLsbD_ushiftRight]
  rw [decide_eq_true hi, if_pos (show i < 64 by omega), if_pos (show i < 64 by omega)]
  by_cases e : i < 8
  · rw [(bt_hi ⟨i, hi⟩ e).1, (bt_hi ⟨i, hi⟩ e).2, if_pos (show 8 * j + i < 64 by omega), decide_eq_false (show ¬ (64 ≤ i) by omega)]
    rfl
  · rw [(bt_lo ⟨i, hi⟩ (Nat.le_of_not_lt e)).1, (bt_lo ⟨i, hi⟩ (Nat.le_of_not_lt e)).2]
    simp
