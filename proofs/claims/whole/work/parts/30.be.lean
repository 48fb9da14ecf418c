set_option maxRecDepth 100000
theorem st_loop {u0 : pm_J} {T : List Tok} {n : Nat} {D : List Df} {t : Tr} {c : CS} {sT : Nat → Ta} {g : pm_s} {Y : List Ty} {bx : Bool} {lim : Nat} {rk : Int32} {d w : Nat} {A : List Va} (N : Nat) (H0 : cF T n D t c sT g u0 Y) (hd : d < D.length) (hw : A.length ≤ w) (hw24 : w ≤ 24) (hA : A.length = (dPs D d).length) (h6 : A.length ≤ 6) (h2 : ∀ (i : Nat) (x : Va), A[i]? = some x → u0.2 2 i = x.2) (m : Nat) : ∀ (i : Nat) (u : pm_J) (f : Nat), i + m = A.length → m < f → rc0 u0 t Y bx lim rk (ie 0) u ([], 0) (lDef (fun _ => none) 0 w (A.take i)) (0 + w) [] v0 0 0 0 → u.1 44 13 = ie ((0 : Nat) : Int) → ∃ z, K_Machine_start_2_49 N g f (ie (d : Nat)) (ie (i : Nat)) u = K_Machine_start_2_111 N g N 0 z ∧ rcM u0 t Y bx lim rk z (([], 0), lDef (fun _ => none) 0 w A, 0 + w, [], v0, 0, 0, 0, (0, dRt D d, 0, v0)) := by
  induction m with
  | zero =>
    intro i u f hi hf h h13
    obtain ⟨f, rfl⟩ : ∃ f', f = f' + 1 := ⟨f - 1, by omega⟩
    rw [List.take_of_length_le (by omega)] at h
    have H := cF_ag H0 h.1
    obtain ⟨b1, _, b3, _⟩ := tb_all H hd
    obtain ⟨z, z1, z2, z3, z4, z5⟩ := c_goInto0 g (ie (dRt D d : Nat)) (ie ((0 : Nat) : Int)) h
    refine ⟨z, ?_, z2, mdC_0 z3 z4 z5 (by omega)⟩
    rw [K_Machine_start_2_49, b3, Option.bind_some, if_pos ((inle _ _ (by omega) (by omega)).mpr (by omega))]
    unfold K_Machine_start_2_92
    rw [b1, Option.bind_some, h13, z1]; rfl
  | succ m ih =>
    intro i u f hi hf h h13
    obtain ⟨f, rfl⟩ : ∃ f', f = f' + 1 := ⟨f - 1, by omega⟩
    have H := cF_ag H0 h.1
    obtain ⟨_, _, b3, _⟩ := tb_all H hd
    obtain ⟨k1, _, _, k4, _⟩ := id h
    obtain ⟨x, hx⟩ : ∃ x, A[i]? = some x := ⟨_, List.getElem?_eq_getElem (by omega)⟩
    have e2 : u.2 2 i = x.2 := (k1 2 i (by unfold qS; omega)).2.trans (h2 i x hx)
    have a1 : ag (fun c i => ¬ ((c = 45 ∧ i = 8) ∨ c = 51)) u (wj u 51 (0 + i) x.2) := ag_wj (ag_r _ u) _ _ _ (by omega)
    obtain ⟨z, z1, z2⟩ := ih (i + 1) _ f (by omega) (by omega) (rc0_lo h a1 (loC_d1 k4 hx)) ((a1 _ _ (by omega)).1.trans h13)
    refine ⟨z, ?_, z2⟩
    rw [K_Machine_start_2_49, b3, Option.bind_some, if_neg (fun hh => by have := (inle _ _ (by omega) (by omega)).mp hh; omega), if_neg (show ¬ (Nat.toInt32 6 ≤ ie (i : Nat)) from fun hh => by have := (inle 6 i (by omega) (by omega)).mp hh; omega), if_pos (okn i 6 (by omega) (by omega)), ntn i (by omega), e2, h13, (lo_rd g k4.1 k4.2.1 (show 0 + i < 0 + w by omega)).2, Option.bind_some, iadd1]; exact z1
theorem c_start {T : List Tok} {n : Nat} {D : List Df} {t : Tr} {c : CS} {sT : Nat → Ta} {g : pm_s} {Y : List Ty} {u : pm_J} {d lim r : Nat} {A : List Va} {sf : Ms} (bx : Bool) (N : Nat) (hN : 10000000 ≤ N) (hW : pW T D t) (hKJ : kJ D t c) (hI : kI0 D t t.1 c) (H : cF T n D t c sT g u Y) (hd : d < D.length) (hA : A.length = (dPs D d).length) (h2 : ∀ (i : Nat) (x : Va), A[i]? = some x → u.2 2 i = x.2) (hl : lim ≤ 20000) (hr : rch D t c bx lim 9700000 (s0R D d A) r sf) : ∃ (k : Nat) (w : pm_J), F_Machine_start_2 N (ie (d : Nat)) (ib bx) (ie (lim : Nat)) g u = some (ie (r : Nat), w) ∧ Y[k]? = some (dTy D d) ∧ finC u Y (ie (k : Nat)) w r sf.1 sf.2.2.2.2.1 sf.2.2.2.2.2.1 sf.2.2.2.2.2.2.1 sf.2.2.2.2.2.2.2.1 := by
  have hx : D[d]? = some D[d] := List.getElem?_eq_getElem hd
  obtain ⟨w0, w1, w2, w3⟩ := c_mforget N (by omega) g u
  have a0 : ag qS u w0 := ag_m w3 (fun c i hc => by unfold qS at hc; unfold qG; omega)
  let u1 : pm_J := wi (wi w0 44 6 (ib bx)) 44 7 (ie (lim : Nat))
  have a1 : ag (fun c i => ¬ (c = 44 ∧ (i = 6 ∨ i = 7))) w0 u1 := ag_wi (ag_wi (ag_r _ _) _ _ _ (by omega)) _ _ _ (by omega)
  obtain ⟨_, _, _, hw24, k, k1, k2⟩ := tb_all (cF_ag H (ag_t a0 (ag_m a1 (fun c i hc => by unfold qS at hc; omega)))) hd
  let u2 : pm_J := wi u1 44 16 (ie (k : Nat))
  have a2 : ag (fun c i => ¬ (c = 44 ∧ (i = 6 ∨ i = 7 ∨ i = 16))) w0 u2 := ag_wi (ag_m a1 (fun c i hc => by omega)) _ _ _ (by omega)
  have b2 := (tb_all (cF_ag H (ag_t a0 (ag_m a2 (fun c i hc => by unfold qS at hc; omega)))) hd).2.1
  have cl2 : clC u2 := clC_ag w2 (ag_m a2 (fun c i hc => by unfold qG at hc; omega))
  have hcl := (hp_claim (u := u2) (lc := 0) g (dWd D d) hw24 cl2.2.2.1 (by omega)).1 (by omega)
  let u3 : pm_J := wi (wi u2 45 8 (ie ((0 + dWd D d : Nat) : Int))) 44 13 (ie ((0 : Nat) : Int))
  have a3 : ag (fun c i => ¬ (c = 44 ∧ (i = 6 ∨ i = 7 ∨ i = 16 ∨ i = 13)) ∧ ¬ (c = 45 ∧ i = 8)) w0 u3 := ag_wi (ag_wi (ag_m a2 (fun c i hc => by omega)) _ _ _ (by omega)) _ _ _ (by omega)
  obtain ⟨c1, c2, c3, c4, c5, c6, c7, c8, c9, c10, c11⟩ := w2
  have h0 : rc0 u t Y bx lim (ie (k : Nat)) (ie 0) u3 ([], 0) (lDef (fun _ => none) 0 (dWd D d) (A.take 0)) (0 + dWd D d) [] v0 0 0 0 := by
    refine ⟨ag_t a0 (ag_m a3 (fun c i hc => by unfold qS at hc; omega)), ⟨(a3 _ _ (by omega)).1.trans c1, by show 0 ≤ 4000; omega, (fun i it hi => by cases hi), fun j hj => (a3 _ _ (by omega)).1.trans (c5 j hj), (a3 _ _ (by omega)).1.trans c2⟩, (a3 _ _ (by omega)).1.trans c4, ⟨rfl, by omega, fun i y hi hy => ?_⟩, trivial, ⟨(a3 _ _ (by omega)).1.trans c6, by show 0 ≤ 150; omega⟩, ⟨(a3 _ _ (by omega)).2.trans c11, (a3 _ _ (by omega)).1.trans c8, (a3 _ _ (by omega)).1.trans c9, (a3 _ _ (by omega)).1.trans c7, rfl, rfl, (a3 _ _ (by omega)).1.trans c10, rfl, by omega, hl, by omega⟩⟩
    exfalso
    unfold lDef at hy
    rw [List.take_zero] at hy
    by_cases e : 0 ≤ i ∧ i < 0 + dWd D d
    · rw [if_pos e] at hy; cases hy
    · rw [if_neg e] at hy; cases hy
  have hlw : A.length ≤ dWd D d ∧ A.length ≤ 6 := by
    have hw : dWd D d = D[d].2.2.2.2.2.2.1 := by unfold dWd; rw [hx]
    rw [hA, (dPs_some hx).2.2, hw]
    exact ⟨(hW.1 d _ hx).2.2.2.2.2.2.1.2.1, (hW.1 d _ hx).2.2.2.2.2.2.1.1⟩
  obtain ⟨z, z1, z2⟩ := st_loop N H hd hlw.1 hw24 hA hlw.2 h2 A.length 0 u3 N (by omega) (by omega) h0 rfl
  obtain ⟨w, y1, y2⟩ := c_run N (by omega) hW hKJ hI H 9700000 9700000 _ z 0 N (Nat.le_refl _) hr (by show (0 : Nat) ≠ 3; omega) z2 (by omega) (by omega)
  refine ⟨k, w, ?_, k2, y2⟩
  unfold F_Machine_start_2
  rw [w1, Option.bind_some, if_pos (by cases bx <;> rfl)]
  show (F_Table_type (ie (d : Nat)) g u1).bind _ = _
  rw [k1, Option.bind_some]
  show (F_Table_locals (ie (d : Nat)) g u2).bind _ = _
  rw [b2, Option.bind_some]
  show (F_Heap_claim (ie (dWd D d : Nat)) g u2).bind _ = _
  rw [hcl, Option.bind_some]
  show K_Machine_start_2_49 N g N (ie (d : Nat)) (ie ((0 : Nat) : Int)) u3 = _
  rw [z1]; exact y1
