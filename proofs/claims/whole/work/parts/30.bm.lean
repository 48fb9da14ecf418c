set_option maxRecDepth 100000
theorem zip_g {ps : List Ty} {pu_W : List Int64} {i : Nat} {x : Va} (h : (List.zipWith (fun p w => ((tyK p, w) : Va)) ps pu_W)[i]? = some x) : ∃ p w, ps[i]? = some p ∧ pu_W[i]? = some w ∧ x = (tyK p, w) := by
  rw [List.getElem?_zipWith] at h
  cases hp : ps[i]? with
  | none => rw [hp] at h; cases h
  | some p =>
    cases hw : pu_W[i]? with
    | none => rw [hp, hw] at h; cases h
    | some w => rw [hp, hw] at h; cases h; exact ⟨p, w, rfl, rfl, rfl⟩
theorem o_run_no {N : Nat} {c1 b c3 : Int32} {g : pm_s} {u : pm_J} (h : LI g u) (k : Nat) (hk : k = 0 ∨ k = 1) (h1 : T_BC_run N c1 b c3 g u = some k) (h2 : F_Md_run N c1 b c3 (sx g) u = some (0, wi u 64 2 (ie ((2 - k : Nat) : Int)))) : gLB g ((FX_run N c1 b c3 g u).bind fun q2 => if sh_Tb q2.2.1 = true then pm_S q2.2.1 ((F_Md_run N c1 b c3 q2.2.1 q2.2.2).bind fun q5 => (F_Md_thrown q2.2.1 q5.2).bind fun q6 => if q6 = q2.1 then if q2.1 = 0 then if pm_ok 0 1 = true then if (lg_cmp (q5.2.2 139 0) q5.1.toInt64) = 0 then some ((), q2.2.1, q5.2) else none else none else some ((), q2.2.1, q5.2) else none) else none) := by
  refine gLB_x (u := u) (F := F_Md_run N c1 b c3) (a := (ie ((2 - k : Nat) : Int), sx g, u)) (m := 0) (q := wi u 64 2 (ie ((2 - k : Nat) : Int))) ?_ (Or.inr rfl) h2 (LI_2 (LI_sx h) _) (by rw [wi_at]) (fun hh => ?_)
  · unfold FX_run
    rw [h1]
    rcases hk with rfl | rfl
    · rfl
    · rfl
  · exfalso
    rcases hk with rfl | rfl
    · exact absurd (show ie ((2 - 0 : Nat) : Int) = (0 : Int32) from hh) (by decide)
    · exact absurd (show ie ((2 - 1 : Nat) : Int) = (0 : Int32) from hh) (by decide)
theorem r_87 {N : Nat} {a1 x2 x3 : Int32} {g : pm_s} {u : pm_J} (h : F_Md_noDef a1 g u = some 0) : K_Md_run_87 N g a1 x2 x3 0 u = some (0, wi u 64 2 2) := by
  unfold K_Md_run_87 K_Md_run_110
  rw [h, Option.bind_some, if_pos rfl, if_pos rfl, if_neg (by decide)]
theorem r_42 {N f : Nat} {a1 x2 x3 x5 : Int32} {g : pm_s} {u : pm_J} : K_Md_run_42 N g (f + 1) a1 x2 x3 0 x5 u = K_Md_run_87 N g a1 x2 x3 0 u := by
  rw [K_Md_run_42, if_pos rfl]
theorem o_run {N : Nat} (hN : 10000000 ≤ N) (bx : Bool) {c1 b c3 : Int32} (hb : b = ib bx) {g : pm_s} {u : pm_J} (h : LI g u) : gLB g ((FX_run N c1 b c3 g u).bind fun q2 => if sh_Tb q2.2.1 = true then pm_S q2.2.1 ((F_Md_run N c1 b c3 q2.2.1 q2.2.2).bind fun q5 => (F_Md_thrown q2.2.1 q5.2).bind fun q6 => if q6 = q2.1 then if q2.1 = 0 then if pm_ok 0 1 = true then if (lg_cmp (q5.2.2 139 0) q5.1.toInt64) = 0 then some ((), q2.2.1, q5.2) else none else none else some ((), q2.2.1, q5.2) else none) else none) := by
  subst hb
  obtain ⟨f, hf⟩ : ∃ f', N = f' + 1 := ⟨N - 1, by omega⟩
  obtain ⟨o, n, pu_W, h1, h2, h3, h4, h5, h6, h7⟩ := id h
  obtain ⟨_, hdf, hcase⟩ := LI_C h6
  have no42 : ∀ (a1 x2 x3 x5 : Int32) (g : pm_s) (u : pm_J), K_Md_run_42 N g N a1 x2 x3 0 x5 u = K_Md_run_87 N g a1 x2 x3 0 u := fun a1 x2 x3 x5 g u => by
    have := r_42 (N := N) (f := f) (a1 := a1) (x2 := x2) (x3 := x3) (x5 := x5) (g := g) (u := u)
    rw [← hf] at this; exact this
  have bad : ∀ hno : F_Md_noDef c1 (sx g) u = some 1, F_Md_run N c1 (ib bx) c3 (sx g) u = some (0, wi u 64 2 (ie ((2 - 1 : Nat) : Int))) := fun hno => by
    unfold F_Md_run
    rw [hno, Option.bind_some, if_neg (by decide), no42]
    unfold K_Md_run_87 K_Md_run_110
    rw [hno, Option.bind_some, if_neg (by decide), if_neg (by decide)]; rfl
  by_cases e0 : c1 < 0
  · refine o_run_no h 1 (Or.inr rfl) ?_ (bad ?_)
    · unfold T_BC_run; rw [if_pos e0]
    · unfold F_Md_noDef; rw [if_pos e0]
  by_cases e1 : c1 < u.1 64 44
  · rcases hcase with ⟨h44, _⟩ | ⟨h02, q, hq, h44⟩
    · rw [h44] at e1; exact absurd e1 e0
    obtain ⟨T, D, t, c⟩ := q
    have h44 : u.1 64 44 = ie (D.length : Nat) := h44
    have hC2 : liC2 o n g u := by
      rcases h6 with ⟨⟨a1, _⟩, _⟩ | h6
      · rw [a1] at h02; exact absurd h02 (by decide)
      · exact h6
    obtain ⟨_, k2, k3, k4⟩ := id hC2
    rw [hq] at k2 k3 k4
    obtain ⟨Y, H, _⟩ := k2
    obtain ⟨_, Y', H'⟩ := k4
    have H : cF T n D t c (taS D t c D.length) g u Y := H
    have H' : rC T n D t c c.1 u Y' := H'
    have hS : pS T D t := cmp_S hq
    have G : gX T D t c := gX_of k3 hS H H'
    obtain ⟨d, rfl, hd31⟩ := i32_nat c1 e0
    have h30 := H'.2.2.1.2
    have hd : d < D.length := by
      rw [h44] at e1; exact (inlt _ _ (by omega) (by omega)).mp e1
    have hx : D[d]? = some D[d] := List.getElem?_eq_getElem hd
    have hno : ∀ g', F_Md_noDef (ie (d : Nat)) g' u = some 0 := fun g' => by
      unfold F_Md_noDef; rw [if_neg e0, if_pos e1]
    have r0 : ∀ g', K_Md_run_87 N g' (ie (d : Nat)) (ib bx) c3 0 u = some (0, wi u 64 2 2) := fun g' => r_87 (hno g')
    by_cases l0 : c3 < 0
    · refine o_run_no h 0 (Or.inl rfl) ?_ ?_
      · unfold T_BC_run; rw [if_neg e0, hdf, Option.bind_some, if_pos e1, if_pos l0]
      · unfold F_Md_run; rw [hno, Option.bind_some, if_pos rfl, if_pos l0, no42, r0]; rfl
    by_cases l1 : 20000 < c3
    · refine o_run_no h 0 (Or.inl rfl) ?_ ?_
      · unfold T_BC_run; rw [if_neg e0, hdf, Option.bind_some, if_pos e1, if_neg l0, if_pos l1]
      · unfold F_Md_run; rw [hno, Option.bind_some, if_pos rfl, if_neg l0, if_pos l1, no42, r0]; rfl
    obtain ⟨lim, rfl, _⟩ := i32_nat c3 l0
    have hlim : lim ≤ 20000 := Nat.le_of_not_lt (fun hh => l1 ((inlt 20000 lim (by omega) (by omega)).mpr hh))
    obtain ⟨w6, w04, w107, wv⟩ := id h3
    obtain ⟨_, _, b3, _, _⟩ := tb_all H hd
    obtain ⟨_, _, b3', _, _⟩ := rtb_all H' hd
    have okd := okn d 30 (by omega) (by omega)
    have ntd := ntn d (by omega)
    have hp6 : (dPs D d).length ≤ 6 := by rw [(dPs_some hx).2.2]; exact (G.1.1 d _ hx).2.2.2.2.2.2.1.1
    by_cases el : (dPs D d).length = pu_W.length
    · have h4' : u.1 0 4 = ie ((dPs D d).length : Nat) := by rw [el]; exact w04
      have hta : F_BC_takesArguments N (ie (d : Nat)) g u = K_BC_takesArguments_19 N g u N (ie (d : Nat)) (ie ((0 : Nat) : Int)) := by
        unfold F_BC_takesArguments; rw [b3, Option.bind_some, h4', if_pos rfl]; rfl
      rcases tk_loop (g' := sx g) (x2 := ib bx) (x3 := ie (lim : Nat)) N G H H' hd h4' (dPs D d).length 0 N N (by omega) (by omega) (by omega) with ⟨a1, a2⟩ | ⟨a1, a2⟩
      · -- it can be run
        let A : List Va := List.zipWith (fun p w => ((tyK p, w) : Va)) (dPs D d) pu_W
        have hAl : A.length = (dPs D d).length := by
          show (List.zipWith _ _ _).length = _
          rw [List.length_zipWith]; omega
        have hA : aRg D d A := ⟨hAl, fun k x p hxk hpk => by
          obtain ⟨p', w, p1, p2, p3⟩ := zip_g hxk
          rw [hpk] at p1; cases p1
          obtain ⟨q, q1, q2⟩ := a1 k p (by omega) hpk
          have : tyK p = q := by rw [q2]; show (if q < 2 then q else 2) = q; rw [if_pos q1]
          rw [p3]
          exact ⟨by show tyK p < 2; omega, by show p = .num (tyK p); rw [this]; exact q2⟩⟩
        have hAw : ∀ (i : Nat) (x : Va), A[i]? = some x → pu_W[i]? = some x.2 := fun i x hi => by
          obtain ⟨p', w, p1, p2, p3⟩ := zip_g hi
          rw [p2, p3]
        obtain ⟨r, sf, hr, hr1, hr4, hT1⟩ := run_T G bx hd hA hlim
        have a0 : ag (fun c i => ¬ (c = 0 ∧ i = 4)) u (wi u 0 4 0) := ag_wi (ag_r _ u) _ _ _ (by omega)
        obtain ⟨k, w1, y1, y2, y3⟩ := c_start bx N hN G.1 (kJ_of G.1 G.2.2.2.2.1) G.2.2.2.1 (cF_agK H (ag_m a0 (fun c i hc => by unfold qK at hc; omega))) hd hAl (fun i x hi => (a0 2 i (by omega)).2.trans (wv i x.2 (hAw i x hi)).1) hlim hr
        have ac : ag (fun c i => ¬ (c = 0 ∧ i = 4) ∧ ¬ (44 ≤ c ∧ c ≤ 63)) u w1 := ag_t (ag_m a0 (fun c i hc => by omega)) (ag_m y3.1 (fun c i hc => by unfold qS; omega))
        let m : Int32 := ie (r : Nat)
        let v1 : pm_J := wj w1 139 0 m.toInt64
        have av1 : ag (fun c _ => c ≠ 139) w1 v1 := ag_wj (ag_r _ w1) _ _ _ (by omega)
        have av : ag (fun c i => ¬ (c = 0 ∧ i = 4) ∧ ¬ (44 ≤ c ∧ c ≤ 63) ∧ c ≠ 139) u v1 := ag_t (ag_m ac (fun c i hc => by omega)) (ag_m av1 (fun c i hc => by omega))
        obtain ⟨w2, z1, z2, z3⟩ := r_run (u := v1) bx N hN g G.1 G.2.1 G.2.2.2.1 (rC_cg H' (fun c i hc => av c i (by unfold rKp at hc; omega))) hd hA ((av 64 107 (by omega)).1.trans (by rw [hAl, el]; exact w107)) (fun i x hi => (av 131 i (by omega)).2.trans (wv i x.2 (hAw i x hi)).2) hlim hr ⟨hr1, hr4⟩
        obtain ⟨f1, f2, f3, f4, f5, f6, f7⟩ := z2
        obtain ⟨d1, d2, d3, d4, d5, d6, d7, d8⟩ := y3
        have e1' : ag (fun c i => ¬ (c = 64 ∧ (i = 2 ∨ i = 107))) v1 (wi (wi v1 64 2 0) 64 107 0) := ag_wi (ag_wi (ag_r _ v1) _ _ _ (by omega)) _ _ _ (by omega)
        have aw : ag (fun c i => ¬ (c = 64 ∧ (i = 2 ∨ 72 ≤ i)) ∧ ¬ (113 ≤ c ∧ c ≤ 138)) v1 w2 := ag_t (ag_m e1' (fun c i hc => by omega)) (ag_m f1 (fun c i hc => by unfold wZ; omega))
        have kK : ag aK u w2 := ag_t (ag_m av (fun c i hc => by unfold aK at hc; omega)) (ag_m aw (fun c i hc => by unfold aK at hc; omega))
        have cl : ag (fun c _ => 44 ≤ c ∧ c ≤ 63) w1 w2 := ag_t (ag_m av1 (fun c i hc => by omega)) (ag_m aw (fun c i hc => by omega))
        have hCw : hC Y w2 sf.1 := hC_ag d2 (ag_m cl (fun c i hc => by unfold qH at hc; omega))
        have e04 : w2.1 0 4 = ie 0 := ((aw 0 4 (by omega)).1.trans (av1 0 4 (by omega)).1).trans (d1 0 4 (by unfold qS; omega)).1
        have e107 : w2.1 64 107 = ie 0 := (f1 64 107 (by unfold wZ; omega)).1
        have e2 : w2.1 64 2 = 0 := (f1 64 2 (by unfold wZ; omega)).1
        have e139 : w2.2 139 0 = m.toInt64 := ((f1 139 0 (by unfold wZ; omega)).2.trans (e1' 139 0 (by omega)).2).trans (wj_at _ _ _ _)
        obtain ⟨c1', c2', c3', c4'⟩ := f2.2.2.2.1
        have ht : tdR w2 := by
          refine ⟨((cl _ _ (by omega)).1.trans d4).trans f3.symm, ?_, hCw.2.2.2.2.trans f2.2.2.2.2.symm, ?_, (hCw.2.2.2.1 0 (by omega)).trans c3'.symm, (hCw.2.2.2.1 1 (by omega)).trans c4'.symm, ((cl _ _ (by omega)).1.trans d6).trans f5.symm, ((cl _ _ (by omega)).1.trans d5).trans f4.symm⟩
          · rw [hCw.2.2.2.1 2 (by omega), hCw.2.2.2.1 3 (by omega), c1', ie_add]; rfl
          · rw [hCw.2.2.2.1 4 (by omega), hCw.2.2.2.1 5 (by omega), c2', ie_add]; rfl
        have e10 : w2.1 44 10 = ie (r : Nat) := (cl _ _ (by omega)).1.trans d3
        have hw : liW g w2 := by
          by_cases er : r = 1
          · obtain ⟨τ, M, t1, t2⟩ := hT1 er
            have hgT : tyG (dTy D d) := by rw [(dPs_some hx).2.1]; exact (G.2.2.2.2.2.2 d _ hx).1
            refine Or.inr ⟨by rw [e10, er]; rfl, by rw [z3, if_pos er]; rfl, Y, dTy D d, k, sf.2.2.2.2.1, sf.1.1.length, ?_, (cl _ _ (by omega)).1.trans d7, y2, (cl _ _ (by omega)).2.trans (d8 er), (f7 er).1, (f7 er).2, hCw.1, hCw.2.1, rs_of t1 hCw f2 hgT (run_lt G hd hA) t2⟩
            exact tyC_ag H.2.1 (ag_t (ag_m av (fun c i hc => by unfold qY at hc; omega)) (ag_m aw (fun c i hc => by unfold qY at hc; omega)))
          · exact Or.inl ⟨by rw [e10]; exact fun hh => er ((ineq r 1 (by omega) (by omega)).mp hh), by rw [z3, if_neg er]; rfl⟩
        have hL : LI g w2 := ⟨o, n, [], liT_ag h1 kK, liB_ag h2 kK, ⟨by show 0 ≤ 6; omega, e04, e107, (fun i x hi => by cases hi)⟩, ht, hw, Or.inr (liC2_ag hC2 kK), h7⟩
        refine gLB_x (u := u) (F := F_Md_run N (ie (d : Nat)) (ib bx) (ie (lim : Nat))) (a := (0, g, v1)) (m := m) (q := w2) ?_ (Or.inl rfl) z1 hL e2 (fun _ => e139)
        unfold FX_run T_BC_run
        rw [if_neg e0, hdf, Option.bind_some, if_pos e1, if_neg l0, if_neg l1, hta, a2, Option.bind_some, if_neg (by decide)]
        show (F_Law_run_0_139 N (ie (d : Nat)) (ib bx) (ie (lim : Nat)) g u).bind _ = _
        unfold F_Law_run_0_139 F_BC_run
        rw [if_neg e0, hdf, Option.bind_some, if_pos e1, if_neg l0, if_neg l1, hta, a2, Option.bind_some, if_neg (by decide), y1]; rfl
      · refine o_run_no h 0 (Or.inl rfl) ?_ ?_
        · unfold T_BC_run; rw [if_neg e0, hdf, Option.bind_some, if_pos e1, if_neg l0, if_neg l1, hta, a1, Option.bind_some, if_pos rfl]
        · unfold F_Md_run
          rw [hno, Option.bind_some, if_pos rfl, if_neg l0, if_neg l1, if_pos okd, ntd, b3', w107, el, if_pos rfl]
          refine a2.trans ?_
          rw [r0]; rfl
    · refine o_run_no h 0 (Or.inl rfl) ?_ ?_
      · unfold T_BC_run F_BC_takesArguments
        rw [if_neg e0, hdf, Option.bind_some, if_pos e1, if_neg l0, if_neg l1, b3, Option.bind_some, w04, if_neg (fun hh => by have := (ineq _ _ (by omega) (by omega)).mp hh; omega), Option.bind_some, if_pos rfl]
      · unfold F_Md_run
        rw [hno, Option.bind_some, if_pos rfl, if_neg l0, if_neg l1, if_pos okd, ntd, b3', w107, if_neg (fun hh => by have := (ineq _ _ (by omega) (by omega)).mp hh; omega), no42, r0]; rfl
  · refine o_run_no h 1 (Or.inr rfl) ?_ (bad ?_)
    · unfold T_BC_run; rw [if_neg e0, hdf, Option.bind_some, if_neg e1]
    · unfold F_Md_noDef; rw [if_neg e0, if_neg e1]
