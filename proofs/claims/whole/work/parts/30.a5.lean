set_option maxRecDepth 100000
theorem rAt_0 {t : Tr} {e : Nat} (h : (t.2.1 e).1 = 16) {a : Nat} (ha : (t.2.1 e).2.2.1 = (a : Int)) : rAt t e 0 = (a : Int) := by
  unfold rAt; rw [row_c h, ha]; rfl
theorem c_K68 {u : pm_J} {T : List Tok} {n : Nat} {D : List Df} {t : Tr} {c : CS} {sT : Nat → Ta} {g : pm_s} {Y : List Ty} {bx : Bool} {lim : Nat} {rk ov : Int32} {u0 : pm_J} {hp : Hp} {L : Lo} {lc : Nat} {F : List Fr} {v : Va} {st cc dp : Nat} {e b j d : Nat} {hd : List Va} (N : Nat) (hN : 200000 ≤ N) (hW : pW T D t) (H0 : cF T n D t c sT g u0 Y) (he : e < t.1) (h16 : (t.2.1 e).1 = 16) (hc : c.2.1 e = some d) (hd' : d < D.length) (hj : j = hd.length + 1) (hjl : j ≤ (t.2.1 e).2.2.2.2.2.2.length) (hn : hd.length + 1 ≤ (dPs D d).length) (h : rcT u0 t Y bx lim rk ov u hp L lc (some e) b 3 (rAt t e j) hd F v st cc dp) :
    (hd.length + 1 < (dPs D d).length → ∀ a' : Nat, (t.2.1 e).2.2.2.2.2.2[hd.length + 1]? = some a' → ∃ z, K_Machine_takeArgument_68 N g (ie (e : Nat)) (ie (d : Nat)) (ie (hd.length : Nat)) u = some z ∧ rcT u0 t Y bx lim rk ov z hp L lc (some e) b 3 (a' : Int) (hd ++ [v]) F v st cc dp ∧ mdC z (0, a', b, v0) ∧ rAt t e (j + 1) = (a' : Int)) ∧
    (hd.length + 1 = (dPs D d).length → ∃ w, rcT u0 t Y bx lim rk ov w hp L lc (some e) b 3 (rAt t e j) (hd ++ [v]) F v st cc dp ∧ K_Machine_takeArgument_68 N g (ie (e : Nat)) (ie (d : Nat)) (ie (hd.length : Nat)) u = F_Machine_callDef N (ie (e : Nat)) g w) := by
  obtain ⟨k1, k2, k3, k4, k5, k6, ⟨k7, k7'⟩, k8⟩ := id h
  have hx : D[d]? = some D[d] := List.getElem?_eq_getElem hd'
  have h6 : (dPs D d).length ≤ 6 := by rw [(dPs_some hx).2.2]; exact (pW_par hW d _ hx).1
  obtain ⟨w, w1, w2, w3⟩ := c_hold g v h (by omega)
  have H' := cF_ag H0 w2.1
  have b3 := (tb_all H' hd').2.2.1
  have hv : u.2 44 15 = v.2 := k8.1
  refine ⟨fun hlt a' ha' => ?_, fun heq => ⟨w, w2, ?_⟩⟩
  · obtain ⟨x, x1, x2, _, x4, _⟩ := at_next hW he h16 hjl
    rw [x1] at w2
    obtain ⟨x5, x6⟩ := x4 a' (by rw [hj]; exact ha')
    obtain ⟨z, z1, z2, z3⟩ := c_workAtom (q' := 3) H0 w2 x2 x5
    refine ⟨z, ?_, z2, z3, x6⟩
    unfold K_Machine_takeArgument_68
    have z1' : F_Machine_workAtom 3 g w = some z := z1
    rw [hv, w1, Option.bind_some, b3, Option.bind_some, iadd1, if_neg (fun hh => by have := (inle _ _ (by omega) (by omega)).mp hh; omega), z1']; rfl
  · unfold K_Machine_takeArgument_68
    rw [hv, w1, Option.bind_some, b3, Option.bind_some, iadd1, if_pos ((inle _ _ (by omega) (by omega)).mpr (by omega)), obd]
theorem rc_val {u0 u : pm_J} {t : Tr} {Y : List Ty} {bx : Bool} {lim : Nat} {rk ov : Int32} {hp : Hp} {L : Lo} {lc : Nat} {F : List Fr} {v : Va} {st cc dp : Nat} {n : Option Nat} {b q : Nat} {a : Int} {hd : List Va} (x : Va) (h : rcT u0 t Y bx lim rk ov u hp L lc n b q a hd F v st cc dp) : rcT u0 t Y bx lim rk ov (wj u 44 15 x.2) hp L lc n b q a hd F x st cc dp := by
  have aw : ag (fun c i => ¬ (c = 44 ∧ i = 15)) u (wj u 44 15 x.2) := ag_wj (ag_r _ u) _ _ _ (by omega)
  exact rcT_rg h (ag_m aw (fun c i hc => by omega)) (rgC_w h.2.2.2.2.2.2.2 (ag_m aw (fun c i hc => by omega)) x (wj_at _ _ _ _))
theorem c_node16 {u : pm_J} {T : List Tok} {n : Nat} {D : List Df} {t : Tr} {c : CS} {sT : Nat → Ta} {g : pm_s} {Y : List Ty} {bx : Bool} {lim : Nat} {rk : Int32} {u0 : pm_J} {hp : Hp} {L : Lo} {lc : Nat} {F : List Fr} {v : Va} {st cc dp : Nat} {e b q j r : Nat} {hd : List Va} {s' : Ms} (N : Nat) (hN : 200000 ≤ N) (hW : pW T D t) (H0 : cF T n D t c sT g u0 Y) (h : rc0 u0 t Y bx lim rk (ie 0) u hp L lc ((some e, b, q, j, hd) :: F) v st cc dp) (hm : u.1 44 11 = ie 2) (h16 : (t.2.1 e).1 = 16) (hkk : kk D c (t.2.1 e) e = (if c.2.1 e = none then 16 else 17)) (hKJ : kJ D t c) (hs : oCall D t c bx hp L lc e b q j hd F v st cc dp r s') : gC u0 t Y bx lim rk (F_Machine_resume N g u) r s' := by
  have he : e < t.1 := (rc_T h).2 e rfl
  have hT0 := (rc_T h).1
  clear h
  have hT : rcT u0 t Y bx lim rk (ie 0) u hp L lc (some e) b q (if q = 0 then -1 else rAt t e j) hd F v st cc dp := by
    by_cases e0 : q = 0
    · rw [if_pos e0]; subst e0; rw [atm_z] at hT0; exact hT0
    · rw [if_neg e0]; rw [atm_c h16 e0] at hT0; exact hT0
  clear hT0
  obtain ⟨k1, k2, k3, k4, k5, k6, ⟨k7, k7'⟩, k8⟩ := id hT
  have H := cF_ag H0 k1
  obtain ⟨r1, r2, r3, r4, r5, r6⟩ := fr_rd g k7 k7' k5
  have r2 := r2 (by intro hh; cases hh)
  obtain ⟨t1, t2, t3, t4, _, t6, t7⟩ := tr_all H he
  have hv : u.2 44 15 = v.2 := k8.1
  have hbx : u.1 44 6 = ib bx := k8.2.2.2.2.2.1
  have ht18 := H.2.2.1.2
  have h30 := H.2.2.2.1.2
  have dC : F_Machine_resume N g u = F_Machine_workCall N (ie (e : Nat)) g u := (c_disp N r1 t1).2.2.2.2.2.2.2 (by rw [hkk]; split <;> omega)
  rw [dC]
  clear dC
  obtain ⟨_, _, hnC⟩ := nC_any hW he h16
  have hhd : (t.2.1 e).2.2.1 = ((t.2.1 e).2.2.1.toNat : Int) := by have := hnC.1; omega
  unfold F_Machine_workCall
  rw [r2, Option.bind_some]
  rcases hs with ⟨rfl, rfl, rfl, hc, hs⟩ | ⟨rfl, rfl, rfl, ⟨d, hc, hd', hp0⟩, a, ha, hs⟩ | ⟨rfl, hjl, hs⟩ | ⟨rfl, a, ha, hs⟩ | ⟨rfl, hj1, hj2, f, rfl, rfl, rfl⟩ | ⟨rfl, hj, d, a, p, y, h', hc, hd', ha, hat, hp', hok, had, hs⟩ | ⟨rfl, d, y, h', hc, hd', hj, hjl, hok, had, hs⟩
  · rw [if_pos (by decide), obd]
    unfold F_Machine_beginCall
    obtain ⟨w, w1, w2, _⟩ := c_setAtom g (t.2.1 e).2.2.1 hT
    obtain ⟨t1', t2', _⟩ := tr_all (cF_ag H0 w2.1) he
    rw [hkk, hc, if_pos rfl] at t1'
    rw [t2, Option.bind_some, w1, Option.bind_some, t1', Option.bind_some, if_pos (by decide), t2', Option.bind_some, obd]
    exact gC_pt (q' := 1) (j := 0) w2 he (by rw [atm_c h16 (by omega), rAt_0 h16 hhd]; exact hhd) hs
  · rw [if_pos (by decide), obd]
    unfold F_Machine_beginCall
    obtain ⟨w, w1, w2, _⟩ := c_setAtom g (t.2.1 e).2.2.1 hT
    obtain ⟨t1', t2', _⟩ := tr_all (cF_ag H0 w2.1) he
    rw [hkk, hc, if_neg (by intro hh; cases hh)] at t1'
    obtain ⟨x, x1, x2, _, x4, _⟩ := at_next hW he h16 (Nat.zero_le (t.2.1 e).2.2.2.2.2.2.length)
    obtain ⟨x5, x6⟩ := x4 a ha
    rw [rAt_0 h16 hhd] at x1
    rw [hhd, x1] at w2
    obtain ⟨z, z1, z2, z3⟩ := c_workAtom (q' := 3) H0 w2 x2 x5
    have z1' : F_Machine_workAtom 3 g w = some z := z1
    rw [t2, Option.bind_some, w1, Option.bind_some, t1', Option.bind_some, if_neg (by decide), Option.bind_some, if_pos (by decide), z1']
    obtain ⟨y, hy, hy', rfl, rfl⟩ := hs
    have : y = a := by omega
    subst this
    exact Or.inl ⟨rfl, z, rfl, rcT_0 z2 (by rw [atm_c h16 (by omega), x6]) (fun e' h' => by cases h'; exact he), z3⟩
  · rw [if_neg (by decide), if_neg (by decide), if_neg (by decide), if_neg (by decide), obd]
    unfold F_Machine_goOnCalling
    obtain ⟨x, x1, x2, _, _, x5⟩ := at_next hW he h16 (j := j) (by omega)
    have t5 := (tr_all H x2).2.2.2.2.1
    rw [r4, Option.bind_some]
    show gC u0 t Y bx lim rk ((F_Tree_next (ie (rAt t e j)) g u).bind _) r s'
    rw [x1, t5, Option.bind_some, x5 hjl, if_pos (by decide), obd, hv]
    exact gC_fin hT hs
  · rw [if_neg (by decide), if_neg (by decide), if_neg (by decide), if_neg (by decide), obd]
    unfold F_Machine_goOnCalling
    have hjl := (List.getElem?_eq_some_iff.mp ha).1
    obtain ⟨x, x1, x2, _, x4, _⟩ := at_next hW he h16 (j := j) (by omega)
    obtain ⟨x5, x6⟩ := x4 a ha
    have t5 := (tr_all H x2).2.2.2.2.1
    obtain ⟨y, hy, hy', rfl, rfl⟩ := hs
    have hya : y = a := by omega
    subst hya
    have hT' : rcT u0 t Y bx lim rk (ie 0) u hp L lc (some e) b 1 (x : Int) hd F v st cc dp := by rw [← x1]; exact hT
    obtain ⟨w, w1, w2, w3⟩ := c_drop g hT'
    obtain ⟨z, z1, z2, z3⟩ := c_hold g v w2 (by show 0 < 6; omega)
    have hv' : w.2 44 15 = v.2 := w2.2.2.2.2.2.2.2.1
    obtain ⟨p, p1, p2, p3⟩ := c_workAtom (q' := 2) H0 z2 x2 x5
    have p1' : F_Machine_workAtom 2 g z = some p := p1
    rw [r4, Option.bind_some]
    show gC u0 t Y bx lim rk ((F_Tree_next (ie (rAt t e j)) g u).bind _) 0 _
    rw [x1, t5, Option.bind_some, x5, if_neg (ik_1 y (by omega)), w1, Option.bind_some, hv', z1, Option.bind_some, p1']
    exact Or.inl ⟨rfl, p, rfl, rcT_0 p2 (by rw [atm_c h16 (by omega), x6]) (fun e' h' => by cases h'; exact he), p3⟩
  · have hf : F_Frames_held 0 g u = some f.2 := r6 0 f rfl
    rw [if_neg (by decide), if_pos (by decide), hf, Option.bind_some]
    have aw : ag (fun c i => ¬ (c = 44 ∧ i = 14)) u (wj u 44 14 f.2) := ag_wj (ag_r _ u) _ _ _ (by omega)
    have h1 := rcT_rg hT (ag_m aw (fun c i hc => by omega)) (rgC_ag k8 (ag_m aw (fun c i hc => by unfold qR at hc; omega)))
    obtain ⟨w, w1, w2, w3⟩ := c_setState g 1 h1
    have w1' : F_Frames_setState 1 g (wj u 44 14 f.2) = some w := w1
    rw [w1', Option.bind_some]
    have aw2 : ag (fun c i => ¬ (c = 44 ∧ i = 11)) w (wi w 44 11 1) := ag_wi (ag_r _ w) _ _ _ (by omega)
    have h2 := rcT_rg w2 (ag_m aw2 (fun c i hc => by omega)) (rgC_ag w2.2.2.2.2.2.2.2 (ag_m aw2 (fun c i hc => by unfold qR at hc; omega)))
    refine Or.inl ⟨rfl, _, rfl, rcT_0 h2 (by rw [atm_c h16 (by omega)]; rfl) (fun e' h' => by cases h'; exact he), mdC_1 (by rw [wi_at]; rfl) ?_⟩
    rw [wi_2, (w3 44 14 (by omega)).2, wj_at]
  · rw [if_neg (by decide), if_neg (by decide), if_pos (by decide), obd]
    have hjl := (List.getElem?_eq_some_iff.mp ha).1
    have hpl := (List.getElem?_eq_some_iff.mp hp').1
    have hx : D[d]? = some D[d] := List.getElem?_eq_getElem hd'
    obtain ⟨hq1, hq2, hq3⟩ := dPs_some hx
    obtain ⟨hp6, hpw, hpp, _⟩ := pW_par hW d _ hx
    have hw : dWd D d = D[d].2.2.2.2.2.2.1 := by unfold dWd; rw [hx]
    have hT3 : rcT u0 t Y bx lim rk (ie 0) u hp L lc (some e) b 3 (rAt t e j) hd F v st cc dp := hT
    rw [hc] at t6
    have t6' : F_Tree_value (ie (e : Nat)) g u = some (je (d : Nat)) := t6
    have fin0 : ∀ (z : pm_J) (x : Va), rcT u0 t Y bx lim rk (ie 0) z h' L lc (some e) b 3 (rAt t e j) hd F x st cc dp → y = some x → gC u0 t Y bx lim rk (K_Machine_takeArgument_68 N g (ie (e : Nat)) (ie (d : Nat)) (ie (hd.length : Nat)) z) r s' := fun z x hz hy => by
      obtain ⟨c1, c2⟩ := c_K68 N hN hW H0 he h16 hc hd' hj (by omega) (by omega) hz
      rcases hs with ⟨hy', _⟩ | ⟨x', hy', hlt, a', ha', hs⟩ | ⟨x', hy', heq, hs⟩
      · rw [hy] at hy'; cases hy'
      · rw [hy] at hy'; cases hy'
        obtain ⟨p, p1, p2, p3, p4⟩ := c1 hlt a' ha'
        obtain ⟨y', hy2, hy3, rfl, rfl⟩ := hs
        have : y' = a' := by omega
        subst this
        exact Or.inl ⟨rfl, p, p1, rcT_0 p2 (by rw [atm_c h16 (by omega), p4]) (fun e' h' => by cases h'; exact he), p3⟩
      · rw [hy] at hy'; cases hy'
        obtain ⟨w, w1, w2⟩ := c2 heq
        rw [w2]
        exact gC_df N (by omega) H0 he hc (by rw [List.length_append]; show hd.length + 1 ≤ _; omega) (by rw [atm_c h16 (by omega)]) w1 hs
    have fin1 : ∀ (z : pm_J) (x : Va), rcT u0 t Y bx lim rk (ie 1) z h' L lc (some e) b 3 (rAt t e j) hd F x st cc dp → y = none → gC u0 t Y bx lim rk (K_Machine_takeArgument_68 N g (ie (e : Nat)) (ie (d : Nat)) (ie (hd.length : Nat)) z) r s' := fun z x hz hy => by
      obtain ⟨c1, c2⟩ := c_K68 N hN hW H0 he h16 hc hd' hj (by omega) (by omega) hz
      rcases hs with ⟨_, rfl, rfl⟩ | ⟨x', hy', _⟩ | ⟨x', hy', _⟩
      · by_cases hlt : hd.length + 1 < (dPs D d).length
        · have hlen : (dPs D d).length ≤ (t.2.1 e).2.2.2.2.2.2.length := hKJ e d he h16 hc
          obtain ⟨p, p1, p2, _⟩ := c1 hlt _ (List.getElem?_eq_getElem (by omega))
          exact Or.inr ⟨rfl, p, p1, rcT_4 p2⟩
        · obtain ⟨w, w1, w2⟩ := c2 (by omega)
          rw [w2]
          obtain ⟨e1, e2⟩ := c_callDef N (by omega) H0 he hc hd' (by rw [List.length_append]; show hd.length + 1 ≤ _; omega) w1
          by_cases hr : lc + dWd D d ≤ 60000
          · obtain ⟨p, p1, p2, _⟩ := e1 hr
            exact Or.inr ⟨rfl, p, p1, rcT_4 p2⟩
          · obtain ⟨p, p1, p2⟩ := e2 (by omega)
            exact Or.inr ⟨rfl, p, p1, rcT_4 p2⟩
      · rw [hy] at hy'; cases hy'
      · rw [hy] at hy'; cases hy'
    unfold F_Machine_takeArgument
    rw [t6', Option.bind_some, r5, Option.bind_some, je_i32 d (by omega), hbx]
    unfold adX at had
    cases bx with
    | false =>
      rw [if_neg (by rintro ⟨hh, _⟩; cases hh)] at had
      cases had
      rw [if_pos (by decide)]
      exact fin0 u v hT3 rfl
    | true =>
      obtain ⟨x, x1, x2, x3, _⟩ := at_next hW he h16 (j := j) (by omega)
      have hxa : x = a := by
        have := x3 (by omega)
        rw [show j - 1 = hd.length by omega, ha] at this; cases this; rfl
      subst hxa
      have t7a := (tr_all H x2).2.2.2.2.2.2
      rw [if_neg (by decide), r4, Option.bind_some]
      show gC u0 t Y true lim rk ((F_Tree_isShort (ie (rAt t e j)) g u).bind _) r s'
      rw [x1, t7a, Option.bind_some]
      cases hsh : c.2.2.2 x with
      | true =>
        rw [hsh, if_neg (by rintro ⟨_, hh⟩; cases hh)] at had
        cases had
        rw [if_neg (by decide)]
        exact fin0 u v hT3 rfl
      | false =>
        rw [hsh, if_pos ⟨rfl, rfl⟩] at had
        obtain ⟨qq, qq1, qq2⟩ := dPs_i hx hp'
        obtain ⟨l1, l2⟩ := tb_loc2 (g := g) H.2.2.2.1 hx (H.2.2.2.2.1 d _ hx).1 hd.length (by omega)
        rw [(hpp _ _ qq1).1, qq2] at l2
        obtain ⟨m, m1, m2⟩ := l2
        have hap : adp c true (e : Int) p v hp = some (y, h') := by unfold adp; rw [if_neg (by omega)]; exact had
        obtain ⟨wd, z, z1, z2, z3, z4, z5⟩ := c_adapt N hN true v H m2 k2 k3 hok hap
        have z1' : F_Adapter_adapt N v.2 (ie (m : Nat)) (ie (e : Nat)) 1 g u = some (wd, z) := z1
        rw [if_pos (by decide), l1, Option.bind_some, m1, hv, z1', Option.bind_some]
        cases hy : y with
        | some x' =>
          obtain ⟨rfl, z6⟩ := z4 x' hy
          exact fin0 _ x' (rc_val x' (rcT_hp hT3 z3 z2 z6)) hy
        | none => exact fin1 _ (0, wd) (rc_val (0, wd) (rcT_hp hT3 z3 z2 (z5 hy))) hy
  · rw [if_neg (by decide), if_neg (by decide), if_neg (by decide), if_pos (by decide), obd]
    have hT4 : rcT u0 t Y bx lim rk (ie 0) u hp L lc (some e) b 4 (rAt t e j) hd F v st cc dp := hT
    rw [hc] at t6
    have t6' : F_Tree_value (ie (e : Nat)) g u = some (je (d : Nat)) := t6
    obtain ⟨b1, b2, b3, b4, m, b5, b6⟩ := tb_all H hd'
    have fin0 : ∀ (z : pm_J) (x : Va), rcT u0 t Y bx lim rk (ie 0) z h' L lc (some e) b 4 (rAt t e j) hd F x st cc dp → z.1 44 11 = ie 2 → y = some x → gC u0 t Y bx lim rk (F_Frames_setState 1 g z) r s' := fun z x hz hm hy => by
      rcases hs with ⟨hy', _⟩ | ⟨x', hy', rfl, rfl⟩
      · rw [hy] at hy'; cases hy'
      · rw [hy] at hy'; cases hy'
        obtain ⟨w, w1, w2, w3⟩ := c_setState g 1 hz
        exact Or.inl ⟨rfl, w, w1, rcT_0 w2 (by rw [atm_c h16 (by omega)]) (fun e' h' => by cases h'; exact he), mdC_2 ((w3 44 11 (by omega)).1.trans hm)⟩
    unfold F_Machine_takeResult
    rw [hbx]
    unfold adX at had
    cases bx with
    | false =>
      rw [if_neg (by rintro ⟨hh, _⟩; cases hh)] at had
      cases had
      rw [if_pos (by decide), obd]
      exact fin0 u v hT4 hm rfl
    | true =>
      rw [if_neg (by decide), t7, Option.bind_some]
      cases hsh : c.2.2.2 e with
      | true =>
        rw [hsh, if_neg (by rintro ⟨_, hh⟩; cases hh)] at had
        cases had
        rw [if_neg (by decide), obd]
        exact fin0 u v hT4 hm rfl
      | false =>
        rw [hsh, if_pos ⟨rfl, rfl⟩] at had
        have hap : adp c false (e : Int) (dTy D d) v hp = some (y, h') := by unfold adp; rw [if_neg (by omega)]; exact had
        obtain ⟨wd, z, z1, z2, z3, z4, z5⟩ := c_adapt N hN false v H b6 k2 k3 hok hap
        have z1' : F_Adapter_adapt N v.2 (ie (m : Nat)) (ie (e : Nat)) 0 g u = some (wd, z) := z1
        rw [if_pos (by decide), t6', Option.bind_some, je_i32 d (by omega), b5, Option.bind_some, hv, z1', Option.bind_some, obd]
        cases hy : y with
        | some x' =>
          obtain ⟨rfl, z6⟩ := z4 x' hy
          exact fin0 _ x' (rc_val x' (rcT_hp hT4 z3 z2 z6)) ((z3 44 11 (by unfold qA; omega)).1.trans hm) hy
        | none =>
          rcases hs with ⟨_, rfl, rfl⟩ | ⟨x', hy', _⟩
          · obtain ⟨w, w1, w2, w3⟩ := c_setState g 1 (rc_val (0, wd) (rcT_hp hT4 z3 z2 (z5 hy)))
            exact Or.inr ⟨rfl, w, w1, rcT_4 w2⟩
          · rw [hy] at hy'; cases hy'
