set_option maxRecDepth 100000
theorem r_res {T : List Tok} {n : Nat} {D : List Df} {t : Tr} {c : CS} {Y : List Ty} {bx : Bool} {lim : Nat} {u0 : pm_J} {u : pm_J} {hp : Hp} {L : Lo} {lc : Nat} {F : List Fr} {v : Va} {st cc dp : Nat} {e d : Nat} {y : Option Va} {h' : Hp} (N : Nat) (hN : 200000 ≤ N) (g : pm_s) (H0 : rC T n D t c c.1 u0 Y) (h : rr0 u0 t Y bx lim u hp L lc F st cc dp) (hb : bkR u v) (he : e < t.1) (hd' : d < D.length) (ha : aOK t c e (dTy D d)) (hx : adX bx (c.2.2.2 e) false (c.2.2.1 e) e (dTy D d) v hp = some (y, h')) :
    ∃ w, F_Md_resultOf N (ie (e : Nat)) (ie (d : Nat)) g u = some w ∧ (∀ x, y = some x → rr0 u0 t Y bx lim w h' L lc F st cc dp ∧ nwR w x) ∧ (y = none → finR u0 Y w 4 h' v st cc dp) := by
  have H := rC_ag H0 h.1
  have h18 := H.2.2.2.1.2
  have h30 := H.2.2.1.2
  obtain ⟨_, _, _, ⟨k, k1, k2, k3⟩, _⟩ := rtb_all H hd'
  obtain ⟨w, w1, w2, w3, w4, w5⟩ := r_adx N hN g H0 h hb k3 ha hx
  have c13 := (H.2.2.2.2.2.2 e he).2.2.2.2.2.2.2.2.2.2.2.2.1
  have h95 := h.2.2.2.2.2.2.2.2.2.2.1
  have hmm := tyM_ie H.2.2.2.2.1 k3
  refine ⟨w, ?_, fun x hx' => ⟨rr_ag h w2 w3 (w4 x hx').1, (w4 x hx').2⟩, fun hy => rr_b4 v h w2 w3 (w5 hy)⟩
  have okd := okn d 30 (by omega) (by omega)
  unfold F_Md_resultOf
  rw [h95, ntn d (by omega), k1, ntn k (by omega), ntn e (by omega), c13]
  rcases w1 with ⟨hc, hw⟩ | ⟨hbx, hM, hsh, hw⟩
  · have hw' : some (wj (wi u 64 108 (u.1 64 93)) 64 109 (u.2 64 94)) = some w := by rw [hw]; rfl
    by_cases hbx : bx = false
    · rw [if_pos ((ib_z _).mpr hbx), hw']
    · rw [if_neg (fun hh => hbx ((ib_z _).mp hh)), if_pos okd, if_pos (okn k 100000 k2 (by omega))]
      by_cases hM : tyM (dTy D d) = 0
      · rw [if_pos (hmm.mpr hM), hw']
      · have hsh : c.2.2.2 e = true := by
          rcases hc with hc | hc | hc
          · exact absurd hc hbx
          · exact absurd hc hM
          · exact hc
        rw [if_neg (fun hh => hM (hmm.mp hh)), if_pos (okn e 2400 (by omega) (by omega)), hsh, if_neg (by decide), hw']
  · have hw' : F_Md_convert N 3 (ie (k : Nat)) (ie (e : Nat)) g (wj (wi u 64 108 (u.1 64 93)) 64 109 (u.2 64 94)) = some w := hw
    rw [if_neg (fun hh => by rw [(ib_z _).mp hh] at hbx; cases hbx), if_pos okd, if_pos (okn k 100000 k2 (by omega)), if_neg (fun hh => hM (hmm.mp hh)), if_pos (okn e 2400 (by omega) (by omega)), hsh, if_pos (by decide), if_pos okd, hw']; rfl
theorem pt_oRg {D : List Df} {t : Tr} {c : CS} {Y : List Ty} {bx : Bool} {lim : Nat} {u0 : pm_J} {u w : pm_J} {hp : Hp} {L : Lo} {lc : Nat} {F : List Fr} {v : Va} {st cc dp : Nat} {e b q q' j j' k r a : Nat} {hd hd' : List Va} {sf : Ms} (g : pm_s) (h : rr0 u0 t Y bx lim u hp L lc ((some e, b, q, j, hd) :: F) st cc dp) (hw : ag (fun c i => ¬ (126 ≤ c ∧ c ≤ 128 ∧ i = F.length)) u w) (h126 : w.1 126 F.length = ie (sCd t (some e, b, q', j', hd') : Nat)) (hj : j' ≤ 8) (h2 : q' = 3) (h6 : hd'.length ≤ 6) (h16 : (t.2.1 e).1 = 16) (hA : aS ((some e, b, q', j', hd') :: F) = aS ((some e, b, q, j, hd) :: F)) (hr : rch D t c bx lim k (hp, L, lc, (some e, b, q', j', hd') :: F, v, st, cc, dp, (0, a, b, v0)) r sf) : ∃ z, F_Md_begin (ie (a : Nat)) (ie (b : Nat)) g w = some z ∧ oR u0 D t c Y bx lim (k + 1) z r sf := by
  obtain ⟨t1, t2, t3, t4, t5, t6, t7, t8, t9, t10, t11, t12, t13, _⟩ := top_R h
  have h' : rr0 u0 t Y bx lim w hp L lc ((some e, b, q', j', hd') :: F) st cc dp := by
    refine rr_fr h (ag_m hw (fun c i hc => by omega)) ⟨h126, t8, hj, (fun _ => ⟨h6, fun e' he' => by cases he'; exact h16⟩), t10, (hw _ _ (by omega)).1.trans t4, (hw _ _ (by omega)).1.trans t5, (hw _ _ (by omega)).1.trans t6, (fun hh => by exfalso; have hh' : q' = 2 := hh; omega)⟩ hA
  obtain ⟨z, z1, z2⟩ := r_begin g t8 h' hr
  exact ⟨z, z1, oR_m z2 (by omega)⟩
theorem r_node2 {T : List Tok} {n : Nat} {D : List Df} {t : Tr} {c : CS} {Y : List Ty} {bx : Bool} {lim : Nat} {u0 : pm_J} {u : pm_J} {hp : Hp} {L : Lo} {lc : Nat} {F : List Fr} {v : Va} {st cc dp : Nat} {e b q j k r : Nat} {hd : List Va} {sf : Ms} (N : Nat) (hN : 200000 ≤ N) (g : pm_s) (hW : pW T D t) (hI : kI0 D t t.1 c) (H0 : rC T n D t c c.1 u0 Y) (h : rr0 u0 t Y bx lim u hp L lc ((some e, b, q, j, hd) :: F) st cc dp) (hb : q ≠ 0 → bkR u v) (h16 : (t.2.1 e).1 = 16) (hr : rch D t c bx lim (k + 1) (hp, L, lc, (some e, b, q, j, hd) :: F, v, st, cc, dp, rM) r sf) : gRf u0 D t c Y bx lim N g u (k + 1) r sf := by
  obtain ⟨t1, t2, t3, t4, t5, t6, t7', t8, t9, t10, t11, t12, t13, t14⟩ := top_R h
  have H := rC_ag H0 h.1
  have h18 := H.2.2.2.1.2
  have h30 := H.2.2.1.2
  obtain ⟨_, _, hnC⟩ := nC_any hW t10 h16
  have h8 : (t.2.1 e).2.2.2.2.2.2.length ≤ 8 := hnC.2.2.2.2.2.2.1
  obtain ⟨c1, c2, c3, c4, c5, c6, _, _, _, _, _, c12, _⟩ := H.2.2.2.2.2.2 e t10
  have oke := okn e 2400 (by omega) (by omega)
  have nte := ntn e (by omega)
  have go := go_nd N g t1 t2 t3 t4 t5 (by omega) c1
  refine gRf_of (o := F_Md_workRow N (ie (F.length : Nat)) (ie (e : Nat)) g u) (fun f => (go f).2.2.2.2.1 (by rw [h16]; rfl)) ?_
  have wn : c.2.1 e = none → F_Md_workRow N (ie (F.length : Nat)) (ie (e : Nat)) g u = K_Md_workRow_21 N g (ie (F.length : Nat)) (ie (e : Nat)) (-1) 0 u := fun hc => by
    unfold F_Md_workRow
    rw [if_pos oke, nte, c12, hc, show ie (oI none) = (-1 : Int32) from rfl, if_pos (by decide)]
  have wd : ∀ d, c.2.1 e = some d → d < D.length → F_Md_workRow N (ie (F.length : Nat)) (ie (e : Nat)) g u = K_Md_workRow_21 N g (ie (F.length : Nat)) (ie (e : Nat)) (ie (d : Nat)) (ie ((dPs D d).length : Nat)) u := fun d hc hd => by
    obtain ⟨_, _, b3, _, _⟩ := rtb_all H hd
    unfold F_Md_workRow
    rw [if_pos oke, nte, c12, hc]
    show (if ie (d : Nat) < 0 then _ else if pm_ok (ie (d : Nat)) 30 = true then K_Md_workRow_21 N g (ie (F.length : Nat)) (ie (e : Nat)) (ie (d : Nat)) (u.1 92 (ie (d : Nat)).toNatClampNeg) u else none) = _
    rw [if_neg (show ¬ (ie (d : Nat) < (0 : Int32)) from fun hh => by have := (inlt d 0 (by omega) (by omega)).mp hh; omega), if_pos (okn d 30 (by omega) (by omega)), ntn d (by omega), b3]
  have wa : ∃ x3 t0, F_Md_workRow N (ie (F.length : Nat)) (ie (e : Nat)) g u = K_Md_workRow_21 N g (ie (F.length : Nat)) (ie (e : Nat)) x3 t0 u := by
    cases hc : c.2.1 e with
    | none => exact ⟨_, _, wn hc⟩
    | some d => exact ⟨_, _, wd d hc (hI.1 e d hc)⟩
  have p6 : ∀ d, d < D.length → (dPs D d).length ≤ 6 ∧ (dPs D d).length ≤ dWd D d := fun d hd => by
    have hx : D[d]? = some D[d] := List.getElem?_eq_getElem hd
    have hw : dWd D d = D[d].2.2.2.2.2.2.1 := by unfold dWd; rw [hx]
    rw [(dPs_some hx).2.2, hw]
    exact ⟨(hW.1 d _ hx).2.2.2.2.2.2.1.1, (hW.1 d _ hx).2.2.2.2.2.2.1.2.1⟩
  obtain ⟨r', s', hs0, hcon⟩ := id hr
  have hs1 : stp D t c bx lim hp L lc ((some e, b, q, j, hd) :: F) v st cc dp rM r' s' := hs0
  clear hs0
  have hs : oCall D t c bx hp L lc e b q j hd F v st cc dp r' s' := by
    rcases hs1 with ⟨_, _, hm, _⟩ | ⟨_, hm, _⟩ | ⟨_, _, _, _, hm, _⟩ | ⟨_, hF, _⟩ | ⟨_, _, _, _, _, hF, _⟩ | ⟨e2, b2', q2, j2, hd2, F2, _, hF, _, hs2⟩
    · cases hm
    · cases hm
    · cases hm
    · cases hF
    · cases hF
    · cases hF
      rcases hs2 with ⟨kd, _⟩ | ⟨kd, _⟩ | ⟨kd, _⟩ | ⟨kd, _⟩ | ⟨kd, _⟩ | ⟨kd, _⟩ | ⟨kd, _⟩ | ⟨kd, _⟩ | ⟨_, _, hs2⟩
      · exfalso; omega
      · exfalso; omega
      · exfalso; omega
      · exfalso; omega
      · exfalso; omega
      · exfalso; omega
      · exfalso; omega
      · exfalso; omega
      · exact hs2
  clear hs1
  rw [sCd_c h16] at t7'
  have g1 : q = 1 → ∃ w, F_Md_workRow N (ie (F.length : Nat)) (ie (e : Nat)) g u = some w ∧ oR u0 D t c Y bx lim (k + 1) w r sf := by
    rintro rfl
    rw [if_neg (by omega), if_neg (by omega), if_neg (by omega), if_pos rfl] at t7'
    have hn := nowB_n (hb (by omega))
    obtain ⟨w, w1, w2⟩ := r_goOn N hN g hW H0 (rr_nw h (nowB_ag u)) (by omega) h16 hn hr
    have w1' : F_Md_goOn N (ie (F.length : Nat)) (ie (e : Nat)) (ie (j : Nat)) g (wj (wi u 64 108 (u.1 64 93)) 64 109 (u.2 64 94)) = some w := w1
    refine ⟨w, ?_, w2⟩
    obtain ⟨x3, t0, hwa⟩ := wa
    rw [hwa]
    unfold K_Md_workRow_21
    rw [if_pos t12, t13, t7']
    by_cases hj : j = 0
    · subst hj
      have w1'' : F_Md_goOn N (ie (F.length : Nat)) (ie (e : Nat)) 0 g (wj (wi u 64 108 (u.1 64 93)) 64 109 (u.2 64 94)) = some w := w1'
      rw [if_pos rfl, if_neg (by decide), if_pos (by decide), if_neg (by decide), if_pos (by decide), w1'']; rfl
    · rw [if_neg hj, if_neg (show ¬ (ie ((1999 + j : Nat) : Int) = (0 : Int32)) from fun hh => by have := (ineq _ 0 (by omega) (by omega)).mp hh; omega), if_pos (show (1000 : Int32) ≤ ie ((1999 + j : Nat) : Int) from (inle 1000 _ (by omega) (by omega)).mpr (by omega)), if_neg (show ¬ (ie ((1999 + j : Nat) : Int) = (1000 : Int32)) from fun hh => by have := (ineq _ 1000 (by omega) (by omega)).mp hh; omega), if_neg (show ¬ (ie ((1999 + j : Nat) : Int) = (1001 : Int32)) from fun hh => by have := (ineq _ 1001 (by omega) (by omega)).mp hh; omega), if_pos (show ie ((1999 + j : Nat) : Int) < (3000 : Int32) from (inlt _ 3000 (by omega) (by omega)).mpr (by omega))]
      have ej : ie ((1999 + j : Nat) : Int) - 2000 + 1 = ie (j : Nat) := by
        rw [show (2000 : Int32) = ie (2000 : Int) from rfl, show (1 : Int32) = ie (1 : Int) from rfl, ie_sub, ie_add]; congr 1; omega
      rw [ej, w1']; rfl
  rcases hs with ⟨rfl, rfl, rfl, hc, a, a1, a2, rfl, rfl⟩ | ⟨rfl, rfl, rfl, ⟨d, hc, hd', h0⟩, a0, ha0, a, a1, a2, rfl, rfl⟩ | ⟨hq, _⟩ | ⟨hq, _⟩ | ⟨rfl, hj1, hj2, f, rfl, rfl, rfl⟩ | ⟨rfl, hj, d, a, p, y, h', hc, hd', hat, hal, hp', hao, hx, hs⟩ | ⟨rfl, d, y, h', hc, hd', hj, hjl, hao, hx, hs⟩
  · -- what is called begins
    have hcon := con_0 hcon
    have t7 : u.1 126 F.length = ie 0 := t7'
    obtain ⟨z, z1, z2⟩ := pt_oR (w := wi u 126 F.length 1001) g h (ag_wi (ag_r _ u) _ _ _ (by omega)) (by rw [wi_at, sCd_c h16]; rfl) (by omega) (by omega) (by omega) (by omega) hcon
    have hra : rva (t.2.1 e) = (a : Int) := by unfold rva; rw [if_neg (by omega)]; exact a1
    refine ⟨z, ?_, z2⟩
    rw [wn hc]
    unfold K_Md_workRow_21 K_Md_workRow_54
    rw [if_pos t12, t13, t7, if_pos (by decide), if_pos (by decide), if_pos t12, if_pos (by decide), if_pos oke, if_pos t12, nte, c3, hra, t6, z1]; rfl
  · -- the first ATOM begins
    have hcon := con_0 hcon
    have : a0 = a := by omega
    subst this
    have t7 : u.1 126 F.length = ie 0 := t7'
    obtain ⟨z, z1, z2⟩ := pt_oRg (w := wi u 126 F.length 10) g h (ag_wi (ag_r _ u) _ _ _ (by omega)) (by rw [wi_at, sCd_c h16]; rfl) (by omega) rfl (by show 0 ≤ 6; omega) h16 (by show aS F ++ (if (3 : Nat) = 3 then [] else []) = aS F ++ (if (0 : Nat) = 3 then [] else []); rw [if_pos rfl, if_neg (by omega)]) hcon
    have hrb : rvb (t.2.1 e) = (a0 : Int) := by
      unfold rvb; rw [if_pos h16]
      revert ha0
      generalize (t.2.1 e).2.2.2.2.2.2 = l
      intro ha0
      cases l with
      | nil => cases ha0
      | cons x l => cases ha0; rfl
    have := (p6 d hd').1
    have hn0 : ¬ (ie ((dPs D d).length : Nat) ≤ (0 : Int32)) := fun hh => by have := (inle _ 0 (by omega) (by omega)).mp hh; omega
    refine ⟨z, ?_, z2⟩
    rw [wd d hc hd']
    unfold K_Md_workRow_21 K_Md_workRow_54
    rw [if_pos t12, t13, t7, if_pos (by decide), if_neg hn0, if_pos t12, if_neg hn0, if_pos oke, if_pos t12, nte, c4, hrb, t6, z1]; rfl
  · exact g1 hq
  · exact g1 hq
  · -- a function is called
    have hcon := con_0 hcon
    rw [if_neg (by omega), if_neg (by omega), if_neg (by omega), if_neg (by omega)] at t7'
    obtain ⟨s1, s2⟩ := t11 rfl (by omega) f rfl
    have ej : ie ((2999 + j : Nat) : Int) - 1000 = ie ((1999 + j : Nat) : Int) := by
      rw [show (1000 : Int32) = ie (1000 : Int) from rfl, ie_sub]; congr 1; omega
    have a1 : ag (fun c i => ¬ (126 ≤ c ∧ c ≤ 128 ∧ i = F.length)) u (wi u 126 F.length (ie ((1999 + j : Nat) : Int))) := ag_wi (ag_r _ u) _ _ _ (by omega)
    have h' : rr0 u0 t Y bx lim (wi u 126 F.length (ie ((1999 + j : Nat) : Int))) hp L lc ((some e, b, 1, j, [f]) :: F) st cc dp := by
      refine rr_fr h (ag_m a1 (fun c i hc => by omega)) ⟨?_, t8, t9, (fun hh => by cases hh), t10, (a1 _ _ (by omega)).1.trans t4, (a1 _ _ (by omega)).1.trans t5, (a1 _ _ (by omega)).1.trans t6, (fun hh => by cases hh)⟩ ?_
      · rw [wi_at, sCd_c h16, if_neg (by omega), if_neg (by omega), if_neg (by omega), if_pos rfl, if_neg (by omega)]
      · rw [aS_n F (show (1 : Nat) ≠ 3 by omega), aS_n F (show (2 : Nat) ≠ 3 by omega)]
    have hb' : bkR (wi u 126 F.length (ie ((1999 + j : Nat) : Int))) v := ⟨(a1 _ _ (by omega)).1.trans (hb (by omega)).1, (a1 _ _ (by omega)).2.trans (hb (by omega)).2⟩
    obtain ⟨w, w1, w2⟩ := r_callFn N hN g hW H0 (rr_nw h' (nowB_ag _)) (nowB_n hb') hcon
    have w1' : F_Md_callFunction N f.2.toInt32 g (wj (wi (wi u 126 F.length (ie ((1999 + j : Nat) : Int))) 64 108 (u.1 64 93)) 64 109 (u.2 64 94)) = some w := w1
    refine ⟨w, ?_, oR_m w2 (by omega)⟩
    obtain ⟨x3, t0, hwa⟩ := wa
    rw [hwa]
    unfold K_Md_workRow_21
    rw [if_pos t12, t13, t7', if_neg (show ¬ (ie ((2999 + j : Nat) : Int) = (0 : Int32)) from fun hh => by have := (ineq _ 0 (by omega) (by omega)).mp hh; omega), if_pos (show (1000 : Int32) ≤ ie ((2999 + j : Nat) : Int) from (inle 1000 _ (by omega) (by omega)).mpr (by omega)), if_neg (show ¬ (ie ((2999 + j : Nat) : Int) = (1000 : Int32)) from fun hh => by have := (ineq _ 1000 (by omega) (by omega)).mp hh; omega), if_neg (show ¬ (ie ((2999 + j : Nat) : Int) = (1001 : Int32)) from fun hh => by have := (ineq _ 1001 (by omega) (by omega)).mp hh; omega), if_neg (show ¬ (ie ((2999 + j : Nat) : Int) < (3000 : Int32)) from fun hh => by have := (inlt _ 3000 (by omega) (by omega)).mp hh; omega), if_pos t12, if_pos t12, ej, s2, w1']; rfl
  · -- an ATOM's value is kept
    rw [if_neg (by omega), if_pos rfl] at t7'
    have hp6 := (p6 d hd').1
    have hpw := (p6 d hd').2
    have hil := (List.getElem?_eq_some_iff.mp hp').1
    obtain ⟨w, w1, w2, w3⟩ := r_keep N hN g hW H0 h (hb (by omega)) hd' hat hal hp' hao hx
    have e10 : ie ((9 + j : Nat) : Int) - 10 = ie (hd.length : Nat) := by
      rw [show (10 : Int32) = ie (10 : Int) from rfl, ie_sub]; congr 1; omega
    have hpre : ∀ X Z : Option pm_J, (if ie ((9 + j : Nat) : Int) = (0 : Int32) then X else if (1000 : Int32) ≤ ie ((9 + j : Nat) : Int) then X else Z) = Z := fun X Z => by
      rw [if_neg (show ¬ (ie ((9 + j : Nat) : Int) = (0 : Int32)) from fun hh => by have := (ineq _ 0 (by omega) (by omega)).mp hh; omega), if_neg (show ¬ ((1000 : Int32) ≤ ie ((9 + j : Nat) : Int)) from fun hh => by have := (inle 1000 _ (by omega) (by omega)).mp hh; omega)]
    have n1 : ¬ (ie ((9 + j : Nat) : Int) = (0 : Int32)) := fun hh => by have := (ineq _ 0 (by omega) (by omega)).mp hh; omega
    have n2 : ¬ ((1000 : Int32) ≤ ie ((9 + j : Nat) : Int)) := fun hh => by have := (inle 1000 _ (by omega) (by omega)).mp hh; omega
    rcases hs with ⟨hy, rfl, rfl⟩ | ⟨x, hy, hlt, a', ha', a'', a1, a2, rfl, rfl⟩ | ⟨x, hy, hle, hs⟩
    · obtain ⟨rfl, rfl⟩ := con_4 hcon
      have hf := w3 hy
      refine ⟨w, ?_, Or.inr ⟨by omega, by omega, hf⟩⟩
      have h96 : w.1 64 96 = ie 4 := hf.2.2.2.2.2.1
      rw [wd d hc hd']
      unfold K_Md_workRow_21
      rw [if_pos t12, t13, t7', if_neg n1, if_neg n2, e10, w1, Option.bind_some, h96, if_neg (by decide)]
    · have hcon := con_0 hcon
      have : a' = a'' := by omega
      subst this
      have hw := w2 x hy
      have h96 : w.1 64 96 = ie 0 := (top_R hw).2.2.1
      have t6w := (top_R hw).2.2.2.2.2.1
      have hxl : (hd ++ [x]).length = hd.length + 1 := by rw [List.length_append]; rfl
      have a3 : ag (fun c i => ¬ (126 ≤ c ∧ c ≤ 128 ∧ i = F.length)) w (wi w 126 F.length (ie ((9 + j + 1 : Nat) : Int))) := ag_wi (ag_r _ w) _ _ _ (by omega)
      obtain ⟨z, z1, z2⟩ := pt_oRg (w := wi w 126 F.length (ie ((9 + j + 1 : Nat) : Int))) (j' := j + 1) (hd' := hd ++ [x]) g hw a3 (by rw [wi_at, sCd_c h16, if_neg (by omega), if_pos rfl]; rfl) (by omega) rfl (by omega) h16 rfl hcon
      have Hw := rC_ag H0 (ag_t hw.1 (ag_m a3 (fun c i hc => by unfold wZ at hc; omega)))
      have hat' := r_atomAt N hN g hW Hw t10 h16 ha'
      refine ⟨z, ?_, z2⟩
      rw [wd d hc hd']
      unfold K_Md_workRow_21
      rw [if_pos t12, t13, t7', if_neg n1, if_neg n2, e10, w1, Option.bind_some, h96, if_pos (show ie 0 = (0 : Int32) from rfl), iadd1, if_neg (fun hh => by have := (ineq _ _ (by omega) (by omega)).mp hh; omega), if_pos t12, iadd1, hat', Option.bind_some, if_pos t12, t6w, z1]; rfl
    · have hw := w2 x hy
      have h96 : w.1 64 96 = ie 0 := (top_R hw).2.2.1
      have hxl : (hd ++ [x]).length = hd.length + 1 := by rw [List.length_append]; rfl
      obtain ⟨z, z1, z2⟩ := r_callDef (hd := hd ++ [x]) N hN g hW H0 hw (by show aS F ++ (if (3 : Nat) = 3 then _ else []) = _; rw [if_pos rfl]) (by omega) (by omega) (by rw [sCd_c h16]; rfl) hs hcon
      rw [hxl, hle] at z1
      refine ⟨z, ?_, z2⟩
      rw [wd d hc hd']
      unfold K_Md_workRow_21
      rw [if_pos t12, t13, t7', if_neg n1, if_neg n2, e10, w1, Option.bind_some, h96, if_pos (show ie 0 = (0 : Int32) from rfl), iadd1, hle, if_pos rfl, z1]; rfl
  · -- the DEF's EXPR is done
    have t7 : u.1 126 F.length = ie 1000 := by rw [t7', if_neg (by omega), if_neg (by omega), if_pos rfl]; rfl
    obtain ⟨w, w1, w2, w3⟩ := r_res N hN g H0 h (hb (by omega)) t10 hd' hao hx
    rcases hs with ⟨hy, rfl, rfl⟩ | ⟨x, hy, rfl, rfl⟩
    · obtain ⟨rfl, rfl⟩ := con_4 hcon
      have hf := w3 hy
      refine ⟨w, ?_, Or.inr ⟨by omega, by omega, hf⟩⟩
      have h96 : w.1 64 96 = ie 4 := hf.2.2.2.2.2.1
      rw [wd d hc hd']
      unfold K_Md_workRow_21
      rw [if_pos t12, t13, t7, if_neg (by decide), if_pos (by decide), if_pos (by decide), w1, Option.bind_some, h96, if_neg (by decide)]
    · have hcon := con_0 hcon
      obtain ⟨hw, hn⟩ := w2 x hy
      have h96 : w.1 64 96 = ie 0 := (top_R hw).2.2.1
      obtain ⟨z, z1, z2⟩ := r_goOn N hN g hW H0 hw (by omega) h16 hn hcon
      rw [hj] at z1
      refine ⟨z, ?_, oR_m z2 (by omega)⟩
      rw [wd d hc hd']
      unfold K_Md_workRow_21
      rw [if_pos t12, t13, t7, if_neg (by decide), if_pos (by decide), if_pos (by decide), w1, Option.bind_some, h96, if_pos (show ie 0 = (0 : Int32) from rfl), z1]; rfl
