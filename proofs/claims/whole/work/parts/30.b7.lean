set_option maxRecDepth 100000
theorem adA_0 {bo : Bool} {f : Fi} {e : Nat} {p : Ty} (hg : tyG p) (h : tyM p = 0) (v : Va) (hp : Hp) : adA bo f e p v hp = some (some v, hp) := by
  cases p with
  | num k =>
    unfold adA
    by_cases hk : k < 2
    · rw [if_pos hk]
    · exfalso
      have h' : (if k < 2 then 0 else 2 ^ (k - 2)) = 0 := h
      rw [if_neg hk] at h'
      have := Nat.pow_pos (n := k - 2) (show 0 < 2 by omega); omega
  | var k => exact hg.elim
  | add a b => unfold adA; rw [if_pos h]
  | mul a b => unfold adA; rw [if_pos h]
theorem rtb_all {T : List Tok} {n : Nat} {D : List Df} {t : Tr} {c : CS} {u : pm_J} {Y : List Ty} (H : rC T n D t c c.1 u Y) {d : Nat} (hd : d < D.length) : u.1 96 d = ie (dRt D d : Nat) ∧ u.1 94 d = ie (dWd D d : Nat) ∧ u.1 92 d = ie ((dPs D d).length : Nat) ∧ (∃ k : Nat, u.1 93 d = ie (k : Nat) ∧ k < 100000 ∧ Y[k]? = some (dTy D d)) ∧ (∀ (i : Nat) (p : Ty), (dPs D d)[i]? = some p → ∃ k : Nat, u.1 99 (6 * d + i) = ie (k : Nat) ∧ k < 100000 ∧ Y[k]? = some p) := by
  have hx : D[d]? = some D[d] := List.getElem?_eq_getElem hd
  obtain ⟨⟨_, ⟨p1, p2, p3⟩, ⟨k, k1, k2⟩, a4, _, a6⟩, _⟩ := H.2.2.2.2.2.1 d _ hx
  have e1 : dRt D d = D[d].2.2.2.1 := by unfold dRt; rw [hx]
  have e2 : dWd D d = D[d].2.2.2.2.2.2.1 := by unfold dWd; rw [hx]
  obtain ⟨_, q2, q3⟩ := dPs_some hx
  have hyl := H.2.2.2.2.1.2.1.2
  refine ⟨by rw [a6, e1], by rw [a4, e2], by rw [p1, q3], ⟨k, k1, ?_, by rw [q2]; exact k2⟩, fun i p hp => ?_⟩
  · have := (List.getElem?_eq_some_iff.mp k2).1; omega
  · obtain ⟨q, r1, r2⟩ := dPs_i hx hp
    obtain ⟨_, k', k1', k2'⟩ := p3 i q r1
    rw [r2] at k2'
    exact ⟨k', k1', by have := (List.getElem?_eq_some_iff.mp k2').1; omega, k2'⟩
theorem r_locals0 {u : pm_J} {lc w d : Nat} (g : pm_s) (hd : d < 30) (hw : w ≤ 24) (h94 : u.1 94 d = ie (w : Nat)) (h72 : u.1 64 72 = ie (lc : Nat)) (hlc : lc ≤ 60000) : (lc + w ≤ 60000 → F_Md_locals0 (ie (d : Nat)) g u = some (ie (lc : Nat), wi u 64 72 (ie ((lc + w : Nat) : Int)))) ∧ (60000 < lc + w → F_Md_locals0 (ie (d : Nat)) g u = some (0, wi u 64 96 4)) := by
  have ok := okn d 30 hd (by omega)
  have nt := ntn d (by omega)
  refine ⟨fun h => ?_, fun h => ?_⟩
  · unfold F_Md_locals0
    rw [if_pos ok, nt, h94, h72, ie_bl, if_pos (show ie ((lc + w : Nat) : Int) ≤ (60000 : Int32) from (inle _ 60000 (by omega) (by omega)).mpr h), if_pos ok]
  · unfold F_Md_locals0
    rw [if_pos ok, nt, h94, h72, ie_bl, if_neg (show ¬ (ie ((lc + w : Nat) : Int) ≤ (60000 : Int32)) from fun hh => by have := (inle _ 60000 (by omega) (by omega)).mp hh; omega)]
theorem loR_d0 {u : pm_J} {L : Lo} {lc w : Nat} (h : loR u L lc) (hw : lc + w ≤ 60000) : loR (wi u 64 72 (ie ((lc + w : Nat) : Int))) (lDef L lc w []) (lc + w) := by
  refine ⟨wi_at _ _ _ _, hw, fun i v hi hv => ?_⟩
  unfold lDef at hv
  by_cases e : lc ≤ i ∧ i < lc + w
  · rw [if_pos e] at hv; cases hv
  · rw [if_neg e] at hv
    exact ⟨by rw [wi_ne _ _ _ _ _ _ (by omega)]; exact (h.2.2 i v (by omega) hv).1, (h.2.2 i v (by omega) hv).2⟩
theorem loR_d1 {u : pm_J} {L : Lo} {lc w i : Nat} {hd : List Va} {x : Va} (h : loR u (lDef L lc w (hd.take i)) (lc + w)) (hx : hd[i]? = some x) : loR (wj (wi u 113 (lc + i) (ie (x.1 : Nat))) 114 (lc + i) x.2) (lDef L lc w (hd.take (i + 1))) (lc + w) := by
  refine ⟨by rw [wj_1, wi_ne _ _ _ _ _ _ (by omega)]; exact h.1, h.2.1, fun k v hk hv => ?_⟩
  have keep : k ≠ lc + i → lDef L lc w (hd.take i) k = some v → (wj (wi u 113 (lc + i) (ie (x.1 : Nat))) 114 (lc + i) x.2).1 113 k = ie (v.1 : Nat) ∧ (wj (wi u 113 (lc + i) (ie (x.1 : Nat))) 114 (lc + i) x.2).2 114 k = v.2 := fun hne hv' => by
    obtain ⟨a, b⟩ := h.2.2 k v hk hv'
    exact ⟨by rw [wj_1, wi_ne _ _ _ _ _ _ (by omega)]; exact a, by rw [wj_ne _ _ _ _ _ _ (by omega), wi_2]; exact b⟩
  unfold lDef at hv
  by_cases e : lc ≤ k ∧ k < lc + w
  · rw [if_pos e] at hv
    by_cases ek : k = lc + i
    · have : k - lc = i := by omega
      rw [this, List.getElem?_take_of_lt (by omega), hx] at hv
      cases hv
      subst ek
      exact ⟨by rw [wj_1, wi_at], wj_at _ _ _ _⟩
    · have hlt : k - lc < i + 1 := by
        have := (List.getElem?_eq_some_iff.mp hv).1
        rw [List.length_take] at this; omega
      rw [List.getElem?_take_of_lt hlt] at hv
      refine keep ek ?_
      unfold lDef
      rw [if_pos e, List.getElem?_take_of_lt (by omega)]; exact hv
  · rw [if_neg e] at hv
    by_cases ek : k = lc + i
    · subst ek
      exfalso; omega
    · refine keep ek ?_
      unfold lDef; rw [if_neg e]; exact hv
theorem cdR_loop {L : Lo} {lc w d k : Nat} {A hd : List Va} (N : Nat) (g : pm_s) (hk : k < 150) (hd30 : d < 30) (hw : hd.length ≤ w) (hw24 : w ≤ 24) (hA : A.length + hd.length ≤ 900) (hlw : lc + w ≤ 60000) (m : Nat) : ∀ (i : Nat) (u : pm_J) (f : Nat), i + m = hd.length → m < f → (∀ (j : Nat) (x : Va), (A ++ hd)[j]? = some x → u.1 129 j = ie (x.1 : Nat) ∧ u.2 130 j = x.2) → u.1 64 92 = ie (A.length : Nat) → loR u (lDef L lc w (hd.take i)) (lc + w) → ∃ v, K_Md_callDef_27 N g f (ie (k : Nat)) (ie (d : Nat)) (ie (hd.length : Nat)) (ie (lc : Nat)) (ie (i : Nat)) u = F_Md_begin (v.1 96 d) (ie (lc : Nat)) g (wi v 126 k 1000) ∧ ag (fun c i => ¬ (c = 113 ∨ c = 114)) u v ∧ loR v (lDef L lc w hd) (lc + w) := by
  induction m with
  | zero =>
    intro i u f hi hf ha h92 hlo
    obtain ⟨f, rfl⟩ : ∃ f', f = f' + 1 := ⟨f - 1, by omega⟩
    rw [List.take_of_length_le (by omega)] at hlo
    refine ⟨u, ?_, ag_r _ u, hlo⟩
    rw [K_Md_callDef_27, if_pos ((inle _ _ (by omega) (by omega)).mpr (by omega)), if_pos (okn k 150 hk (by omega)), if_pos (okn d 30 hd30 (by omega)), ntn d (by omega), ntn k (by omega), obd]
  | succ m ih =>
    intro i u f hi hf ha h92 hlo
    obtain ⟨f, rfl⟩ : ∃ f', f = f' + 1 := ⟨f - 1, by omega⟩
    have hx : hd[i]? = some hd[i] := List.getElem?_eq_getElem (by omega)
    obtain ⟨a1, a2⟩ := ha (A.length + i) hd[i] (by rw [List.getElem?_append_right (by omega), show A.length + i - A.length = i by omega]; exact hx)
    have aw : ag (fun c i => ¬ (c = 113 ∨ c = 114)) u (wj (wi u 113 (lc + i) (ie (hd[i].1 : Nat))) 114 (lc + i) hd[i].2) := ag_wj (ag_wi (ag_r _ u) _ _ _ (by omega)) _ _ _ (by omega)
    obtain ⟨v, v1, v2, v3⟩ := ih (i + 1) _ f (by omega) (by omega) (fun j x hj => ⟨(aw _ _ (by omega)).1.trans (ha j x hj).1, (aw _ _ (by omega)).2.trans (ha j x hj).2⟩) ((aw _ _ (by omega)).1.trans h92) (loR_d1 hlo hx)
    refine ⟨v, ?_, ag_t aw v2, v3⟩
    rw [K_Md_callDef_27, if_neg (fun hh => by have := (inle _ _ (by omega) (by omega)).mp hh; omega), h92, ie_bl, ie_bl, if_pos (okn (A.length + i) 1000 (by omega) (by omega)), if_pos (okn (lc + i) 60000 (by omega) (by omega)), if_pos (okn (A.length + i) 1000 (by omega) (by omega)), if_pos (okn (lc + i) 60000 (by omega) (by omega)), ntn _ (by omega), ntn _ (by omega), a1, a2, iadd1]
    exact v1
theorem r_callDef {T : List Tok} {n : Nat} {D : List Df} {t : Tr} {c : CS} {Y : List Ty} {bx : Bool} {lim : Nat} {u0 : pm_J} {u : pm_J} {hp : Hp} {L : Lo} {lc : Nat} {F : List Fr} {v : Va} {st cc dp : Nat} {e b q j d k r r' : Nat} {hd : List Va} {s' sf : Ms} (N : Nat) (hN : 200000 ≤ N) (g : pm_s) (hW : pW T D t) (H0 : rC T n D t c c.1 u0 Y) (h : rr0 u0 t Y bx lim u hp L lc ((some e, b, q, j, hd) :: F) st cc dp) (hA : aS ((some e, b, q, j, hd) :: F) = aS F ++ hd) (hl : hd.length ≤ dWd D d) (hl6 : hd.length ≤ 6) (h4 : sCd t (some e, b, 4, j, hd) = 1000) (hs : oDf D hp L lc e b j hd F v st cc dp d r' s') (hcon : (r' = 0 ∧ rch D t c bx lim k s' r sf) ∨ (r' ≠ 0 ∧ r = r' ∧ sf = s')) : ∃ w, F_Md_callDef N (ie (F.length : Nat)) (ie (d : Nat)) (ie (hd.length : Nat)) g u = some w ∧ oR u0 D t c Y bx lim (k + 1) w r sf := by
  obtain ⟨t1, t2, t3, t4, t5, t6, t7, t8, t9, t10, t11, t12, t13, _⟩ := top_R h
  obtain ⟨hd', hs⟩ := hs
  have H := rC_ag H0 h.1
  have h30 := H.2.2.1.2
  obtain ⟨b1, b2, b3, _, _⟩ := rtb_all H hd'
  have hx : D[d]? = some D[d] := List.getElem?_eq_getElem hd'
  have hw24 : dWd D d ≤ 24 := by
    have := (hW.1 d _ hx).2.2.2.2.2.2.1.2.2.1
    unfold dWd; rw [hx]; exact this
  obtain ⟨h1, h2, hlo, ⟨_, h4'⟩, hak, ⟨h6, h6'⟩, h7⟩ := id h
  have hAl := aS_le h4'
  rw [hA] at hak
  obtain ⟨l1, l2⟩ := r_locals0 (u := u) (d := d) g (by omega) hw24 b2 hlo.1 hlo.2.1
  have hlc := hlo.2.1
  rcases hs with ⟨hr, rfl, rfl⟩ | ⟨hr, rfl, rfl⟩
  · have hcon := con_0 hcon
    have hsub : ie (((aS F ++ hd).length : Nat) : Int) - ie (hd.length : Nat) = ie ((aS F).length : Nat) := by rw [ie_sub, List.length_append]; congr 1; omega
    have aw : ag (fun c i => ¬ (c = 64 ∧ (i = 72 ∨ i = 92))) u (wi (wi u 64 72 (ie ((lc + dWd D d : Nat) : Int))) 64 92 (ie ((aS F).length : Nat))) := ag_wi (ag_wi (ag_r _ u) _ _ _ (by omega)) _ _ _ (by omega)
    have aw2 : ag wL (wi u 64 72 (ie ((lc + dWd D d : Nat) : Int))) (wi (wi u 64 72 (ie ((lc + dWd D d : Nat) : Int))) 64 92 (ie ((aS F).length : Nat))) := ag_wi (ag_r _ _) _ _ _ (by unfold wL; omega)
    obtain ⟨v', v1, v2, v3⟩ := cdR_loop (A := aS F) (k := F.length) (d := d) N g (by omega) (by omega) hl hw24 (by omega) hr hd.length 0 (wi (wi u 64 72 (ie ((lc + dWd D d : Nat) : Int))) 64 92 (ie ((aS F).length : Nat))) N (by omega) (by omega) (fun j x hj => ⟨(aw _ _ (by omega)).1.trans (hak.2 j x hj).1, (aw _ _ (by omega)).2.trans (hak.2 j x hj).2⟩) (wi_at _ _ _ _) (loR_ag (loR_d0 hlo hr) aw2)
    have av : ag (fun c i => ¬ (c = 113 ∨ c = 114 ∨ (c = 64 ∧ (i = 72 ∨ i = 92)))) u v' := ag_t (ag_m aw (fun c i hc => by omega)) (ag_m v2 (fun c i hc => by omega))
    have az : ag (fun c i => ¬ (c = 113 ∨ c = 114 ∨ (c = 64 ∧ (i = 72 ∨ i = 92)) ∨ (c = 126 ∧ i = F.length))) u (wi v' 126 F.length 1000) := ag_wi (ag_m av (fun c i hc => by omega)) _ _ _ (by omega)
    have aq : ag (fun c i => ¬ (c = 126 ∧ i = F.length)) v' (wi v' 126 F.length 1000) := ag_wi (ag_r _ _) _ _ _ (by omega)
    have h' : rr0 u0 t Y bx lim (wi v' 126 F.length 1000) hp (lDef L lc (dWd D d) hd) (lc + dWd D d) ((some e, b, 4, j, hd) :: F) st cc dp := by
      refine ⟨ag_t h1 (ag_m az (fun c i hc => by unfold wZ at hc; omega)), hR_ag h2 (ag_m az (fun c i hc => by unfold wH at hc; omega)), loR_ag v3 (ag_m aq (fun c i hc => by unfold wL at hc; omega)), ⟨⟨by rw [wi_at, h4]; rfl, t8, t9, (fun hh => by cases hh), t10, (az _ _ (by omega)).1.trans t4, (az _ _ (by omega)).1.trans t5, (az _ _ (by omega)).1.trans t6, (fun hh => by cases hh)⟩, fRs_ag h4' (ag_m az (fun c i hc => by unfold wFr at hc; omega))⟩, ?_, ⟨(az 64 88 (by omega)).1.trans h6, h6'⟩, rgR_ag h7 (ag_m az (fun c i hc => by unfold wG at hc; omega))⟩
      rw [aS_n F (show (4 : Nat) ≠ 3 by omega)]
      refine ⟨?_, fun i x hi => ?_⟩
      · rw [(aq 64 92 (by omega)).1, (v2 64 92 (by omega)).1, wi_at]
      · have hi' := (List.getElem?_eq_some_iff.mp hi).1
        obtain ⟨q1, q2⟩ := hak.2 i x (by rw [List.getElem?_append_left hi']; exact hi)
        exact ⟨(az _ _ (by omega)).1.trans q1, (az _ _ (by omega)).2.trans q2⟩
    obtain ⟨z, z1, z2⟩ := r_begin g hlc h' hcon
    refine ⟨z, ?_, oR_m z2 (by omega)⟩
    unfold F_Md_callDef
    rw [l1 hr, Option.bind_some]
    show (if (wi u 64 72 (ie ((lc + dWd D d : Nat) : Int))).1 64 96 = 0 then _ else _) = _
    rw [wi_ne _ _ _ _ _ _ (by omega), t3, if_pos (show ie 0 = (0 : Int32) from rfl), wi_ne _ _ _ _ _ _ (by omega), hak.1, hsub]
    refine v1.trans ?_
    rw [(av 96 d (by omega)).1, b1]; exact z1
  · obtain ⟨rfl, rfl⟩ := con_4 hcon
    refine ⟨wi u 64 96 4, ?_, Or.inr ⟨by omega, by omega, rr_e 4 v (by omega) h⟩⟩
    unfold F_Md_callDef
    rw [l2 hr, Option.bind_some]
    show (if (wi u 64 96 4).1 64 96 = 0 then _ else _) = _
    rw [wi_at, if_neg (by decide)]
