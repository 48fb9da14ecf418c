set_option maxRecDepth 100000
theorem r_node3 {T : List Tok} {n : Nat} {D : List Df} {t : Tr} {c : CS} {Y : List Ty} {bx : Bool} {lim : Nat} {u0 : pm_J} {u : pm_J} {hp : Hp} {L : Lo} {lc : Nat} {F : List Fr} {v : Va} {st cc dp : Nat} {e b q j k r r' : Nat} {hd : List Va} {s' sf : Ms} (N : Nat) (hN : 200000 ≤ N) (g : pm_s) (hW : pW T D t) (H0 : rC T n D t c c.1 u0 Y) (h : rr0 u0 t Y bx lim u hp L lc ((some e, b, q, j, hd) :: F) st cc dp) (hb : q ≠ 0 → bkR u v) (h3 : (t.2.1 e).1 = 3 ∨ (t.2.1 e).1 = 4) (hs : oNd D t c bx hp L lc e b q j hd F v st cc dp r' s') (hcon : (r' = 0 ∧ rch D t c bx lim k s' r sf) ∨ (r' ≠ 0 ∧ r = r' ∧ sf = s')) : gRf u0 D t c Y bx lim N g u (k + 1) r sf := by
  obtain ⟨t1, t2, t3, t4, t5, t6, t7', t8, t9, t10, t11, t12, t13, t14⟩ := top_R h
  have hq3 : q ≠ 3 := fun hq => by have := (t14 hq).2; omega
  have H := rC_ag H0 h.1
  have h18 := H.2.2.2.1.2
  have h30 := H.2.2.1.2
  have t7 : u.1 126 F.length = ie ((if q = 4 then 1000 else q : Nat) : Int) := by rw [t7', sCd_o (by omega)]
  clear t7'
  obtain ⟨c1, c2, c3, c4, c5, c6, _, _, _, _, _, c12, _⟩ := H.2.2.2.2.2.2 e t10
  have oke := okn e 2400 (by omega) (by omega)
  have nte := ntn e (by omega)
  have go := go_nd N g t1 t2 t3 t4 t5 (by omega) c1
  have hrl : rvl (t.2.1 e) = -1 := by unfold rvl; rw [if_neg (by omega), if_neg (by omega)]
  rcases hs with ⟨kd, _⟩ | ⟨kd, _⟩ | ⟨kd, _⟩ | ⟨kd, _⟩ | ⟨kd, _⟩ | ⟨kd, _⟩ | ⟨kd, _⟩ | ⟨_, _, _, d, hc, hd', h0, hM, hs⟩ | ⟨kd, _⟩
  · exfalso; omega
  · exfalso; omega
  · exfalso; omega
  · exfalso; omega
  · exfalso; omega
  · exfalso; omega
  · exfalso; omega
  · refine gRf_of (o := F_Md_workName N (ie (F.length : Nat)) (ie (e : Nat)) g u) (fun f => (go f).1 (by rcases h3 with h3 | h3 <;> rw [h3] <;> rfl)) ?_
    unfold F_Md_workName
    rw [if_pos oke, nte, c6, hrl, if_pos (by decide), if_pos t12, t13, t7]
    have hdd : u.1 88 e = ie (d : Nat) := by rw [c12, hc]; rfl
    rcases hs with ⟨rfl, rfl, hs⟩ | ⟨rfl, rfl, rfl⟩ | ⟨rfl, hs⟩
    · obtain ⟨w, w1, w2⟩ := r_callDef N hN g hW H0 h (by rw [aS_n F (show (0 : Nat) ≠ 3 by omega), List.append_nil]) (Nat.zero_le _) (by show 0 ≤ 6; omega) (by rw [sCd_o (by omega), if_pos rfl]) hs hcon
      refine ⟨w, ?_, w2⟩
      have w1' : F_Md_callDef N (ie (F.length : Nat)) (ie (d : Nat)) 0 g u = some w := w1
      rw [if_pos (by decide), if_pos oke, hdd, w1']; rfl
    · have hcon := con_0 hcon
      obtain ⟨b1, b2⟩ := hb (by omega)
      cases k with
      | zero => exact hcon.elim
      | succ k =>
        obtain ⟨r2, s2, hs20, hcon2⟩ := hcon
        have hs2 : stp D t c bx lim hp L lc ((some e, b, 1, j, hd) :: F) v st cc dp rM r2 s2 := hs20
        clear hs20
        rcases hs2 with ⟨_, _, hm, _⟩ | ⟨_, hm, _⟩ | ⟨_, _, _, _, hm, _⟩ | ⟨_, hF, _⟩ | ⟨_, _, _, _, _, hF, _⟩ | ⟨e2, b2', q2, j2, hd2, F2, _, hF, _, hs2⟩
        · cases hm
        · cases hm
        · cases hm
        · cases hF
        · cases hF
        · cases hF
          rcases hs2 with ⟨kd, _⟩ | ⟨kd, _⟩ | ⟨kd, _⟩ | ⟨kd, _⟩ | ⟨kd, _⟩ | ⟨kd, _⟩ | ⟨kd, _⟩ | ⟨_, _, _, _, _, _, _, _, ⟨hq, _⟩ | ⟨hq, _⟩ | ⟨_, hs2⟩⟩ | ⟨kd, _⟩
          · exfalso; omega
          · exfalso; omega
          · exfalso; omega
          · exfalso; omega
          · exfalso; omega
          · exfalso; omega
          · exfalso; omega
          · cases hq
          · cases hq
          · obtain ⟨rfl, rfl⟩ := hs2
            obtain ⟨w, w1, w2⟩ := fin_oR g v h hq3 (con_0 hcon2)
            refine ⟨w, ?_, oR_m w2 (by omega)⟩
            rw [if_neg (by decide), b1, b2, w1]; rfl
          · exfalso; omega
    · obtain ⟨rfl, rfl⟩ := hs
      obtain ⟨b1, b2⟩ := hb (by omega)
      obtain ⟨w, w1, w2⟩ := fin_oR g v h hq3 (con_0 hcon)
      refine ⟨w, ?_, w2⟩
      rw [if_neg (by decide), b1, b2, w1]; rfl
  · exfalso; omega
theorem r_atomAt {T : List Tok} {n : Nat} {D : List Df} {t : Tr} {c : CS} {u : pm_J} {Y : List Ty} (N : Nat) (hN : 200000 ≤ N) (g : pm_s) (hW : pW T D t) (H : rC T n D t c c.1 u Y) {e : Nat} (he : e < t.1) (h16 : (t.2.1 e).1 = 16) {i a : Nat} (ha : (t.2.1 e).2.2.2.2.2.2[i]? = some a) : F_Md_atomAt N (ie (e : Nat)) (ie (i : Nat)) g u = some (ie (a : Nat)) := by
  obtain ⟨lc, f0, hn⟩ := nC_any hW he h16
  have h18 := H.2.2.2.1.2
  have hcn : cn t.2.2.2.2.2 (t.2.1 e).2.2.2.2.2.2 := hn.2.2.2.2.2.2.2.2.1
  have hlt : ∀ x ∈ (t.2.1 e).2.2.2.2.2.2, x < t.1 := fun x hx => by
    have := hn.2.2.1 x (by rw [row_c h16]; exact List.mem_cons_of_mem _ hx); omega
  have hil := (List.getElem?_eq_some_iff.mp ha).1
  have h8 : (t.2.1 e).2.2.2.2.2.2.length ≤ 8 := hn.2.2.2.2.2.2.1
  have lp : ∀ (m j x f : Nat), j + m = i → m < f → (t.2.1 e).2.2.2.2.2.2[j]? = some x → K_Md_atomAt_10 N g u f (ie (i : Nat)) (ie (x : Nat)) (ie (j : Nat)) = some (ie (a : Nat)) := by
    intro m
    induction m with
    | zero =>
      intro j x f hj hf hx
      obtain ⟨f, rfl⟩ : ∃ f', f = f' + 1 := ⟨f - 1, by omega⟩
      have : j = i := by omega
      subst this
      rw [ha] at hx; cases hx
      rw [K_Md_atomAt_10, if_pos ((inle _ _ (by omega) (by omega)).mpr (Nat.le_refl _))]
    | succ m ih =>
      intro j x f hj hf hx
      obtain ⟨f, rfl⟩ : ∃ f', f = f' + 1 := ⟨f - 1, by omega⟩
      have hxl := hlt x (List.mem_of_getElem? hx)
      have hx1 : (t.2.1 e).2.2.2.2.2.2[j + 1]? = some (t.2.1 e).2.2.2.2.2.2[j + 1] := List.getElem?_eq_getElem (by omega)
      have hnx := (cn_get hcn hx).1 _ hx1
      have c7 := (H.2.2.2.2.2.2 x hxl).2.2.2.2.2.2.1
      rw [K_Md_atomAt_10, if_neg (fun hh => by have := (inle _ _ (by omega) (by omega)).mp hh; omega), if_pos (okn x 2400 (by omega) (by omega)), ntn x (by omega), c7, hnx, iadd1]
      exact ih (j + 1) _ f (by omega) (by omega) hx1
  obtain ⟨x0, h0⟩ : ∃ x0, (t.2.1 e).2.2.2.2.2.2[0]? = some x0 := ⟨_, List.getElem?_eq_getElem (by omega)⟩
  have hb : rvb (t.2.1 e) = (x0 : Nat) := by
    unfold rvb; rw [if_pos h16]
    revert h0
    generalize (t.2.1 e).2.2.2.2.2.2 = l
    intro h0
    cases l with
    | nil => cases h0
    | cons x l => cases h0; rfl
  have c4 := (H.2.2.2.2.2.2 e he).2.2.2.1
  unfold F_Md_atomAt
  rw [if_pos (okn e 2400 (by omega) (by omega)), ntn e (by omega), c4, hb]
  exact lp i 0 _ N (by omega) (by omega) h0
def nowB (u : pm_J) : pm_J := wj (wi u 64 108 (u.1 64 93)) 64 109 (u.2 64 94)
theorem nowB_ag (u : pm_J) : ag (fun c i => ¬ (c = 64 ∧ (i = 108 ∨ i = 109))) u (nowB u) := ag_wj (ag_wi (ag_r _ u) _ _ _ (by omega)) _ _ _ (by omega)
theorem nowB_n {u : pm_J} {v : Va} (h : bkR u v) : nwR (nowB u) v := ⟨by unfold nowB; rw [wj_1, wi_at]; exact h.1, by unfold nowB; rw [wj_at]; exact h.2⟩
theorem rr_nw {u0 u w : pm_J} {t : Tr} {Y : List Ty} {bx : Bool} {lim : Nat} {hp : Hp} {L : Lo} {lc : Nat} {F : List Fr} {st cc dp : Nat} (h : rr0 u0 t Y bx lim u hp L lc F st cc dp) (ha : ag (fun c i => ¬ (c = 64 ∧ (i = 108 ∨ i = 109))) u w) : rr0 u0 t Y bx lim w hp L lc F st cc dp := by
  have h2 := h.2.1
  have h7 := h.2.2.2.2.2.2.2.2.2.2.2.1
  exact rr_ag h (ag_m ha (fun c i hc => by unfold wB at hc; omega)) (hR_ag h2 (ag_m ha (fun c i hc => by unfold wH at hc; omega))) ((ha 64 96 (by omega)).1.trans h7)
theorem r_goOn {T : List Tok} {n : Nat} {D : List Df} {t : Tr} {c : CS} {Y : List Ty} {bx : Bool} {lim : Nat} {u0 : pm_J} {u : pm_J} {hp : Hp} {L : Lo} {lc : Nat} {F : List Fr} {v : Va} {st cc dp : Nat} {e b q j k r : Nat} {hd hd' : List Va} {sf : Ms} (N : Nat) (hN : 200000 ≤ N) (g : pm_s) (hW : pW T D t) (H0 : rC T n D t c c.1 u0 Y) (h : rr0 u0 t Y bx lim u hp L lc ((some e, b, q, j, hd) :: F) st cc dp) (hq3 : q ≠ 3) (h16 : (t.2.1 e).1 = 16) (hn : nwR u v) (hr : rch D t c bx lim k (hp, L, lc, (some e, b, 1, j, hd') :: F, v, st, cc, dp, rM) r sf) : ∃ w, F_Md_goOn N (ie (F.length : Nat)) (ie (e : Nat)) (ie (j : Nat)) g u = some w ∧ oR u0 D t c Y bx lim k w r sf := by
  obtain ⟨t1, t2, t3, t4, t5, t6, t7', t8, t9, t10, t11, t12, t13, t14⟩ := top_R h
  have H := rC_ag H0 h.1
  have h18 := H.2.2.2.1.2
  obtain ⟨c1, c2, c3, c4, c5, c6, c7, c8, _⟩ := H.2.2.2.2.2.2 e t10
  obtain ⟨_, _, hnC⟩ := nC_any hW t10 h16
  have hcnt : rvn (t.2.1 e) = ((t.2.1 e).2.2.2.2.2.2.length : Nat) := by unfold rvn; rw [if_pos h16]; exact hnC.2.2.2.2.1
  have h8 : (t.2.1 e).2.2.2.2.2.2.length ≤ 8 := hnC.2.2.2.2.2.2.1
  have oke := okn e 2400 (by omega) (by omega)
  have nte := ntn e (by omega)
  cases k with
  | zero => exact hr.elim
  | succ k =>
  obtain ⟨r2, s2, hs20, hcon⟩ := hr
  have hs2 : stp D t c bx lim hp L lc ((some e, b, 1, j, hd') :: F) v st cc dp rM r2 s2 := hs20
  clear hs20
  rcases hs2 with ⟨_, _, hm, _⟩ | ⟨_, hm, _⟩ | ⟨_, _, _, _, hm, _⟩ | ⟨_, hF, _⟩ | ⟨_, _, _, _, _, hF, _⟩ | ⟨e2, b2', q2, j2, hd2, F2, _, hF, _, hs2⟩
  · cases hm
  · cases hm
  · cases hm
  · cases hF
  · cases hF
  · cases hF
    rcases hs2 with ⟨kd, _⟩ | ⟨kd, _⟩ | ⟨kd, _⟩ | ⟨kd, _⟩ | ⟨kd, _⟩ | ⟨kd, _⟩ | ⟨kd, _⟩ | ⟨kd, _⟩ | ⟨_, _, hs2⟩
    · exfalso; omega
    · exfalso; omega
    · exfalso; omega
    · exfalso; omega
    · exfalso; omega
    · exfalso; omega
    · exfalso; omega
    · exfalso; omega
    · have aw : ag (fun c i => ¬ (123 ≤ c ∧ c ≤ 128 ∧ i = F.length)) u (wj (wi u 127 F.length (u.1 64 108)) 128 F.length (u.2 64 109)) := ag_wj (ag_wi (ag_r _ u) _ _ _ (by omega)) _ _ _ (by omega)
      rcases hs2 with ⟨hq, _⟩ | ⟨hq, _⟩ | ⟨_, hjl, hs2⟩ | ⟨_, a, ha, hs2⟩ | ⟨hq, _⟩ | ⟨hq, _⟩ | ⟨hq, _⟩
      · cases hq
      · cases hq
      · obtain ⟨rfl, rfl⟩ := hs2
        have hpop : ∃ w, F_Md_finish (ie (v.1 : Nat)) v.2 g (wj (wi u 127 F.length (u.1 64 108)) 128 F.length (u.2 64 109)) = some w ∧ oR u0 D t c Y bx lim (k + 1) w r sf := by
          obtain ⟨g1, g2, g3, ⟨g4, g4'⟩, g5, ⟨g6, g6'⟩, g7⟩ := id h
          rw [aS_n F (show q ≠ 3 from hq3)] at g5
          have az : ag (fun c i => ¬ ((123 ≤ c ∧ c ≤ 128 ∧ i = F.length) ∨ (c = 64 ∧ (i = 88 ∨ i = 93 ∨ i = 94)))) u (wj (wi (wi (wj (wi u 127 F.length (u.1 64 108)) 128 F.length (u.2 64 109)) 64 88 (ie (F.length : Nat))) 64 93 (ie (v.1 : Nat))) 64 94 v.2) := ag_wj (ag_wi (ag_wi (ag_m aw (fun c i hc => by omega)) _ _ _ (by omega)) _ _ _ (by omega)) _ _ _ (by omega)
          have hrr : rr0 u0 t Y bx lim (wj (wi (wi (wj (wi u 127 F.length (u.1 64 108)) 128 F.length (u.2 64 109)) 64 88 (ie (F.length : Nat))) 64 93 (ie (v.1 : Nat))) 64 94 v.2) hp L lc F st cc dp := ⟨ag_t g1 (ag_m az (fun c i hc => by unfold wZ at hc; omega)), hR_ag g2 (ag_m az (fun c i hc => by unfold wH at hc; omega)), loR_ag g3 (ag_m az (fun c i hc => by unfold wL at hc; omega)), fRs_ag g4' (ag_m az (fun c i hc => by unfold wFr at hc; omega)), akR_ag g5 (ag_m az (fun c i hc => by unfold wA at hc; omega)), ⟨by rw [wj_1, wi_ne _ _ _ _ _ _ (by omega), wi_at], by show F.length ≤ 150; omega⟩, rgR_ag g7 (ag_m az (fun c i hc => by unfold wG at hc; omega))⟩
          refine ⟨_, ?_, Or.inl ⟨k, _, Nat.lt_succ_self _, con_0 hcon, hrr, Or.inl ⟨rfl, Or.inl ⟨by rw [wj_1, wi_at], wj_at _ _ _ _⟩⟩⟩⟩
          unfold F_Md_finish
          rw [(aw 64 88 (by omega)).1, t1, isub1]
        obtain ⟨w, w1, w2⟩ := hpop
        refine ⟨w, ?_, w2⟩
        unfold F_Md_goOn
        rw [if_pos t12, if_pos t12, if_pos oke, nte, c8, hcnt, hjl, if_pos rfl, t13, hn.1, hn.2]
        rw [hn.1, hn.2] at w1
        rw [w1]; rfl
      · obtain ⟨a', a1, a2, rfl, rfl⟩ := hs2
        have : a' = a := by omega
        subst this
        have hjl := (List.getElem?_eq_some_iff.mp ha).1
        have a3 : ag (fun c i => ¬ (126 ≤ c ∧ c ≤ 128 ∧ i = F.length)) u (wi (wj (wi u 127 F.length (u.1 64 108)) 128 F.length (u.2 64 109)) 126 F.length (3000 + ie (j : Nat))) := ag_wi (ag_wj (ag_wi (ag_r _ u) _ _ _ (by omega)) _ _ _ (by omega)) _ _ _ (by omega)
        have e30 : (3000 : Int32) + ie (j : Nat) = ie ((3000 + j : Nat) : Int) := ie_bl 3000 j
        obtain ⟨z, z1, z2⟩ := pt_oR (q := q) (q' := 2) (j' := j + 1) (hd' := [v]) g h a3 (by rw [wi_at, e30, sCd_c h16, if_neg (by omega), if_neg (by omega), if_neg (by omega), if_neg (by omega)]; congr 1; omega) (by omega) (fun _ _ x hx => by cases hx; exact ⟨by rw [wi_ne _ _ _ _ _ _ (by omega), wj_1, wi_at]; exact hn.1, by rw [wi_2, wj_at]; exact hn.2⟩) (by omega) hq3 (con_0 hcon)
        refine ⟨z, ?_, z2⟩
        have H' := rC_ag H (ag_m a3 (fun c i hc => by unfold wZ at hc; omega))
        have hat := r_atomAt N hN g hW H' t10 h16 ha
        unfold F_Md_goOn
        rw [if_pos t12, if_pos t12, if_pos oke, nte, c8, hcnt, if_neg (fun hh => by have := (ineq _ _ (by omega) (by omega)).mp hh; omega), if_pos t12, t13, hat, Option.bind_some, if_pos t12, t6, z1]; rfl
      · cases hq
      · cases hq
      · cases hq
