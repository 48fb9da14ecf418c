set_option maxRecDepth 100000
theorem ropN {k : Nat} (h : k ≤ 16) : (k = 0 → rop k = 12) ∧ (k = 1 → rop k = 13) ∧ (k = 2 ∨ k = 3 ∨ k = 4 → rop k = 1) ∧ (k = 7 → rop k = 4) ∧ (k = 8 → rop k = 6) ∧ (k = 9 → rop k = 9) ∧ (k = 10 → rop k = 23) ∧ (k = 11 → rop k = 24) ∧ (k = 12 → rop k = 25) ∧ (k = 13 → rop k = 32) ∧ (k = 14 → rop k = 10) ∧ (k = 15 → rop k = 11) ∧ (k = 16 → rop k = 30) := by
  refine ⟨?_, ?_, ?_, ?_, ?_, ?_, ?_, ?_, ?_, ?_, ?_, ?_, ?_⟩
  · rintro rfl; rfl
  · rintro rfl; rfl
  · rintro (rfl | rfl | rfl) <;> rfl
  all_goals (rintro rfl; rfl)
theorem lo_R {u : pm_J} {b l : Nat} (hl : b + l < 60000) (h1 : ie (b : Nat) + ie (l : Nat) = ie ((b + l : Nat) : Int)) : pm_ok (ie (b : Nat) + ie (l : Nat)) 60000 = true ∧ (ie (b : Nat) + ie (l : Nat)).toNatClampNeg = b + l := by
  rw [h1]; exact ⟨okn _ _ hl (by omega), ntn _ (by omega)⟩
theorem ie_bl (b l : Nat) : ie (b : Nat) + ie (l : Nat) = ie ((b + l : Nat) : Int) := by rw [ie_add]; rfl
theorem loR_set {u : pm_J} {L : Lo} {lc : Nat} (h : loR u L lc) (k : Nat) (x : Va) : loR (wj (wi u 113 k (ie (x.1 : Nat))) 114 k x.2) (pu_upd L k (some x)) lc := by
  refine ⟨by rw [wj_1, wi_ne _ _ _ _ _ _ (by omega)]; exact h.1, h.2.1, fun i w hi hw => ?_⟩
  by_cases e : i = k
  · rw [e, upd_same] at hw; cases hw
    subst e
    exact ⟨by rw [wj_1, wi_at], wj_at _ _ _ _⟩
  · rw [upd_ne _ _ _ _ e] at hw
    exact ⟨by rw [wj_1, wi_ne _ _ _ _ _ _ (by omega)]; exact (h.2.2 i w hi hw).1, by rw [wj_ne _ _ _ _ _ _ (by omega), wi_2]; exact (h.2.2 i w hi hw).2⟩
theorem rr_lo {u0 u w : pm_J} {t : Tr} {Y : List Ty} {bx : Bool} {lim : Nat} {hp : Hp} {L L' : Lo} {lc lc' : Nat} {F : List Fr} {st cc dp : Nat} (h : rr0 u0 t Y bx lim u hp L lc F st cc dp) (ha : ag (fun c i => ¬ ((c = 64 ∧ i = 72) ∨ c = 113 ∨ c = 114)) u w) (hl : loR w L' lc') : rr0 u0 t Y bx lim w hp L' lc' F st cc dp := by
  obtain ⟨h1, h2, h3, h4, h5, ⟨h6, h6'⟩, h7⟩ := h
  exact ⟨ag_t h1 (ag_m ha (fun c i hc => by unfold wZ at hc; omega)), hR_ag h2 (ag_m ha (fun c i hc => by unfold wH at hc; omega)), hl, fRs_ag h4 (ag_m ha (fun c i hc => by unfold wFr at hc; omega)), akR_ag h5 (ag_m ha (fun c i hc => by unfold wA at hc; omega)), ⟨(ha 64 88 (by omega)).1.trans h6, h6'⟩, rgR_ag h7 (ag_m ha (fun c i hc => by unfold wG at hc; omega))⟩
theorem con_0 {D : List Df} {t : Tr} {c : CS} {bx : Bool} {lim : Nat} {k r : Nat} {s' sf : Ms} (h : ((0 : Nat) = 0 ∧ rch D t c bx lim k s' r sf) ∨ ((0 : Nat) ≠ 0 ∧ r = 0 ∧ sf = s')) : rch D t c bx lim k s' r sf := by
  rcases h with ⟨_, h⟩ | ⟨h, _⟩
  · exact h
  · exact absurd rfl h
theorem con_4 {D : List Df} {t : Tr} {c : CS} {bx : Bool} {lim : Nat} {k r : Nat} {s' sf : Ms} (h : ((4 : Nat) = 0 ∧ rch D t c bx lim k s' r sf) ∨ ((4 : Nat) ≠ 0 ∧ r = 4 ∧ sf = s')) : r = 4 ∧ sf = s' := by
  rcases h with ⟨h, _⟩ | ⟨_, h⟩
  · cases h
  · exact h
theorem r_mkFn {D : List Df} {t : Tr} {c : CS} {Y : List Ty} {bx : Bool} {lim : Nat} {u0 : pm_J} {u : pm_J} {hp : Hp} {L : Lo} {lc : Nat} {F : List Fr} {v : Va} {st cc dp : Nat} {e b q j k r r' : Nat} {hd : List Va} {s' sf : Ms} (g : pm_s) (ht : t.1 ≤ 1800) (h : rr0 u0 t Y bx lim u hp L lc ((some e, b, q, j, hd) :: F) st cc dp) (hq : q ≠ 3) (hs : oMk hp L lc F ((some e, b, q, j, hd) :: F) 3 (1, (0, je (e : Nat)), (0, je (b : Nat)), .num 0, -1) v st cc dp r' s') (hcon : (r' = 0 ∧ rch D t c bx lim k s' r sf) ∨ (r' ≠ 0 ∧ r = r' ∧ sf = s')) : ∃ w, F_Md_workFunction (ie (F.length : Nat)) (ie (e : Nat)) g u = some w ∧ oR u0 D t c Y bx lim (k + 1) w r sf := by
  obtain ⟨t1, t2, t3, t4, t5, t6, t7, t8, t9, t10, t11, t12, t13, _⟩ := top_R h
  obtain ⟨_, hh, _⟩ := id h
  obtain ⟨m1, m2⟩ := r_make g hh.1 hh.2.1
  rcases hs with ⟨hl, rfl, rfl⟩ | ⟨hl, rfl, rfl⟩
  · have hcon := con_0 hcon
    have ok := okn hp.1.length 4000 hl (by omega)
    have nt := ntn hp.1.length (by omega)
    have hct := hh.2.2.2.1
    let w : pm_J := wi (wj (wj (wi (wi u 64 81 (ie ((hp.1.length + 1 : Nat) : Int))) 115 hp.1.length 0) 120 hp.1.length (je (e : Nat))) 122 hp.1.length (je (b : Nat))) 64 103 (u.1 64 103 + 1)
    have aw : ag (fun c i => ¬ wH c i) u w := by
      refine ag_wi (ag_wj (ag_wj (ag_wi (ag_wi (ag_r _ u) _ _ _ ?_) _ _ _ ?_) _ _ _ ?_) _ _ _ ?_) _ _ _ ?_ <;> (unfold wH; omega)
    have rd : ∀ c i, w.1 c i = if c = 64 ∧ i = 103 then u.1 64 103 + 1 else if c = 115 ∧ i = hp.1.length then 0 else if c = 64 ∧ i = 81 then ie ((hp.1.length + 1 : Nat) : Int) else u.1 c i := fun c i => rfl
    have rd2 : ∀ c i, w.2 c i = if c = 122 ∧ i = hp.1.length then je (b : Nat) else if c = 120 ∧ i = hp.1.length then je (e : Nat) else u.2 c i := fun c i => rfl
    have hw : hR Y w (hp.1 ++ [(1, (0, je (e : Nat)), (0, je (b : Nat)), .num 0, -1)], hp.2) := by
      refine hR_new hh hl ?_ (fun c i c1 c2 hi => ?_) ⟨fun k => (by cases k), fun _ => ⟨?_, ?_, ?_⟩, fun k => (by rcases k with k | k <;> cases k), fun k => (by rcases k with k | k <;> cases k)⟩ (ct_add hct ?_ ?_ ?_ ?_) ?_
      · rw [rd, if_neg (by omega), if_neg (by omega), if_pos (by omega)]
      · exact ⟨by rw [rd, if_neg (by omega), if_neg (by omega), if_neg (by omega)], by rw [rd2, if_neg (by omega), if_neg (by omega)]⟩
      · rw [rd, if_neg (by omega), if_pos (by omega)]; rfl
      · rw [rd2, if_neg (by omega), if_pos (by omega)]
      · rw [rd2, if_pos (by omega)]
      · rw [if_neg (show ¬ ((1 : Nat) = 0) by omega), Int32.add_zero]; rfl
      · rw [if_pos (show (1 : Nat) = 1 from rfl)]; rfl
      · rw [if_neg (show ¬ ((1 : Nat) = 2 ∨ (1 : Nat) = 3) by omega), Int32.add_zero]; rfl
      · rw [if_neg (show ¬ ((1 : Nat) = 4 ∨ (1 : Nat) = 5) by omega), Int32.add_zero]; rfl
      · rfl
    have h' := rr_ag h (ag_m aw (fun c i hc => by unfold wB at hc; unfold wH; omega)) hw ((aw 64 96 (by unfold wH; omega)).1.trans t3)
    obtain ⟨z, z1, z2⟩ := fin_oR g (3, je (hp.1.length : Nat)) h' hq hcon
    refine ⟨z, ?_, z2⟩
    have z1' : F_Md_finish 3 (je (hp.1.length : Nat)) g w = some z := z1
    unfold F_Md_workFunction
    rw [m1 hl, Option.bind_some]
    show (if (wi u 64 81 (ie ((hp.1.length + 1 : Nat) : Int))).1 64 96 = 0 then _ else _) = _
    rw [wi_ne _ _ _ _ _ _ (by omega), t3, if_pos (show ie 0 = (0 : Int32) from rfl), if_pos ok, if_pos ok, if_pos t12, if_pos ok, nt, t13, ie_je _ (by omega) (by omega), ie_je _ (by omega) (by omega), wi_ne _ _ _ _ _ _ (by omega), wi_ne _ _ _ _ _ _ (by omega), t6, ie_je _ (by omega) (by omega)]
    show (F_Md_finish 3 (je (hp.1.length : Nat)) g w).bind _ = _
    rw [z1']; rfl
  · obtain ⟨rfl, rfl⟩ := con_4 hcon
    have hl' : hp.1.length = 4000 := by have := hh.2.1; omega
    refine ⟨wi u 64 96 4, ?_, Or.inr ⟨by omega, by omega, rr_e 4 v (by omega) h⟩⟩
    unfold F_Md_workFunction
    rw [m2 hl', Option.bind_some]
    show (if (wi u 64 96 4).1 64 96 = 0 then _ else _) = _
    rw [wi_at, if_neg (by decide)]
theorem r_node1 {T : List Tok} {n : Nat} {D : List Df} {t : Tr} {c : CS} {Y : List Ty} {bx : Bool} {lim : Nat} {u0 : pm_J} {u : pm_J} {hp : Hp} {L : Lo} {lc : Nat} {F : List Fr} {v : Va} {st cc dp : Nat} {e b q j k r r' : Nat} {hd : List Va} {s' sf : Ms} (N : Nat) (g : pm_s) (hW : pW T D t) (hS : pS T D t) (H0 : rC T n D t c c.1 u0 Y) (h : rr0 u0 t Y bx lim u hp L lc ((some e, b, q, j, hd) :: F) st cc dp) (hb : q ≠ 0 → bkR u v) (h16 : ¬ ((t.2.1 e).1 = 3 ∨ (t.2.1 e).1 = 4 ∨ (t.2.1 e).1 = 16)) (hs : oNd D t c bx hp L lc e b q j hd F v st cc dp r' s') (hcon : (r' = 0 ∧ rch D t c bx lim k s' r sf) ∨ (r' ≠ 0 ∧ r = r' ∧ sf = s')) : gRf u0 D t c Y bx lim N g u (k + 1) r sf := by
  obtain ⟨t1, t2, t3, t4, t5, t6, t7', t8, t9, t10, t11, t12, t13, t14⟩ := top_R h
  have hq3 : q ≠ 3 := fun hq => by have := (t14 hq).2; omega
  have H := rC_ag H0 h.1
  have h18 := H.2.2.2.1.2
  have t7 : u.1 126 F.length = ie ((if q = 4 then 1000 else q : Nat) : Int) := by rw [t7', sCd_o (by omega)]
  clear t7'
  obtain ⟨c1, c2, c3, c4, c5, c6, _⟩ := H.2.2.2.2.2.2 e t10
  have oke := okn e 2400 (by omega) (by omega)
  have nte := ntn e (by omega)
  have go := go_nd N g t1 t2 t3 t4 t5 (by omega) c1
  have cd : ∀ q' b' j' hd', q' ≠ 4 → sCd t (some e, b', q', j', hd') = q' := fun q' b' j' hd' hq => by rw [sCd_o (by omega), if_neg hq]
  rcases hs with ⟨kd, _, hs⟩ | ⟨kd, _, l, y, hl, hL, hlc, hs⟩ | ⟨kd, _, hs⟩ | ⟨kd, _, hs⟩ | ⟨kd, _, hs⟩ | ⟨kd, _, hs⟩ | ⟨kd, _, hs⟩ | ⟨kd, _⟩ | ⟨kd, _⟩
  · -- NUMBERS, BITS
    obtain ⟨rfl, rfl⟩ := hs
    have hcon := con_0 hcon
    obtain ⟨l1, l2⟩ := lf_all hW hS t10 kd
    obtain ⟨⟨r1, r2, r3⟩, _⟩ := H.2.1.1
    obtain ⟨w, w1, w2⟩ := fin_oR g ((t.2.1 e).1, (t.2.1 e).2.2.2.2.2.1) h hq3 hcon
    have htk : ∃ tk, T[(t.2.1 e).2.1]? = some tk ∧ tk.1 = (t.2.1 e).1 + 2 ∧ tk.2.2.2 = (t.2.1 e).2.2.2.2.2.1 := by
      unfold tkK at l2; unfold tkV at l1
      cases hT : T[(t.2.1 e).2.1]? with
      | none => rw [hT] at l2; cases l2
      | some tk => rw [hT] at l1 l2; exact ⟨tk, rfl, l2, l1.symm⟩
    obtain ⟨tk, k1, k2, k3⟩ := htk
    have hlt := (List.getElem?_eq_some_iff.mp k1).1
    have h69 : u.2 69 (t.2.1 e).2.1 = (t.2.1 e).2.2.2.2.2.1 := by
      rw [(r3 _ _ k1).2.2.2, k2, k3]; unfold rV; rw [if_pos (by omega)]
    have okt := okn (t.2.1 e).2.1 902 (by omega) (by omega)
    have ntt := ntn (t.2.1 e).2.1 (by omega)
    refine ⟨w, fun f => ?_, w2⟩
    have hop : rop (t.2.1 e).1 = 12 ∨ rop (t.2.1 e).1 = 13 := by
      rcases (show (t.2.1 e).1 = 0 ∨ (t.2.1 e).1 = 1 by omega) with h0 | h0
      · rw [h0]; exact Or.inl rfl
      · rw [h0]; exact Or.inr rfl
    rw [(go f).2.2.2.2.2.2 hop]
    unfold K_Md_go_184 K_Md_go_201
    rw [if_pos oke, nte, c1, c2, if_pos okt, ntt, h69]
    rcases (show (t.2.1 e).1 = 0 ∨ (t.2.1 e).1 = 1 by omega) with h0 | h0
    · rw [h0] at w1
      have w1' : F_Md_finish 0 (t.2.1 e).2.2.2.2.2.1 g u = some w := w1
      rw [h0, if_pos (by decide), if_pos oke, w1']; rfl
    · rw [h0] at w1
      have w1' : F_Md_finish 1 (t.2.1 e).2.2.2.2.2.1 g u = some w := w1
      rw [h0, if_neg (by decide), if_pos oke, if_pos okt, w1']; rfl
  · -- locals
    obtain ⟨rfl, rfl⟩ := hs
    have hcon := con_0 hcon
    obtain ⟨_, _, hlo, _⟩ := id h
    have hlo60 := hlo.2.1
    obtain ⟨a1, a2⟩ := hlo.2.2 _ y hlc hL
    have hrl : rvl (t.2.1 e) = (l : Int) := by unfold rvl; rw [if_pos kd, hl]
    refine gRf_of (o := F_Md_workName N (ie (F.length : Nat)) (ie (e : Nat)) g u) (fun f => (go f).1 (by rw [kd]; rfl)) ?_
    obtain ⟨w, w1, w2⟩ := fin_oR g y h hq3 hcon
    refine ⟨w, ?_, w2⟩
    have ok2 := okn (b + l) 60000 (by omega) (by omega)
    unfold F_Md_workName
    rw [if_pos oke, nte, c6, hrl, if_neg (show ¬ (ie (l : Int) < (0 : Int32)) from fun hh => by have := (inlt l 0 (by omega) (by omega)).mp hh; omega), if_pos t12, if_pos oke, t13, t6, ie_bl, if_pos ok2, if_pos t12, if_pos oke, if_pos ok2, ntn _ (by omega), a1, a2, w1]; rfl
  · -- fns
    exact gRf_of (o := F_Md_workFunction (ie (F.length : Nat)) (ie (e : Nat)) g u) (fun f => (go f).2.2.1 (by rw [kd]; rfl)) (r_mkFn g h18 h hq3 hs hcon)
  · -- let
    refine gRf_of (o := F_Md_workChoice (ie (F.length : Nat)) (ie (e : Nat)) g u) (fun f => (go f).2.1 (by rw [kd]; exact Or.inl rfl)) ?_
    unfold F_Md_workChoice
    rw [if_pos t12, t13, t7]
    rcases hs with ⟨rfl, hs⟩ | ⟨rfl, l, hl, hlc, hs⟩ | ⟨rfl, hs⟩
    · obtain ⟨a, a1, a2, rfl, rfl⟩ := hs
      have hcon := con_0 hcon
      obtain ⟨z, z1, z2⟩ := pt_oR (w := wi u 126 F.length 1) g h (ag_wi (ag_r _ u) _ _ _ (by omega)) (by rw [wi_at, cd _ _ _ _ (by omega)]; rfl) t9 (by omega) (by omega) (by omega) hcon
      have hra : rva (t.2.1 e) = (a : Int) := by unfold rva; rw [if_neg (by omega)]; exact a1
      refine ⟨z, ?_, z2⟩
      rw [if_pos (by decide), if_pos t12, if_pos oke, if_pos t12, nte, c3, hra, t6, z1]; rfl
    · obtain ⟨a, a1, a2, rfl, rfl⟩ := hs
      have hcon := con_0 hcon
      obtain ⟨_, _, hlo, _⟩ := id h
      have hlo60 := hlo.2.1
      obtain ⟨b1, b2⟩ := hb (by omega)
      have hrl : rvl (t.2.1 e) = (l : Int) := by unfold rvl; rw [if_neg (by omega), if_pos (Or.inl kd), hl]
      have hrb : rvb (t.2.1 e) = (a : Int) := by unfold rvb; rw [if_neg (by omega)]; exact a1
      have ok2 := okn (b + l) 60000 (by omega) (by omega)
      have a3 : ag (fun c i => ¬ ((c = 64 ∧ i = 72) ∨ c = 113 ∨ c = 114)) u (wj (wi u 113 (b + l) (ie (v.1 : Nat))) 114 (b + l) v.2) := ag_wj (ag_wi (ag_r _ u) _ _ _ (by omega)) _ _ _ (by omega)
      have h' := rr_lo h a3 (loR_set hlo (b + l) v)
      have hcm : wj (wi (wi u 126 F.length 2) 113 (b + l) (ie (v.1 : Nat))) 114 (b + l) v.2 = wi (wj (wi u 113 (b + l) (ie (v.1 : Nat))) 114 (b + l) v.2) 126 F.length 2 := by
        unfold wi wj
        congr 1
        funext x y
        show (if x = 113 ∧ y = b + l then ie (v.1 : Nat) else if x = 126 ∧ y = F.length then 2 else u.1 x y) = (if x = 126 ∧ y = F.length then 2 else if x = 113 ∧ y = b + l then ie (v.1 : Nat) else u.1 x y)
        by_cases e1 : x = 113 ∧ y = b + l
        · rw [if_pos e1, if_neg (by omega), if_pos e1]
        · rw [if_neg e1, if_neg e1]
      obtain ⟨z, z1, z2⟩ := pt_oR (w := wi (wj (wi u 113 (b + l) (ie (v.1 : Nat))) 114 (b + l) v.2) 126 F.length 2) g h' (ag_wi (ag_r _ _) _ _ _ (by omega)) (by rw [wi_at, cd _ _ _ _ (by omega)]; rfl) t9 (fun _ h10 => by omega) (by omega) (by omega) hcon
      refine ⟨z, ?_, z2⟩
      rw [if_neg (by decide), if_pos t12, if_pos (by decide), if_pos t12, if_pos oke, nte, c1, kd, if_pos (by decide), if_pos t12, if_pos oke, t6, c6, hrl, ie_bl, if_pos ok2, if_pos t12, if_pos oke, if_pos ok2, if_pos oke, if_pos t12, ntn _ (by omega), c4, hrb, b1, b2, hcm, z1]; rfl
    · obtain ⟨rfl, rfl⟩ := hs
      have hcon := con_0 hcon
      obtain ⟨b1, b2⟩ := hb (by omega)
      obtain ⟨w, w1, w2⟩ := fin_oR g v h hq3 hcon
      refine ⟨w, ?_, w2⟩
      rw [if_neg (by decide), if_pos t12, if_neg (by decide), b1, b2, w1]; rfl
  · -- if
    refine gRf_of (o := F_Md_workChoice (ie (F.length : Nat)) (ie (e : Nat)) g u) (fun f => (go f).2.1 (by rw [kd]; exact Or.inr rfl)) ?_
    unfold F_Md_workChoice
    rw [if_pos t12, t13, t7]
    rcases hs with ⟨rfl, hs⟩ | ⟨rfl, hs⟩ | ⟨rfl, hs⟩
    · obtain ⟨a, a1, a2, rfl, rfl⟩ := hs
      have hcon := con_0 hcon
      obtain ⟨z, z1, z2⟩ := pt_oR (w := wi u 126 F.length 1) g h (ag_wi (ag_r _ u) _ _ _ (by omega)) (by rw [wi_at, cd _ _ _ _ (by omega)]; rfl) t9 (by omega) (by omega) (by omega) hcon
      have hra : rva (t.2.1 e) = (a : Int) := by unfold rva; rw [if_neg (by omega)]; exact a1
      refine ⟨z, ?_, z2⟩
      rw [if_pos (by decide), if_pos t12, if_pos oke, if_pos t12, nte, c3, hra, t6, z1]; rfl
    · obtain ⟨a, a1, a2, rfl, rfl⟩ := hs
      have hcon := con_0 hcon
      obtain ⟨b1, b2⟩ := hb (by omega)
      obtain ⟨z, z1, z2⟩ := pt_oR (w := wi u 126 F.length 2) g h (ag_wi (ag_r _ u) _ _ _ (by omega)) (by rw [wi_at, cd _ _ _ _ (by omega)]; rfl) t9 (fun _ h10 => by omega) (by omega) (by omega) hcon
      refine ⟨z, ?_, z2⟩
      rw [if_neg (by decide), if_pos t12, if_pos (by decide), if_pos t12, if_pos oke, nte, c1, kd, if_neg (by decide), b2]
      by_cases ev : v.2 = 0
      · rw [if_pos ev] at a1
        have hrc : rvc (t.2.1 e) = (a : Int) := by unfold rvc; rw [if_pos kd]; exact a1
        rw [if_pos ((lg_eq0 _ _).mpr ev), if_pos oke, if_pos t12, c5, hrc, t6, z1]; rfl
      · rw [if_neg ev] at a1
        have hrb : rvb (t.2.1 e) = (a : Int) := by unfold rvb; rw [if_neg (by omega)]; exact a1
        rw [if_neg (fun hh => ev ((lg_eq0 _ _).mp hh)), if_pos oke, if_pos t12, c4, hrb, t6, z1]; rfl
    · obtain ⟨rfl, rfl⟩ := hs
      have hcon := con_0 hcon
      obtain ⟨b1, b2⟩ := hb (by omega)
      obtain ⟨w, w1, w2⟩ := fin_oR g v h hq3 hcon
      refine ⟨w, ?_, w2⟩
      rw [if_neg (by decide), if_pos t12, if_neg (by decide), b1, b2, w1]; rfl
  · -- fst, snd
    refine gRf_of (o := F_Md_workHalf (ie (F.length : Nat)) (ie (e : Nat)) g u) (fun f => (go f).2.2.2.1 (by rcases kd with kd | kd <;> rw [kd]; exact Or.inl rfl; exact Or.inr rfl)) ?_
    unfold F_Md_workHalf
    rw [if_pos t12, t13, t7]
    rcases hs with ⟨rfl, hs⟩ | ⟨rfl, i, it, i1, i2, i3, hs⟩
    · obtain ⟨a, a1, a2, rfl, rfl⟩ := hs
      have hcon := con_0 hcon
      obtain ⟨z, z1, z2⟩ := pt_oR (w := wi u 126 F.length 1) g h (ag_wi (ag_r _ u) _ _ _ (by omega)) (by rw [wi_at, cd _ _ _ _ (by omega)]; rfl) t9 (by omega) (by omega) (by omega) hcon
      have hra : rva (t.2.1 e) = (a : Int) := by unfold rva; rw [if_neg (by omega)]; exact a1
      refine ⟨z, ?_, z2⟩
      rw [if_pos (by decide), if_pos t12, if_pos oke, if_pos t12, nte, c3, hra, t6, z1]; rfl
    · obtain ⟨rfl, rfl⟩ := hs
      have hcon := con_0 hcon
      obtain ⟨b1, b2⟩ := hb (by omega)
      obtain ⟨_, hh, _⟩ := id h
      have hi := (List.getElem?_eq_some_iff.mp i2).1
      have hle := hh.2.1
      obtain ⟨d1, d2, d3, d4⟩ := (hh.2.2.1 i it i2).1 i3
      have oki := okn i 4000 (by omega) (by omega)
      obtain ⟨w, w1, w2⟩ := fin_oR g _ h hq3 hcon
      refine ⟨w, ?_, w2⟩
      rw [if_neg (by decide), if_pos oke, nte, c1, b2, i1, je_i32 i (by omega)]
      rcases kd with kd | kd
      · rw [if_pos kd] at w1
        rw [kd, if_pos (by decide), if_pos oki, if_pos oki, ntn i (by omega), d1, d2, w1]; rfl
      · rw [if_neg (by omega)] at w1
        rw [kd, if_neg (by decide), if_pos oki, if_pos oki, ntn i (by omega), d3, d4, w1]; rfl
  · -- + - < and pairs
    have hop : rop (t.2.1 e).1 = 23 ∨ rop (t.2.1 e).1 = 24 ∨ rop (t.2.1 e).1 = 25 ∨ rop (t.2.1 e).1 = 32 := by
      rcases (show (t.2.1 e).1 = 10 ∨ (t.2.1 e).1 = 11 ∨ (t.2.1 e).1 = 12 ∨ (t.2.1 e).1 = 13 by omega) with kd | kd | kd | kd <;> rw [kd]
      · exact Or.inl rfl
      · exact Or.inr (Or.inl rfl)
      · exact Or.inr (Or.inr (Or.inl rfl))
      · exact Or.inr (Or.inr (Or.inr rfl))
    refine gRf_of (o := F_Md_workTwo N (ie (F.length : Nat)) (ie (e : Nat)) g u) (fun f => (go f).2.2.2.2.2.1 hop) ?_
    unfold F_Md_workTwo
    rw [if_pos t12, t13, t7]
    rcases hs with ⟨rfl, hs⟩ | ⟨rfl, rfl, hs⟩ | ⟨rfl, A, rfl, hs⟩
    · obtain ⟨a, a1, a2, rfl, rfl⟩ := hs
      have hcon := con_0 hcon
      obtain ⟨z, z1, z2⟩ := pt_oR (w := wi u 126 F.length 1) g h (ag_wi (ag_r _ u) _ _ _ (by omega)) (by rw [wi_at, cd _ _ _ _ (by omega)]; rfl) t9 (by omega) (by omega) (by omega) hcon
      have hra : rva (t.2.1 e) = (a : Int) := by unfold rva; rw [if_neg (by omega)]; exact a1
      refine ⟨z, ?_, z2⟩
      rw [if_neg (by decide), if_pos t12, if_neg (by decide)]
      unfold K_Md_workTwo_40
      have e01 : ie (((if 0 = 4 then 1000 else 0 : Nat)) : Int) + 1 = 1 := rfl
      rw [if_pos t12, if_pos t12, if_pos t12, t13, wi_at, t7, e01, if_pos rfl, if_pos oke, if_pos t12, nte, c3, hra, t6, z1]; rfl
    · obtain ⟨a, a1, a2, rfl, rfl⟩ := hs
      have hcon := con_0 hcon
      obtain ⟨b1, b2⟩ := hb (by omega)
      have hrb : rvb (t.2.1 e) = (a : Int) := by unfold rvb; rw [if_neg (by omega)]; exact a1
      have a3 : ag (fun c i => ¬ (126 ≤ c ∧ c ≤ 128 ∧ i = F.length)) u (wi (wj (wi u 127 F.length (ie (v.1 : Nat))) 128 F.length v.2) 126 F.length 2) := ag_wi (ag_wj (ag_wi (ag_r _ u) _ _ _ (by omega)) _ _ _ (by omega)) _ _ _ (by omega)
      obtain ⟨z, z1, z2⟩ := pt_oR (w := wi (wj (wi u 127 F.length (ie (v.1 : Nat))) 128 F.length v.2) 126 F.length 2) g h a3 (by rw [wi_at, cd _ _ _ _ (by omega)]; rfl) t9 (fun _ _ x hx => by cases hx; exact ⟨by rw [wi_ne _ _ _ _ _ _ (by omega), wj_1, wi_at], by rw [wi_2, wj_at]⟩) (by omega) (by omega) hcon
      refine ⟨z, ?_, z2⟩
      rw [if_neg (by decide), if_pos t12, if_pos (by decide), if_pos t12, if_pos t12, b1, b2]
      unfold K_Md_workTwo_40
      have e12 : ie (((if 1 = 4 then 1000 else 1 : Nat)) : Int) + 1 = 2 := rfl
      have r126 : (wj (wi u 127 F.length (ie (v.1 : Nat))) 128 F.length v.2).1 126 F.length = ie (((if 1 = 4 then 1000 else 1 : Nat)) : Int) := by rw [wj_1, wi_ne _ _ _ _ _ _ (by omega)]; exact t7
      have r80 : (wj (wi u 127 F.length (ie (v.1 : Nat))) 128 F.length v.2).1 80 e = ie (a : Int) := by rw [wj_1, wi_ne _ _ _ _ _ _ (by omega), c4, hrb]
      have r125 : (wj (wi u 127 F.length (ie (v.1 : Nat))) 128 F.length v.2).1 125 F.length = ie (b : Nat) := by rw [wj_1, wi_ne _ _ _ _ _ _ (by omega)]; exact t6
      rw [if_pos t12, if_pos t12, if_pos t12, t13, wi_at, r126, e12, if_neg (by decide), if_pos oke, if_pos t12, nte, r80, r125, z1]; rfl
    · obtain ⟨b1, b2⟩ := hb (by omega)
      obtain ⟨a1, a2⟩ := t11 rfl (by omega) A rfl
      rw [if_pos (by decide), if_pos t12, if_pos oke, nte, c1]
      rcases hs with ⟨kd', hs⟩ | ⟨kd', hs⟩ | ⟨kd', hs⟩ | ⟨kd', hs⟩
      · obtain ⟨rfl, rfl⟩ := hs
        obtain ⟨w, w1, w2⟩ := fin_oR g _ h hq3 (con_0 hcon)
        refine ⟨w, ?_, w2⟩
        have w1' : F_Md_finish 0 (A.2 + v.2) g u = some w := w1
        rw [kd', if_neg (by decide), if_pos oke, if_pos (by decide), a2, b2, w1']; rfl
      · obtain ⟨rfl, rfl⟩ := hs
        obtain ⟨w, w1, w2⟩ := fin_oR g _ h hq3 (con_0 hcon)
        refine ⟨w, ?_, w2⟩
        have w1' : F_Md_finish 0 (A.2 - v.2) g u = some w := w1
        rw [kd', if_neg (by decide), if_pos oke, if_neg (by decide), if_pos oke, if_pos (by decide), a2, b2, w1']; rfl
      · obtain ⟨rfl, rfl⟩ := hs
        obtain ⟨w, w1, w2⟩ := fin_oR g _ h hq3 (con_0 hcon)
        refine ⟨w, ?_, w2⟩
        rw [kd', if_neg (by decide), if_pos oke, if_neg (by decide), if_pos oke, if_neg (by decide), a2, b2]
        by_cases ev : A.2 < v.2
        · rw [if_pos ev] at w1
          have w1' : F_Md_finish 0 1 g u = some w := w1
          rw [if_neg (fun hh => (lg_ge0 _ _).mp hh ev), w1']; rfl
        · rw [if_neg ev] at w1
          have w1' : F_Md_finish 0 0 g u = some w := w1
          rw [if_pos ((lg_ge0 _ _).mpr ev), w1']; rfl
      · obtain ⟨_, hh, _⟩ := id h
        obtain ⟨m1, m2⟩ := r_makePair g A v hh t3
        rw [kd', if_pos (by decide), if_pos t12, a1, a2, b1, b2]
        rcases hs with ⟨hl, rfl, rfl⟩ | ⟨hl, rfl, rfl⟩
        · obtain ⟨w, w1, w2, w3, w4, w5⟩ := m1 hl
          have h96 := (w5 64 96 (by unfold wH; omega)).1.trans t3
          have h' := rr_ag h (ag_m w5 (fun c i hc => by unfold wB at hc; unfold wH; omega)) w2 h96
          obtain ⟨z, z1, z2⟩ := fin_oR g (2, je (hp.1.length : Nat)) h' hq3 (con_0 hcon)
          refine ⟨z, ?_, z2⟩
          have z1' : F_Md_finish (ie ((2 : Nat) : Int)) (je (hp.1.length : Nat)) g w = some z := z1
          rw [w1, Option.bind_some, h96, if_pos (show ie 0 = (0 : Int32) from rfl), w3, w4, z1']; rfl
        · obtain ⟨w, w1, w2, w3, w4⟩ := m2 hl
          obtain ⟨rfl, rfl⟩ := con_4 hcon
          refine ⟨w, ?_, Or.inr ⟨by omega, by omega, ?_⟩⟩
          · rw [w1, Option.bind_some, w3, if_neg (by decide)]
          · obtain ⟨g1, _, _, _, _, _, g7⟩ := h
            exact ⟨ag_t g1 (ag_m w4 (fun c i hc => by unfold wZ at hc; omega)), w2, (w4 _ _ (by omega)).1.trans g7.1, (w4 _ _ (by omega)).1.trans g7.2.1, (w4 _ _ (by omega)).1.trans g7.2.2.1, w3, fun hh => by cases hh⟩
  · exfalso; omega
  · exfalso; omega
