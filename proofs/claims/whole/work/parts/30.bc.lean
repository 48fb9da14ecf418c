set_option maxRecDepth 100000
theorem hwR_n (b : Bool) (site : Int) (h : -1 ≤ site) (g : pm_s) (u : pm_J) : F_Md_otherWay (ie (hwR b site : Nat)) g u = some (ie (hwR (!b) site : Nat)) := by
  unfold F_Md_otherWay hwR
  by_cases e : site = -1
  · rw [if_pos e, if_pos e]; cases b <;> rfl
  · rw [if_neg e, if_neg e]; cases b <;> rfl
theorem aOK_s {t : Tr} {c : CS} {site : Int} {s : Ty} (h : aOK t c site s) : -1 ≤ site := by
  rcases h.2 with ⟨h1, _⟩ | ⟨e, h1, _⟩ <;> omega
theorem aOK_p {t : Tr} {c : CS} {site : Int} {A B : Ty} (h : aOK t c site (.mul A B)) : aOK t c site A ∧ aOK t c site B := by
  obtain ⟨g, h⟩ := h
  have hL : tyL (.mul A B) = tyL A + tyL B := rfl
  refine ⟨⟨g.1, ?_⟩, ⟨g.2, ?_⟩⟩
  · rcases h with ⟨h1, h2⟩ | ⟨e, h1, h2, h3, h4, r, h5⟩
    · exact Or.inl ⟨h1, by omega⟩
    · refine Or.inr ⟨e, h1, h2, by omega, h4, ?_⟩
      unfold sbt at h5
      cases ha : sbt (c.2.2.1 e) A with
      | none => rw [ha] at h5; cases h5
      | some r => exact ⟨r, rfl⟩
  · rcases h with ⟨h1, h2⟩ | ⟨e, h1, h2, h3, h4, r, h5⟩
    · exact Or.inl ⟨h1, by omega⟩
    · refine Or.inr ⟨e, h1, h2, by omega, h4, ?_⟩
      unfold sbt at h5
      cases ha : sbt (c.2.2.1 e) A with
      | none => rw [ha] at h5; cases h5
      | some r =>
        rw [ha] at h5
        cases hb : sbt (c.2.2.1 e) B with
        | none => rw [hb] at h5; cases h5
        | some r => exact ⟨r, rfl⟩
theorem go_cv {u : pm_J} {k : Nat} (N : Nat) (g : pm_s) (h88 : u.1 64 88 = ie ((k + 1 : Nat) : Int)) (hk : k + 1 ≤ 150) (h96 : u.1 64 96 = ie 0) (h123 : u.1 123 k = ie 1) (f : Nat) : K_Md_go_0 N g (f + 1) u = (F_Md_workCover N (ie (k : Nat)) g u).bind fun q => K_Md_go_0 N g f q := by
  have c1 : ¬ (ie ((k + 1 : Nat) : Int) ≤ (0 : Int32)) := fun hh => by have := (inle (k + 1) 0 (by omega) (by omega)).mp hh; omega
  have ok := okn k 150 (by omega) (by omega)
  have nt := ntn k (by omega)
  rw [K_Md_go_0, h88, if_neg c1, h96, if_pos (show ie 0 = (0 : Int32) from rfl), isub1, if_pos ok, if_pos ok, nt, h123, if_neg (show ¬ (ie 1 = (0 : Int32)) by decide)]
theorem r_cov1 {T : List Tok} {n : Nat} {D : List Df} {t : Tr} {c : CS} {Y : List Ty} {bx : Bool} {lim : Nat} {u0 : pm_J} {u : pm_J} {hp : Hp} {L : Lo} {lc : Nat} {F : List Fr} {v : Va} {st cc dp : Nat} {f : Va} {k r : Nat} {sf : Ms} (N : Nat) (hN : 200000 ≤ N) (g : pm_s) (hW : pW T D t) (H0 : rC T n D t c c.1 u0 Y) (h : rr0 u0 t Y bx lim u hp L lc ((none, 0, 0, 0, [f]) :: F) st cc dp) (h127 : u.1 127 F.length = ie (v.1 : Nat)) (h128 : u.2 128 F.length = v.2) (hr : rch D t c bx lim (k + 1) (hp, L, lc, (none, 0, 0, 0, [f]) :: F, v, st, cc, dp, (3, 0, 0, f)) r sf) : gRf u0 D t c Y bx lim N g u (k + 1) r sf := by
  obtain ⟨h1, h2, h3, ⟨⟨f1, f2, f3, f4, f5, i, f', f6, f7, f8, f9⟩, h4⟩, h5, ⟨h6, h6'⟩, h7⟩ := id h
  have h6' : F.length + 1 ≤ 150 := h6'
  have h6 : u.1 64 88 = ie ((F.length + 1 : Nat) : Int) := h6
  have hff : f' = f := by cases f6; rfl
  subst hff
  have H := rC_ag H0 h1
  have hy := H.2.2.2.2.1
  have ok := okn F.length 150 (by omega) (by omega)
  have nt := ntn F.length (by omega)
  have h96 := h7.2.2.2.2.2.1
  refine gRf_of (o := F_Md_workCover N (ie (F.length : Nat)) g u) (fun f => go_cv N g h6 h6' h96 f5 f) ?_
  obtain ⟨r', s', hs0, hcon⟩ := hr
  have hs : stp D t c bx lim hp L lc ((none, 0, 0, 0, [f']) :: F) v st cc dp (3, 0, 0, f') r' s' := hs0
  clear hs0
  rcases hs with ⟨_, _, hm, _⟩ | ⟨_, hm, _⟩ | ⟨f2', F', it, x, hm, hF, hcv, hs⟩ | ⟨hm, _⟩ | ⟨_, _, _, _, hm, _⟩ | ⟨_, _, _, _, _, _, hm, _⟩
  · cases hm
  · cases hm
  · cases hm
    cases hF
    obtain ⟨i', A, B, e1, e2, e3, e4, e5, e6⟩ := hcv
    rw [if_pos rfl, if_pos rfl] at e6
    have hil := (List.getElem?_eq_some_iff.mp e2).1
    have hle := h2.2.1
    have hii : i' = i := je_i (e1.symm.trans f7) (by omega) f8
    subst hii
    obtain ⟨q1, q2, ⟨ky, q3, q4, q5⟩, q6, q7, q8⟩ := (h2.2.2.1 i' it e2).2.2.2 e3
    rw [e4] at q5
    obtain ⟨_, _, _, l, rr, l1, l2, l3, l4⟩ := ty_two hy true (A := A) (B := B) q5
    have okk := okn ky 100000 q4 (by omega)
    have oki := okn i' 4000 f8 (by omega)
    let w0 : pm_J := wj (wi (wi u 126 F.length 1) 64 108 (ie (v.1 : Nat))) 64 109 v.2
    have a0 : ag (fun c i => ¬ ((c = 126 ∧ i = F.length) ∨ (c = 64 ∧ (i = 108 ∨ i = 109)))) u w0 := ag_wj (ag_wi (ag_wi (ag_r _ u) _ _ _ (by omega)) _ _ _ (by omega)) _ _ _ (by omega)
    have a1 : ag (fun c i => ¬ (123 ≤ c ∧ c ≤ 128 ∧ i = F.length)) u (wi u 126 F.length 1) := ag_wi (ag_r _ u) _ _ _ (by omega)
    have a2 : ag (fun c i => ¬ (c = 64 ∧ (i = 108 ∨ i = 109))) (wi u 126 F.length 1) w0 := ag_wj (ag_wi (ag_r _ _) _ _ _ (by omega)) _ _ _ (by omega)
    have hr0 : rr0 u0 t Y bx lim w0 hp L lc ((none, 0, 1, 0, [f']) :: F) st cc dp := by
      refine rr_nw (rr_fr h a1 ⟨?_, by show 0 ≤ 60000; omega, by show 0 ≤ 8; omega, (fun hh => by cases hh), ?_, i', f', rfl, e1, f8, ?_⟩ ?_) a2
      · rw [wi_at]; rfl
      · rw [wi_ne _ _ _ _ _ _ (by omega)]; exact f5
      · rw [wi_ne _ _ _ _ _ _ (by omega)]; exact f9
      · rw [aS_n F (show (1 : Nat) ≠ 3 by omega), aS_n F (show (0 : Nat) ≠ 3 by omega)]
    have Hw := rC_ag H0 hr0.1
    have hbq : (!(Nat.beq it.1 4)) = Nat.beq it.1 5 := by rcases e3 with e | e <;> rw [e] <;> rfl
    obtain ⟨w, w1, w2, w3, w4, w5⟩ := r_convert (x := x.1) (h' := x.2) N hN g (Nat.beq it.1 5) v Hw l1 hr0.2.1 ((a0 _ _ (by omega)).1.trans h96) (show w0.1 64 108 = _ from rfl) (show w0.2 64 109 = _ from rfl) (aOK_p e5).1 e6
    have hwc : F_Md_workCover N (ie (F.length : Nat)) g u = if (w.1 64 96) = 0 then (F_Md_callFunction N ((w.2 120 i').toInt32) g w).bind fun q22 => some q22 else some w := by
      unfold F_Md_workCover
      have how := hwR_n (Nat.beq it.1 4) it.2.2.2.2 (aOK_s e5) g w0
      rw [hbq] at how
      rw [if_pos ok, if_pos ok, nt, show u.1 126 F.length = ie 0 from f1, if_pos (by decide), if_pos ok, if_pos ok, if_pos ok, f9, if_pos oki, ntn i' (by omega), h127, h128, q2, q3, q6, ntn ky (by omega), l3]
      show (F_Md_otherWay (ie (hwR (Nat.beq it.1 4) it.2.2.2.2 : Nat)) g w0).bind _ = _
      rw [how, Option.bind_some, if_pos oki, if_pos okk, if_pos oki]
      show (F_Md_convert N (ie (hwR (Nat.beq it.1 5) it.2.2.2.2 : Nat)) (ie (l : Nat)) (ie it.2.2.2.2) g w0).bind _ = _
      rw [w1, Option.bind_some, if_pos oki]
    rw [hwc]
    rcases hs with ⟨y, hy', rfl, rfl⟩ | ⟨hy', rfl, rfl⟩
    · have hcon := con_0 hcon
      obtain ⟨z1, z2, z3⟩ := w4 y hy'
      have hw := rr_ag hr0 w3 w2 z1
      obtain ⟨Z, hZ⟩ := adp_grow e6
      have hit' : x.2.1[i']? = some it := by rw [hZ, List.getElem?_append_left hil]; exact e2
      obtain ⟨_, _, _, _, _, p8⟩ := (w2.2.2.1 i' it hit').2.2.2 e3
      obtain ⟨z, y1, y2⟩ := r_callFn N hN g hW H0 hw ⟨z2, z3⟩ hcon
      refine ⟨z, ?_, oR_m y2 (by omega)⟩
      rw [z1, if_pos (show ie 0 = (0 : Int32) from rfl), p8, y1]; rfl
    · obtain ⟨rfl, rfl⟩ := con_4 hcon
      have h4 := w5 hy'
      refine ⟨w, ?_, Or.inr ⟨by omega, by omega, rr_b4 v hr0 w3 w2 h4⟩⟩
      rw [h4, if_neg (by decide)]
  · cases hm
  · cases hm
  · cases hm
theorem r_cov2 {T : List Tok} {n : Nat} {D : List Df} {t : Tr} {c : CS} {Y : List Ty} {bx : Bool} {lim : Nat} {u0 : pm_J} {u : pm_J} {hp : Hp} {L : Lo} {lc : Nat} {F : List Fr} {v : Va} {st cc dp : Nat} {f : Va} {k r : Nat} {sf : Ms} (N : Nat) (hN : 200000 ≤ N) (g : pm_s) (H0 : rC T n D t c c.1 u0 Y) (h : rr0 u0 t Y bx lim u hp L lc ((none, 0, 1, 0, [f]) :: F) st cc dp) (hb : bkR u v) (hr : rch D t c bx lim (k + 1) (hp, L, lc, (none, 0, 1, 0, [f]) :: F, v, st, cc, dp, rM) r sf) : gRf u0 D t c Y bx lim N g u (k + 1) r sf := by
  obtain ⟨h1, h2, h3, ⟨⟨f1, f2, f3, f4, f5, i, f', f6, f7, f8, f9⟩, h4⟩, h5, ⟨h6, h6'⟩, h7⟩ := id h
  have h6' : F.length + 1 ≤ 150 := h6'
  have h6 : u.1 64 88 = ie ((F.length + 1 : Nat) : Int) := h6
  have hff : f' = f := by cases f6; rfl
  subst hff
  have H := rC_ag H0 h1
  have hy := H.2.2.2.2.1
  have ok := okn F.length 150 (by omega) (by omega)
  have nt := ntn F.length (by omega)
  have h96 := h7.2.2.2.2.2.1
  refine gRf_of (o := F_Md_workCover N (ie (F.length : Nat)) g u) (fun f => go_cv N g h6 h6' h96 f5 f) ?_
  obtain ⟨r', s', hs0, hcon⟩ := hr
  have hs : stp D t c bx lim hp L lc ((none, 0, 1, 0, [f']) :: F) v st cc dp rM r' s' := hs0
  clear hs0
  rcases hs with ⟨_, _, hm, _⟩ | ⟨_, hm, _⟩ | ⟨_, _, _, _, hm, _⟩ | ⟨_, hF, _⟩ | ⟨f2', F', it, x, _, hF, hcv, hs⟩ | ⟨_, _, _, _, _, _, _, hF, _⟩
  · cases hm
  · cases hm
  · cases hm
  · cases hF
  · cases hF
    obtain ⟨i', A, B, e1, e2, e3, e4, e5, e6⟩ := hcv
    rw [if_neg (by decide), if_neg (by decide)] at e6
    have hil := (List.getElem?_eq_some_iff.mp e2).1
    have hle := h2.2.1
    have hii : i' = i := je_i (e1.symm.trans f7) (by omega) f8
    subst hii
    obtain ⟨q1, q2, ⟨ky, q3, q4, q5⟩, q6, q7, q8⟩ := (h2.2.2.1 i' it e2).2.2.2 e3
    rw [e4] at q5
    obtain ⟨_, _, _, l, rr, l1, l2, l3, l4⟩ := ty_two hy true (A := A) (B := B) q5
    have okk := okn ky 100000 q4 (by omega)
    have oki := okn i' 4000 f8 (by omega)
    have an := nowB_ag u
    have hr0 := rr_nw h an
    have hn := nowB_n hb
    obtain ⟨w, w1, w2, w3, w4, w5⟩ := r_convert (x := x.1) (h' := x.2) N hN g (Nat.beq it.1 4) v (rC_ag H0 hr0.1) l2 hr0.2.1 ((an _ _ (by omega)).1.trans h96) hn.1 hn.2 (aOK_p e5).2 e6
    have hwc : F_Md_workCover N (ie (F.length : Nat)) g u = if (w.1 64 96) = 0 then (F_Md_finish (w.1 64 108) (w.2 64 109) g w).bind fun q10 => some q10 else some w := by
      unfold F_Md_workCover
      rw [if_pos ok, if_pos ok, nt, show u.1 126 F.length = ie 1 from f1, if_neg (by decide), f9, if_pos oki, if_pos oki, ntn i' (by omega), q3, if_pos okk, if_pos oki, ntn ky (by omega), q2, q6, l4]
      show (F_Md_convert N (ie (hwR (Nat.beq it.1 4) it.2.2.2.2 : Nat)) (ie (rr : Nat)) (ie it.2.2.2.2) g (nowB u)).bind _ = _
      rw [w1, Option.bind_some]
    rw [hwc]
    rcases hs with ⟨y, hy', rfl, rfl⟩ | ⟨hy', rfl, rfl⟩
    · have hcon := con_0 hcon
      obtain ⟨z1, z2, z3⟩ := w4 y hy'
      have hw := rr_ag hr0 w3 w2 z1
      obtain ⟨z, y1, y2⟩ := fin_oR g y hw (by show (1 : Nat) ≠ 3; omega) hcon
      refine ⟨z, ?_, y2⟩
      rw [z1, if_pos (show ie 0 = (0 : Int32) from rfl), z2, z3, y1]; rfl
    · obtain ⟨rfl, rfl⟩ := con_4 hcon
      have h4 := w5 hy'
      refine ⟨w, ?_, Or.inr ⟨by omega, by omega, rr_b4 v hr0 w3 w2 h4⟩⟩
      rw [h4, if_neg (by decide)]
  · cases hF
theorem r_nodeA {T : List Tok} {n : Nat} {D : List Df} {t : Tr} {c : CS} {Y : List Ty} {bx : Bool} {lim : Nat} {u0 : pm_J} {u : pm_J} {hp : Hp} {L : Lo} {lc : Nat} {F : List Fr} {v : Va} {st cc dp : Nat} {e b q j k r : Nat} {hd : List Va} {sf : Ms} (N : Nat) (hN : 200000 ≤ N) (g : pm_s) (hW : pW T D t) (hS : pS T D t) (hI : kI0 D t t.1 c) (H0 : rC T n D t c c.1 u0 Y) (h : rr0 u0 t Y bx lim u hp L lc ((some e, b, q, j, hd) :: F) st cc dp) (hb : q ≠ 0 → bkR u v) (hr : rch D t c bx lim (k + 1) (hp, L, lc, (some e, b, q, j, hd) :: F, v, st, cc, dp, rM) r sf) : gRf u0 D t c Y bx lim N g u (k + 1) r sf := by
  by_cases h16 : (t.2.1 e).1 = 16
  · exact r_node2 N hN g hW hI H0 h hb h16 hr
  · obtain ⟨r', s', hs0, hcon⟩ := hr
    have hs : stp D t c bx lim hp L lc ((some e, b, q, j, hd) :: F) v st cc dp rM r' s' := hs0
    clear hs0
    rcases hs with ⟨_, _, hm, _⟩ | ⟨_, hm, _⟩ | ⟨_, _, _, _, hm, _⟩ | ⟨_, hF, _⟩ | ⟨_, _, _, _, _, hF, _⟩ | ⟨e2, b2', q2, j2, hd2, F2, _, hF, _, hs2⟩
    · cases hm
    · cases hm
    · cases hm
    · cases hF
    · cases hF
    · cases hF
      by_cases h3 : (t.2.1 e).1 = 3 ∨ (t.2.1 e).1 = 4
      · exact r_node3 N hN g hW H0 h hb h3 hs2 hcon
      · exact r_node1 N g hW hS H0 h hb (by omega) hs2 hcon
theorem r_go {T : List Tok} {n : Nat} {D : List Df} {t : Tr} {c : CS} {Y : List Ty} {bx : Bool} {lim : Nat} {u0 : pm_J} {r : Nat} {sf : Ms} (N : Nat) (hN : 200000 ≤ N) (g : pm_s) (hW : pW T D t) (hS : pS T D t) (hI : kI0 D t t.1 c) (H0 : rC T n D t c c.1 u0 Y) (k : Nat) : ∀ (k' : Nat) (s : Ms) (u : pm_J) (f : Nat), k' ≤ k → rch D t c bx lim k' s r sf → rrH u0 t Y bx lim u s → k + 1 ≤ f → ∃ w, K_Md_go_0 N g f u = some w ∧ finR u0 Y w r sf.1 sf.2.2.2.2.1 sf.2.2.2.2.2.1 sf.2.2.2.2.2.2.1 sf.2.2.2.2.2.2.2.1 := by
  induction k with
  | zero =>
    intro k' s u f hk h
    have : k' = 0 := by omega
    subst this; exact h.elim
  | succ k ih =>
    intro k' s u f hk h hM hf
    cases k' with
    | zero => exact h.elim
    | succ k' =>
    obtain ⟨f, rfl⟩ : ∃ f', f = f' + 1 := ⟨f - 1, by omega⟩
    have fin : gRf u0 D t c Y bx lim N g u (k' + 1) r sf → ∃ w, K_Md_go_0 N g (f + 1) u = some w ∧ finR u0 Y w r sf.1 sf.2.2.2.2.1 sf.2.2.2.2.2.1 sf.2.2.2.2.2.2.1 sf.2.2.2.2.2.2.2.1 := by
      rintro ⟨w, w1, w2⟩
      rcases w2 with ⟨k2, s2, a1, a2, a3⟩ | ⟨a1, a2, a3⟩
      · obtain ⟨z, z1, z2⟩ := ih k2 s2 w f (by omega) a2 a3 (by omega)
        exact ⟨z, (w1 f).trans z1, z2⟩
      · refine ⟨w, (w1 f).trans ?_, a3⟩
        obtain ⟨f, rfl⟩ : ∃ f', f = f' + 1 := ⟨f - 1, by omega⟩
        have h96 := a3.2.2.2.2.2.1
        rw [if_neg (by omega)] at h96
        rw [K_Md_go_0]
        by_cases e : w.1 64 88 ≤ 0
        · rw [if_pos e]
        · rw [if_neg e, h96, if_neg (show ¬ (ie (r : Nat) = (0 : Int32)) from fun hh => by have := (ineq r 0 (by omega) (by omega)).mp hh; omega)]
    obtain ⟨hp, L, lc, F, v, st, cc, dp, m⟩ := s
    have hR0 : rr0 u0 t Y bx lim u hp L lc F st cc dp := hM.1
    have hM2 : (m = rM ∧ (bkR u v ∨ ∃ e b j hd F', F = (some e, b, 0, j, hd) :: F')) ∨ (∃ f F', m = (3, 0, 0, f) ∧ F = (none, 0, 0, 0, [f]) :: F' ∧ u.1 127 F'.length = ie (v.1 : Nat) ∧ u.2 128 F'.length = v.2) := hM.2
    clear hM
    rcases hM2 with ⟨rfl, hb⟩ | ⟨f', F', rfl, rfl, h127, h128⟩
    · cases F with
      | nil =>
        have hb : bkR u v := by
          rcases hb with hb | ⟨_, _, _, _, _, hb⟩
          · exact hb
          · cases hb
        obtain ⟨r', s', hs0, hcon⟩ := h
        have hs : stp D t c bx lim hp L lc [] v st cc dp rM r' s' := hs0
        clear hs0
        rcases hs with ⟨_, _, hm, _⟩ | ⟨_, hm, _⟩ | ⟨_, _, _, _, hm, _⟩ | ⟨_, _, rfl, rfl⟩ | ⟨_, _, _, _, _, hF, _⟩ | ⟨_, _, _, _, _, _, _, hF, _⟩
        · cases hm
        · cases hm
        · cases hm
        · rcases hcon with ⟨hh, _⟩ | ⟨_, rfl, rfl⟩
          · cases hh
          · obtain ⟨h1, h2, h3, h4, h5, ⟨h6, h6'⟩, h7⟩ := hR0
            have h6 : u.1 64 88 = ie 0 := h6
            refine ⟨u, by rw [K_Md_go_0, h6, if_pos (by decide)], h1, h2, h7.1, h7.2.1, h7.2.2.1, ?_, fun _ => hb⟩
            rw [if_pos rfl]; exact h7.2.2.2.2.2.1
        · cases hF
        · cases hF
      | cons fr F =>
        obtain ⟨n0, b, q, j, hd⟩ := fr
        cases n0 with
        | some e =>
          refine fin (r_nodeA N hN g hW hS hI H0 hR0 (fun hq => ?_) h)
          rcases hb with hb | ⟨_, _, _, _, _, hb⟩
          · exact hb
          · cases hb; exact absurd rfl hq
        | none =>
          have hbv : bkR u v := by
            rcases hb with hb | ⟨_, _, _, _, _, hb⟩
            · exact hb
            · cases hb
          clear hb
          obtain ⟨r', s', hs0, hcon⟩ := id h
          have hs : stp D t c bx lim hp L lc ((none, b, q, j, hd) :: F) v st cc dp rM r' s' := hs0
          clear hs0
          rcases hs with ⟨_, _, hm, _⟩ | ⟨_, hm, _⟩ | ⟨_, _, _, _, hm, _⟩ | ⟨_, hF, _⟩ | ⟨f2', F', it, x, _, hF, _⟩ | ⟨_, _, _, _, _, _, _, hF, _⟩
          · cases hm
          · cases hm
          · cases hm
          · cases hF
          · cases hF
            exact fin (r_cov2 N hN g H0 hR0 hbv h)
          · cases hF
    · exact fin (r_cov1 N hN g hW H0 hR0 h127 h128 h)
