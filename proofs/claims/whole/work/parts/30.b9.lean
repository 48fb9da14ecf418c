set_option maxRecDepth 100000
theorem loR_f0 {u : pm_J} {L : Lo} {lc w : Nat} (b : Nat) (h : loR u L lc) (hw : lc + w ≤ 60000) : loR (wi u 64 72 (ie ((lc + w : Nat) : Int))) (lFi L lc w b 0) (lc + w) := by
  refine ⟨wi_at _ _ _ _, hw, fun i v hi hv => ?_⟩
  unfold lFi at hv
  by_cases e : lc ≤ i ∧ i < lc + w
  · rw [if_pos e, if_neg (by omega)] at hv; cases hv
  · rw [if_neg e] at hv
    obtain ⟨a1, a2⟩ := h.2.2 i v (by omega) hv
    exact ⟨by rw [wi_ne _ _ _ _ _ _ (by omega)]; exact a1, a2⟩
theorem loR_f1 {u : pm_J} {L : Lo} {lc w b i : Nat} (h : loR u (lFi L lc w b i) (lc + w)) (hb : b + w ≤ lc) (hi : i < w) : loR (wj (wi u 113 (lc + i) (u.1 113 (b + i))) 114 (lc + i) (u.2 114 (b + i))) (lFi L lc w b (i + 1)) (lc + w) := by
  refine ⟨by rw [wj_1, wi_ne _ _ _ _ _ _ (by omega)]; exact h.1, h.2.1, fun k v hk hv => ?_⟩
  have keep : k ≠ lc + i → lFi L lc w b i k = some v → (wj (wi u 113 (lc + i) (u.1 113 (b + i))) 114 (lc + i) (u.2 114 (b + i))).1 113 k = ie (v.1 : Nat) ∧ (wj (wi u 113 (lc + i) (u.1 113 (b + i))) 114 (lc + i) (u.2 114 (b + i))).2 114 k = v.2 := fun hne hv' => by
    obtain ⟨a, b⟩ := h.2.2 k v hk hv'
    exact ⟨by rw [wj_1, wi_ne _ _ _ _ _ _ (by omega)]; exact a, by rw [wj_ne _ _ _ _ _ _ (by omega), wi_2]; exact b⟩
  unfold lFi at hv
  by_cases e : lc ≤ k ∧ k < lc + w
  · rw [if_pos e] at hv
    by_cases e1 : k - lc < i + 1
    · rw [if_pos e1] at hv
      by_cases ek : k = lc + i
      · have : k - lc = i := by omega
        rw [this] at hv
        obtain ⟨a1, a2⟩ := h.2.2 (b + i) v (by omega) (by unfold lFi; rw [if_neg (by omega)]; exact hv)
        rw [ek]
        exact ⟨by rw [wj_1, wi_at]; exact a1, by rw [wj_at]; exact a2⟩
      · refine keep ek ?_
        unfold lFi; rw [if_pos e, if_pos (by omega)]; exact hv
    · rw [if_neg e1] at hv; cases hv
  · rw [if_neg e] at hv
    refine keep (by omega) ?_
    unfold lFi; rw [if_neg e]; exact hv
theorem loR_f2 {u : pm_J} {L : Lo} {lc w b l : Nat} {x : Va} (hl : l < w) (h : loR u (lFi L lc w b w) (lc + w)) : loR (wj (wi u 113 (lc + l) (ie (x.1 : Nat))) 114 (lc + l) x.2) (lFn L lc w b l x) (lc + w) := by
  refine ⟨by rw [wj_1, wi_ne _ _ _ _ _ _ (by omega)]; exact h.1, h.2.1, fun k v hk hv => ?_⟩
  have keep : k ≠ lc + l → lFi L lc w b w k = some v → (wj (wi u 113 (lc + l) (ie (x.1 : Nat))) 114 (lc + l) x.2).1 113 k = ie (v.1 : Nat) ∧ (wj (wi u 113 (lc + l) (ie (x.1 : Nat))) 114 (lc + l) x.2).2 114 k = v.2 := fun hne hv' => by
    obtain ⟨a, b⟩ := h.2.2 k v hk hv'
    exact ⟨by rw [wj_1, wi_ne _ _ _ _ _ _ (by omega)]; exact a, by rw [wj_ne _ _ _ _ _ _ (by omega), wi_2]; exact b⟩
  unfold lFn at hv
  by_cases e : lc ≤ k ∧ k < lc + w
  · rw [if_pos e] at hv
    by_cases ek : k = lc + l
    · rw [if_pos ek] at hv; cases hv
      rw [ek]
      exact ⟨by rw [wj_1, wi_at], wj_at _ _ _ _⟩
    · rw [if_neg ek] at hv
      refine keep ek ?_
      unfold lFi; rw [if_pos e, if_pos (by omega)]; exact hv
  · rw [if_neg e] at hv
    refine keep (by omega) ?_
    unfold lFi; rw [if_neg e]; exact hv
theorem r_homeOf {T : List Tok} {n : Nat} {D : List Df} {t : Tr} {c : CS} {u : pm_J} {Y : List Ty} (N : Nat) (hN : 200000 ≤ N) (g : pm_s) (hW : pW T D t) (H : rC T n D t c c.1 u Y) {e d : Nat} (he : e < t.1) (hd : d < D.length) (h1 : dF D d ≤ e) (h2 : e ≤ dRt D d) : F_Md_homeOf N (ie (e : Nat)) g u = some (ie (d : Nat)) := by
  have h18 := H.2.2.2.1.2
  have h30 := H.2.2.1.2
  have rt : ∀ i, i < D.length → dRt D i < 1800 := fun i hi => by
    have hx : D[i]? = some D[i] := List.getElem?_eq_getElem hi
    have := (dF_mono hW hx).2.2
    unfold dRt; rw [hx]; show D[i].2.2.2.1 < 1800; omega
  have lp : ∀ (m i f : Nat), i + m = d → m < f → K_Md_homeOf_2 N g u f (ie (e : Nat)) (ie (i : Nat)) = some (ie (d : Nat)) := by
    intro m
    induction m with
    | zero =>
      intro i f hi hf
      obtain ⟨f, rfl⟩ : ∃ f', f = f' + 1 := ⟨f - 1, by omega⟩
      have : i = d := by omega
      subst this
      have := rt i hd
      rw [K_Md_homeOf_2, if_pos (okn i 30 (by omega) (by omega)), ntn i (by omega), (rtb_all H hd).1, if_pos ((inle _ _ (by omega) (by omega)).mpr h2)]
    | succ m ih =>
      intro i f hi hf
      obtain ⟨f, rfl⟩ : ∃ f', f = f' + 1 := ⟨f - 1, by omega⟩
      have hil : i < D.length := by omega
      have hx : D[i]? = some D[i] := List.getElem?_eq_getElem hil
      have hle := dF_le hW d (by omega) i _ (by omega) hx
      have hq : dRt D i = D[i].2.2.2.1 := by unfold dRt; rw [hx]
      have := rt i hil
      rw [K_Md_homeOf_2, if_pos (okn i 30 (by omega) (by omega)), ntn i (by omega), (rtb_all H hil).1, if_neg (fun hh => by have := (inle _ _ (by omega) (by omega)).mp hh; omega), iadd1]
      exact ih (i + 1) f (by omega) (by omega)
  exact lp d 0 N (by omega) (by omega)
theorem cfR_loop {T : List Tok} {n : Nat} {D : List Df} {t : Tr} {c : CS} {Y : List Ty} {bx : Bool} {lim : Nat} {u0 : pm_J} {hp : Hp} {L : Lo} {lc : Nat} {F : List Fr} {v : Va} {st cc dp : Nat} {e b l x w d k r : Nat} {sf : Ms} (N : Nat) (g : pm_s) (H0 : rC T n D t c c.1 u0 Y) (he : e < t.1) (hd : d < D.length) (h9 : (t.2.1 e).1 = 9) (hw0 : dWd D d = w) (hb : b + w ≤ lc) (hw : w ≤ 24) (hl : (t.2.1 e).2.2.2.2.1 = (l : Int)) (hlw : l < w) (hx : (t.2.1 e).2.2.1 = (x : Int)) (hr : lc + w ≤ 60000) (hcon : rch D t c bx lim k (hp, lFn L lc w b l v, lc + w, F, v, st, cc, dp, (0, x, lc, v0)) r sf) (m : Nat) : ∀ (i : Nat) (u : pm_J) (f : Nat), i + m = w → m < f → rr0 u0 t Y bx lim u hp (lFi L lc w b i) (lc + w) F st cc dp → nwR u v → ∃ z, K_Md_callFunction_105 N g f (ie (e : Nat)) (ie (b : Nat)) (ie (d : Nat)) (ie (lc : Nat)) (ie (i : Nat)) u = some z ∧ oR u0 D t c Y bx lim k z r sf := by
  induction m with
  | zero =>
    intro i u f hi hf h hn
    obtain ⟨f, rfl⟩ : ∃ f', f = f' + 1 := ⟨f - 1, by omega⟩
    have ei : i = w := by omega
    subst ei
    have H := rC_ag H0 h.1
    have h18 := H.2.2.2.1.2
    have h30 := H.2.2.1.2
    obtain ⟨b1, b2, _⟩ := rtb_all H hd
    obtain ⟨c1, c2, c3, c4, c5, c6, _⟩ := H.2.2.2.2.2.2 e he
    have hrl : rvl (t.2.1 e) = (l : Int) := by unfold rvl; rw [if_neg (by omega), if_pos (Or.inr h9), hl]
    have hra : rva (t.2.1 e) = (x : Int) := by unfold rva; rw [if_neg (by omega)]; exact hx
    have a1 : ag (fun c i => ¬ ((c = 64 ∧ i = 72) ∨ c = 113 ∨ c = 114)) u (wj (wi u 113 (lc + l) (ie (v.1 : Nat))) 114 (lc + l) v.2) := ag_wj (ag_wi (ag_r _ u) _ _ _ (by omega)) _ _ _ (by omega)
    have h' := rr_lo h a1 (loR_f2 (l := l) (x := v) hlw h.2.2.1)
    obtain ⟨z, z1, z2⟩ := r_begin g (by omega) h' hcon
    refine ⟨z, ?_, z2⟩
    have oke := okn e 2400 (by omega) (by omega)
    have okl := okn (lc + l) 60000 (by omega) (by omega)
    rw [K_Md_callFunction_105, if_pos (okn d 30 (by omega) (by omega)), ntn d (by omega), b2, hw0, if_pos ((inle _ _ (by omega) (by omega)).mpr (by omega)), if_pos oke, ntn e (by omega), c6, hrl, ie_bl, if_pos okl, if_pos oke, if_pos okl, if_pos oke, c3, hra, ntn _ (by omega), hn.1, hn.2, z1]; rfl
  | succ m ih =>
    intro i u f hi hf h hn
    obtain ⟨f, rfl⟩ : ∃ f', f = f' + 1 := ⟨f - 1, by omega⟩
    have H := rC_ag H0 h.1
    have h30 := H.2.2.1.2
    obtain ⟨b1, b2, _⟩ := rtb_all H hd
    have a1 : ag (fun c i => ¬ ((c = 64 ∧ i = 72) ∨ c = 113 ∨ c = 114)) u (wj (wi u 113 (lc + i) (u.1 113 (b + i))) 114 (lc + i) (u.2 114 (b + i))) := ag_wj (ag_wi (ag_r _ u) _ _ _ (by omega)) _ _ _ (by omega)
    obtain ⟨z, z1, z2⟩ := ih (i + 1) _ f (by omega) (by omega) (rr_lo h a1 (loR_f1 h.2.2.1 hb (by omega))) ⟨(a1 _ _ (by omega)).1.trans hn.1, (a1 _ _ (by omega)).2.trans hn.2⟩
    refine ⟨z, ?_, z2⟩
    have okb := okn (b + i) 60000 (by omega) (by omega)
    have okl := okn (lc + i) 60000 (by omega) (by omega)
    rw [K_Md_callFunction_105, if_pos (okn d 30 (by omega) (by omega)), ntn d (by omega), b2, hw0, if_neg (fun hh => by have := (inle _ _ (by omega) (by omega)).mp hh; omega), ie_bl, ie_bl, if_pos okb, if_pos okl, if_pos okb, if_pos okl, ntn _ (by omega), ntn _ (by omega), iadd1]
    exact z1
theorem r_callFn {T : List Tok} {n : Nat} {D : List Df} {t : Tr} {c : CS} {Y : List Ty} {bx : Bool} {lim : Nat} {u0 : pm_J} {u : pm_J} {hp : Hp} {L : Lo} {lc : Nat} {F : List Fr} {v : Va} {st cc dp : Nat} {f : Va} {k r : Nat} {sf : Ms} (N : Nat) (hN : 200000 ≤ N) (g : pm_s) (hW : pW T D t) (H0 : rC T n D t c c.1 u0 Y) (h : rr0 u0 t Y bx lim u hp L lc F st cc dp) (hn : nwR u v) (hr : rch D t c bx lim k (hp, L, lc, F, v, st, cc, dp, (1, 0, 0, f)) r sf) : ∃ w, F_Md_callFunction N f.2.toInt32 g u = some w ∧ oR u0 D t c Y bx lim k w r sf := by
  cases k with
  | zero => exact hr.elim
  | succ k =>
  obtain ⟨r', s', hs0, hcon⟩ := hr
  have hs : stp D t c bx lim hp L lc F v st cc dp (1, 0, 0, f) r' s' := hs0
  clear hs0
  obtain ⟨h1, h2, h3, h4, h5, ⟨h6, h6'⟩, h7⟩ := id h
  have H := rC_ag H0 h1
  have h18 := H.2.2.2.1.2
  have h30 := H.2.2.1.2
  have h40 := h2.2.1
  have h96 := h7.2.2.2.2.2.1
  rcases hs with ⟨_, _, hm, _⟩ | ⟨f', hm, i, it, hf, hi, hs⟩ | ⟨_, _, _, _, hm, _⟩ | ⟨hm, _⟩ | ⟨_, _, _, _, hm, _⟩ | ⟨_, _, _, _, _, _, hm, _⟩
  · cases hm
  · cases hm
    have hil := (List.getElem?_eq_some_iff.mp hi).1
    have hit := h2.2.2.1 i it hi
    have ok := okn i 4000 (by omega) (by omega)
    have nt := ntn i (by omega)
    rcases hs with ⟨hk, e, b, d, l, a, e1, e2, he, h9, _, hd, hd1, hd2, hl, hlw, hb, ha, hat, _, hs⟩ | ⟨hk, hs⟩
    · obtain ⟨q1, q2, q3⟩ := hit.2.1 hk
      obtain ⟨b1, b2, _⟩ := rtb_all H hd
      have hx : D[d]? = some D[d] := List.getElem?_eq_getElem hd
      have hw24 : dWd D d ≤ 24 := by
        have := (hW.1 d _ hx).2.2.2.2.2.2.1.2.2.1
        unfold dWd; rw [hx]; exact this
      have hlc := h3.2.1
      obtain ⟨l1, l2⟩ := r_locals0 (u := u) (d := d) g (by omega) hw24 b2 h3.1 hlc
      have hom := r_homeOf N hN g hW H he hd hd1 hd2
      have hcf : F_Md_callFunction N f.2.toInt32 g u = (F_Md_locals0 (ie (d : Nat)) g u).bind fun q6 => if (q6.2.1 64 96) = 0 then K_Md_callFunction_105 N g N (ie (e : Nat)) (ie (b : Nat)) (ie (d : Nat)) q6.1 0 q6.2 else some q6.2 := by
        unfold F_Md_callFunction
        rw [hf, je_i32 i (by omega), if_pos ok, nt, q1, if_pos (show ie 0 = (0 : Int32) from rfl), if_pos ok, if_pos ok, q2, q3, e1, e2, je_i32 e (by omega), je_i32 b (by omega), hom, Option.bind_some]
      rcases hs with ⟨hr', rfl, rfl⟩ | ⟨hr', rfl, rfl⟩
      · have a1 : ag (fun c i => ¬ ((c = 64 ∧ i = 72) ∨ c = 113 ∨ c = 114)) u (wi u 64 72 (ie ((lc + dWd D d : Nat) : Int))) := ag_wi (ag_r _ u) _ _ _ (by omega)
        obtain ⟨z, z1, z2⟩ := cfR_loop N g H0 he hd h9 rfl hb hw24 hl hlw ha hr' (con_0 hcon) (dWd D d) 0 _ N (by omega) (by omega) (rr_lo h a1 (loR_f0 b h3 hr')) ⟨(a1 _ _ (by omega)).1.trans hn.1, (a1 _ _ (by omega)).2.trans hn.2⟩
        refine ⟨z, ?_, oR_m z2 (by omega)⟩
        rw [hcf, l1 hr', Option.bind_some]
        show (if (wi u 64 72 (ie ((lc + dWd D d : Nat) : Int))).1 64 96 = 0 then _ else _) = _
        rw [wi_ne _ _ _ _ _ _ (by omega), h96, if_pos (show ie 0 = (0 : Int32) from rfl)]
        exact z1
      · obtain ⟨rfl, rfl⟩ := con_4 hcon
        refine ⟨wi u 64 96 4, ?_, Or.inr ⟨by omega, by omega, rr_e 4 v (by omega) h⟩⟩
        rw [hcf, l2 hr', Option.bind_some]
        show (if (wi u 64 96 4).1 64 96 = 0 then _ else _) = _
        rw [wi_at, if_neg (by decide)]
    · obtain ⟨q1, _⟩ := hit.2.2.2 hk
      have hcf : F_Md_callFunction N f.2.toInt32 g u = (F_Md_mayDeep g u).bind fun q20 => if q20.1 = 0 then some q20.2 else (F_Md_push 1 (ie (i : Nat)) 0 g (wi q20.2 64 104 ((q20.2.1 64 104) + 1))).bind fun q22 => if pm_ok ((q22.1 64 88) - 1) 150 = true then if pm_ok ((q22.1 64 88) - 1) 150 = true then some (wj (wi q22 127 (((q22.1 64 88) - 1).toNatClampNeg) (q22.1 64 108)) 128 (((q22.1 64 88) - 1).toNatClampNeg) (q22.2 64 109)) else none else none := by
        unfold F_Md_callFunction
        rw [hf, je_i32 i (by omega), if_pos ok, nt, q1, if_neg (show ¬ (ie 1 = (0 : Int32)) by decide)]
      rcases hs with ⟨hr', rfl, rfl⟩ | ⟨hr', rfl, rfl⟩
      · have hcon := con_0 hcon
        let w0 : pm_J := wi (wi (wi (wi (wi (wi (wi u 64 104 (ie ((cc + 1 : Nat) : Int))) 123 F.length 1) 124 F.length (ie (i : Nat))) 125 F.length 0) 126 F.length 0) 64 88 (ie ((F.length + 1 : Nat) : Int))) 64 89 (ie ((max dp (F.length + 1) : Nat) : Int))
        let w : pm_J := wj (wi w0 127 F.length (ie (v.1 : Nat))) 128 F.length v.2
        have ok1 := okn F.length 150 hr' (by omega)
        have nt1 := ntn F.length (by omega)
        have aw0 : ag (fun c i => ¬ (c = 64 ∧ (i = 104 ∨ i = 88 ∨ i = 89)) ∧ ¬ (123 ≤ c ∧ c ≤ 126 ∧ i = F.length)) u w0 := by
          refine ag_wi (ag_wi (ag_wi (ag_wi (ag_wi (ag_wi (ag_wi (ag_r _ u) _ _ _ ?_) _ _ _ ?_) _ _ _ ?_) _ _ _ ?_) _ _ _ ?_) _ _ _ ?_) _ _ _ ?_ <;> omega
        have aw : ag (fun c i => ¬ (c = 64 ∧ (i = 104 ∨ i = 88 ∨ i = 89)) ∧ ¬ (123 ≤ c ∧ c ≤ 128 ∧ i = F.length)) u w := ag_wj (ag_wi (ag_m aw0 (fun c i hc => by omega)) _ _ _ (by omega)) _ _ _ (by omega)
        have rd : ∀ c i', w.1 c i' = if c = 127 ∧ i' = F.length then ie (v.1 : Nat) else if c = 64 ∧ i' = 89 then ie ((max dp (F.length + 1) : Nat) : Int) else if c = 64 ∧ i' = 88 then ie ((F.length + 1 : Nat) : Int) else if c = 126 ∧ i' = F.length then 0 else if c = 125 ∧ i' = F.length then 0 else if c = 124 ∧ i' = F.length then ie (i : Nat) else if c = 123 ∧ i' = F.length then 1 else if c = 64 ∧ i' = 104 then ie ((cc + 1 : Nat) : Int) else u.1 c i' := fun c i' => rfl
        have hpu : F_Md_push 1 (ie (i : Nat)) 0 g (wi u 64 104 (ie ((cc + 1 : Nat) : Int))) = some w0 := by
          have hdp := h7.2.2.2.2.2.2.2.2
          unfold F_Md_push
          rw [if_pos (by decide), wi_ne _ _ _ _ _ _ (by omega), h6, if_pos ok1, if_pos ok1, if_pos ok1, if_pos ok1, nt1, iadd1, wi_ne _ _ _ _ _ _ (by omega), h7.2.2.1]
          by_cases em : F.length + 1 ≤ dp
          · rw [if_pos ((inle _ _ (by omega) (by omega)).mpr em)]
            show _ = some (wi (wi (wi (wi (wi (wi (wi u 64 104 (ie ((cc + 1 : Nat) : Int))) 123 F.length 1) 124 F.length (ie (i : Nat))) 125 F.length 0) 126 F.length 0) 64 88 (ie ((F.length + 1 : Nat) : Int))) 64 89 (ie ((max dp (F.length + 1) : Nat) : Int)))
            rw [Nat.max_eq_left em]
          · rw [if_neg (fun hh => em ((inle _ _ (by omega) (by omega)).mp hh))]
            show _ = some (wi (wi (wi (wi (wi (wi (wi u 64 104 (ie ((cc + 1 : Nat) : Int))) 123 F.length 1) 124 F.length (ie (i : Nat))) 125 F.length 0) 126 F.length 0) 64 88 (ie ((F.length + 1 : Nat) : Int))) 64 89 (ie ((max dp (F.length + 1) : Nat) : Int)))
            rw [Nat.max_eq_right (by omega)]
        have w88 : w0.1 64 88 = ie ((F.length + 1 : Nat) : Int) := rfl
        have hw : F_Md_callFunction N f.2.toInt32 g u = some w := by
          rw [hcf]
          unfold F_Md_mayDeep
          rw [h6, if_neg (show ¬ (ie (F.length : Nat) = (150 : Int32)) from fun hh => by have := (ineq _ 150 (by omega) (by omega)).mp hh; omega), Option.bind_some, if_neg (show ¬ ((1 : Int32) = 0) by decide)]
          show (F_Md_push 1 (ie (i : Nat)) 0 g (wi u 64 104 (u.1 64 104 + 1))).bind _ = _
          rw [h7.2.1, iadd1, hpu, Option.bind_some, w88, isub1, if_pos ok1, if_pos ok1, nt1, (aw0 64 108 (by omega)).1, (aw0 64 109 (by omega)).2, hn.1, hn.2]
        refine ⟨w, hw, Or.inl ⟨k, _, Nat.lt_succ_self _, hcon, ⟨ag_t h1 (ag_m aw (fun c i hc => by unfold wZ at hc; omega)), hR_ag h2 (ag_m aw (fun c i hc => by unfold wH at hc; omega)), loR_ag h3 (ag_m aw (fun c i hc => by unfold wL at hc; omega)), ⟨⟨?_, by show 0 ≤ 60000; omega, by show 0 ≤ 8; omega, (fun hh => by cases hh), ?_, i, f, rfl, hf, by omega, ?_⟩, fRs_ag h4 (ag_m aw (fun c i hc => by unfold wFr at hc; omega))⟩, ?_, ⟨?_, by show F.length + 1 ≤ 150; omega⟩, ?_⟩, Or.inr ⟨f, F, rfl, rfl, ?_, ?_⟩⟩⟩
        · rw [rd, if_neg (by omega), if_neg (by omega), if_neg (by omega), if_pos ⟨rfl, rfl⟩]; rfl
        · rw [rd, if_neg (by omega), if_neg (by omega), if_neg (by omega), if_neg (by omega), if_neg (by omega), if_neg (by omega), if_pos ⟨rfl, rfl⟩]; rfl
        · rw [rd, if_neg (by omega), if_neg (by omega), if_neg (by omega), if_neg (by omega), if_neg (by omega), if_pos ⟨rfl, rfl⟩]
        · show akR w (aS F ++ [])
          rw [List.append_nil]
          exact akR_ag h5 (ag_m aw (fun c i hc => by unfold wA at hc; omega))
        · rw [rd, if_neg (by omega), if_neg (by omega), if_pos ⟨rfl, rfl⟩]; rfl
        · obtain ⟨g1, g2, g3, g4, g5, g6, g7, g8, g9⟩ := h7
          exact ⟨(aw _ _ (by omega)).1.trans g1, by rw [rd, if_neg (by omega), if_neg (by omega), if_neg (by omega), if_neg (by omega), if_neg (by omega), if_neg (by omega), if_neg (by omega), if_pos ⟨rfl, rfl⟩], by rw [rd, if_neg (by omega), if_pos ⟨rfl, rfl⟩], (aw _ _ (by omega)).1.trans g4, (aw _ _ (by omega)).1.trans g5, (aw _ _ (by omega)).1.trans g6, g7, g8, by show max dp (F.length + 1) ≤ 150; omega⟩
        · rw [rd, if_pos ⟨rfl, rfl⟩]
        · exact wj_at _ _ _ _
      · rcases hcon with ⟨hh, _⟩ | ⟨_, rfl, rfl⟩
        · cases hh
        · refine ⟨wi u 64 96 3, ?_, Or.inr ⟨by omega, by omega, rr_e 3 v (by omega) h⟩⟩
          have hl : F.length = 150 := by omega
          rw [hcf]
          unfold F_Md_mayDeep
          rw [h6, hl, if_pos (by decide), Option.bind_some, if_pos rfl]
  · cases hm
  · cases hm
  · cases hm
  · cases hm
