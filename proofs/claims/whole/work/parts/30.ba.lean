set_option maxRecDepth 100000
theorem r_adx {T : List Tok} {n : Nat} {D : List Df} {t : Tr} {c : CS} {Y : List Ty} {bx : Bool} {lim : Nat} {u0 : pm_J} {u : pm_J} {hp : Hp} {L : Lo} {lc : Nat} {F : List Fr} {v : Va} {st cc dp : Nat} {e k : Nat} {s : Ty} {sh bo : Bool} {y : Option Va} {h' : Hp} (N : Nat) (hN : 200000 ≤ N) (g : pm_s) (H0 : rC T n D t c c.1 u0 Y) (h : rr0 u0 t Y bx lim u hp L lc F st cc dp) (hb : bkR u v) (hk : Y[k]? = some s) (ha : aOK t c e s) (hx : adX bx sh bo (c.2.2.1 e) e s v hp = some (y, h')) :
    ∃ w, (((bx = false ∨ tyM s = 0 ∨ sh = true) ∧ w = nowB u) ∨ (bx = true ∧ tyM s ≠ 0 ∧ sh = false ∧ F_Md_convert N (ie ((if bo = true then 2 else 3 : Nat) : Int)) (ie (k : Nat)) (ie (e : Nat)) g (nowB u) = some w)) ∧ ag wB u w ∧ hR Y w h' ∧ (∀ z, y = some z → w.1 64 96 = ie 0 ∧ nwR w z) ∧ (y = none → w.1 64 96 = ie 4) := by
  have h2 := h.2.1
  have h96 := h.2.2.2.2.2.2.2.2.2.2.2.1
  have an := nowB_ag u
  have hh := rr_nw h an
  have same : y = some v → h' = hp → ag wB u (nowB u) ∧ hR Y (nowB u) h' ∧ (∀ z, y = some z → (nowB u).1 64 96 = ie 0 ∧ nwR (nowB u) z) ∧ (y = none → (nowB u).1 64 96 = ie 4) := by
    rintro rfl rfl
    exact ⟨ag_m an (fun c i hc => by unfold wB at hc; omega), hh.2.1, (fun z hz => by cases hz; exact ⟨(an _ _ (by omega)).1.trans h96, nowB_n hb⟩), (fun hz => by cases hz)⟩
  by_cases hc : bx = true ∧ sh = false
  · unfold adX at hx
    rw [if_pos hc] at hx
    by_cases hM : tyM s = 0
    · rw [adA_0 ha.1 hM] at hx
      cases hx
      exact ⟨nowB u, Or.inl ⟨Or.inr (Or.inl hM), rfl⟩, same rfl rfl⟩
    · have hx' : adp c bo (e : Int) s v hp = some (y, h') := by
        unfold adp; rw [if_neg (by omega)]; exact hx
      have H := rC_ag H0 hh.1
      have hn := nowB_n hb
      obtain ⟨w, w1, w2, w3, w4, w5⟩ := r_convert N hN g bo v H hk hh.2.1 ((an _ _ (by omega)).1.trans h96) hn.1 hn.2 ha hx'
      rw [hwR_e] at w1
      exact ⟨w, Or.inr ⟨hc.1, hM, hc.2, w1⟩, ag_t (ag_m an (fun c i hc => by unfold wB at hc; omega)) w3, w2, w4, w5⟩
  · unfold adX at hx
    rw [if_neg hc] at hx
    cases hx
    refine ⟨nowB u, Or.inl ⟨?_, rfl⟩, same rfl rfl⟩
    cases bx with
    | false => exact Or.inl rfl
    | true =>
      cases sh with
      | true => exact Or.inr (Or.inr rfl)
      | false => exact absurd ⟨rfl, rfl⟩ hc
theorem rr_b4 {u0 u w : pm_J} {t : Tr} {Y : List Ty} {bx : Bool} {lim : Nat} {hp hp' : Hp} {L : Lo} {lc : Nat} {F : List Fr} {st cc dp : Nat} (v : Va) (h : rr0 u0 t Y bx lim u hp L lc F st cc dp) (ha : ag wB u w) (hh : hR Y w hp') (h4 : w.1 64 96 = ie 4) : finR u0 Y w 4 hp' v st cc dp := by
  obtain ⟨h1, h2, h3, h4', h5, ⟨h6, h6'⟩, ⟨g1, g2, g3, g4, g5, g6, g7⟩⟩ := h
  exact ⟨ag_t h1 (wB_Z ha), hh, (ha _ _ (by unfold wB; omega)).1.trans g1, (ha _ _ (by unfold wB; omega)).1.trans g2, (ha _ _ (by unfold wB; omega)).1.trans g3, by rw [h4, if_neg (by omega)]; rfl, fun hh => by omega⟩
theorem tyM_ie {u : pm_J} {Y : List Ty} {k : Nat} {s : Ty} (h : tyR u Y) (hk : Y[k]? = some s) : (u.1 73 k = 0) ↔ tyM s = 0 := by
  have hm := (h.2.2.1 k s hk).2.2.1
  have hlt := tyM_lt (tyR_g h k s hk)
  rw [hm]
  constructor
  · intro hh; exact (ineq (tyM s) 0 (by omega) (by omega)).mp hh
  · intro hh; rw [hh]; rfl
theorem r_keep {T : List Tok} {n : Nat} {D : List Df} {t : Tr} {c : CS} {Y : List Ty} {bx : Bool} {lim : Nat} {u0 : pm_J} {u : pm_J} {hp : Hp} {L : Lo} {lc : Nat} {F : List Fr} {v : Va} {st cc dp : Nat} {e b j d a : Nat} {p : Ty} {hd : List Va} {y : Option Va} {h' : Hp} (N : Nat) (hN : 200000 ≤ N) (g : pm_s) (hW : pW T D t) (H0 : rC T n D t c c.1 u0 Y) (h : rr0 u0 t Y bx lim u hp L lc ((some e, b, 3, j, hd) :: F) st cc dp) (hb : bkR u v) (hd' : d < D.length) (hat : (t.2.1 e).2.2.2.2.2.2[hd.length]? = some a) (hal : a < t.1) (hp' : (dPs D d)[hd.length]? = some p) (ha : aOK t c e p) (hx : adX bx (c.2.2.2 a) true (c.2.2.1 e) e p v hp = some (y, h')) :
    ∃ w, F_Md_keepAtom N (ie (e : Nat)) (ie (d : Nat)) (ie (hd.length : Nat)) g u = some w ∧ (∀ x, y = some x → rr0 u0 t Y bx lim w h' L lc ((some e, b, 3, j, hd ++ [x]) :: F) st cc dp) ∧ (y = none → finR u0 Y w 4 h' v st cc dp) := by
  obtain ⟨t1, t2, t3, t4, t5, t6, t7, t8, t9, t10, t11, t12, t13, t14⟩ := top_R h
  obtain ⟨hl6, h16⟩ := t14 rfl
  have H := rC_ag H0 h.1
  have h18 := H.2.2.2.1.2
  have h30 := H.2.2.1.2
  obtain ⟨_, _, _, _, b5⟩ := rtb_all H hd'
  obtain ⟨k, k1, k2, k3⟩ := b5 _ _ hp'
  have hx0 : D[d]? = some D[d] := List.getElem?_eq_getElem hd'
  have h6p : (dPs D d).length ≤ 6 := by rw [(dPs_some hx0).2.2]; exact (hW.1 d _ hx0).2.2.2.2.2.2.1.1
  have hil := (List.getElem?_eq_some_iff.mp hp').1
  obtain ⟨w, w1, w2, w3, w4, w5⟩ := r_adx N hN g H0 h hb k3 ha hx
  have hat' := r_atomAt N hN g hW H t10 h16 hat
  obtain ⟨g1, g2, g3, ⟨g4, g4'⟩, g5, ⟨g6, g6'⟩, g7⟩ := id h
  have hAl := aS_le g4'
  have hA : aS ((some e, b, 3, j, hd) :: F) = aS F ++ hd := by show aS F ++ (if (3 : Nat) = 3 then hd else []) = _; rw [if_pos rfl]
  rw [hA] at g5
  have hlA : (aS F ++ hd).length = (aS F).length + hd.length := List.length_append
  have w92 : w.1 64 92 = ie ((aS F ++ hd).length : Nat) := (w2 64 92 (by unfold wB; omega)).1.trans g5.1
  have ok92 := okn (aS F ++ hd).length 1000 (by omega) (by omega)
  let z : pm_J := wi (wj (wi w 129 (aS F ++ hd).length (w.1 64 108)) 130 (aS F ++ hd).length (w.2 64 109)) 64 92 (ie (((aS F ++ hd).length + 1 : Nat) : Int))
  have az : ag (fun c i => ¬ ((c = 64 ∧ i = 92) ∨ ((c = 129 ∨ c = 130) ∧ i = (aS F ++ hd).length))) w z := ag_wi (ag_wj (ag_wi (ag_r _ w) _ _ _ (by omega)) _ _ _ (by omega)) _ _ _ (by omega)
  have hz : K_Md_keepAtom_72 N g w = some z := by
    unfold K_Md_keepAtom_72
    rw [w92, if_pos ok92, if_pos ok92, ntn _ (by omega), iadd1]
  refine ⟨z, ?_, fun x hx' => ?_, fun hy => ?_⟩
  · have e6 : (6 : Int32) * ie (d : Nat) + ie (hd.length : Nat) = ie ((6 * d + hd.length : Nat) : Int) := by
      rw [show (6 : Int32) = ie ((6 : Nat) : Int) from rfl, ie_mul, ie_add]; rfl
    have okd := okn (6 * d + hd.length) 180 (by omega) (by omega)
    have c13 := (H.2.2.2.2.2.2 a hal).2.2.2.2.2.2.2.2.2.2.2.2.1
    have h95 := g7.2.2.2.2.1
    have hmm := tyM_ie H.2.2.2.2.1 k3
    unfold F_Md_keepAtom
    rw [hat', Option.bind_some, e6, if_pos okd, h95, ntn _ (by omega), k1, ntn k (by omega), ntn a (by omega), c13]
    rcases w1 with ⟨hc, hw⟩ | ⟨hbx, hM, hsh, hw⟩
    · rw [hw] at hz
      have hz' : K_Md_keepAtom_72 N g (wj (wi u 64 108 (u.1 64 93)) 64 109 (u.2 64 94)) = some z := hz
      by_cases hbx : bx = false
      · rw [if_pos ((ib_z _).mpr hbx), hz']
      · rw [if_neg (fun hh => hbx ((ib_z _).mp hh)), if_pos (okn k 100000 k2 (by omega))]
        by_cases hM : tyM p = 0
        · rw [if_pos (hmm.mpr hM), hz']
        · have hsh : c.2.2.2 a = true := by
            rcases hc with hc | hc | hc
            · exact absurd hc hbx
            · exact absurd hc hM
            · exact hc
          rw [if_neg (fun hh => hM (hmm.mp hh)), if_pos (okn a 2400 (by omega) (by omega)), hsh, if_neg (by decide), hz']
    · have hw' : F_Md_convert N 2 (ie (k : Nat)) (ie (e : Nat)) g (wj (wi u 64 108 (u.1 64 93)) 64 109 (u.2 64 94)) = some w := hw
      rw [if_neg (fun hh => by rw [(ib_z _).mp hh] at hbx; cases hbx), if_pos (okn k 100000 k2 (by omega)), if_neg (fun hh => hM (hmm.mp hh)), if_pos (okn a 2400 (by omega) (by omega)), hsh, if_pos (by decide), hw', Option.bind_some, hz]
  · obtain ⟨q1, q2⟩ := w4 x hx'
    have hr := rr_ag h w2 w3 q1
    obtain ⟨r1, r2, r3, ⟨⟨f1, f2, f3, f4, f5⟩, r4⟩, r5, r6, r7⟩ := hr
    have hzf : fR t z F.length (some e, b, 3, j, hd) := fR_ag ⟨f1, f2, f3, f4, f5⟩ (ag_m az (fun c i hc => by unfold wTp at hc; omega))
    refine ⟨ag_t r1 (ag_m az (fun c i hc => by unfold wZ at hc; omega)), hR_ag r2 (ag_m az (fun c i hc => by unfold wH at hc; omega)), loR_ag r3 (ag_m az (fun c i hc => by unfold wL at hc; omega)), ⟨⟨?_, hzf.2.1, hzf.2.2.1, (fun _ => ⟨?_, fun e' he' => by cases he'; exact h16⟩), hzf.2.2.2.2.1, hzf.2.2.2.2.2.1, hzf.2.2.2.2.2.2.1, hzf.2.2.2.2.2.2.2.1, (fun hh => by cases hh)⟩, fRs_ag r4 (ag_m az (fun c i hc => by unfold wFr at hc; omega))⟩, ?_, ⟨(az _ _ (by omega)).1.trans r6.1, r6.2⟩, rgR_ag r7 (ag_m az (fun c i hc => by unfold wG at hc; omega))⟩
    · have := hzf.1
      rw [sCd_c h16] at this ⊢
      exact this
    · show (hd ++ [x]).length ≤ 6
      rw [List.length_append]; show hd.length + 1 ≤ 6; omega
    · show akR z (aS F ++ (if (3 : Nat) = 3 then hd ++ [x] else []))
      rw [if_pos rfl, ← List.append_assoc]
      refine ⟨?_, fun i x' hi => ?_⟩
      · show z.1 64 92 = ie (((aS F ++ hd ++ [x]).length : Nat) : Int)
        rw [List.length_append (as := aS F ++ hd)]
        exact wi_at _ _ _ _
      · by_cases hil' : i < (aS F ++ hd).length
        · rw [List.getElem?_append_left hil'] at hi
          obtain ⟨s1, s2⟩ := g5.2 i x' hi
          exact ⟨(az _ _ (by omega)).1.trans ((w2 _ _ (by unfold wB; omega)).1.trans s1), (az _ _ (by omega)).2.trans ((w2 _ _ (by unfold wB; omega)).2.trans s2)⟩
        · rw [List.getElem?_append_right (by omega)] at hi
          have : i = (aS F ++ hd).length := by
            have := (List.getElem?_eq_some_iff.mp hi).1
            have : i - (aS F ++ hd).length < 1 := this
            omega
          subst this
          rw [Nat.sub_self] at hi
          cases hi
          refine ⟨?_, ?_⟩
          · show (wi (wj (wi w 129 (aS F ++ hd).length (w.1 64 108)) 130 (aS F ++ hd).length (w.2 64 109)) 64 92 (ie (((aS F ++ hd).length + 1 : Nat) : Int))).1 129 (aS F ++ hd).length = _
            rw [wi_ne _ _ _ _ _ _ (by omega), wj_1, wi_at]; exact q2.1
          · show (wi (wj (wi w 129 (aS F ++ hd).length (w.1 64 108)) 130 (aS F ++ hd).length (w.2 64 109)) 64 92 (ie (((aS F ++ hd).length + 1 : Nat) : Int))).2 130 (aS F ++ hd).length = _
            rw [wi_2, wj_at]; exact q2.2
  · obtain ⟨f1, f2, f3, f4, f5, f6, f7⟩ := rr_b4 v h w2 w3 (w5 hy)
    exact ⟨ag_t f1 (ag_m az (fun c i hc => by unfold wZ at hc; omega)), hR_ag f2 (ag_m az (fun c i hc => by unfold wH at hc; omega)), (az _ _ (by omega)).1.trans f3, (az _ _ (by omega)).1.trans f4, (az _ _ (by omega)).1.trans f5, (az _ _ (by omega)).1.trans f6, fun hh => by omega⟩
