set_option maxRecDepth 100000
theorem fit_sz (f : Bool) (A B : Ty) : 2 * tyL (tyP f A B) - 1 = (2 * tyL A - 1) + (2 * tyL B - 1) + 1 := by
  rw [tyL_P]; have := tyL_pos A; have := tyL_pos B; omega
theorem r_fits {T : List Tok} {n : Nat} {D : List Df} {t : Tr} {w : Nat → Option Ty} {Y : List Ty} {e : Nat} (g : pm_s) (he : e < t.1) (m : Nat) : ∀ (l : List (Ty × Ty)) (c : CS) (u : pm_J), szL l ≤ m → m ≤ 300 → stR u Y l → rC T n D t c w u Y →
    ∃ (v : pm_J) (b : Bool) (f' : Fi), (∀ N fuel, m + 1 ≤ fuel → K_Md_fits_17 N g fuel (ie (e : Nat)) (ie (l.length : Nat)) u = some (ib b, v)) ∧ rC T n D t (sFt c e f') w v Y ∧ frP u v ∧ (match fitL l (c.2.2.1 e) with | none => b = false | some f => b = true ∧ f' = f) := by
  induction m with
  | zero =>
    intro l c u hm _ _ H
    have hl := szL_len l
    cases l with
    | nil =>
      refine ⟨u, true, c.2.2.1 e, fun N fuel hf => ?_, by rw [sFt_same]; exact H, frP_r _, rfl, rfl⟩
      obtain ⟨fuel, rfl⟩ : ∃ f', fuel = f' + 1 := ⟨fuel - 1, by omega⟩
      rw [K_Md_fits_17, if_pos (show ie (([] : List (Ty × Ty)).length : Nat) ≤ 0 by decide)]; rfl
    | cons q l => have : (q :: l).length = l.length + 1 := rfl
                  omega
  | succ m ih =>
    intro l c u hm hm3 hst H
    cases l with
    | nil =>
      refine ⟨u, true, c.2.2.1 e, fun N fuel hf => ?_, by rw [sFt_same]; exact H, frP_r _, rfl, rfl⟩
      obtain ⟨fuel, rfl⟩ : ∃ f', fuel = f' + 1 := ⟨fuel - 1, by omega⟩
      rw [K_Md_fits_17, if_pos (show ie (([] : List (Ty × Ty)).length : Nat) ≤ 0 by decide)]; rfl
    | cons q l =>
      obtain ⟨p, s⟩ := q
      obtain ⟨⟨kp, kp1, kp2⟩, ⟨ks, ks1, ks2⟩, hst'⟩ := hst
      have kp2 : Y[kp]? = some p := kp2
      have ks2 : Y[ks]? = some s := ks2
      have hsz : szL ((p, s) :: l) = 2 * tyL p - 1 + szL l := rfl
      have hpp := tyL_pos p
      have hll := szL_len l
      have h18 := H.2.2.2.1.2
      have hR := H.2.2.2.2.1
      have hYb := hR.2.1
      have hkpl := (List.getElem?_eq_some_iff.mp kp2).1
      have hksl := (List.getElem?_eq_some_iff.mp ks2).1
      have hln : ie (((p, s) :: l).length : Nat) + (-1) = ie (l.length : Nat) := by
        rw [show (-1 : Int32) = ie (-1) from rfl, ie_add]; congr 1; show ((l.length + 1 : Nat) : Int) + -1 = _; omega
      have npos : ¬ (ie (((p, s) :: l).length : Nat) ≤ 0) := fun hh => by
        have := (inle ((p, s) :: l).length 0 (by show l.length + 1 < _; omega) (by omega)).mp hh
        have : (((p, s) :: l).length) = l.length + 1 := rfl
        omega
      have ok4 := okn l.length 400 (by omega) (by omega)
      have hgp := tyR_g hR kp p kp2
      have hM := tyG_M hgp
      have kp1' : u.1 103 l.length = ie (kp : Nat) := kp1
      have ks1' : u.1 104 l.length = ie (ks : Nat) := ks1
      have st : ∀ N fuel, K_Md_fits_17 N g (fuel + 1) (ie (e : Nat)) (ie (((p, s) :: l).length : Nat)) u = if ie (kp : Nat) < 2 then K_Md_fits_102 N g (K_Md_fits_17 N g fuel) (ie (e : Nat)) (ie (l.length : Nat)) (ie (kp : Nat)) (ie (ks : Nat)) u else if 6 ≤ ie (kp : Nat) then K_Md_fits_102 N g (K_Md_fits_17 N g fuel) (ie (e : Nat)) (ie (l.length : Nat)) (ie (kp : Nat)) (ie (ks : Nat)) u else if pm_ok (((4 * ie (e : Nat)) + ie (kp : Nat)) - 2) 9600 = true then if (u.1 90 ((((4 * ie (e : Nat)) + ie (kp : Nat)) - 2).toNatClampNeg)) < 0 then if pm_ok (((4 * ie (e : Nat)) + ie (kp : Nat)) - 2) 9600 = true then K_Md_fits_17 N g fuel (ie (e : Nat)) (ie (l.length : Nat)) (wi u 90 ((((4 * ie (e : Nat)) + ie (kp : Nat)) - 2).toNatClampNeg) (ie (ks : Nat))) else none else if pm_ok (((4 * ie (e : Nat)) + ie (kp : Nat)) - 2) 9600 = true then if (u.1 90 ((((4 * ie (e : Nat)) + ie (kp : Nat)) - 2).toNatClampNeg)) = ie (ks : Nat) then if pm_ok (((4 * ie (e : Nat)) + ie (kp : Nat)) - 2) 9600 = true then K_Md_fits_17 N g fuel (ie (e : Nat)) (ie (l.length : Nat)) (wi u 90 ((((4 * ie (e : Nat)) + ie (kp : Nat)) - 2).toNatClampNeg) (ie (ks : Nat))) else none else some (0, u) else none else none := by
        intro N fuel
        rw [K_Md_fits_17, if_neg npos, hln, if_pos ok4, if_pos ok4, ntn l.length (by omega), kp1', ks1']
      have hd102 : ∀ (z : Int32 × pm_J), (∀ N fuel, m + 1 ≤ fuel → K_Md_fits_102 N g (K_Md_fits_17 N g fuel) (ie (e : Nat)) (ie (l.length : Nat)) (ie (kp : Nat)) (ie (ks : Nat)) u = some z) → ¬ (2 ≤ kp ∧ kp < 6) → ∀ N fuel, m + 1 + 1 ≤ fuel → K_Md_fits_17 N g fuel (ie (e : Nat)) (ie (((p, s) :: l).length : Nat)) u = some z := by
        intro z hz hk N fuel hf
        obtain ⟨fuel, rfl⟩ : ∃ f', fuel = f' + 1 := ⟨fuel - 1, by omega⟩
        rw [st N fuel]
        by_cases h2 : kp < 2
        · rw [if_pos (show ie (kp : Nat) < 2 from (inlt kp 2 (by omega) (by omega)).mpr h2)]; exact hz N fuel (by omega)
        · rw [if_neg (show ¬ (ie (kp : Nat) < 2) from fun hh => h2 ((inlt kp 2 (by omega) (by omega)).mp hh)), if_pos (show (6 : Int32) ≤ ie (kp : Nat) from (inle 6 kp (by omega) (by omega)).mpr (by omega))]; exact hz N fuel (by omega)
      have t73 : u.1 73 kp = ie (tyM p : Nat) := (hR.2.2.1 kp p kp2).2.2.1
      have hfl : fitL ((p, s) :: l) (c.2.2.1 e) = (fit p s (c.2.2.1 e)).bind fun f' => fitL l f' := rfl
      rw [hfl]
      by_cases h0 : tyM p = 0
      · have hk26 : ¬ (2 ≤ kp ∧ kp < 6) := by
          rintro ⟨a, b⟩
          have : Y[kp]? = some (.num kp) := hR.2.2.2.2.1 kp b
          rw [kp2] at this
          have hp := Option.some.inj this
          rw [hp] at h0
          have h0' : (if kp < 2 then 0 else 2 ^ (kp - 2)) = 0 := h0
          rw [if_neg (by omega)] at h0'
          have := Nat.two_pow_pos (kp - 2); omega
        rw [fit0 p s _ hgp h0]
        by_cases hq : p = s
        · obtain ⟨v, b, f', i1, i2, i3, i4⟩ := ih l c u (by omega) (by omega) hst' H
          rw [if_pos ((tyQ_eq hgp).mpr hq), Option.bind_some]
          refine ⟨v, b, f', hd102 (ib b, v) (fun N fuel hf => ?_) hk26, i2, i3, i4⟩
          unfold K_Md_fits_102
          rw [if_pos (okn kp 100000 (by omega) (by omega)), ntn kp (by omega), t73, h0, if_pos (show ie ((0 : Nat) : Int) = 0 from rfl), if_pos ((r_same hR kp ks p s kp2 ks2).mpr hq)]
          exact i1 N fuel hf
        · rw [if_neg (fun hh => hq ((tyQ_eq hgp).mp hh))]
          refine ⟨u, false, c.2.2.1 e, hd102 (ib false, u) (fun N fuel hf => ?_) hk26, by rw [sFt_same]; exact H, frP_r _, rfl⟩
          unfold K_Md_fits_102
          rw [if_pos (okn kp 100000 (by omega) (by omega)), ntn kp (by omega), t73, h0, if_pos (show ie ((0 : Nat) : Int) = 0 from rfl), if_neg (fun hh => hq ((r_same hR kp ks p s kp2 ks2).mp hh))]; rfl
      · by_cases h6 : 6 ≤ kp
        · obtain ⟨f, A, B, rfl⟩ := (ty_6 hR kp p kp2).mp h6
          obtain ⟨l1, l2, l3, l4, l5, l6, l7, l8, l9, _⟩ := r_parts hR f A B kp kp2
          have e102 : ∀ N fuel, K_Md_fits_102 N g (K_Md_fits_17 N g fuel) (ie (e : Nat)) (ie (l.length : Nat)) (ie (kp : Nat)) (ie (ks : Nat)) u = if ie (ks : Nat) < 6 then some (0, u) else if u.1 70 kp = u.1 70 ks then K_Md_fits_17 N g fuel (ie (e : Nat)) (ie (l.length : Nat) + 2) (wi (wi (wi (wi u 103 l.length (u.1 72 kp)) 104 l.length (u.1 72 ks)) 103 (l.length + 1) (u.1 71 kp)) 104 (l.length + 1) (u.1 71 ks)) else some (0, u) := by
            intro N fuel
            unfold K_Md_fits_102
            rw [if_pos (okn kp 100000 (by omega) (by omega)), ntn kp (by omega), t73, if_neg (show ¬ (ie (tyM (tyP f A B) : Nat) = 0) from fun hh => h0 ((ineq _ 0 (by omega) (by omega)).mp hh)), if_pos (okn kp 100000 (by omega) (by omega)), if_pos (okn ks 100000 (by omega) (by omega)), ntn ks (by omega), if_pos (okn kp 100000 (by omega) (by omega)), if_pos (okn l.length 400 (by omega) (by omega)), if_pos (okn ks 100000 (by omega) (by omega)), if_pos (okn l.length 400 (by omega) (by omega)), if_pos (okn kp 100000 (by omega) (by omega)), iadd1, if_pos (okn (l.length + 1) 400 (by rw [hsz, fit_sz] at hm; omega) (by omega)), if_pos (okn ks 100000 (by omega) (by omega)), if_pos (okn (l.length + 1) 400 (by rw [hsz, fit_sz] at hm; omega) (by omega)), ntn l.length (by omega), ntn (l.length + 1) (by omega)]
          by_cases hx : ∃ C E, s = tyP f C E
          · obtain ⟨C, E, rfl⟩ := hx
            obtain ⟨m1, m2, m3, m4, m5, m6, m7, m8, m9, m10⟩ := r_parts hR f C E ks ks2
            rw [fitP1 f A B C E _ h0]
            have Hn := rC_scr (rC_scr (rC_scr (rC_scr H 103 l.length (ie (l2 : Nat)) (by omega)) 104 l.length (ie (m2 : Nat)) (by omega)) 103 (l.length + 1) (ie (l1 : Nat)) (by omega)) 104 (l.length + 1) (ie (m1 : Nat)) (by omega)
            have hstn : stR (wi (wi (wi (wi u 103 l.length (ie (l2 : Nat))) 104 l.length (ie (m2 : Nat))) 103 (l.length + 1) (ie (l1 : Nat))) 104 (l.length + 1) (ie (m1 : Nat))) Y ((A, C) :: (B, E) :: l) := by
              refine ⟨⟨l1, ?_, l3⟩, ⟨m1, ?_, m3⟩, ⟨l2, ?_, l4⟩, ⟨m2, ?_, m4⟩, stR_fr hst' (fun c i hc hi => ?_)⟩
              · show (wi _ 104 (l.length + 1) _).1 103 (l.length + 1) = _
                rw [wi_ne _ _ _ _ _ _ (by omega), wi_at]
              · exact wi_at _ _ _ _
              · rw [wi_ne _ _ _ _ _ _ (by omega), wi_ne _ _ _ _ _ _ (by omega), wi_ne _ _ _ _ _ _ (by omega), wi_at]
              · rw [wi_ne _ _ _ _ _ _ (by omega), wi_ne _ _ _ _ _ _ (by omega), wi_at]
              · rw [wi_ne _ _ _ _ _ _ (by omega), wi_ne _ _ _ _ _ _ (by omega), wi_ne _ _ _ _ _ _ (by omega), wi_ne _ _ _ _ _ _ (by omega)]
            have hz : szL ((A, C) :: (B, E) :: l) = (2 * tyL A - 1) + ((2 * tyL B - 1) + szL l) := rfl
            obtain ⟨v, b, f', i1, i2, i3, i4⟩ := ih ((A, C) :: (B, E) :: l) c _ (by rw [hsz, fit_sz] at hm; omega) (by omega) hstn Hn
            have hl2 : (((A, C) :: (B, E) :: l).length) = l.length + 2 := rfl
            refine ⟨v, b, f', hd102 (ib b, v) (fun N fuel hf => ?_) (by omega), i2, frP_t (frP_wi (frP_wi (frP_wi (frP_wi (frP_r u) _ _ _ (by unfold rSTp; omega)) _ _ _ (by unfold rSTp; omega)) _ _ _ (by unfold rSTp; omega)) _ _ _ (by unfold rSTp; omega)) i3, ?_⟩
            · rw [e102 N fuel, if_neg (show ¬ (ie (ks : Nat) < 6) from fun hh => by have := (inlt ks 6 (by omega) (by omega)).mp hh; omega), l9, m9, if_pos rfl, l5, l6, m5, m6]
              have h2 : ie (l.length : Nat) + 2 = ie ((((A, C) :: (B, E) :: l).length : Nat) : Int) := by rw [hl2, show (2 : Int32) = ie 2 from rfl, ie_add]; rfl
              rw [h2]; exact i1 N fuel hf
            · have hff : fitL ((A, C) :: (B, E) :: l) (c.2.2.1 e) = (((fit A C (c.2.2.1 e)).bind fun f' => fit B E f').bind fun f' => fitL l f') := by
                show ((fit A C (c.2.2.1 e)).bind fun f' => (fit B E f').bind fun f'' => fitL l f'') = _
                cases fit A C (c.2.2.1 e) <;> rfl
              rw [hff] at i4; exact i4
          · rw [fitP2 f A B s _ h0 hx]
            refine ⟨u, false, c.2.2.1 e, hd102 (ib false, u) (fun N fuel hf => ?_) (by omega), by rw [sFt_same]; exact H, frP_r _, rfl⟩
            rw [e102 N fuel]
            by_cases h6s : ks < 6
            · rw [if_pos (show ie (ks : Nat) < 6 from (inlt ks 6 (by omega) (by omega)).mpr h6s)]; rfl
            · rw [if_neg (show ¬ (ie (ks : Nat) < 6) from fun hh => h6s ((inlt ks 6 (by omega) (by omega)).mp hh))]
              obtain ⟨f2, C, E, rfl⟩ := (ty_6 hR ks s ks2).mp (by omega)
              obtain ⟨m1, m2, m3, m4, m5, m6, m7, m8, m9, m10⟩ := r_parts hR f2 C E ks ks2
              rw [l9, m9, if_neg (fun hh => hx (by rw [ib_inj hh]; exact ⟨C, E, rfl⟩))]; rfl
        · have hpn : p = .num kp := by
            have := hR.2.2.2.2.1 kp (by omega)
            rw [kp2] at this; exact Option.some.inj this
          subst hpn
          have e2 : ¬ (kp < 2) := fun hh => h0 (by show (if kp < 2 then 0 else _) = 0; rw [if_pos hh])
          have h4 : ((4 * ie (e : Nat)) + ie (kp : Nat)) - 2 = ie ((4 * e + (kp - 2) : Nat) : Int) := by
            rw [show (4 : Int32) = ie 4 from rfl, show (2 : Int32) = ie 2 from rfl, ie_mul, ie_add, ie_sub]; congr 1; omega
          have hN := (H.2.2.2.2.2.2 e he).2.2.2.2.2.2.2.2.2.2.2.2.2 (kp - 2) (by omega)
          have st2 : ∀ N fuel, K_Md_fits_17 N g (fuel + 1) (ie (e : Nat)) (ie (((.num kp, s) :: l : List (Ty × Ty)).length : Nat)) u = if u.1 90 (4 * e + (kp - 2)) < 0 then K_Md_fits_17 N g fuel (ie (e : Nat)) (ie (l.length : Nat)) (wi u 90 (4 * e + (kp - 2)) (ie (ks : Nat))) else if u.1 90 (4 * e + (kp - 2)) = ie (ks : Nat) then K_Md_fits_17 N g fuel (ie (e : Nat)) (ie (l.length : Nat)) (wi u 90 (4 * e + (kp - 2)) (ie (ks : Nat))) else some (0, u) := by
            intro N fuel
            rw [st N fuel, if_neg (show ¬ (ie (kp : Nat) < 2) from fun hh => e2 ((inlt kp 2 (by omega) (by omega)).mp hh)), if_neg (show ¬ ((6 : Int32) ≤ ie (kp : Nat)) from fun hh => h6 ((inle 6 kp (by omega) (by omega)).mp hh)), h4, if_pos (okn _ 9600 (by omega) (by omega)), ntn _ (by omega), if_pos (okn _ 9600 (by omega) (by omega)), if_pos (okn _ 9600 (by omega) (by omega))]
          unfold fit
          rw [if_neg e2]
          cases hf : c.2.2.1 e (kp - 2) with
          | none =>
            rw [hf] at hN
            have hN' : u.1 90 (4 * e + (kp - 2)) = ie (-1) := hN
            have H2 := rC_ft (l := kp - 2) H he (by omega) ks s ks2
            obtain ⟨v, b, f', i1, i2, i3, i4⟩ := ih l _ _ (by omega) (by omega) (stR_fr hst' (fun c i hc hi => wi_ne _ _ _ _ _ _ (by omega))) H2
            rw [sFt_2] at i2
            refine ⟨v, b, f', fun N fuel hfu => ?_, i2, frP_t (frP_wi (frP_r u) _ _ _ (by unfold rSTp; omega)) i3, ?_⟩
            · obtain ⟨fuel, rfl⟩ : ∃ f', fuel = f' + 1 := ⟨fuel - 1, by omega⟩
              rw [st2 N fuel, hN', if_pos (show ie (-1) < 0 by decide)]; exact i1 N fuel (by omega)
            · have hup : (sFt c e (pu_upd (c.2.2.1 e) (kp - 2) (some s))).2.2.1 e = pu_upd (c.2.2.1 e) (kp - 2) (some s) := upd_same _ _ _
              rw [hup] at i4; exact i4
          | some r =>
            rw [hf] at hN
            obtain ⟨kr, kr1, kr2⟩ := hN
            have hkrl := (List.getElem?_eq_some_iff.mp kr2).1
            have nneg : ¬ (ie (kr : Nat) < 0) := fun hh => by have := (inlt kr 0 (by omega) (by omega)).mp hh; omega
            show ∃ v b f', _ ∧ _ ∧ _ ∧ (match ((if tyQ r s = true then some (c.2.2.1 e) else none).bind fun f' => fitL l f') with | none => _ | some f => _)
            by_cases eq : r = s
            · have hks : kr = ks := by
                have := (r_same hR kr ks r s kr2 ks2).mpr eq
                exact ien_inj this (by omega) (by omega)
              obtain ⟨v, b, f', i1, i2, i3, i4⟩ := ih l c u (by omega) (by omega) hst' H
              rw [if_pos ((tyQ_eq (tyR_g hR kr r kr2)).mpr eq), Option.bind_some]
              refine ⟨v, b, f', fun N fuel hfu => ?_, i2, i3, i4⟩
              obtain ⟨fuel, rfl⟩ : ∃ f', fuel = f' + 1 := ⟨fuel - 1, by omega⟩
              rw [st2 N fuel, kr1, if_neg nneg, if_pos (by rw [hks]), wi_self _ _ _ _ (by rw [kr1, hks])]; exact i1 N fuel (by omega)
            · rw [if_neg (fun hh => eq ((tyQ_eq (tyR_g hR kr r kr2)).mp hh))]
              refine ⟨u, false, c.2.2.1 e, fun N fuel hfu => ?_, by rw [sFt_same]; exact H, frP_r _, rfl⟩
              obtain ⟨fuel, rfl⟩ : ∃ f', fuel = f' + 1 := ⟨fuel - 1, by omega⟩
              rw [st2 N fuel, kr1, if_neg nneg, if_neg (fun hh => eq ((r_same hR kr ks r s kr2 ks2).mp hh))]; rfl
