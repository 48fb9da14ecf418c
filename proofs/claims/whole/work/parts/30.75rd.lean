set_option maxRecDepth 100000
theorem list_at (Y : List Ty) (i : Nat) (h : i < Y.length) : ∃ q, Y[i]? = some q := ⟨Y[i], List.getElem?_eq_getElem h⟩
theorem r_filled {T : List Tok} {n : Nat} {D : List Df} {t : Tr} {c : CS} {w : Nat → Option Ty} {Y : List Ty} {e kp : Nat} {p s : Ty} {u : pm_J} (g : pm_s) (he : e < t.1) (H : rC T n D t c w u Y) (hkp : Y[kp]? = some p) (hs : sbt (c.2.2.1 e) p = some s) (hL : tyL p ≤ 100) (hY : Y.length ≤ 60000) :
    ∃ (z : Nat) (v : pm_J) (Z : List Ty), (∀ N, 200000 ≤ N → F_Md_filled N (ie (kp : Nat)) (ie (e : Nat)) g u = some (ie (z : Nat), v)) ∧ rC T n D t c w v (Y ++ Z) ∧ frP u v ∧ (Y ++ Z)[z]? = some s ∧ Z.length ≤ 99 := by
  have hR := H.2.2.2.2.1
  have h18 := H.2.2.2.1.2
  have hkl := (List.getElem?_eq_some_iff.mp hkp).1
  have t73 : u.1 73 kp = ie (tyM p : Nat) := (hR.2.2.1 kp p hkp).2.2.1
  have hgp := tyR_g hR kp p hkp
  have hM := tyG_M hgp
  have tail : ∀ N, F_Md_filled N (ie (kp : Nat)) (ie (e : Nat)) g u = if ie (tyM p : Nat) = 0 then some (ie (kp : Nat), u) else K_Md_filled_13 N g N (ie (kp : Nat)) (ie (e : Nat)) 0 u := by
    intro N
    unfold F_Md_filled
    rw [if_pos (okn kp 100000 (by omega) (by omega)), ntn kp (by omega), t73]
  by_cases h0 : tyM p = 0
  · rw [sbt_0 _ hgp h0] at hs
    cases hs
    refine ⟨kp, u, [], fun N _ => ?_, by rw [List.append_nil]; exact H, frP_r _, by rw [List.append_nil]; exact hkp, Nat.zero_le _⟩
    rw [tail, h0, if_pos (show ie ((0 : Nat) : Int) = 0 from rfl)]
  · have tl2 : ∀ N, F_Md_filled N (ie (kp : Nat)) (ie (e : Nat)) g u = K_Md_filled_13 N g N (ie (kp : Nat)) (ie (e : Nat)) 0 u := fun N => by
      rw [tail, if_neg (show ¬ (ie (tyM p : Nat) = 0) from fun hh => h0 ((ineq _ 0 (by omega) (by omega)).mp hh))]
    obtain ⟨u1, a1, a2, a3, a4⟩ := r_fil g kp e (by omega) (by omega) u (kp + 1) 0 u (by omega) (fun _ _ _ => rfl) rfl (fun j hj => by omega)
    have H1 : rC T n D t c w u1 Y := by
      have := rC_grow (v := u1) H [] (by rw [List.append_nil]; exact tyR_w hR (a2 _ _ (by omega)) (fun c i h1 h2 => a2 _ _ (by omega))) (fun b i _ _ h3 => ⟨a2 _ _ (by omega), by rw [a3]⟩)
      rw [List.append_nil] at this; exact this
    have hR1 := H1.2.2.2.2.1
    by_cases h6 : 6 ≤ kp
    · obtain ⟨u2, M, b1, b2, b3, b4, b5, b6⟩ := r_mark g hR1 kp p hkp h6
      have H2 : rC T n D t c w u2 Y := by
        have := rC_grow (v := u2) H1 [] (by rw [List.append_nil]; exact tyR_w hR1 (b2 _ _ (by omega)) (fun c i h1 h2 => b2 _ _ (by omega))) (fun b i _ _ h3 => ⟨b2 _ _ (by omega), by rw [b3]⟩)
        rw [List.append_nil] at this; exact this
      have base : ∀ i, i ≤ kp → ∀ q, Y[i]? = some q → (i < 6 ∨ tyM q = 0) → ∀ s', sbt (c.2.2.1 e) q = some s' → tyN Y (u2.1 101 i) (some s') := by
        intro i hi q hq hh s' hs'
        rw [b2 _ _ (by omega), a4 i hi]
        unfold fil
        by_cases h2i : i < 2
        · rw [if_pos h2i]
          have hqn : q = .num i := by
            have := hR.2.2.2.2.1 i (by omega)
            rw [hq] at this; exact Option.some.inj this
          subst hqn
          rw [sbt, if_pos h2i] at hs'; cases hs'
          exact ⟨i, rfl, hq⟩
        · rw [if_neg h2i]
          by_cases h6i : i < 6
          · rw [if_pos h6i]
            have hqn : q = .num i := by
              have := hR.2.2.2.2.1 i (by omega)
              rw [hq] at this; exact Option.some.inj this
            subst hqn
            rw [sbt, if_neg h2i] at hs'
            have := (H.2.2.2.2.2.2 e he).2.2.2.2.2.2.2.2.2.2.2.2.2 (i - 2) (by omega)
            rw [hs'] at this; exact this
          · rw [if_neg h6i]
            have hq0 : tyM q = 0 := by omega
            have t73i : u.1 73 i = ie (tyM q : Nat) := (hR.2.2.1 i q hq).2.2.1
            rw [t73i, hq0, if_pos (show ie ((0 : Nat) : Int) = 0 from rfl)]
            rw [sbt_0 _ (tyR_g hR i q hq) hq0] at hs'; cases hs'
            exact ⟨i, rfl, hq⟩
      have lp : ∀ (r i : Nat) (v : pm_J) (Z : List Ty), i + r = kp + 1 → 6 ≤ i → rC T n D t c w v (Y ++ Z) → frP u v → (∀ j, j ≤ kp → v.1 102 j = ib (M j)) → (∀ j, j ≤ kp → ∀ q, Y[j]? = some q → (j < 6 ∨ tyM q = 0 ∨ (j < i ∧ M j = true)) → ∀ s', sbt (c.2.2.1 e) q = some s' → tyN (Y ++ Z) (v.1 101 j) (some s')) → (∀ z ∈ Z, ∃ q ∈ subL p, sbt (c.2.2.1 e) q = some z) → ∃ (z : Nat) (v' : pm_J) (Z' : List Ty), (∀ N, 200000 ≤ N → ∀ f, r + 1 ≤ f → K_Md_filled_82 N g f (ie (kp : Nat)) (ie (i : Nat)) v = some (ie (z : Nat), v')) ∧ rC T n D t c w v' (Y ++ Z') ∧ frP u v' ∧ (Y ++ Z')[z]? = some s ∧ Z'.length ≤ 99 := by
        have pg : ∀ (v : pm_J) (Z : List Ty), rC T n D t c w v (Y ++ Z) → (∀ z ∈ Z, ∃ q ∈ subL p, sbt (c.2.2.1 e) q = some z) → Z.length ≤ 99 := by
          intro v Z Hv hZ
          have h1 := pigeon ((subL p).filterMap (sbt (c.2.2.1 e))) Z (tyR_nd Hv.2.2.2.2.1) (fun x hx => by
            obtain ⟨q, q1, q2⟩ := hZ x hx
            exact List.mem_filterMap.mpr ⟨q, q1, q2⟩)
          have h2 := fm_len (sbt (c.2.2.1 e)) (subL p)
          have h3 := subL_len p
          omega
        intro r
        induction r with
        | zero =>
          intro i v Z hi h6i Hv hfr h102 h101 hZ
          obtain ⟨z, z1, z2⟩ := h101 kp (Nat.le_refl _) p hkp (Or.inr (Or.inr ⟨by omega, b5⟩)) s hs
          refine ⟨z, v, Z, fun N _ f hf => ?_, Hv, hfr, z2, pg v Z Hv hZ⟩
          obtain ⟨f, rfl⟩ : ∃ f', f = f' + 1 := ⟨f - 1, by omega⟩
          rw [K_Md_filled_82, if_pos ((inlt _ _ (by omega) (by omega)).mpr (by omega)), if_pos (okn kp 100000 (by omega) (by omega)), ntn kp (by omega), z1]
        | succ r ih =>
          intro i v Z hi h6i Hv hfr h102 h101 hZ
          have hZ99 := pg v Z Hv hZ
          have hRv := Hv.2.2.2.2.1
          obtain ⟨q, hq⟩ := list_at Y i (by omega)
          have hqv := gapp hq Z
          have t73i : v.1 73 i = ie (tyM q : Nat) := (hRv.2.2.1 i q hqv).2.2.1
          have hMq := tyG_M (tyR_g hR i q hq)
          have n1 : ¬ (ie (kp : Nat) < ie (i : Nat)) := fun hh => by have := (inlt _ _ (by omega) (by omega)).mp hh; omega
          have ok := okn i 100000 (by omega) (by omega)
          have nt := ntn i (by omega)
          have skip : (M i = false ∨ tyM q = 0) → ∃ (z : Nat) (v' : pm_J) (Z' : List Ty), (∀ N, 200000 ≤ N → ∀ f, r + 1 ≤ f → K_Md_filled_82 N g f (ie (kp : Nat)) (ie ((i + 1 : Nat) : Int)) v = some (ie (z : Nat), v')) ∧ rC T n D t c w v' (Y ++ Z') ∧ frP u v' ∧ (Y ++ Z')[z]? = some s ∧ Z'.length ≤ 99 := by
            intro hsk
            refine ih (i + 1) v Z (by omega) (by omega) Hv hfr h102 (fun j hj q' hq' hh s' hs' => ?_) hZ
            by_cases ej : j = i
            · subst ej
              rw [hq] at hq'; cases hq'
              refine h101 j hj q hq ?_ s' hs'
              rcases hh with hh | hh | ⟨_, hh⟩
              · exact Or.inl hh
              · exact Or.inr (Or.inl hh)
              · rcases hsk with hsk | hsk
                · rw [hh] at hsk; cases hsk
                · exact Or.inr (Or.inl hsk)
            · exact h101 j hj q' hq' (by rcases hh with hh | hh | ⟨h1, h2⟩; exact Or.inl hh; exact Or.inr (Or.inl hh); exact Or.inr (Or.inr ⟨by omega, h2⟩)) s' hs'
          have v102 := h102 i (by omega)
          cases hMi : M i with
          | false =>
            obtain ⟨z, v', Z', y1, y2⟩ := skip (Or.inl hMi)
            refine ⟨z, v', Z', fun N hN f hf => ?_, y2⟩
            obtain ⟨f, rfl⟩ : ∃ f', f = f' + 1 := ⟨f - 1, by omega⟩
            rw [K_Md_filled_82, if_neg n1, if_pos ok, nt, v102, hMi, if_pos (show ib false = 0 from rfl), iadd1]
            exact y1 N hN f (by omega)
          | true =>
            by_cases hq0 : tyM q = 0
            · obtain ⟨z, v', Z', y1, y2⟩ := skip (Or.inr hq0)
              refine ⟨z, v', Z', fun N hN f hf => ?_, y2⟩
              obtain ⟨f, rfl⟩ : ∃ f', f = f' + 1 := ⟨f - 1, by omega⟩
              rw [K_Md_filled_82, if_neg n1, if_pos ok, nt, v102, hMi, if_neg (show ¬ (ib true = 0) by decide), if_pos ok, t73i, hq0, if_pos (show ie ((0 : Nat) : Int) = 0 from rfl), iadd1]
              exact y1 N hN f (by omega)
            · obtain ⟨⟨q', q1, q2⟩, q3⟩ := b6 i h6i (by omega) hMi
              rw [hq] at q2; cases q2
              obtain ⟨f0, A, B, rfl⟩ := (ty_6 hR i q hq).mp h6i
              obtain ⟨l, r', l1, r1, l2, r2, l3, r3, l4, _⟩ := r_parts hRv f0 A B i hqv
              obtain ⟨lY, rY, lY1, rY1, _, _, lY3, rY3, _, _⟩ := r_parts hR f0 A B i hq
              have el : l = lY := hRv.2.2.2.1 _ _ _ l1 (gapp lY1 Z)
              have er : r' = rY := hRv.2.2.2.1 _ _ _ r1 (gapp rY1 Z)
              subst el; subst er
              obtain ⟨ml, mr⟩ := q3 f0 A B l r' hq lY1 rY1
              obtain ⟨s', hs'⟩ := sbt_sub hs q1
              have hs2 := hs'
              rw [sbtP] at hs2
              cases hA : sbt (c.2.2.1 e) A with
              | none => rw [hA] at hs2; cases hs2
              | some sA =>
                cases hB : sbt (c.2.2.1 e) B with
                | none => rw [hA, hB] at hs2; cases hs2
                | some sB =>
                  rw [hA, hB] at hs2
                  have hs3 : s' = tyP f0 sA sB := (Option.some.inj hs2).symm
                  subst hs3
                  obtain ⟨ka, ka1, ka2⟩ := h101 l (by omega) A lY1 (by by_cases hh : l < 6; exact Or.inl hh; exact Or.inr (Or.inr ⟨l3, ml⟩)) sA hA
                  obtain ⟨kb, kb1, kb2⟩ := h101 r' (by omega) B rY1 (by by_cases hh : r' < 6; exact Or.inl hh; exact Or.inr (Or.inr ⟨r3, mr⟩)) sB hB
                  obtain ⟨z3, v3, Z3, x1, x2, x3, x4, x5, x6⟩ := r_type2 g hRv f0 sA sB ka kb ka2 kb2 (by rw [List.length_append]; omega)
                  have hv3 : ∀ a k, ¬ (a = 64 ∧ k = 18) → ¬ (70 ≤ a ∧ a ≤ 76) → v3.1 a k = v.1 a k ∧ v3.2 a k = v.2 a k := fun a k h1 h2 => x5 a k (rSy_no h1 h2)
                  have Hn := rC_scr (rC_grow Hv Z3 x2 (fun a k h1 h2 _ => hv3 a k h1 h2)) 101 i (ie (z3 : Nat)) (by omega)
                  rw [List.append_assoc] at Hn x4
                  obtain ⟨z, v', Z', y1, y2⟩ := ih (i + 1) (wi v3 101 i (ie (z3 : Nat))) (Z ++ Z3) (by omega) (by omega) Hn (frP_wi (frP_t hfr (frP_y x5)) _ _ _ (by unfold rSTp; omega)) (fun j hj => by rw [wi_ne _ _ _ _ _ _ (by omega), (hv3 _ _ (by omega) (by omega)).1]; exact h102 j hj) (fun j hj q' hq' hh s'' hs'' => by
                    by_cases ej : j = i
                    · subst ej
                      rw [hq] at hq'; cases hq'
                      rw [hs'] at hs''; cases hs''
                      rw [wi_at]; exact ⟨z3, rfl, x4⟩
                    · rw [wi_ne _ _ _ _ _ _ (by omega), (hv3 _ _ (by omega) (by omega)).1, ← List.append_assoc]
                      exact tyN_app (h101 j hj q' hq' (by rcases hh with hh | hh | ⟨h1, h2⟩; exact Or.inl hh; exact Or.inr (Or.inl hh); exact Or.inr (Or.inr ⟨by omega, h2⟩)) s'' hs'') Z3) (fun z hz => by
                    rcases List.mem_append.mp hz with hz | hz
                    · exact hZ z hz
                    · rw [x6 z hz]; exact ⟨_, q1, hs'⟩)
                  refine ⟨z, v', Z', fun N hN f hf => ?_, y2⟩
                  obtain ⟨f, rfl⟩ : ∃ f', f = f' + 1 := ⟨f - 1, by omega⟩
                  rw [K_Md_filled_82, if_neg n1, if_pos ok, nt, v102, hMi, if_neg (show ¬ (ib true = 0) by decide), if_pos ok, t73i, if_neg (show ¬ (ie (tyM (tyP f0 A B) : Nat) = 0) from fun hh => hq0 ((ineq _ 0 (by omega) (by omega)).mp hh)), if_pos ok, if_pos ok, l2, if_pos (okn l 100000 (by omega) (by omega)), if_pos ok, r2, if_pos (okn r' 100000 (by omega) (by omega)), l4, ntn l (by omega), ntn r' (by omega), ka1, kb1, x1 N hN, Option.bind_some, if_pos ok, iadd1]
                  exact y1 N hN f (by omega)
      obtain ⟨z, v', Z', y1, y2⟩ := lp (kp + 1 - 6) 6 u2 [] (by omega) (by omega) (by rw [List.append_nil]; exact H2) (fun a k h => ⟨(b2 a k (by unfold rSTp at h; omega)).trans (a2 a k (by unfold rSTp at h; omega)), by rw [b3, a3]⟩) b4 (fun j hj q hq hh s' hs' => by
        rw [List.append_nil]
        exact base j hj q hq (by rcases hh with hh | hh | ⟨h1, _⟩; exact Or.inl hh; exact Or.inr hh; exact Or.inl (by omega)) s' hs') (fun z hz => by cases hz)
      refine ⟨z, v', Z', fun N hN => ?_, y2⟩
      rw [tl2]
      have := a1 N N (by omega)
      have this' : K_Md_filled_13 N g N (ie (kp : Nat)) (ie (e : Nat)) 0 u = (F_Md_mark N (ie (kp : Nat)) g u1).bind fun q4 => K_Md_filled_82 N g N (ie (kp : Nat)) 6 q4 := this
      rw [this', b1 N hN, Option.bind_some]
      exact y1 N hN N (by omega)
    · have hpn : p = .num kp := by
        have := hR.2.2.2.2.1 kp (by omega)
        rw [hkp] at this; exact Option.some.inj this
      subst hpn
      have e2 : ¬ (kp < 2) := fun hh => h0 (by show (if kp < 2 then 0 else _) = 0; rw [if_pos hh])
      rw [sbt, if_neg e2] at hs
      obtain ⟨v, q1, q2, q3, q4⟩ := r_mk1 g kp (by omega) (kp + 1) 0 u1 (by omega) (fun _ _ _ => rfl) rfl (fun j hj => by omega)
      have hz := (H.2.2.2.2.2.2 e he).2.2.2.2.2.2.2.2.2.2.2.2.2 (kp - 2) (by omega)
      rw [hs] at hz
      obtain ⟨z, z1, z2⟩ := hz
      have hv101 : v.1 101 kp = ie (z : Nat) := by
        rw [q2 _ _ (by omega), a4 kp (Nat.le_refl _)]
        unfold fil; rw [if_neg e2, if_pos (by omega)]; exact z1
      have Hv : rC T n D t c w v Y := by
        have := rC_grow (v := v) H1 [] (by rw [List.append_nil]; exact tyR_w hR1 (q2 _ _ (by omega)) (fun c i h1 h2 => q2 _ _ (by omega))) (fun b i _ _ h3 => ⟨q2 _ _ (by omega), by rw [q3]⟩)
        rw [List.append_nil] at this; exact this
      refine ⟨z, v, [], fun N hN => ?_, by rw [List.append_nil]; exact Hv, fun a k h => ⟨(q2 a k (by unfold rSTp at h; omega)).trans (a2 a k (by unfold rSTp at h; omega)), by rw [q3, a3]⟩, by rw [List.append_nil]; exact z2, Nat.zero_le _⟩
      rw [tl2]
      have := a1 N N (by omega)
      have this' : K_Md_filled_13 N g N (ie (kp : Nat)) (ie (e : Nat)) 0 u = (F_Md_mark N (ie (kp : Nat)) g u1).bind fun q4 => K_Md_filled_82 N g N (ie (kp : Nat)) 6 q4 := this
      have hmk : F_Md_mark N (ie (kp : Nat)) g u1 = some v := by
        unfold F_Md_mark
        have h1 := q1 N N (by omega)
        have h1' : K_Md_mark_2 N g N (ie (kp : Nat)) 0 u1 = K_Md_mark_31 N g N (ie (kp : Nat)) v := h1
        rw [h1']
        obtain ⟨M, rfl⟩ : ∃ M, N = M + 1 := ⟨N - 1, by omega⟩
        rw [K_Md_mark_31, if_pos (show ie (kp : Nat) < 6 from (inlt kp 6 (by omega) (by omega)).mpr (by omega))]
      rw [this', hmk, Option.bind_some]
      obtain ⟨M, hM⟩ : ∃ M, N = M + 1 := ⟨N - 1, by omega⟩
      rw [show K_Md_filled_82 N g N = K_Md_filled_82 N g (M + 1) by rw [← hM]]
      rw [K_Md_filled_82, if_pos (show ie (kp : Nat) < 6 from (inlt kp 6 (by omega) (by omega)).mpr (by omega)), if_pos (okn kp 100000 (by omega) (by omega)), ntn kp (by omega), hv101]
