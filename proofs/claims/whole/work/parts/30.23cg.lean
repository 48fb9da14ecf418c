set_option maxRecDepth 100000
def bc (m : Nat) : Nat := m % 2 + m / 2 % 2 + m / 4 % 2 + m / 8 % 2
theorem c_bits16 : ∀ m, m < 16 → ∀ (g : pm_s) (u : pm_J), F_Integer_bitCount (ie ((m : Nat) : Int)) g u = some (ie (bc m : Nat)) := by
  intro m hm g u
  have : ∀ m, m < 16 → F_Integer_bitCount (ie ((m : Nat) : Int)) (0, 0, 0, 0) (fun _ _ => 0, fun _ _ => 0) = some (ie (bc m : Nat)) := by decide +kernel
  exact this m hm
theorem c_pars {T : List Tok} {n d : Nat} {cl0 : Option Nat} (N : Nat) (hN : 100000 ≤ N) (hG : tkG T) (j : Nat) : ∀ (f x2 : Nat) (sc : Sc) (ps : PM) (s : PS) (g : pm_s) (u : pm_J) (Y : List Ty), j + List.length ps = 6 → j + 2 < f → x2 ≤ s.1 → cP T n d cl0 sc ps s g u Y → s.1 ≤ T.length → Y.length + (T.length - s.1) ≤ 60000 →
    ∃ (g' : pm_s) (v : pm_J), (∀ g'' w, K_Parser_readDef_157 N g' v = some ((), g'', w) → g'.1 ≤ g''.1 → g'.2.1 ≤ g''.2.1 → K_Parser_readDef_127 N f (ie x2) g u = some ((), g'', w)) ∧ fr (cS_D d) u v ∧ gL g g' ∧
      (match pPar T j sc ps s with
       | .error q => fl T n q g' v ∧ v.1 39 12 = ie d
       | .ok q => ∃ Z : List Ty, cP T n d cl0 q.1 q.2.1 q.2.2 g' v (Y ++ Z) ∧ Y.length + Z.length ≤ Y.length + (q.2.2.1 - s.1) ∧ s.1 ≤ q.2.2.1 ∧ q.2.2.1 ≤ T.length ∧ q.2.2.2.2.2 = s.2.2.2) := by
  have stop : ∀ (f x2 : Nat) (sc : Sc) (ps : PM) (s : PS) (g : pm_s) (u : pm_J) (Y : List Ty), 0 < f → cP T n d cl0 sc ps s g u Y → s.1 ≤ T.length → tkK T s.1 ≠ 15 → ∀ g'' w, K_Parser_readDef_157 N g u = some ((), g'', w) → g.1 ≤ g''.1 → g.2.1 ≤ g''.2.1 → K_Parser_readDef_127 N f (ie x2) g u = some ((), g'', w) := by
    intro f x2 sc ps s g u Y hf h hs hk g'' w hw _ _
    obtain ⟨f, rfl⟩ : ∃ f', f = f' + 1 := ⟨f - 1, by omega⟩
    have k15 : (ie (tkK T s.1 : Int) = 15) ↔ tkK T s.1 = 15 := kq (hG.1 s.1) 15 (by omega)
    rw [K_Parser_readDef_127, k_kind h.1.1 hs g]
    unfold F_Tokens_size
    rw [Option.bind_some, Option.bind_some, if_neg (fun hh => hk (k15.mp hh)), hw]
    split <;> rfl
  have fstop : ∀ (f : Nat) (x2 : Int32) (q : Nat × Nat) (g : pm_s) (u : pm_J), 0 < f → fl T n q g u → ∀ g'' w, K_Parser_readDef_157 N g u = some ((), g'', w) → K_Parser_readDef_127 N f x2 g u = some ((), g'', w) := by
    intro f x2 q g u hf hfl g'' w hw
    obtain ⟨f, rfl⟩ : ∃ f', f = f' + 1 := ⟨f - 1, by omega⟩
    rw [K_Parser_readDef_127, f_kind hfl.1 g]
    unfold F_Tokens_size
    rw [Option.bind_some, Option.bind_some, if_neg (show ¬ ((0 : Int32) = 15) by decide), hw]
    split <;> rfl
  induction j with
  | zero =>
    intro f x2 sc ps s g u Y hj hf hx2 h hs hY
    rw [pPar]
    by_cases hk : tkK T s.1 = 15
    · rw [if_pos hk]
      have hlt := tkK_lt (show tkK T s.1 ≠ 0 by omega)
      obtain ⟨f, rfl⟩ : ∃ f', f = f' + 1 := ⟨f - 1, by omega⟩
      obtain ⟨h1, h2, h3, h4, h5, h7⟩ := h
      have hd := h1.2.1.2.2.1
      have hcur := h1.2.1.1
      have k15 : (ie (tkK T s.1 : Int) = 15) ↔ tkK T s.1 = 15 := kq (hG.1 s.1) 15 (by omega)
      have hx : F_Parser_expect 15 g u = some (wi u 39 11 (ie ((s.1 + 1 : Nat) : Int))) := by
        unfold F_Parser_expect
        rw [k_kind h1.1 hs g, Option.bind_some, if_pos (k15.mpr hk), h1.1.2.2.2, iadd1]
      have hat := cE_at h1 (s.1 + 1)
      have hat1 : (sAt s (s.1 + 1)).1 ≤ T.length := by show s.1 + 1 ≤ _; omega
      have fr0 : fr (cS_D d) u (wi u 39 11 (ie ((s.1 + 1 : Nat) : Int))) := fr_ED (frE_wi _ _ _ (by omega) (fr_refl _ _))
      have hres : ∃ q, (if tkK T (s.1 + 1) = 1 then (.error (4, s.1 + 1) : PE (Sc × PM × PS)) else .error (2, s.1 + 1)) = .error q ∧ flU T n d q g u (F_Parser_readParameter N g u) := by
        unfold F_Parser_readParameter
        rw [hx, Option.bind_some, k_kind hat.1 hat1 g, Option.bind_some]
        have k1 : (ie (tkK T (sAt s (s.1 + 1)).1 : Int) = 1) ↔ tkK T (s.1 + 1) = 1 := kq (hG.1 (s.1 + 1)) 1 (by omega)
        simp only [k1]
        by_cases e1 : tkK T (s.1 + 1) = 1
        · rw [if_pos e1, if_pos e1]
          have e12 : (wi u 39 11 (ie ((s.1 + 1 : Nat) : Int))).1 39 12 = ie d := hcur
          have e38 : (wi u 39 11 (ie ((s.1 + 1 : Nat) : Int))).1 38 (d * 6 + 0) = ie (List.length ps : Nat) := h2
          rw [e12, e_params hat, Option.bind_some, e38, if_neg (show ¬ (ie (List.length ps : Int) < 6) from fun hh => by have := (inlt _ 6 (by omega) (by omega)).mp hh; omega), k_here hat.1 hat1 g, Option.bind_some]
          obtain ⟨t1, t2⟩ := e_tell hat 4 (s.1 + 1) (by omega) (by omega)
          have t1' : F_Fault_tell_3 4 (ie (tkP T n (sAt s (s.1 + 1)).1)) g (wi u 39 11 (ie ((s.1 + 1 : Nat) : Int))) = some (cTell (wi u 39 11 (ie ((s.1 + 1 : Nat) : Int))) 4 (tkP T n (s.1 + 1))) := t1
          have t2' : fl T n (4, s.1 + 1) g (cTell (wi u 39 11 (ie ((s.1 + 1 : Nat) : Int))) 4 (tkP T n (s.1 + 1))) := t2
          rw [t1', Option.bind_some]
          refine ⟨_, rfl, flU_S (flU_fr fr0 (flU_fr (fr_ED (fr_TE (frT_tell _ _ _))) (f_42 N hN hd ?_ t2')))⟩
          exact hcur
        · rw [if_neg e1, if_neg e1]
          refine ⟨_, rfl, flU_S (flU_fr fr0 ?_)⟩
          unfold K_Parser_readParameter_42
          obtain ⟨zl, v1, x1, x2', x3⟩ := e_local N hG hat hat1
          have hpd : pDecl T (sAt s (s.1 + 1)) = .error (2, s.1 + 1) := by
            unfold pDecl; rw [if_neg (show ¬ (tkK T (sAt s (s.1 + 1)).1 = 1) from e1)]; rfl
          rw [hpd] at x3
          have x3' : fl T n (2, s.1 + 1) g v1 := x3
          have h112 : v1.1 39 12 = ie d := (frE_12 x2').trans hcur
          rw [x1, Option.bind_some]
          obtain ⟨p, hpv⟩ := s_tokv x3'.2.1 ((wi u 39 11 (ie ((s.1 + 1 : Nat) : Int))).1 39 11) g
          obtain ⟨xf, hxf⟩ := s_find N (by omega) x3'.2.1 p g
          refine flU_fr (fr_ED x2') ?_
          show flU T n d _ g v1 ((F_Tokens_value ((wi u 39 11 (ie ((s.1 + 1 : Nat) : Int))).1 39 11) g v1).bind fun q5 => (F_Parser_findLocal N q5 g v1).bind fun q6 => if q6 = (-1) then K_Parser_readParameter_84 N ((wi u 39 11 (ie ((s.1 + 1 : Nat) : Int))).1 39 11) zl g v1 else (F_Tokens_placeOf ((wi u 39 11 (ie ((s.1 + 1 : Nat) : Int))).1 39 11) g v1).bind fun q17 => (F_Fault_tell_4 5 q17 g v1).bind fun q18 => K_Parser_readParameter_84 N ((wi u 39 11 (ie ((s.1 + 1 : Nat) : Int))).1 39 11) zl g q18)
          rw [hpv, Option.bind_some, hxf, Option.bind_some]
          by_cases hh1 : xf = -1
          · rw [if_pos hh1]; exact f_84 N hN hd h112 _ _ x3'
          · rw [if_neg hh1]
            obtain ⟨pp, hpp⟩ := s_tokp x3'.2.1 ((wi u 39 11 (ie ((s.1 + 1 : Nat) : Int))).1 39 11) g
            obtain ⟨w, w1, w2, w3, w4⟩ := f_tell4 (d := d) x3' 5 pp
            rw [hpp, Option.bind_some, w1, Option.bind_some]
            exact flU_fr w3 (f_84 N hN hd (w4.trans h112) _ _ w2)
      obtain ⟨q, hq, g', v, y1, y2, y3, y4⟩ := hres
      have hv12 : v.1 39 12 = ie d := (frD_12 y3).trans hcur
      refine ⟨g', v, ?_, y3, y4, ?_⟩
      · intro g'' w hw hg1 hg2
        rw [K_Parser_readDef_127, k_kind h1.1 hs g]
        unfold F_Tokens_size
        rw [Option.bind_some, h1.1.2.1.1, if_neg (fun hh => by have := (inle T.length x2 (by have := h1.1.2.1.2.1; omega) (by have := h1.1.2.1.2.1; omega)).mp hh; omega), Option.bind_some, if_pos (k15.mpr hk), y1, Option.bind_some, if_pos (gI_Tb y4.1), fstop f _ q g' v (by omega) y2 g'' w hw, pmS_some _ _ _ _ hg1 hg2]
      · show (match (if tkK T (s.1 + 1) = 1 then (.error (4, s.1 + 1) : PE (Sc × PM × PS)) else .error (2, s.1 + 1)) with | .error q => _ | .ok q => _)
        rw [hq]; exact ⟨y2, hv12⟩
    · rw [if_neg hk]
      exact ⟨g, u, stop f x2 sc ps s g u Y (by omega) h hs hk, fr_refl _ _, gL_refl h.1.2.2.2.2.1.2.2.1, [], by rw [List.append_nil]; exact h, by show Y.length + 0 ≤ _; omega, Nat.le_refl _, hs, rfl⟩
  | succ j ihj =>
    intro f x2 sc ps s g u Y hj hf hx2 h hs hY
    rw [pPar]
    by_cases hk : tkK T s.1 = 15
    · rw [if_pos hk]
      have hlt := tkK_lt (show tkK T s.1 ≠ 0 by omega)
      obtain ⟨f, rfl⟩ : ∃ f', f = f' + 1 := ⟨f - 1, by omega⟩
      have k15 : (ie (tkK T s.1 : Int) = 15) ↔ tkK T s.1 = 15 := kq (hG.1 s.1) 15 (by omega)
      have hcur := h.1.2.1.1
      have h9 := h.1.1.2.1.2.1
      obtain ⟨g1, v1, y1, y2, y3, y4⟩ := c_par1 N hN hG h hs hY (by omega) hk
      have step : ∀ g'' w, K_Parser_readDef_127 N f (ie ((x2 + 1 : Nat) : Int)) g1 v1 = some ((), g'', w) → g1.1 ≤ g''.1 → g1.2.1 ≤ g''.2.1 → K_Parser_readDef_127 N (f + 1) (ie x2) g u = some ((), g'', w) := by
        intro g'' w hw hg1 hg2
        rw [K_Parser_readDef_127, k_kind h.1.1 hs g]
        unfold F_Tokens_size
        rw [Option.bind_some, h.1.1.2.1.1, if_neg (fun hh => by have := (inle T.length x2 (by omega) (by omega)).mp hh; omega), Option.bind_some, if_pos (k15.mpr hk), y1, Option.bind_some, if_pos (gI_Tb y3.1), iadd1, hw, pmS_some _ _ _ _ hg1 hg2]
      have he : (pB (pDecl T (sAt s (s.1 + 1))) fun l => pB (pX T 17 l.2) fun x => pB (pTy T 20 x.1 0) fun t =>
        pB (pX T 16 (sAt (sWr (sLc x (x.2.2.1.1, pu_upd x.2.2.1.2.1 l.1 (some t.1), x.2.2.1.2.2)) (oE x.2.1 (if (fnd sc (tkV T (s.1 + 1))).isSome = true then some (s.1 + 1) else none))) t.2.1)) fun y =>
        pPar T j ((tkV T (s.1 + 1), l.1) :: sc) ((s.1 + 1, t.1) :: ps) y) = (pB (pB (pDecl T (sAt s (s.1 + 1))) fun l => pB (pX T 17 l.2) fun x => pB (pTy T 20 x.1 0) fun t =>
        pB (pX T 16 (sAt (sWr (sLc x (x.2.2.1.1, pu_upd x.2.2.1.2.1 l.1 (some t.1), x.2.2.1.2.2)) (oE x.2.1 (if (fnd sc (tkV T (s.1 + 1))).isSome = true then some (s.1 + 1) else none))) t.2.1)) fun y =>
        (.ok ((tkV T (s.1 + 1), l.1) :: sc, (s.1 + 1, t.1) :: ps, y) : PE (Sc × PM × PS))) fun q => pPar T j q.1 q.2.1 q.2.2) := by
        simp only [pB_assoc]; rfl
      show ∃ g' v, _ ∧ _ ∧ _ ∧ (match (pB (pDecl T (sAt s (s.1 + 1))) fun l => pB (pX T 17 l.2) fun x => pB (pTy T 20 x.1 0) fun t =>
        pB (pX T 16 (sAt (sWr (sLc x (x.2.2.1.1, pu_upd x.2.2.1.2.1 l.1 (some t.1), x.2.2.1.2.2)) (oE x.2.1 (if (fnd sc (tkV T (s.1 + 1))).isSome = true then some (s.1 + 1) else none))) t.2.1)) fun y =>
        pPar T j ((tkV T (s.1 + 1), l.1) :: sc) ((s.1 + 1, t.1) :: ps) y) with | .error q => _ | .ok q => _)
      rw [he]
      cases hr : (pB (pDecl T (sAt s (s.1 + 1))) fun l => pB (pX T 17 l.2) fun x => pB (pTy T 20 x.1 0) fun t =>
        pB (pX T 16 (sAt (sWr (sLc x (x.2.2.1.1, pu_upd x.2.2.1.2.1 l.1 (some t.1), x.2.2.1.2.2)) (oE x.2.1 (if (fnd sc (tkV T (s.1 + 1))).isSome = true then some (s.1 + 1) else none))) t.2.1)) fun y =>
        (.ok ((tkV T (s.1 + 1), l.1) :: sc, (s.1 + 1, t.1) :: ps, y) : PE (Sc × PM × PS))) with
      | error q =>
        rw [hr] at y4
        have y4' : fl T n q g1 v1 := y4
        exact ⟨g1, v1, fun g'' w hw hg1 hg2 => step g'' w (fstop f _ q g1 v1 (by omega) y4' g'' w hw) hg1 hg2, y2, y3, y4', (frD_12 y2).trans hcur⟩
      | ok q =>
        rw [hr] at y4
        obtain ⟨Z, z1, z2, z3, z4, z5⟩ := y4
        have hql : List.length q.2.1 = List.length ps + 1 ∧ s.1 + 1 ≤ q.2.2.1 := by
          obtain ⟨l, l1, l2⟩ := pB_ok hr
          obtain ⟨x, x1, x2⟩ := pB_ok l2
          obtain ⟨t, t1, t2⟩ := pB_ok x2
          obtain ⟨y, yy1, yy2⟩ := pB_ok t2
          obtain ⟨hyeq, _, _⟩ := pX_ok (by omega) yy1
          obtain ⟨hleq, _, _, _⟩ := pDecl_eq l1
          obtain ⟨hxeq, _, _⟩ := pX_ok (by omega) x1
          have := (pTy_at _ _ _ _ t1).1
          have hy1 : y.1 = t.2.1 + 1 := by rw [hyeq]; rfl
          have hx1 : x.1 = s.1 + 1 + 1 + 1 := by rw [hxeq, hleq]; rfl
          cases yy2
          exact ⟨rfl, by show s.1 + 1 ≤ y.1; omega⟩
        obtain ⟨g2, v2, w1, w2, w3, w4⟩ := ihj f (x2 + 1) q.1 q.2.1 q.2.2 g1 v1 (Y ++ Z) (by omega) (by omega) (by omega) z1 z4 (by rw [List.length_append]; omega)
        refine ⟨g2, v2, fun g'' w hw hg1 hg2 => step g'' w (w1 g'' w hw hg1 hg2) (by have := w3.2.1; omega) (by have := w3.2.2.1; omega), fr_trans y2 w2, gL_trans y3 w3, ?_⟩
        show (match pPar T j q.1 q.2.1 q.2.2 with | .error q => _ | .ok q => _)
        cases hr2 : pPar T j q.1 q.2.1 q.2.2 with
        | error e' => rw [hr2] at w4; exact w4
        | ok p =>
          rw [hr2] at w4
          obtain ⟨Z2, a1, a2, a3, a4, a5⟩ := w4
          refine ⟨Z ++ Z2, by rw [← List.append_assoc]; exact a1, ?_, by omega, a4, a5.trans z5⟩
          rw [List.length_append] at a2 ⊢; omega
    · rw [if_neg hk]
      exact ⟨g, u, stop f x2 sc ps s g u Y (by omega) h hs hk, fr_refl _ _, gL_refl h.1.2.2.2.2.1.2.2.1, [], by rw [List.append_nil]; exact h, by show Y.length + 0 ≤ _; omega, Nat.le_refl _, hs, rfl⟩
