set_option maxRecDepth 100000
theorem c_fn {T : List Tok} {n d m : Nat} {cl0 : Option Nat} {sc : Sc} {s : PS} {g : pm_s} {u : pm_J} {Y : List Ty} (N : Nat) (hN : 100000 ≤ N) (hG : tkG T) (r : PR) (R : Int32 → pm_s → pm_J → Option (Int32 × pm_s × pm_J)) (dp : Int32) (ih : iE T n d m cl0 r (R (dp + 1))) (h : cE T n d m cl0 sc s g u Y) (hm : rm T s Y) (hk12 : tkK T s.1 = 12) :
    peC T n d m cl0 sc s g u Y (pFn r T d m sc s) (F_Parser_readFn N R dp g u) := by
  have hm0 := hm
  obtain ⟨m1, m2, m3, m4⟩ := hm
  have hlt := tkK_lt (show tkK T s.1 ≠ 0 by omega)
  have hd := h.2.1.2.2.1
  have hcur : u.1 39 12 = ie d := h.2.1.1
  unfold F_Parser_readFn pFn
  apply peC_S
  rw [k_here h.1 m1 g, Option.bind_some, h.1.2.2.2, iadd1]
  have hat := cE_at h (s.1 + 1)
  have hfr1 : fr (cS_E d) u (wi u 39 11 (ie ((s.1 + 1 : Nat) : Int))) := frE_wi _ _ _ (by omega) (fr_refl _ _)
  obtain ⟨v1, x1, x2, x3⟩ := e_expect hG hat (by show s.1 + 1 ≤ _; omega) 15 (by omega)
  have x1' : F_Parser_expect 15 g (wi u 39 11 (ie ((s.1 + 1 : Nat) : Int))) = some v1 := x1
  rw [x1', Option.bind_some]
  have fr1 := fr_trans hfr1 (fr_TE (d := d) x2)
  have t5 : ∀ q' (zl z : Int32) g2 v2, fl T n q' g2 v2 → flR T n d q' g2 v2 ((F_Parser_unbind g2 v2).bind fun q16 => (F_Tree_add N 9 (ie (tkP T n s.1)) z (-1) zl g2 q16).bind fun q17 => (F_Tree_setValue q17.1 ((q17.2.1 39 12).toInt64) g2 q17.2).bind fun q18 => some (q17.1, g2, q18)) := by
    intro q' zl z g2 v2 hfl
    obtain ⟨w, w1, w2⟩ := f_unbind (d := d) hfl
    obtain ⟨y, w', y1, y2⟩ := f_add (d := d) N (by omega) w2.1 9 (ie (tkP T n s.1)) z (-1) zl
    rw [w1, Option.bind_some, y1, Option.bind_some]
    obtain ⟨w3, z1, z2⟩ := f_setV (d := d) y2.1 y ((w'.1 39 12).toInt64)
    have z1' : F_Tree_setValue (y, w').1 (((y, w').2.1 39 12).toInt64) g2 (y, w').2 = some w3 := z1
    rw [z1', Option.bind_some]
    exact flR_fr w2.2 (flR_fr y2.2 (flR_1 _ z2))
  have t4 : ∀ q' (zl xx : Int32) g2 v2, fl T n q' g2 v2 → flR T n d q' g2 v2 ((F_Tokens_value xx g2 v2).bind fun q11 => (F_Parser_bind q11 zl g2 v2).bind fun q12 => (R (dp + 1) g2 q12).bind fun q13 => if sh_Tb q13.2.1 = true then pm_S q13.2.1 ((F_Parser_unbind q13.2.1 q13.2.2).bind fun q16 => (F_Tree_add N 9 (ie (tkP T n s.1)) q13.1 (-1) zl q13.2.1 q16).bind fun q17 => (F_Tree_setValue q17.1 ((q17.2.1 39 12).toInt64) q13.2.1 q17.2).bind fun q18 => some (q17.1, q13.2.1, q18)) else none) := by
    intro q' zl xx g2 v2 hfl
    obtain ⟨p, hp⟩ := s_tokv hfl.2.1 xx g2
    obtain ⟨w, w1, w2⟩ := f_bind (d := d) hfl p zl
    rw [hp, Option.bind_some, w1, Option.bind_some]
    exact flR_fr w2.2 (flR_b (flR_R ih w2.1) (fun z g' v hv => t5 q' zl z g' v hv))
  have t3 : ∀ q' (zl zt xx : Int32) g2 v2, fl T n q' g2 v2 → flR T n d q' g2 v2 ((F_Table_setLocalType (ie d) zl zt g2 v2).bind fun q8 => (F_Parser_expect 16 g2 q8).bind fun q9 => (F_Parser_expect 25 g2 q9).bind fun q10 => (F_Tokens_value xx g2 q10).bind fun q11 => (F_Parser_bind q11 zl g2 q10).bind fun q12 => (R (dp + 1) g2 q12).bind fun q13 => if sh_Tb q13.2.1 = true then pm_S q13.2.1 ((F_Parser_unbind q13.2.1 q13.2.2).bind fun q16 => (F_Tree_add N 9 (ie (tkP T n s.1)) q13.1 (-1) zl q13.2.1 q16).bind fun q17 => (F_Tree_setValue q17.1 ((q17.2.1 39 12).toInt64) q13.2.1 q17.2).bind fun q18 => some (q17.1, q13.2.1, q18)) else none) := by
    intro q' zl zt xx g2 v2 hfl
    obtain ⟨w, w1, w2⟩ := f_setLT (d := d) hd hfl zl zt
    rw [w1, Option.bind_some, f_expect w2.1.1 w2.1.2.1 16 (by decide) g2, Option.bind_some, f_expect w2.1.1 w2.1.2.1 25 (by decide) g2, Option.bind_some]
    exact flR_fr w2.2 (t4 q' zl xx g2 w w2.1)
  have t2 : ∀ q' (zl xx cc : Int32) v2, fl T n q' g v2 → cc = ie d → flR T n d q' g v2 ((F_Parser_readType N 24 1 0 g v2).bind fun q5 => if sh_Tb q5.2.1 = true then pm_S q5.2.1 ((F_Table_setLocalType cc zl q5.1 q5.2.1 q5.2.2).bind fun q8 => (F_Parser_expect 16 q5.2.1 q8).bind fun q9 => (F_Parser_expect 25 q5.2.1 q9).bind fun q10 => (F_Tokens_value xx q5.2.1 q10).bind fun q11 => (F_Parser_bind q11 zl q5.2.1 q10).bind fun q12 => (R (dp + 1) q5.2.1 q12).bind fun q13 => if sh_Tb q13.2.1 = true then pm_S q13.2.1 ((F_Parser_unbind q13.2.1 q13.2.2).bind fun q16 => (F_Tree_add N 9 (ie (tkP T n s.1)) q13.1 (-1) zl q13.2.1 q16).bind fun q17 => (F_Tree_setValue q17.1 ((q17.2.1 39 12).toInt64) q13.2.1 q17.2).bind fun q18 => some (q17.1, q13.2.1, q18)) else none) else none) := by
    intro q' zl xx cc v2 hfl hcc
    subst hcc
    have ht : flR T n d q' g v2 (F_Parser_readType N 24 1 0 g v2) := by
      obtain ⟨z, g', v, a1, a2, a3, a4⟩ := f_type N hN 24 (by omega) 1 0 hfl
      exact ⟨z, g', v, a1, a2, fr_TE a3, a4⟩
    exact flR_b ht (fun z g' v hv => t3 q' zl z xx g' v hv)
  cases hp : pX T 15 (sAt s (s.1 + 1)) with
  | error q =>
    rw [hp] at x3
    have x3' : fl T n q g v1 := x3
    rw [f_local x3'.1 x3'.2.1 N g, Option.bind_some, f_expect x3'.1 x3'.2.1 17 (by decide) g, Option.bind_some]
    exact peC_f (flR_fr fr1 (t2 q _ _ _ v1 x3' ((frE_12 fr1).trans hcur)))
  | ok o =>
    rw [hp] at x3
    obtain ⟨hoeq, o5, o6⟩ := pX_ok (by omega) hp
    have ho1 : o.1 = s.1 + 1 + 1 := by rw [hoeq]; rfl
    have ho2 : o.2 = s.2 := by rw [hoeq]; rfl
    have o5' : s.1 + 1 < T.length := o5
    have hv11 : v1.1 39 11 = ie ((s.1 + 2 : Nat) : Int) := by rw [x3.1.2.2.2, ho1]
    obtain ⟨zl, v2, y1, y2, y3⟩ := e_local N hG x3 (by omega)
    rw [y1, Option.bind_some]
    have fr2 := fr_trans fr1 y2
    show peC T n d m cl0 sc s g u Y (pB (pDecl T o) _) _
    cases hp2 : pDecl T o with
    | error q =>
      rw [hp2] at y3
      have y3' : fl T n q g v2 := y3
      rw [f_expect y3'.1 y3'.2.1 17 (by decide) g, Option.bind_some]
      exact peC_f (flR_fr fr2 (t2 q _ _ _ v2 y3' ((frE_12 fr2).trans hcur)))
    | ok l =>
      rw [hp2] at y3
      obtain ⟨rfl, y4⟩ := y3
      obtain ⟨hleq, l1, l2, l3⟩ := pDecl_eq hp2
      have hl1 : l.1 = s.2.2.1.1 := by rw [hleq, ho2]
      have hl2 : l.2.1 = s.1 + 1 + 1 + 1 := by rw [hleq]; show o.1 + 1 = _; omega
      have hl3 : l.2.2.2.1.1 = s.2.2.1.1 + 1 := by rw [hleq, ho2]; rfl
      have hl4 : l.2.2.2.2.1 = s.2.2.2.1 := by rw [hleq]; show o.2.2.2.1 = _; rw [ho2]
      have l2' : s.1 + 1 + 1 < T.length := by omega
      obtain ⟨v3, w1, w2, w3⟩ := e_expect hG y4 (by omega) 17 (by omega)
      have w1' : F_Parser_expect 17 g v2 = some v3 := w1
      rw [w1', Option.bind_some]
      have fr3 := fr_trans fr2 (fr_TE (d := d) w2)
      have h312 : v3.1 39 12 = ie d := (frE_12 fr3).trans hcur
      show peC T n d m cl0 sc s g u Y (pB (pX T 17 l.2) _) _
      cases hp3 : pX T 17 l.2 with
      | error q =>
        rw [hp3] at w3
        have w3' : fl T n q g v3 := w3
        exact peC_f (flR_fr fr3 (t2 q _ _ _ v3 w3' h312))
      | ok x =>
        rw [hp3] at w3
        obtain ⟨hxeq, x5, x6⟩ := pX_ok (by omega) hp3
        have hx1 : x.1 = s.1 + 1 + 1 + 1 + 1 := by rw [hxeq]; show l.2.1 + 1 = _; omega
        have hx2 : x.2 = l.2.2 := by rw [hxeq]; rfl
        have hx3 : x.2.2.1.1 = s.2.2.1.1 + 1 := by rw [hx2]; exact hl3
        have hx4 : x.2.2.2.1 = s.2.2.2.1 := by rw [hx2]; exact hl4
        obtain ⟨zt, g', v4, f1, f2, f3, f4, f5⟩ := c_type N hN hG false x.1 m (oE cl0 x.2.1) g v3 Y w3.1 w3.2.1.2.1 w3.2.2.2.1 w3.2.2.2.2.1 w3.2.2.2.2.2.2.2 (by omega) (by omega) h.2.1.2.2.2.1
        have f1' : F_Parser_readType N 24 1 0 g v3 = some (zt, g', v4) := f1
        rw [f1', Option.bind_some, if_pos (gI_Tb f3.1), h312]
        have fr4 := fr_trans fr3 (fr_TE (d := d) f2)
        show peC T n d m cl0 sc s g u Y (pB (pTy T 20 x.1 0) _) _
        cases hp4 : pTy T 20 x.1 0 with
        | error q =>
          rw [hp4] at f5
          have f5' : fl T n q g' v4 := f5
          obtain ⟨z9, g9, v9, k1, k2, k3, k4⟩ := flR_S (t3 q (ie (l.1 : Nat)) zt (v1.1 39 11) g' v4 f5')
          exact peC_f ⟨z9, g9, v9, k1, k2, fr_trans fr4 k3, gL_trans f3 k4⟩
        | ok t =>
          rw [hp4] at f5
          obtain ⟨kt, Z, rfl, u2, u3, u4, u5, u6, u7, u8, u9⟩ := f5
          have u2' : cT T n t.2.1 t.2.2 0 m (oE (oE cl0 x.2.1) (badL T m x.1 (t.2.1 - x.1))) g' v4 (Y ++ Z) := u2
          obtain ⟨c1, c2, c3, c4, c5, c6⟩ := u2'
          have hE4 := cE_T w3 f2 t.2.1 (oE x.2.1 (badL T m x.1 (t.2.1 - x.1))) c1 c4 (by rw [← oE_assoc]; exact c5) c6 f4
          obtain ⟨v5, k1, k2, k3⟩ := e_setLT hE4 l.1 (by show l.1 < x.2.2.1.1; omega) kt t.1 u3
          rw [k1, Option.bind_some]
          obtain ⟨v6, j1, j2, j3⟩ := e_expect hG k3 (by show t.2.1 ≤ _; omega) 16 (by omega)
          have j1' : F_Parser_expect 16 g' v5 = some v6 := j1
          rw [j1', Option.bind_some]
          have fr6 := fr_trans k2 (fr_TE (d := d) j2)
          suffices hrest : peC T n d m cl0 sc (sAt s t.2.1) g' v4 (Y ++ Z) (pB (pX T 16 (sAt (sWr (sLc x (x.2.2.1.1, pu_upd x.2.2.1.2.1 l.1 (some t.1), x.2.2.1.2.2)) (oE x.2.1 (badL T m x.1 (t.2.1 - x.1)))) t.2.1)) fun y => pB (pX T 25 y) fun z => pB (r ((tkV T (s.1 + 2), l.1) :: sc) z) fun p => .ok (p.2.2.2.2.1, sNode p.2 (9, s.1, p.1, -1, l.1, je d, [])))
              ((F_Parser_expect 25 g' v6).bind fun q10 => (F_Tokens_value (v1.1 39 11) g' q10).bind fun q11 => (F_Parser_bind q11 (ie (l.1 : Nat)) g' q10).bind fun q12 => (R (dp + 1) g' q12).bind fun q13 => if sh_Tb q13.2.1 = true then pm_S q13.2.1 ((F_Parser_unbind q13.2.1 q13.2.2).bind fun q16 => (F_Tree_add N 9 (ie (tkP T n s.1)) q13.1 (-1) (ie (l.1 : Nat)) q13.2.1 q16).bind fun q17 => (F_Tree_setValue q17.1 ((q17.2.1 39 12).toInt64) q13.2.1 q17.2).bind fun q18 => some (q17.1, q13.2.1, q18)) else none) by
            obtain ⟨z9, g9, v9, a1, a2, a3, a4⟩ := peC_S hrest
            refine ⟨z9, g9, v9, a1, fr_trans fr4 a2, gL_trans f3 a3, ?_⟩
            show (match (pB (pX T 16 (sAt (sWr (sLc x (x.2.2.1.1, pu_upd x.2.2.1.2.1 l.1 (some t.1), x.2.2.1.2.2)) (oE x.2.1 (badL T m x.1 (t.2.1 - x.1)))) t.2.1)) fun y => pB (pX T 25 y) fun z => pB (r ((tkV T (s.1 + 2), l.1) :: sc) z) fun p => .ok (p.2.2.2.2.1, sNode p.2 (9, s.1, p.1, -1, l.1, je d, [])) : PE (Nat × PS)) with
              | .error q => fl T n q g9 v9
              | .ok q => z9 = ie (q.1 : Nat) ∧ ∃ Z : List Ty, cE T n d m cl0 sc q.2 g9 v9 (Y ++ Z) ∧ Y.length + Z.length ≤ Y.length + (q.2.1 - s.1))
            cases hr : (pB (pX T 16 (sAt (sWr (sLc x (x.2.2.1.1, pu_upd x.2.2.1.2.1 l.1 (some t.1), x.2.2.1.2.2)) (oE x.2.1 (badL T m x.1 (t.2.1 - x.1)))) t.2.1)) fun y => pB (pX T 25 y) fun z => pB (r ((tkV T (s.1 + 2), l.1) :: sc) z) fun p => .ok (p.2.2.2.2.1, sNode p.2 (9, s.1, p.1, -1, l.1, je d, [])) : PE (Nat × PS)) with
            | error q => rw [hr] at a4; exact a4
            | ok q =>
              rw [hr] at a4
              obtain ⟨b1, Z2, b2, b3⟩ := a4
              have b3' : (Y ++ Z).length + Z2.length ≤ (Y ++ Z).length + (q.2.1 - t.2.1) := b3
              have hqt : t.2.1 ≤ q.2.1 := by
                obtain ⟨y, y1, y2⟩ := pB_ok hr
                obtain ⟨hyeq, yy5, yy6⟩ := pX_ok (by omega) y1
                have hy1 : y.1 = t.2.1 + 1 := by rw [hyeq]; rfl
                have hy3 : y.2.2.1.1 = x.2.2.1.1 := by rw [hyeq]; rfl
                obtain ⟨z, z1, z2⟩ := pB_ok y2
                obtain ⟨hzeq, z5, z6⟩ := pX_ok (by omega) z1
                have hz1 : z.1 = y.1 + 1 := by rw [hzeq]; rfl
                have hz3 : z.2.2.1.1 = y.2.2.1.1 := by rw [hzeq]; rfl
                obtain ⟨p, p1, p2⟩ := pB_ok z2
                have h24x := cE_24 w3
                obtain ⟨c1, _⟩ := bR_u ih.2.2 p1 (by omega) (by omega)
                cases p2
                show t.2.1 ≤ p.2.1; omega
              refine ⟨b1, Z ++ Z2, by rw [← List.append_assoc]; exact b2, ?_⟩
              rw [List.length_append] at b3' ⊢
              omega
          cases hp5 : pX T 16 (sAt (sWr (sLc x (x.2.2.1.1, pu_upd x.2.2.1.2.1 l.1 (some t.1), x.2.2.1.2.2)) (oE x.2.1 (badL T m x.1 (t.2.1 - x.1)))) t.2.1) with
          | error q =>
            have j3' : fl T n q g' v6 := by
              have hp5' : pX T 16 (sLc (sAt (sWr x (oE x.2.1 (badL T m x.1 (t.2.1 - x.1)))) t.2.1) (x.2.2.1.1, pu_upd x.2.2.1.2.1 l.1 (some t.1), x.2.2.1.2.2)) = .error q := hp5
              have : (match pX T 16 (sLc (sAt (sWr x (oE x.2.1 (badL T m x.1 (t.2.1 - x.1)))) t.2.1) (x.2.2.1.1, pu_upd x.2.2.1.2.1 l.1 (some t.1), x.2.2.1.2.2)) with
                | .error q => fl T n q g' v6
                | .ok s' => cE T n d m cl0 sc s' g' v6 (Y ++ Z)) := j3
              rw [hp5'] at this; exact this
            rw [f_expect j3'.1 j3'.2.1 25 (by decide) g', Option.bind_some]
            exact peC_f (flR_fr fr6 (t4 q _ _ g' v6 j3'))
          | ok y =>
            have j3' : cE T n d m cl0 sc y g' v6 (Y ++ Z) := by
              have hp5' : pX T 16 (sLc (sAt (sWr x (oE x.2.1 (badL T m x.1 (t.2.1 - x.1)))) t.2.1) (x.2.2.1.1, pu_upd x.2.2.1.2.1 l.1 (some t.1), x.2.2.1.2.2)) = .ok y := hp5
              have : (match pX T 16 (sLc (sAt (sWr x (oE x.2.1 (badL T m x.1 (t.2.1 - x.1)))) t.2.1) (x.2.2.1.1, pu_upd x.2.2.1.2.1 l.1 (some t.1), x.2.2.1.2.2)) with
                | .error q => fl T n q g' v6
                | .ok s' => cE T n d m cl0 sc s' g' v6 (Y ++ Z)) := j3
              rw [hp5'] at this; exact this
            obtain ⟨hyeq, yy5, yy6⟩ := pX_ok (by omega) hp5
            have hy1 : y.1 = t.2.1 + 1 := by rw [hyeq]; rfl
            have hy3 : y.2.2.1.1 = x.2.2.1.1 := by rw [hyeq]; rfl
            have hy4 : y.2.2.2.1 = x.2.2.2.1 := by rw [hyeq]; rfl
            have yy5' : t.2.1 < T.length := yy5
            obtain ⟨v7, i1, i2, i3⟩ := e_expect hG j3' (by omega) 25 (by omega)
            have i1' : F_Parser_expect 25 g' v6 = some v7 := i1
            rw [i1', Option.bind_some]
            have fr7 := fr_trans fr6 (fr_TE (d := d) i2)
            show peC T n d m cl0 sc (sAt s t.2.1) g' v4 (Y ++ Z) (pB (pX T 25 y) _) _
            cases hp6 : pX T 25 y with
            | error q =>
              rw [hp6] at i3
              have i3' : fl T n q g' v7 := i3
              exact peC_f (flR_fr fr7 (t4 q _ _ g' v7 i3'))
            | ok z =>
              rw [hp6] at i3
              obtain ⟨hzeq, z5, z6⟩ := pX_ok (by omega) hp6
              have hz1 : z.1 = t.2.1 + 1 + 1 := by rw [hzeq]; show y.1 + 1 = _; omega
              have hz3 : z.2.2.1.1 = x.2.2.1.1 := by rw [hzeq]; exact hy3
              have hz4 : z.2.2.2.1 = s.2.2.2.1 := by rw [hzeq]; show y.2.2.2.1 = _; omega
              have hz5 : t.2.1 + 1 < T.length := by omega
              rw [hv11, k_value i3.1.2.1 (by omega) g', Option.bind_some]
              have hsl := h.2.2.1.2.2
              obtain ⟨v8, b1, b2, b3⟩ := e_bind i3 (tkV T (s.1 + 2)) l.1 (by have := cE_24 h; omega) (by omega)
              rw [b1, Option.bind_some]
              have fr8 := fr_trans fr7 b2
              have rm2 : rm T z (Y ++ Z) := ⟨by omega, by omega, by rw [List.length_append]; omega, m4⟩
              have bO2 := ih.2.2 ((tkV T (s.1 + 2), l.1) :: sc) z rm2.1 (cE_24 i3)
              show peC T n d m cl0 sc (sAt s t.2.1) g' v4 (Y ++ Z) (pB (r ((tkV T (s.1 + 2), l.1) :: sc) z) _) _
              refine peC_b (ih.1 _ z g' v8 (Y ++ Z) b3 rm2) fr8 (by show t.2.1 ≤ z.1; omega) bO2 ?_ (fun q' zz g2 v2 hfl _ => t5 q' _ zz g2 v2 hfl) ?_
              · intro p g3 v9 Z2 hpp hlt3 hle3 hfr2 hgl2 hc2 hZ2
                obtain ⟨bb1, bb2, bb3, bb4, bb5, bb6, bb7⟩ := bO2 p hpp
                obtain ⟨v10, a1, a2, a3⟩ := e_unbind hc2
                obtain ⟨v11, e1, e2, e3⟩ := e_add N (by omega) a3 (by omega) 9 s.1 p.1 (-1) l.1 []
                have e1' : F_Tree_add N 9 (ie (tkP T n s.1)) (ie (p.1 : Nat)) (-1) (ie (l.1 : Nat)) g3 v10 = some (ie (p.2.2.2.2.1 : Nat), v11) := e1
                show peC T n d m cl0 sc p.2 g3 v9 (Y ++ Z ++ Z2) _ ((F_Parser_unbind g3 v9).bind fun q16 => (F_Tree_add N 9 (ie (tkP T n s.1)) (ie (p.1 : Nat)) (-1) (ie (l.1 : Nat)) g3 q16).bind fun q17 => _)
                rw [a1, Option.bind_some, e1', Option.bind_some]
                have hj : (v11.1 39 12).toInt64 = je d := by rw [e3.2.1.1, ie_je _ (by omega) (by omega)]
                obtain ⟨v12, g1, g2, g4⟩ := e_setV e3 (je d)
                show peC T n d m cl0 sc p.2 g3 v9 (Y ++ Z ++ Z2) _ ((F_Tree_setValue (ie (p.2.2.2.2.1 : Nat)) ((v11.1 39 12).toInt64) g3 v11).bind fun q18 => _)
                rw [hj, g1, Option.bind_some]
                exact peC_0 (q := (p.2.2.2.2.1, sNode p.2 (9, s.1, p.1, -1, l.1, je d, []))) (fr_trans a2 (fr_trans e2 g2)) g4
              · intro p p' hpp hk; cases hk; exact Nat.le_refl _
theorem c_expr {T : List Tok} {n d m : Nat} {cl0 : Option Nat} (N : Nat) (hN : 100000 ≤ N) (hG : tkG T) (r : Nat) : ∀ k, r ≤ 20 → r < k → iE T n d m cl0 (pE T d m r) (F_Parser_readExpr N k (ie ((21 - r : Nat) : Int))) := by
  induction r with
  | zero =>
    intro k hr hk
    refine ⟨?_, fun q g u hfl => f_expr (d := d) N (by omega) k (by omega) _ hfl, b_E d m 0⟩
    intro sc s g u Y h hm
    obtain ⟨k, rfl⟩ : ∃ f', k = f' + 1 := ⟨k - 1, by omega⟩
    rw [F_Parser_readExpr, pE]
    unfold FO_Parser_readExpr
    apply peC_S
    rw [if_neg (show ¬ (ie ((21 - 0 : Nat) : Int) ≤ 20) by decide), k_here h.1 hm.1 g, Option.bind_some]
    obtain ⟨t1, t2⟩ := e_tell h 3 s.1 (by omega) (by omega)
    have t1' : F_Fault_tell_3 3 (ie (tkP T n s.1)) g u = some (cTell u 3 (tkP T n s.1)) := t1
    rw [t1', Option.bind_some]
    exact peC_f ⟨_, g, _, rfl, t2, fr_TE (frT_tell u _ _), gL_refl h.2.2.2.2.1.2.2.1⟩
  | succ r ihr =>
    intro k hr hk
    refine ⟨?_, fun q g u hfl => f_expr (d := d) N (by omega) k (by omega) _ hfl, b_E d m (r + 1)⟩
    intro sc s g u Y h hm
    obtain ⟨k, rfl⟩ : ∃ f', k = f' + 1 := ⟨k - 1, by omega⟩
    have es : ie ((21 - (r + 1) : Nat) : Int) + 1 = ie ((21 - r : Nat) : Int) := by rw [iadd1]; congr 1; omega
    have ih : iE T n d m cl0 (pE T d m r) (F_Parser_readExpr N k (ie ((21 - (r + 1) : Nat) : Int) + 1)) := by rw [es]; exact ihr k (by omega) (by omega)
    have k7 : (ie (tkK T s.1 : Int) = 7) ↔ tkK T s.1 = 7 := kq (hG.1 s.1) 7 (by omega)
    have k9 : (ie (tkK T s.1 : Int) = 9) ↔ tkK T s.1 = 9 := kq (hG.1 s.1) 9 (by omega)
    have k12 : (ie (tkK T s.1 : Int) = 12) ↔ tkK T s.1 = 12 := kq (hG.1 s.1) 12 (by omega)
    rw [F_Parser_readExpr, pE]
    unfold FO_Parser_readExpr
    apply peC_S
    rw [if_pos (show ie ((21 - (r + 1) : Nat) : Int) ≤ 20 from (inle (21 - (r + 1)) 20 (by omega) (by omega)).mpr (by omega)), k_kind h.1 hm.1 g, Option.bind_some]
    simp only [k7, k9, k12]
    have wrap : ∀ (x : PE (Nat × PS)) (F : Option (Int32 × pm_s × pm_J)), peC T n d m cl0 sc s g u Y x F → peC T n d m cl0 sc s g u Y x (F.bind fun q => if sh_Tb q.2.1 = true then pm_S q.2.1 (some (q.1, q.2.1, q.2.2)) else none) := by
      intro x F hx
      obtain ⟨z, g', v, y1, y2, y3, y4⟩ := hx
      rw [y1, Option.bind_some, if_pos (gI_Tb y3.1), pmS_some _ _ _ _ (Nat.le_refl _) (Nat.le_refl _)]
      exact ⟨z, g', v, rfl, y2, y3, y4⟩
    by_cases e7 : tkK T s.1 = 7
    · rw [if_pos e7, if_pos e7]; exact wrap _ _ (c_let N (by omega) hG _ _ _ ih h hm e7)
    rw [if_neg e7, if_neg e7]
    by_cases e9 : tkK T s.1 = 9
    · rw [if_pos e9, if_pos e9]; exact wrap _ _ (c_if N (by omega) hG _ _ _ ih h hm e9)
    rw [if_neg e9, if_neg e9]
    by_cases e12 : tkK T s.1 = 12
    · rw [if_pos e12, if_pos e12]; exact wrap _ _ (c_fn N hN hG _ _ _ ih h hm e12)
    rw [if_neg e12, if_neg e12]
    exact wrap _ _ (c_cmp N (by omega) hG _ _ _ ih h hm)
