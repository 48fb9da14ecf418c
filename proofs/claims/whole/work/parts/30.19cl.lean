set_option maxRecDepth 100000
theorem flR_b2 {T : List Tok} {n d : Nat} {q : Nat × Nat} {g : pm_s} {u : pm_J} {F : Option (Int32 × pm_s × pm_J)} {f : Int32 × pm_s × pm_J → Option (Int32 × pm_s × pm_J)} (h : flR T n d q g u F) (hf : ∀ z g' v, fl T n q g' v → v.1 39 12 = u.1 39 12 → flR T n d q g' v (f (z, g', v))) : flR T n d q g u (F.bind fun x => if sh_Tb x.2.1 = true then pm_S x.2.1 (f x) else none) := by
  obtain ⟨z, g', v, rfl, h2, h3, h4⟩ := h
  obtain ⟨z2, g2, v2, y1, y2, y3, y4⟩ := flR_S (hf z g' v h2 (frE_12 h3))
  rw [Option.bind_some, if_pos (gI_Tb h4.1)]
  exact ⟨z2, g2, v2, y1, y2, fr_trans h3 y3, gL_trans h4 y4⟩
theorem flR_R {T : List Tok} {n d m : Nat} {cl0 : Option Nat} {r : PR} {R : pm_s → pm_J → Option (Int32 × pm_s × pm_J)} {q : Nat × Nat} {g : pm_s} {u : pm_J} (ih : iE T n d m cl0 r R) (h : fl T n q g u) : flR T n d q g u (R g u) := by
  rw [ih.2.1 q g u h]; exact flR_1 _ ⟨h, fr_refl _ _⟩
theorem e_hasL {T : List Tok} {n d m : Nat} {cl0 : Option Nat} {sc : Sc} {s : PS} {g : pm_s} {u : pm_J} {Y : List Ty} (h : cE T n d m cl0 sc s g u Y) (l : Nat) (hl : l < s.2.2.1.1) : F_Table_hasLocal (ie d) (ie l) g u = some 1 := by
  have hd := h.2.1.2.2.1
  have h24 := cE_24 h
  unfold F_Table_hasLocal
  rw [if_neg (nlt0 d (by omega)), h.2.1.2.2.2.2, if_neg (fun hh => by have := (inle (d + 1) d (by omega) (by omega)).mp hh; omega), if_neg (nlt0 l (by omega)), if_pos (okn d 30 (by omega) (by omega)), ntn d (by omega), h.2.2.2.2.2.1.1, if_neg (fun hh => by have := (inle s.2.2.1.1 l (by omega) (by omega)).mp hh; omega)]
theorem e_setLB {T : List Tok} {n d m : Nat} {cl0 : Option Nat} {sc : Sc} {s : PS} {g : pm_s} {u : pm_J} {Y : List Ty} (h : cE T n d m cl0 sc s g u Y) (l : Nat) (hl : l < s.2.2.1.1) (x : Int) : ∃ v, F_Table_setLocalBound (ie d) (ie l) (ie x) g u = some v ∧ fr (cS_E d) u v ∧ cE T n d m cl0 sc (sLc s (s.2.2.1.1, s.2.2.1.2.1, pu_upd s.2.2.1.2.2 l x)) g v Y := by
  have hd := h.2.1.2.2.1
  have h24 := cE_24 h
  unfold F_Table_setLocalBound
  have e1 : ie (d : Int) * 24 + ie (l : Int) = ie ((d * 24 + l : Nat) : Int) := by rw [show (24 : Int32) = ie 24 from rfl, ie_mul, ie_add]; rfl
  rw [e_hasL h l hl, Option.bind_some, if_neg (show ¬ ((1 : Int32) = 0) by decide), e1, if_pos (okn _ 720 (by omega) (by omega)), ntn _ (by omega)]
  refine ⟨_, rfl, frE_wi _ _ _ (by omega) (fr_refl _ _), ?_⟩
  obtain ⟨a1, a2, a3, a4, a5, a6, a7, a8⟩ := h
  refine ⟨cTk_at a1 rfl (fun _ => rfl) (fun _ => ⟨rfl, rfl, rfl⟩) a1.2.2.2, a2, ⟨scR_cong sc a3.1 (fun _ _ => ⟨rfl, rfl⟩), a3.2⟩, cCl_cong a4 rfl rfl, tyC_fr a5 (wi_csy _ _ _ _ (by omega)), ⟨a6.1, a6.2.1, ?_⟩, cNd_cong a7 rfl (fun c j h1 h2 => ⟨by rw [wi_1, if_neg (by omega)], rfl⟩), cBI_wi _ _ _ _ a8 (by omega)⟩
  intro k hk
  obtain ⟨b1, b2⟩ := a6.2.2 k hk
  refine ⟨b1, ?_⟩
  show _ = ie (pu_upd s.2.2.1.2.2 l x k)
  by_cases hkl : k = l
  · rw [hkl, upd_same, wi_1, if_pos ⟨rfl, rfl⟩]
  · rw [upd_ne _ _ _ _ hkl, wi_1, if_neg (by omega)]; exact b2
theorem e_setLT {T : List Tok} {n d m : Nat} {cl0 : Option Nat} {sc : Sc} {s : PS} {g : pm_s} {u : pm_J} {Y : List Ty} (h : cE T n d m cl0 sc s g u Y) (l : Nat) (hl : l < s.2.2.1.1) (k : Nat) (t : Ty) (hk : Y[k]? = some t) : ∃ v, F_Table_setLocalType (ie d) (ie l) (ie k) g u = some v ∧ fr (cS_E d) u v ∧ cE T n d m cl0 sc (sLc s (s.2.2.1.1, pu_upd s.2.2.1.2.1 l (some t), s.2.2.1.2.2)) g v Y := by
  have hd := h.2.1.2.2.1
  have h24 := cE_24 h
  unfold F_Table_setLocalType
  have e1 : ie (d : Int) * 24 + ie (l : Int) = ie ((d * 24 + l : Nat) : Int) := by rw [show (24 : Int32) = ie 24 from rfl, ie_mul, ie_add]; rfl
  rw [e_hasL h l hl, Option.bind_some, if_neg (show ¬ ((1 : Int32) = 0) by decide), e1, if_pos (okn _ 720 (by omega) (by omega)), ntn _ (by omega)]
  refine ⟨_, rfl, frE_wi _ _ _ (by omega) (fr_refl _ _), ?_⟩
  obtain ⟨a1, a2, a3, a4, a5, a6, a7, a8⟩ := h
  refine ⟨cTk_at a1 rfl (fun _ => rfl) (fun _ => ⟨rfl, rfl, rfl⟩) a1.2.2.2, a2, ⟨scR_cong sc a3.1 (fun _ _ => ⟨rfl, rfl⟩), a3.2⟩, cCl_cong a4 rfl rfl, tyC_fr a5 (wi_csy _ _ _ _ (by omega)), ⟨a6.1, a6.2.1, ?_⟩, cNd_cong a7 rfl (fun c j h1 h2 => ⟨by rw [wi_1, if_neg (by omega)], rfl⟩), cBI_wi _ _ _ _ a8 (by omega)⟩
  intro i hi
  obtain ⟨b1, b2⟩ := a6.2.2 i hi
  refine ⟨?_, b2⟩
  show (match pu_upd s.2.2.1.2.1 l (some t) i with | some t => _ | none => _)
  by_cases hil : i = l
  · rw [hil, upd_same]
    exact ⟨k, by rw [wi_1, if_pos ⟨rfl, rfl⟩], hk⟩
  · rw [upd_ne _ _ _ _ hil]
    have hne : ¬ (d * 24 + i = d * 24 + l) := by omega
    simp only [wi_1, hne, and_false, if_false]
    exact b1
theorem c_let {T : List Tok} {n d m : Nat} {cl0 : Option Nat} {sc : Sc} {s : PS} {g : pm_s} {u : pm_J} {Y : List Ty} (N : Nat) (hN : 100 ≤ N) (hG : tkG T) (r : PR) (R : Int32 → pm_s → pm_J → Option (Int32 × pm_s × pm_J)) (dp : Int32) (ih : iE T n d m cl0 r (R (dp + 1))) (h : cE T n d m cl0 sc s g u Y) (hm : rm T s Y) (hk7 : tkK T s.1 = 7) :
    peC T n d m cl0 sc s g u Y (pLet r T sc s) (F_Parser_readLet N R dp g u) := by
  obtain ⟨m1, m2, m3, m4⟩ := hm
  have hlt := tkK_lt (show tkK T s.1 ≠ 0 by omega)
  have hd := h.2.1.2.2.1
  have hcur : u.1 39 12 = ie d := h.2.1.1
  have hgI := h.2.2.2.2.1.2.2.1
  unfold F_Parser_readLet pLet
  apply peC_S
  rw [k_here h.1 m1 g, Option.bind_some, h.1.2.2.2, iadd1]
  have hat := cE_at h (s.1 + 1)
  have hfr1 : fr (cS_E d) u (wi u 39 11 (ie ((s.1 + 1 : Nat) : Int))) := frE_wi _ _ _ (by omega) (fr_refl _ _)
  obtain ⟨zl, v1, x1, x2, x3⟩ := e_local N hG hat (by show s.1 + 1 ≤ _; omega)
  rw [x1, Option.bind_some]
  have fr1 := fr_trans hfr1 x2
  have t4 : ∀ q' z4 (zl : Int32) z g2 v2, fl T n q' g2 v2 → flR T n d q' g2 v2 ((F_Parser_unbind g2 v2).bind fun q14 => (F_Tree_add N 7 (ie (tkP T n s.1)) z4 z zl g2 q14).bind fun q15 => some (q15.1, g2, q15.2)) := by
    intro q' z4 zl z g2 v2 hfl
    obtain ⟨w, w1, w2⟩ := f_unbind (d := d) hfl
    obtain ⟨y, w', y1, y2⟩ := f_add (d := d) N hN w2.1 7 (ie (tkP T n s.1)) z4 z zl
    rw [w1, Option.bind_some, y1, Option.bind_some]
    exact flR_fr w2.2 (flR_1 _ y2)
  have t3 : ∀ q' (zl z4 : Int32) g2 v2, fl T n q' g2 v2 → flR T n d q' g2 v2 ((F_Tokens_value (ie ((s.1 + 1 : Nat) : Int)) g2 v2).bind fun q9 => (F_Parser_bind q9 zl g2 v2).bind fun q10 => (R (dp + 1) g2 q10).bind fun q11 => if sh_Tb q11.2.1 = true then pm_S q11.2.1 ((F_Parser_unbind q11.2.1 q11.2.2).bind fun q14 => (F_Tree_add N 7 (ie (tkP T n s.1)) z4 q11.1 zl q11.2.1 q14).bind fun q15 => some (q15.1, q11.2.1, q15.2)) else none) := by
    intro q' zl z4 g2 v2 hfl
    obtain ⟨p, hp⟩ := s_tokv hfl.2.1 (ie ((s.1 + 1 : Nat) : Int)) g2
    obtain ⟨w, w1, w2⟩ := f_bind (d := d) hfl p zl
    rw [hp, Option.bind_some, w1, Option.bind_some]
    exact flR_fr w2.2 (flR_b (flR_R ih w2.1) (fun z g' v hv => t4 q' z4 zl z g' v hv))
  have t2 : ∀ q' (zl z4 : Int32) g2 v2, fl T n q' g2 v2 → v2.1 39 12 = ie d → flR T n d q' g2 v2 ((F_Table_setLocalBound (v2.1 39 12) zl z4 g2 v2).bind fun q7 => (F_Parser_expect 8 g2 q7).bind fun q8 => (F_Tokens_value (ie ((s.1 + 1 : Nat) : Int)) g2 q8).bind fun q9 => (F_Parser_bind q9 zl g2 q8).bind fun q10 => (R (dp + 1) g2 q10).bind fun q11 => if sh_Tb q11.2.1 = true then pm_S q11.2.1 ((F_Parser_unbind q11.2.1 q11.2.2).bind fun q14 => (F_Tree_add N 7 (ie (tkP T n s.1)) z4 q11.1 zl q11.2.1 q14).bind fun q15 => some (q15.1, q11.2.1, q15.2)) else none) := by
    intro q' zl z4 g2 v2 hfl h12
    obtain ⟨w, w1, w2⟩ := f_setLB (d := d) hd hfl zl z4
    rw [h12, w1, Option.bind_some, f_expect w2.1.1 w2.1.2.1 8 (by decide) g2, Option.bind_some]
    exact flR_fr w2.2 (t3 q' zl z4 g2 w w2.1)
  have t1 : ∀ q' (zl : Int32) v2, fl T n q' g v2 → v2.1 39 12 = ie d → flR T n d q' g v2 ((R (dp + 1) g v2).bind fun q4 => if sh_Tb q4.2.1 = true then pm_S q4.2.1 ((F_Table_setLocalBound (q4.2.2.1 39 12) zl q4.1 q4.2.1 q4.2.2).bind fun q7 => (F_Parser_expect 8 q4.2.1 q7).bind fun q8 => (F_Tokens_value (ie ((s.1 + 1 : Nat) : Int)) q4.2.1 q8).bind fun q9 => (F_Parser_bind q9 zl q4.2.1 q8).bind fun q10 => (R (dp + 1) q4.2.1 q10).bind fun q11 => if sh_Tb q11.2.1 = true then pm_S q11.2.1 ((F_Parser_unbind q11.2.1 q11.2.2).bind fun q14 => (F_Tree_add N 7 (ie (tkP T n s.1)) q4.1 q11.1 zl q11.2.1 q14).bind fun q15 => some (q15.1, q11.2.1, q15.2)) else none) else none) := by
    intro q' zl v2 hfl h12
    exact flR_b2 (flR_R ih hfl) (fun z g' v hv hv12 => t2 q' zl z g' v hv (hv12.trans h12))
  cases hp : pDecl T (sAt s (s.1 + 1)) with
  | error q =>
    rw [hp] at x3
    have x3' : fl T n q g v1 := x3
    rw [f_expect x3'.1 x3'.2.1 18 (by decide) g, Option.bind_some]
    exact peC_f (flR_fr fr1 (t1 q zl v1 x3' ((frE_12 fr1).trans hcur)))
  | ok l =>
    rw [hp] at x3
    obtain ⟨rfl, x4⟩ := x3
    obtain ⟨hleq, l1, l2, l3⟩ := pDecl_eq hp
    have hl1 : l.1 = s.2.2.1.1 := by rw [hleq]; rfl
    have hl2 : l.2.1 = s.1 + 1 + 1 := by rw [hleq]; rfl
    have hl3 : l.2.2.2.1.1 = s.2.2.1.1 + 1 := by rw [hleq]; rfl
    have hl4 : l.2.2.2.2.1 = s.2.2.2.1 := by rw [hleq]; rfl
    have l2' : s.1 + 1 < T.length := l2
    obtain ⟨v2, y1, y2, y3⟩ := e_expect hG x4 (by omega) 18 (by omega)
    have y1' : F_Parser_expect 18 g v1 = some v2 := y1
    rw [y1', Option.bind_some]
    have fr2 := fr_trans fr1 (fr_TE (d := d) y2)
    show peC T n d m cl0 sc s g u Y (pB (pX T 18 l.2) _) _
    cases hp2 : pX T 18 l.2 with
    | error q =>
      rw [hp2] at y3
      have y3' : fl T n q g v2 := y3
      exact peC_f (flR_fr fr2 (t1 q _ v2 y3' ((frE_12 fr2).trans hcur)))
    | ok x =>
      rw [hp2] at y3
      obtain ⟨hxeq, x5, x6⟩ := pX_ok (by omega) hp2
      have hx1 : x.1 = s.1 + 1 + 1 + 1 := by rw [hxeq]; show l.2.1 + 1 = _; omega
      have hx2 : x.2 = l.2.2 := by rw [hxeq]; rfl
      have rm1 : rm T x Y := ⟨by omega, by rw [hx2, hl4]; omega, by omega, m4⟩
      have bO := ih.2.2 sc x rm1.1 (cE_24 y3)
      show peC T n d m cl0 sc s g u Y (pB (r sc x) _) _
      refine peC_b (ih.1 sc x g v2 Y y3 rm1) fr2 (by omega) bO ?_ ?_ ?_
      · intro q g' v Z hq hlt1 hle1 hfr hgl hc hZ
        obtain ⟨b1, b2, b3, b4, b5, b6, b7⟩ := bO q hq
        obtain ⟨rmq, hnq⟩ := rm_q (s := s) (Y := Y) ⟨m1, m2, m3, m4⟩ bO hq (by omega) rm1.2.1 hZ
        have b6' : s.2.2.1.1 + 1 ≤ q.2.2.2.1.1 := by rw [hx2, hl3] at b6; exact b6
        obtain ⟨v3, w1, w2, w3⟩ := e_setLB hc l.1 (by omega) q.1
        show peC T n d m cl0 sc q.2 g' v (Y ++ Z) _ ((F_Table_setLocalBound (v.1 39 12) (ie (l.1 : Nat)) (ie (q.1 : Nat)) g' v).bind fun q7 => _)
        rw [hc.2.1.1, w1, Option.bind_some]
        obtain ⟨v4, w4, w5, w6⟩ := e_expect hG w3 (show (sLc q.2 _).1 ≤ T.length from hle1) 8 (by omega)
        have w4' : F_Parser_expect 8 g' v3 = some v4 := w4
        have fr4 := fr_trans w2 (fr_TE (d := d) w5)
        rw [w4', Option.bind_some]
        cases hp3 : pX T 8 (sLc q.2 (q.2.2.2.1.1, q.2.2.2.1.2.1, pu_upd q.2.2.2.1.2.2 l.1 q.1)) with
        | error q' =>
          rw [hp3] at w6
          have w6' : fl T n q' g' v4 := w6
          exact peC_f (flR_fr fr4 (t3 q' _ _ g' v4 w6'))
        | ok y =>
          rw [hp3] at w6
          obtain ⟨hyeq, y5, y6⟩ := pX_ok (by omega) hp3
          have hy1 : y.1 = q.2.1 + 1 := by rw [hyeq]; rfl
          have hy3 : y.2.2.1.1 = q.2.2.2.1.1 := by rw [hyeq]; rfl
          have hy4 : y.2.2.2.1 = q.2.2.2.2.1 := by rw [hyeq]; rfl
          have y5' : q.2.1 < T.length := y5
          rw [k_value w6.1.2.1 (by omega) g', Option.bind_some]
          have hsl := h.2.2.1.2.2
          obtain ⟨v5, z1, z2, z3⟩ := e_bind w6 (tkV T (s.1 + 1)) l.1 (by have := cE_24 h; omega) (by omega)
          rw [z1, Option.bind_some]
          have fr5 := fr_trans fr4 z2
          have rm2 : rm T y (Y ++ Z) := ⟨by omega, by omega, by have := rmq.2.2.1; omega, m4⟩
          have bO2 := ih.2.2 ((tkV T (s.1 + 1), l.1) :: sc) y rm2.1 (cE_24 w6)
          show peC T n d m cl0 sc q.2 g' v (Y ++ Z) (pB (r ((tkV T (s.1 + 1), l.1) :: sc) y) _) _
          refine peC_b (ih.1 _ y g' v5 (Y ++ Z) z3 rm2) fr5 (by omega) bO2 ?_ ?_ ?_
          · intro p g3 v6 Z2 hpp hlt3 hle3 hfr2 hgl2 hc2 hZ2
            obtain ⟨rmp, hnp⟩ := rm_q (s := q.2) rmq bO2 hpp (by omega) rm2.2.1 hZ2
            obtain ⟨v7, a1, a2, a3⟩ := e_unbind hc2
            obtain ⟨v8, c1, c2, c3⟩ := e_add N hN a3 (by omega) 7 s.1 q.1 p.1 l.1 []
            have c1' : F_Tree_add N 7 (ie (tkP T n s.1)) (ie (q.1 : Nat)) (ie (p.1 : Nat)) (ie (l.1 : Nat)) g3 v7 = some (ie (p.2.2.2.2.1 : Nat), v8) := c1
            show peC T n d m cl0 sc p.2 g3 v6 (Y ++ Z ++ Z2) _ ((F_Parser_unbind g3 v6).bind fun q14 => (F_Tree_add N 7 (ie (tkP T n s.1)) (ie (q.1 : Nat)) (ie (p.1 : Nat)) (ie (l.1 : Nat)) g3 q14).bind fun q15 => _)
            rw [a1, Option.bind_some, c1', Option.bind_some]
            exact peC_0 (q := (p.2.2.2.2.1, sTr p.2 (tBd (tAdd p.2.2.2.2 (7, s.1, q.1, p.1, l.1, 0, [])) q.1 l.1))) (fr_trans a2 c2) (cE_hr (s := sNode p.2 (7, s.1, q.1, p.1, l.1, 0, [])) (tBd (tAdd p.2.2.2.2 (7, s.1, q.1, p.1, l.1, 0, [])) q.1 l.1) c3 rfl rfl rfl)
          · intro q' z g3 v6 hfl _
            exact t4 q' _ _ z g3 v6 hfl
          · intro p p' hpp hk; cases hk; exact Nat.le_refl _
      · intro q' z g3 v6 hfl h12
        exact t2 q' _ z g3 v6 hfl (h12.trans hcur)
      · intro q p hq hk
        obtain ⟨b1, b2, b3, b4, b5, b6, b7⟩ := bO q hq
        obtain ⟨y, y1, y2⟩ := pB_ok hk
        obtain ⟨hyeq, y5, y6⟩ := pX_ok (by omega) y1
        have hy1 : y.1 = q.2.1 + 1 := by rw [hyeq]; rfl
        have hy3 : y.2.2.1.1 = q.2.2.2.1.1 := by rw [hyeq]; rfl
        have y5' : q.2.1 < T.length := y5
        obtain ⟨p2, p3, p4⟩ := pB_ok y2
        obtain ⟨c1, _⟩ := bR_u ih.2.2 p3 (by omega) (by omega)
        cases p4
        show q.2.1 ≤ p2.2.1; omega
theorem c_if {T : List Tok} {n d m : Nat} {cl0 : Option Nat} {sc : Sc} {s : PS} {g : pm_s} {u : pm_J} {Y : List Ty} (N : Nat) (hN : 100 ≤ N) (hG : tkG T) (r : PR) (R : Int32 → pm_s → pm_J → Option (Int32 × pm_s × pm_J)) (dp : Int32) (ih : iE T n d m cl0 r (R (dp + 1))) (h : cE T n d m cl0 sc s g u Y) (hm : rm T s Y) (hk9 : tkK T s.1 = 9) :
    peC T n d m cl0 sc s g u Y (pIf r T sc s) (F_Parser_readIf N R dp g u) := by
  have hm0 := hm
  obtain ⟨m1, m2, m3, m4⟩ := hm
  have hlt := tkK_lt (show tkK T s.1 ≠ 0 by omega)
  unfold F_Parser_readIf pIf
  apply peC_S
  rw [k_here h.1 m1 g, Option.bind_some, h.1.2.2.2, iadd1]
  have hat := cE_at h (s.1 + 1)
  have hfr1 : fr (cS_E d) u (wi u 39 11 (ie ((s.1 + 1 : Nat) : Int))) := frE_wi _ _ _ (by omega) (fr_refl _ _)
  have rm1 : rm T (sAt s (s.1 + 1)) Y := ⟨by show s.1 + 1 ≤ _; omega, by show s.2.2.2.1 ≤ 2 * (s.1 + 1); omega, by show _ + (T.length - (s.1 + 1)) ≤ _; omega, m4⟩
  have bO := ih.2.2 sc (sAt s (s.1 + 1)) rm1.1 (cE_24 hat)
  have t3 : ∀ q' (z2 z6 z : Int32) g2 v2, fl T n q' g2 v2 → flR T n d q' g2 v2 ((F_Tree_add N 8 (ie (tkP T n s.1)) z2 z6 z g2 v2).bind fun q13 => some (q13.1, g2, q13.2)) := by
    intro q' z2 z6 z g2 v2 hfl
    obtain ⟨y, w', y1, y2⟩ := f_add (d := d) N hN hfl 8 (ie (tkP T n s.1)) z2 z6 z
    rw [y1, Option.bind_some]; exact flR_1 _ y2
  have t2 : ∀ q' (z2 z6 : Int32) g2 v2, fl T n q' g2 v2 → flR T n d q' g2 v2 ((F_Parser_expect 11 g2 v2).bind fun q9 => (R (dp + 1) g2 q9).bind fun q10 => if sh_Tb q10.2.1 = true then pm_S q10.2.1 ((F_Tree_add N 8 (ie (tkP T n s.1)) z2 z6 q10.1 q10.2.1 q10.2.2).bind fun q13 => some (q13.1, q10.2.1, q13.2)) else none) := by
    intro q' z2 z6 g2 v2 hfl
    rw [f_expect hfl.1 hfl.2.1 11 (by decide) g2, Option.bind_some]
    exact flR_b (flR_R ih hfl) (fun z g' v hv => t3 q' z2 z6 z g' v hv)
  have t1 : ∀ q' (z2 : Int32) g2 v2, fl T n q' g2 v2 → flR T n d q' g2 v2 ((F_Parser_expect 10 g2 v2).bind fun q5 => (R (dp + 1) g2 q5).bind fun q6 => if sh_Tb q6.2.1 = true then pm_S q6.2.1 ((F_Parser_expect 11 q6.2.1 q6.2.2).bind fun q9 => (R (dp + 1) q6.2.1 q9).bind fun q10 => if sh_Tb q10.2.1 = true then pm_S q10.2.1 ((F_Tree_add N 8 (ie (tkP T n s.1)) z2 q6.1 q10.1 q10.2.1 q10.2.2).bind fun q13 => some (q13.1, q10.2.1, q13.2)) else none) else none) := by
    intro q' z2 g2 v2 hfl
    rw [f_expect hfl.1 hfl.2.1 10 (by decide) g2, Option.bind_some]
    exact flR_b (flR_R ih hfl) (fun z g' v hv => t2 q' z2 z g' v hv)
  refine peC_b (ih.1 sc _ g _ Y hat rm1) hfr1 (by show s.1 ≤ s.1 + 1; omega) bO ?_ (fun q' z g2 v2 hfl _ => t1 q' z g2 v2 hfl) ?_
  · intro c g' v Z hq hlt1 hle1 hfr hgl hc hZ
    obtain ⟨rmq, hnq⟩ := rm_q hm0 bO hq (by show s.1 ≤ s.1 + 1; omega) rm1.2.1 hZ
    obtain ⟨v1, x1, x2, x3⟩ := e_expect hG hc hle1 10 (by omega)
    have x1' : F_Parser_expect 10 g' v = some v1 := x1
    have x2' := fr_TE (d := d) x2
    show peC T n d m cl0 sc c.2 g' v (Y ++ Z) _ ((F_Parser_expect 10 g' v).bind fun q5 => _)
    rw [x1', Option.bind_some]
    cases hp : pX T 10 c.2 with
    | error q =>
      rw [hp] at x3
      have x3' : fl T n q g' v1 := x3
      exact peC_f (flR_fr x2' (flR_b (flR_R ih x3') (fun z g'' v' hv => t2 q _ z g'' v' hv)))
    | ok x =>
      rw [hp] at x3
      obtain ⟨hxeq, x5, x6⟩ := pX_ok (by omega) hp
      have hx1 : x.1 = c.2.1 + 1 := by rw [hxeq]; rfl
      have hx4 : x.2.2.2.1 = c.2.2.2.2.1 := by rw [hxeq]; rfl
      have rm2 : rm T x (Y ++ Z) := ⟨by omega, by omega, by have := rmq.2.2.1; omega, m4⟩
      have bO2 := ih.2.2 sc x rm2.1 (cE_24 x3)
      show peC T n d m cl0 sc c.2 g' v (Y ++ Z) (pB (r sc x) _) _
      refine peC_b (ih.1 sc x g' v1 (Y ++ Z) x3 rm2) x2' (by omega) bO2 ?_ (fun q' z g2 v2 hfl _ => t2 q' _ z g2 v2 hfl) ?_
      · intro y g3 v2 Z2 hq2 hlt2 hle2 hfr2 hgl2 hc2 hZ2
        obtain ⟨rmy, hny⟩ := rm_q (s := c.2) rmq bO2 hq2 (by omega) rm2.2.1 hZ2
        obtain ⟨v3, y1, y2, y3⟩ := e_expect hG hc2 hle2 11 (by omega)
        have y1' : F_Parser_expect 11 g3 v2 = some v3 := y1
        have y2' := fr_TE (d := d) y2
        show peC T n d m cl0 sc y.2 g3 v2 (Y ++ Z ++ Z2) _ ((F_Parser_expect 11 g3 v2).bind fun q9 => _)
        rw [y1', Option.bind_some]
        cases hp2 : pX T 11 y.2 with
        | error q =>
          rw [hp2] at y3
          have y3' : fl T n q g3 v3 := y3
          exact peC_f (flR_fr y2' (flR_b (flR_R ih y3') (fun z g'' v' hv => t3 q _ _ z g'' v' hv)))
        | ok z =>
          rw [hp2] at y3
          obtain ⟨hzeq, z5, z6⟩ := pX_ok (by omega) hp2
          have hz1 : z.1 = y.2.1 + 1 := by rw [hzeq]; rfl
          have hz4 : z.2.2.2.1 = y.2.2.2.2.1 := by rw [hzeq]; rfl
          have rm3 : rm T z (Y ++ Z ++ Z2) := ⟨by omega, by omega, by have := rmy.2.2.1; omega, m4⟩
          have bO3 := ih.2.2 sc z rm3.1 (cE_24 y3)
          show peC T n d m cl0 sc y.2 g3 v2 (Y ++ Z ++ Z2) (pB (r sc z) _) _
          refine peC_b (ih.1 sc z g3 v3 (Y ++ Z ++ Z2) y3 rm3) y2' (by omega) bO3 ?_ (fun q' zz g2 v2 hfl _ => t3 q' _ _ zz g2 v2 hfl) ?_
          · intro w g4 v4 Z3 hq3 hlt3 hle3 hfr3 hgl3 hc3 hZ3
            obtain ⟨rmw, hnw⟩ := rm_q (s := y.2) rmy bO3 hq3 (by omega) rm3.2.1 hZ3
            obtain ⟨v5, c1, c2, c3⟩ := e_add N hN hc3 (by omega) 8 s.1 c.1 y.1 w.1 []
            have c1' : F_Tree_add N 8 (ie (tkP T n s.1)) (ie (c.1 : Nat)) (ie (y.1 : Nat)) (ie (w.1 : Nat)) g4 v4 = some (ie (w.2.2.2.2.1 : Nat), v5) := c1
            show peC T n d m cl0 sc w.2 g4 v4 (Y ++ Z ++ Z2 ++ Z3) _ ((F_Tree_add N 8 (ie (tkP T n s.1)) (ie (c.1 : Nat)) (ie (y.1 : Nat)) (ie (w.1 : Nat)) g4 v4).bind fun q13 => _)
            rw [c1', Option.bind_some]
            exact peC_0 (q := (w.2.2.2.2.1, sNode w.2 (8, s.1, c.1, y.1, w.1, 0, []))) c2 c3
          · intro w p hq3 hk; cases hk; exact Nat.le_refl _
      · intro y p hq2 hk
        obtain ⟨b1, b2, b3, b4, b5, b6, b7⟩ := bO2 y hq2
        obtain ⟨z, z1, z2⟩ := pB_ok hk
        obtain ⟨hzeq, z5, z6⟩ := pX_ok (by omega) z1
        have hz1 : z.1 = y.2.1 + 1 := by rw [hzeq]; rfl
        have hz3 : z.2.2.1.1 = y.2.2.2.1.1 := by rw [hzeq]; rfl
        obtain ⟨w, w1, w2⟩ := pB_ok z2
        obtain ⟨c1, _⟩ := bR_u ih.2.2 w1 (by omega) (by omega)
        cases w2
        show y.2.1 ≤ w.2.1; omega
  · intro c p hq hk
    obtain ⟨b1, b2, b3, b4, b5, b6, b7⟩ := bO c hq
    obtain ⟨x, x1, x2⟩ := pB_ok hk
    obtain ⟨hxeq, x5, x6⟩ := pX_ok (by omega) x1
    have hx1 : x.1 = c.2.1 + 1 := by rw [hxeq]; rfl
    have hx3 : x.2.2.1.1 = c.2.2.2.1.1 := by rw [hxeq]; rfl
    obtain ⟨y, y1, y2⟩ := pB_ok x2
    obtain ⟨c1, c2, _, _, _, _, c7⟩ := bR_u ih.2.2 y1 (by omega) (by omega)
    obtain ⟨z, z1, z2⟩ := pB_ok y2
    obtain ⟨hzeq, z5, z6⟩ := pX_ok (by omega) z1
    have hz1 : z.1 = y.2.1 + 1 := by rw [hzeq]; rfl
    have hz3 : z.2.2.1.1 = y.2.2.2.1.1 := by rw [hzeq]; rfl
    obtain ⟨w, w1, w2⟩ := pB_ok z2
    obtain ⟨d1, _⟩ := bR_u ih.2.2 w1 (by omega) (by omega)
    cases w2
    show c.2.1 ≤ w.2.1; omega
