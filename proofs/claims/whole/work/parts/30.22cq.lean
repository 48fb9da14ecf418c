set_option maxRecDepth 100000
def flU (T : List Tok) (n d : Nat) (q : Nat × Nat) (g : pm_s) (u : pm_J) (F : Option (Unit × pm_s × pm_J)) : Prop := ∃ g' v, F = some ((), g', v) ∧ fl T n q g' v ∧ fr (cS_D d) u v ∧ gL g g'
theorem flU_S {T : List Tok} {n d : Nat} {q : Nat × Nat} {g : pm_s} {u : pm_J} {F : Option (Unit × pm_s × pm_J)} (h : flU T n d q g u F) : flU T n d q g u (pm_S g F) := by
  obtain ⟨g', v, rfl, h2, h3, h4⟩ := h
  exact ⟨g', v, pmS_some _ _ _ _ h4.2.1 h4.2.2.1, h2, h3, h4⟩
theorem flU_fr {T : List Tok} {n d : Nat} {q : Nat × Nat} {g : pm_s} {u v : pm_J} {F : Option (Unit × pm_s × pm_J)} (h1 : fr (cS_D d) u v) (h : flU T n d q g v F) : flU T n d q g u F := by
  obtain ⟨g', w, y1, y2, y3, y4⟩ := h
  exact ⟨g', w, y1, y2, fr_trans h1 y3, y4⟩
theorem flU_b {T : List Tok} {n d : Nat} {q : Nat × Nat} {g : pm_s} {u : pm_J} {F : Option (Int32 × pm_s × pm_J)} {f : Int32 × pm_s × pm_J → Option (Unit × pm_s × pm_J)} (h : flR T n d q g u F) (hf : ∀ z g' v, fl T n q g' v → v.1 39 12 = u.1 39 12 → flU T n d q g' v (f (z, g', v))) : flU T n d q g u (F.bind fun x => if sh_Tb x.2.1 = true then pm_S x.2.1 (f x) else none) := by
  obtain ⟨z, g', v, rfl, h2, h3, h4⟩ := h
  obtain ⟨g2, v2, y1, y2, y3, y4⟩ := flU_S (hf z g' v h2 (frE_12 h3))
  rw [Option.bind_some, if_pos (gI_Tb h4.1)]
  exact ⟨g2, v2, y1, y2, fr_trans (fr_ED h3) y3, gL_trans h4 y4⟩
theorem f_typeR {T : List Tok} {n d : Nat} {q : Nat × Nat} {g : pm_s} {u : pm_J} (N : Nat) (hN : 100000 ≤ N) (o : Int32) (h : fl T n q g u) : flR T n d q g u (F_Parser_readType N 24 1 o g u) := by
  obtain ⟨z, g', v, a1, a2, a3, a4⟩ := f_type N hN 24 (by omega) 1 o h
  exact ⟨z, g', v, a1, a2, fr_TE a3, a4⟩
theorem f_par2 {T : List Tok} {n d : Nat} {q : Nat × Nat} {g : pm_s} {u : pm_J} (N : Nat) (hN : 100000 ≤ N) (hd : d < 30) (x2 cc : Int32) (hcc : cc = ie d) (h : fl T n q g u) : flU T n d q g u ((F_Parser_readType N 24 1 1 g u).bind fun q12 => if sh_Tb q12.2.1 = true then pm_S q12.2.1 ((F_Table_setLocalType cc x2 q12.1 q12.2.1 q12.2.2).bind fun q15 => (F_Parser_expect 16 q12.2.1 q15).bind fun q16 => some ((), q12.2.1, q16)) else none) := by
  subst hcc
  refine flU_b (f_typeR N hN 1 h) (fun z g' v hv _ => ?_)
  obtain ⟨w, w1, w2⟩ := f_setLT (d := d) hd hv x2 z
  show flU T n d q g' v ((F_Table_setLocalType (ie d) x2 z g' v).bind fun q15 => (F_Parser_expect 16 g' q15).bind fun q16 => some ((), g', q16))
  rw [w1, Option.bind_some, f_expect w2.1.1 w2.1.2.1 16 (by decide) g', Option.bind_some]
  exact ⟨g', w, rfl, w2.1, fr_ED w2.2, gL_refl (fl_gI w2.1)⟩
theorem f_84 {T : List Tok} {n d : Nat} {q : Nat × Nat} {g : pm_s} {u : pm_J} (N : Nat) (hN : 100000 ≤ N) (hd : d < 30) (h12 : u.1 39 12 = ie d) (x1 x2 : Int32) (h : fl T n q g u) : flU T n d q g u (K_Parser_readParameter_84 N x1 x2 g u) := by
  obtain ⟨p, hp⟩ := s_tokv h.2.1 x1 g
  obtain ⟨w, w1, w2⟩ := f_bind (d := d) h p x2
  have hw12 : w.1 39 12 = ie d := (frE_12 w2.2).trans h12
  obtain ⟨y, y1, y2, y3⟩ := f_count (d := d) hd w2.1 0 (by omega) 1
  have y1' : F_Table_count (ie d) 0 1 g w = some y := y1
  unfold K_Parser_readParameter_84
  rw [hp, Option.bind_some, w1, Option.bind_some, hw12, y1', Option.bind_some, f_expect y2.1 y2.2.1 17 (by decide) g, Option.bind_some]
  have hy12 : y.1 39 12 = ie d := by
    have hh : ∀ z, F_Table_count (ie d) 0 1 g w = some z → z.1 39 12 = w.1 39 12 := by
      intro z hz
      unfold F_Table_count at hz
      repeat' split at hz
      all_goals first | (cases hz; rfl) | cases hz
    rw [hh y y1']; exact hw12
  exact flU_fr (fr_trans (fr_ED w2.2) y3) (f_par2 N hN hd x2 _ hy12 y2)
theorem s_find {u : pm_J} (N : Nat) (hN : 100 ≤ N) (h : cBI u) (v : Int64) (g : pm_s) : ∃ x, F_Parser_findLocal N v g u = some x := by
  obtain ⟨b, hb, hc⟩ := h.2.1
  unfold F_Parser_findLocal
  rw [hc, show (1 : Int32) = ie 1 from rfl, ie_sub]
  have key : ∀ (j f : Nat), j ≤ 24 → j < f → ∃ x, K_Parser_findLocal_7 N g u f v (ie ((j : Int) - 1)) = some x := by
    intro j
    induction j with
    | zero =>
      intro f hj hf
      obtain ⟨f, rfl⟩ : ∃ f', f = f' + 1 := ⟨f - 1, by omega⟩
      exact ⟨_, rfl⟩
    | succ j ih =>
      intro f hj hf
      obtain ⟨f, rfl⟩ : ∃ f', f = f' + 1 := ⟨f - 1, by omega⟩
      rw [K_Parser_findLocal_7, show (((j + 1 : Nat) : Int) - 1) = (j : Nat) by omega, if_neg (nlt0 _ (by omega)), if_pos (okn _ 24 (by omega) (by omega)), if_pos (okn _ 24 (by omega) (by omega))]
      by_cases hx : (lg_cmp (u.2 40 (ie (j : Int)).toNatClampNeg) v) = 0
      · rw [if_pos hx]; exact ⟨_, rfl⟩
      · rw [if_neg hx, show ie (j : Int) + -1 = ie ((j : Int) - 1) by rw [show (-1 : Int32) = ie (-1) from rfl, ie_add]; rfl]
        exact ih f (by omega) (by omega)
  exact key b N hb (by omega)
theorem f_tell4 {T : List Tok} {n d : Nat} {q : Nat × Nat} {g : pm_s} {u : pm_J} (h : fl T n q g u) (a b : Int32) : ∃ v, F_Fault_tell_4 a b g u = some v ∧ fl T n q g v ∧ fr (cS_D d) u v ∧ v.1 39 12 = u.1 39 12 := by
  unfold F_Fault_tell_4
  by_cases h0 : u.1 4 0 = 0
  · rw [if_pos h0]
    exact ⟨_, rfl, fl_wi (fl_wi h _ _ _ (by omega) (by omega) (by omega)) _ _ _ (by omega) (by omega) (by omega), fr_ED (fr_TE (fr_wi _ _ _ _ _ _ rfl (fr_wi _ _ _ _ _ _ rfl (fr_refl _ _)))), rfl⟩
  · rw [if_neg h0]; exact ⟨u, rfl, h, fr_refl _ _, rfl⟩
theorem f_42 {T : List Tok} {n d : Nat} {q : Nat × Nat} {g : pm_s} {u : pm_J} (N : Nat) (hN : 100000 ≤ N) (hd : d < 30) (h12 : u.1 39 12 = ie d) (h : fl T n q g u) : flU T n d q g u (K_Parser_readParameter_42 N g u) := by
  obtain ⟨p, hp⟩ := s_tokv h.2.1 (u.1 39 11) g
  obtain ⟨x, hx⟩ := s_find N (by omega) h.2.1 p g
  unfold K_Parser_readParameter_42
  rw [f_local h.1 h.2.1 N g, Option.bind_some]
  show flU T n d q g u ((F_Tokens_value (u.1 39 11) g u).bind fun q5 => _)
  rw [hp, Option.bind_some]
  show flU T n d q g u ((F_Parser_findLocal N p g u).bind fun q6 => _)
  rw [hx, Option.bind_some]
  by_cases h1 : x = -1
  · rw [if_pos h1]; exact f_84 N hN hd h12 _ _ h
  · rw [if_neg h1]
    obtain ⟨pp, hpp⟩ := s_tokp h.2.1 (u.1 39 11) g
    obtain ⟨w, w1, w2, w3, w4⟩ := f_tell4 (d := d) h 5 pp
    show flU T n d q g u ((F_Tokens_placeOf (u.1 39 11) g u).bind fun q17 => (F_Fault_tell_4 5 q17 g u).bind fun q18 => _)
    rw [hpp, Option.bind_some, w1, Option.bind_some]
    exact flU_fr w3 (f_84 N hN hd (w4.trans h12) _ _ w2)
def pqC (T : List Tok) (n d : Nat) (cl0 : Option Nat) (s : PS) (g : pm_s) (u : pm_J) (Y : List Ty) (x : PE (Sc × PM × PS)) (F : Option (Unit × pm_s × pm_J)) : Prop :=
  ∃ (g' : pm_s) (v : pm_J), F = some ((), g', v) ∧ fr (cS_D d) u v ∧ gL g g' ∧
    (match x with
     | .error q => fl T n q g' v
     | .ok q => ∃ Z : List Ty, cP T n d cl0 q.1 q.2.1 q.2.2 g' v (Y ++ Z) ∧ Y.length + Z.length ≤ Y.length + (q.2.2.1 - s.1) ∧ s.1 ≤ q.2.2.1 ∧ q.2.2.1 ≤ T.length ∧ q.2.2.2.2.2 = s.2.2.2)
theorem pqC_f {T : List Tok} {n d : Nat} {cl0 : Option Nat} {s : PS} {g : pm_s} {u : pm_J} {Y : List Ty} {q : Nat × Nat} {F : Option (Unit × pm_s × pm_J)} (h : flU T n d q g u F) : pqC T n d cl0 s g u Y (.error q) F := by
  obtain ⟨g', v, h1, h2, h3, h4⟩ := h
  exact ⟨g', v, h1, h3, h4, h2⟩
theorem pmM_lt (ps : PM) (h : ∀ x ∈ ps, tyM x.2 < 16) : pmM ps < 16 := by
  induction ps with
  | nil => decide
  | cons x l ih => exact or_lt16 _ (ih (fun y hy => h y (by simp [hy]))) _ (h x (by simp))
theorem c_par1 {T : List Tok} {n d : Nat} {cl0 : Option Nat} {sc : Sc} {ps : PM} {s : PS} {g : pm_s} {u : pm_J} {Y : List Ty} (N : Nat) (hN : 100000 ≤ N) (hG : tkG T) (h : cP T n d cl0 sc ps s g u Y) (hs : s.1 ≤ T.length) (hY : Y.length + (T.length - s.1) ≤ 60000) (h6 : List.length ps < 6) (hk : tkK T s.1 = 15) :
    pqC T n d cl0 s g u Y (pB (pDecl T (sAt s (s.1 + 1))) fun l => pB (pX T 17 l.2) fun x => pB (pTy T 20 x.1 0) fun t =>
        pB (pX T 16 (sAt (sWr (sLc x (x.2.2.1.1, pu_upd x.2.2.1.2.1 l.1 (some t.1), x.2.2.1.2.2)) (oE x.2.1 (if (fnd sc (tkV T (s.1 + 1))).isSome = true then some (s.1 + 1) else none))) t.2.1)) fun y =>
        .ok ((tkV T (s.1 + 1), l.1) :: sc, (s.1 + 1, t.1) :: ps, y)) (F_Parser_readParameter N g u) := by
  obtain ⟨h1, h2, h3, h4, h5, h7⟩ := h
  have hlt := tkK_lt (show tkK T s.1 ≠ 0 by omega)
  have hd := h1.2.1.2.2.1
  have hcur := h1.2.1.1
  have hm16 := h1.2.1.2.2.2.1
  unfold F_Parser_readParameter
  have hx : F_Parser_expect 15 g u = some (wi u 39 11 (ie ((s.1 + 1 : Nat) : Int))) := by
    have k15 : (ie (tkK T s.1 : Int) = 15) ↔ tkK T s.1 = 15 := kq (hG.1 s.1) 15 (by omega)
    unfold F_Parser_expect
    rw [k_kind h1.1 hs g, Option.bind_some, if_pos (k15.mpr hk), h1.1.2.2.2, iadd1]
  have hat := cE_at h1 (s.1 + 1)
  have fr0 : fr (cS_D d) u (wi u 39 11 (ie ((s.1 + 1 : Nat) : Int))) := fr_ED (frE_wi _ _ _ (by omega) (fr_refl _ _))
  rw [hx, Option.bind_some, k_kind hat.1 (by show s.1 + 1 ≤ _; omega) g, Option.bind_some]
  have pass : (if ie (tkK T (sAt s (s.1 + 1)).1 : Int) = 1 then (F_Table_parameters ((wi u 39 11 (ie ((s.1 + 1 : Nat) : Int))).1 39 12) g (wi u 39 11 (ie ((s.1 + 1 : Nat) : Int)))).bind fun q19 => if q19 < 6 then K_Parser_readParameter_42 N g (wi u 39 11 (ie ((s.1 + 1 : Nat) : Int))) else (F_Parser_here g (wi u 39 11 (ie ((s.1 + 1 : Nat) : Int)))).bind fun q21 => (F_Fault_tell_3 4 q21 g (wi u 39 11 (ie ((s.1 + 1 : Nat) : Int)))).bind fun q22 => K_Parser_readParameter_42 N g q22 else K_Parser_readParameter_42 N g (wi u 39 11 (ie ((s.1 + 1 : Nat) : Int)))) = K_Parser_readParameter_42 N g (wi u 39 11 (ie ((s.1 + 1 : Nat) : Int))) := by
    have e12 : (wi u 39 11 (ie ((s.1 + 1 : Nat) : Int))).1 39 12 = ie d := hcur
    rw [e12, e_params hat, Option.bind_some]
    have e38 : (wi u 39 11 (ie ((s.1 + 1 : Nat) : Int))).1 38 (d * 6 + 0) = ie (List.length ps : Nat) := h2
    rw [e38, if_pos (show ie (List.length ps : Int) < 6 from (inlt _ 6 (by omega) (by omega)).mpr h6)]
    split <;> rfl
  rw [pass]
  unfold K_Parser_readParameter_42
  obtain ⟨zl, v1, x1, x2, x3⟩ := e_local N hG hat (by show s.1 + 1 ≤ _; omega)
  have e11 : (wi u 39 11 (ie ((s.1 + 1 : Nat) : Int))).1 39 11 = ie ((s.1 + 1 : Nat) : Int) := rfl
  rw [x1, Option.bind_some, e11]
  have fr1 := fr_trans fr0 (fr_ED (d := d) x2)
  have h112 : v1.1 39 12 = ie d := (frE_12 x2).trans hcur
  show pqC T n d cl0 s g u Y _ (pm_S g ((F_Tokens_value (ie ((s.1 + 1 : Nat) : Int)) g v1).bind fun q5 => (F_Parser_findLocal N q5 g v1).bind fun q6 => if q6 = (-1) then K_Parser_readParameter_84 N (ie ((s.1 + 1 : Nat) : Int)) zl g v1 else (F_Tokens_placeOf (ie ((s.1 + 1 : Nat) : Int)) g v1).bind fun q17 => (F_Fault_tell_4 5 q17 g v1).bind fun q18 => K_Parser_readParameter_84 N (ie ((s.1 + 1 : Nat) : Int)) zl g q18))
  cases hp : pDecl T (sAt s (s.1 + 1)) with
  | error q =>
    rw [hp] at x3
    have x3' : fl T n q g v1 := x3
    obtain ⟨p, hpv⟩ := s_tokv x3'.2.1 (ie ((s.1 + 1 : Nat) : Int)) g
    obtain ⟨xf, hxf⟩ := s_find N (by omega) x3'.2.1 p g
    apply pqC_f
    apply flU_fr fr1
    apply flU_S
    rw [hpv, Option.bind_some, hxf, Option.bind_some]
    by_cases hh1 : xf = -1
    · rw [if_pos hh1]; exact f_84 N hN hd h112 _ _ x3'
    · rw [if_neg hh1]
      obtain ⟨pp, hpp⟩ := s_tokp x3'.2.1 (ie ((s.1 + 1 : Nat) : Int)) g
      obtain ⟨w, w1, w2, w3, w4⟩ := f_tell4 (d := d) x3' 5 pp
      rw [hpp, Option.bind_some, w1, Option.bind_some]
      exact flU_fr w3 (f_84 N hN hd (w4.trans h112) _ _ w2)
  | ok l =>
    rw [hp] at x3
    obtain ⟨rfl, x4⟩ := x3
    obtain ⟨hleq, l1, l2, l3⟩ := pDecl_eq hp
    have hl1 : l.1 = List.length ps := by rw [hleq]; exact h5
    have hl2 : l.2.1 = s.1 + 1 + 1 := by rw [hleq]; rfl
    have hl3 : l.2.2.2.1.1 = List.length ps + 1 := by rw [hleq]; show s.2.2.1.1 + 1 = _; omega
    have hl4 : l.2.2.2.2 = s.2.2.2 := by rw [hleq]; rfl
    have l2' : s.1 + 1 < T.length := l2
    rw [k_value x4.1.2.1 (by omega) g, Option.bind_some, e_find N (by omega) x4, Option.bind_some]
    have hdup : ∃ w, (if fndI (fnd sc (tkV T (s.1 + 1))) = (-1) then K_Parser_readParameter_84 N (ie ((s.1 + 1 : Nat) : Int)) (ie (l.1 : Nat)) g v1 else (F_Tokens_placeOf (ie ((s.1 + 1 : Nat) : Int)) g v1).bind fun q17 => (F_Fault_tell_4 5 q17 g v1).bind fun q18 => K_Parser_readParameter_84 N (ie ((s.1 + 1 : Nat) : Int)) (ie (l.1 : Nat)) g q18) = K_Parser_readParameter_84 N (ie ((s.1 + 1 : Nat) : Int)) (ie (l.1 : Nat)) g w ∧
        cE T n d (pmM ps) cl0 sc (sWr l.2 (oE l.2.2.1 (if (fnd sc (tkV T (s.1 + 1))).isSome = true then some (s.1 + 1) else none))) g w Y ∧ fr (cS_D d) v1 w ∧ (∀ i, w.1 38 i = v1.1 38 i) := by
      cases hf : fnd sc (tkV T (s.1 + 1)) with
      | none =>
        rw [if_pos (show fndI none = -1 from rfl)]
        refine ⟨v1, rfl, ?_, fr_refl _ _, fun _ => rfl⟩
        show cE T n d (pmM ps) cl0 sc (sWr l.2 (oE l.2.2.1 none)) g v1 Y
        rw [oE_none]; exact x4
      | some k =>
        have hk24 := scR_f sc x4.2.2.1.1 _ k hf
        have hne : ¬ (ie (k : Int) = -1) := fun hh => by
          have := ie_inj (a := (k : Int)) (b := -1) (show ie (k : Int) = ie (-1) from hh) (by omega) (by omega) (by omega) (by omega)
          omega
        show ∃ w, (if ie (k : Int) = -1 then _ else _) = _ ∧ _
        rw [if_neg hne, k_place x4.1.2.1 x4.1.2.2.1 (by omega) g, Option.bind_some]
        obtain ⟨w, w1, w2, w3, w4⟩ := e_clash x4 (s.1 + 1)
        rw [w1, Option.bind_some]
        exact ⟨w, rfl, w2, fr_ED (fr_TE w3), w4⟩
    obtain ⟨w, w1, w2, w3, w4⟩ := hdup
    rw [w1]
    have fr2 := fr_trans fr1 w3
    unfold K_Parser_readParameter_84
    rw [k_value w2.1.2.1 (by omega) g, Option.bind_some]
    obtain ⟨v2, y1, y2, y3⟩ := e_bind w2 (tkV T (s.1 + 1)) l.1 (by omega) (by show List.length sc < l.2.2.2.1.1; omega)
    rw [y1, Option.bind_some, y3.2.1.1]
    have fr3 := fr_trans fr2 (fr_ED (d := d) y2)
    have y4 := e_count y3 0 (by omega) 1
    have y4' : F_Table_count (ie d) 0 1 g v2 = some (wi v2 38 (d * 6 + 0) (v2.1 38 (d * 6 + 0) + 1)) := y4
    have h38 : v2.1 38 (d * 6 + 0) = ie (List.length ps : Nat) := by
      rw [(frE_29 y2 38 _ (by omega)).1, w4, (frE_29 x2 38 _ (by omega)).1]; exact h2
    have h38k : ∀ k, 1 ≤ k → k < 6 → v2.1 38 (d * 6 + k) = ie 0 := by
      intro k k1 k2
      rw [(frE_29 y2 38 _ (by omega)).1, w4, (frE_29 x2 38 _ (by omega)).1]; exact h7 k k1 k2
    rw [y4', Option.bind_some, h38, iadd1]
    have y5 := cE_wi y3 38 (d * 6 + 0) (ie ((List.length ps + 1 : Nat) : Int)) (by omega)
    have fr4 := frD_wi (d := d) 38 (d * 6 + 0) (ie ((List.length ps + 1 : Nat) : Int)) (by omega) fr3
    obtain ⟨v3, z1, z2, z3⟩ := e_expect hG y5 (by show l.2.1 ≤ _; omega) 17 (by omega)
    have z1' : F_Parser_expect 17 g (wi v2 38 (d * 6 + 0) (ie ((List.length ps + 1 : Nat) : Int))) = some v3 := z1
    rw [z1', Option.bind_some]
    have fr5 := fr_trans fr4 (fr_ED (fr_TE (d := d) z2))
    have h312 : v3.1 39 12 = ie d := (frE_12 (fr_TE (d := d) z2)).trans y3.2.1.1
    show pqC T n d cl0 s g u Y (pB (pX T 17 l.2) _) _
    have hpx : pX T 17 (sWr l.2 (oE l.2.2.1 (if (fnd sc (tkV T (s.1 + 1))).isSome = true then some (s.1 + 1) else none))) = (pB (pX T 17 l.2) fun x => .ok (sWr x (oE l.2.2.1 (if (fnd sc (tkV T (s.1 + 1))).isSome = true then some (s.1 + 1) else none)))) := by
      unfold pX
      show (if tkK T l.2.1 = 17 then _ else _) = _
      by_cases e : tkK T l.2.1 = 17
      · rw [if_pos e, if_pos e]; rfl
      · rw [if_neg e, if_neg e]; rfl
    rw [hpx] at z3
    cases hp3 : pX T 17 l.2 with
    | error q =>
      rw [hp3] at z3
      have z3' : fl T n q g v3 := z3
      exact pqC_f (flU_fr fr5 (flU_S (f_par2 N hN hd _ _ h312 z3')))
    | ok x =>
      rw [hp3] at z3
      have z3' : cE T n d (pmM ps) cl0 ((tkV T (s.1 + 1), l.1) :: sc) (sWr x (oE l.2.2.1 (if (fnd sc (tkV T (s.1 + 1))).isSome = true then some (s.1 + 1) else none))) g v3 Y := z3
      obtain ⟨hxeq, x5, x6⟩ := pX_ok (by omega) hp3
      have hx1 : x.1 = s.1 + 1 + 1 + 1 := by rw [hxeq]; show l.2.1 + 1 = _; omega
      have hx2 : x.2 = l.2.2 := by rw [hxeq]; rfl
      have hx3 : x.2.2.1.1 = List.length ps + 1 := by rw [hx2]; exact hl3
      obtain ⟨zt, g', v4, f1, f2, f3, f4, f5⟩ := c_type N hN hG true x.1 (pmM ps) _ g v3 Y z3'.1 z3'.2.1.2.1 z3'.2.2.2.1 z3'.2.2.2.2.1 z3'.2.2.2.2.2.2.2 (by omega) (by omega) hm16
      have f1' : F_Parser_readType N 24 1 1 g v3 = some (zt, g', v4) := f1
      rw [f1', Option.bind_some, if_pos (gI_Tb f3.1), h312]
      have fr6 := fr_trans fr5 (fr_ED (fr_TE (d := d) f2))
      show pqC T n d cl0 s g u Y (pB (pTy T 20 x.1 0) _) _
      cases hp4 : pTy T 20 x.1 0 with
      | error q =>
        rw [hp4] at f5
        have f5' : fl T n q g' v4 := f5
        obtain ⟨w', k1, k2⟩ := f_setLT (d := d) hd f5' (ie (l.1 : Nat)) zt
        rw [k1, Option.bind_some, f_expect k2.1.1 k2.1.2.1 16 (by decide) g', Option.bind_some, pmS_some _ _ _ _ (Nat.le_refl _) (Nat.le_refl _), pmS_some _ _ _ _ f3.2.1 f3.2.2.1]
        exact ⟨g', w', rfl, fr_trans fr6 (fr_ED k2.2), f3, k2.1⟩
      | ok t =>
        rw [hp4] at f5
        obtain ⟨kt, Z, rfl, u2, u3, u4, u5, u6, u7, u8, u9⟩ := f5
        have u2' : cT T n t.2.1 t.2.2 0 (pmM ps ||| tyM t.1) (oE cl0 (oE l.2.2.1 (if (fnd sc (tkV T (s.1 + 1))).isSome = true then some (s.1 + 1) else none))) g' v4 (Y ++ Z) := u2
        obtain ⟨c1, c2, c3, c4, c5, c6⟩ := u2'
        have hE4 := cE_Tm z3' f2 t.2.1 (oE l.2.2.1 (if (fnd sc (tkV T (s.1 + 1))).isSome = true then some (s.1 + 1) else none)) c1 c4 (or_lt16 _ hm16 _ u8) c5 c6 f4
        obtain ⟨v5, k1, k2, k3⟩ := e_setLT hE4 l.1 (by show l.1 < x.2.2.1.1; omega) kt t.1 u3
        rw [k1, Option.bind_some]
        obtain ⟨v6, j1, j2, j3⟩ := e_expect hG k3 (by show t.2.1 ≤ _; omega) 16 (by omega)
        have j1' : F_Parser_expect 16 g' v5 = some v6 := j1
        rw [j1', Option.bind_some, pmS_some _ _ _ _ (Nat.le_refl _) (Nat.le_refl _), pmS_some _ _ _ _ f3.2.1 f3.2.2.1]
        have fr7 : fr (cS_E d) v4 v6 := fr_trans k2 (fr_TE (d := d) j2)
        refine ⟨g', v6, rfl, fr_trans fr6 (fr_ED fr7), f3, ?_⟩
        have hxwr : x.2.1 = l.2.2.1 := by rw [hx2]
        show (match pB (pX T 16 (sAt (sWr (sLc x (x.2.2.1.1, pu_upd x.2.2.1.2.1 l.1 (some t.1), x.2.2.1.2.2)) (oE x.2.1 (if (fnd sc (tkV T (s.1 + 1))).isSome = true then some (s.1 + 1) else none))) t.2.1)) (fun y => (.ok ((tkV T (s.1 + 1), l.1) :: sc, (s.1 + 1, t.1) :: ps, y) : PE (Sc × PM × PS))) with
          | .error q => fl T n q g' v6
          | .ok q => ∃ Z : List Ty, cP T n d cl0 q.1 q.2.1 q.2.2 g' v6 (Y ++ Z) ∧ Y.length + Z.length ≤ Y.length + (q.2.2.1 - s.1) ∧ s.1 ≤ q.2.2.1 ∧ q.2.2.1 ≤ T.length ∧ q.2.2.2.2.2 = s.2.2.2)
        rw [hxwr]
        have j3' : (match pX T 16 (sAt (sWr (sLc x (x.2.2.1.1, pu_upd x.2.2.1.2.1 l.1 (some t.1), x.2.2.1.2.2)) (oE l.2.2.1 (if (fnd sc (tkV T (s.1 + 1))).isSome = true then some (s.1 + 1) else none))) t.2.1) with
          | .error q => fl T n q g' v6
          | .ok s' => cE T n d (pmM ps ||| tyM t.1) cl0 ((tkV T (s.1 + 1), l.1) :: sc) s' g' v6 (Y ++ Z)) := j3
        cases hp5 : pX T 16 (sAt (sWr (sLc x (x.2.2.1.1, pu_upd x.2.2.1.2.1 l.1 (some t.1), x.2.2.1.2.2)) (oE l.2.2.1 (if (fnd sc (tkV T (s.1 + 1))).isSome = true then some (s.1 + 1) else none))) t.2.1) with
        | error q => rw [hp5] at j3'; exact j3'
        | ok y =>
          rw [hp5] at j3'
          obtain ⟨hyeq, yy5, yy6⟩ := pX_ok (by omega) hp5
          have hy1 : y.1 = t.2.1 + 1 := by rw [hyeq]; rfl
          have hy3 : y.2.2.1.1 = x.2.2.1.1 := by rw [hyeq]; rfl
          have hy4 : y.2.2.2 = x.2.2.2 := by rw [hyeq]; rfl
          have yy5' : t.2.1 < T.length := yy5
          have h38b : ∀ i, v6.1 38 i = v3.1 38 i := by
            intro i
            rw [(frE_29 fr7 38 i (by omega)).1, (frE_29 (fr_TE (d := d) f2) 38 i (by omega)).1]
          have h38c : ∀ i, v3.1 38 i = (wi v2 38 (d * 6 + 0) (ie ((List.length ps + 1 : Nat) : Int))).1 38 i := fun i => (frE_29 (fr_TE (d := d) z2) 38 i (by omega)).1
          refine ⟨Z, ⟨j3', ?_, ?_, ?_, ?_, ?_⟩, ?_, ?_, ?_, ?_⟩
          · rw [h38b, h38c, wi_1, if_pos ⟨rfl, rfl⟩]; rfl
          · show List.length ps + 1 ≤ 6; omega
          · show List.length sc + 1 = List.length ps + 1; omega
          · show y.2.2.1.1 = List.length ps + 1; omega
          · intro k k1 k2
            rw [h38b, h38c, wi_1, if_neg (by omega)]; exact h38k k k1 k2
          · show Y.length + Z.length ≤ Y.length + (y.1 - s.1); omega
          · show s.1 ≤ y.1; omega
          · show y.1 ≤ T.length; omega
          · show y.2.2.2 = s.2.2.2
            rw [hy4, hx2]; exact hl4
