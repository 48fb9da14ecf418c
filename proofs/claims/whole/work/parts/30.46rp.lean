set_option maxRecDepth 100000
theorem tk0_take {u : pm_J} (g : pm_s) (h : u.1 64 60 = ie 1) : F_Md_takeType g u = some (u.1 109 0, wi u 64 60 (ie 0)) := by
  unfold F_Md_takeType
  have e1 : u.1 64 60 - 1 = ie ((0 : Nat) : Int) := by rw [h]; rfl
  rw [e1, if_pos (okn 0 900 (by omega) (by omega)), ntn 0 (by omega)]; rfl
theorem badL_more {T : List Tok} {m a k j : Nat} (h : ∀ i, i < j → tkK T (a + k + i) ≠ 4) : badL T m a (k + j) = badL T m a k := by
  induction j with
  | zero => rfl
  | succ j ih =>
    have e := ih (fun i hi => h i (by omega))
    show (match badL T m a (k + j) with | some x => some x | none => if tkK T (a + (k + j)) = 4 ∧ _ then _ else none) = _
    rw [e]
    cases badL T m a k with
    | some x => rfl
    | none =>
      have h4 : ¬ (tkK T (a + (k + j)) = 4) := by rw [← Nat.add_assoc]; exact h j (by omega)
      show (if tkK T (a + (k + j)) = 4 ∧ _ then _ else none) = none
      rw [if_neg (fun hh => h4 hh.1)]
set_option maxHeartbeats 2000000 in
theorem r_fn {c : RC} {ps : rPl} {g : pm_s} {fl dp : Nat} {r : PR} (hC : rCn c) (hr : rIE c ps g fl (dp + 1) r) (hb : bR c.1 r) (hd : dp + 1 ≤ 20) {K : List (Int32 × Int32 × Int32)} {V : List Nat} {S : List (Nat × Nat)} {Y : List Ty} {s : PS} {u : pm_J} (H : rE c none dp ((10, 0, 0) :: K) V S Y s u) (sd : rSd c ps fl dp 500 500 K V S Y s) (e12 : tkK c.1 s.1 = 12) : rP c g fl dp K V S Y u (pFn r c.1 c.2.2.1 (pmM ps) (scm c.1 S) s) := by
  obtain ⟨b1, b2, b3⟩ := rE_b H
  obtain ⟨d1, d2, d3, d4, d5, d6, d7, d8⟩ := id sd
  have hG := hC.1
  have hlt : s.1 < c.1.length := tkK_lt (by omega)
  have fin0 : ∀ (e : Nat × Nat) (K0 : List (Int32 × Int32 × Int32)) (s' : PS) (w : pm_J), rE c (some e) (dp + 1) K0 V S Y s' w → zu (fun N => if (w.1 64 52) = 0 then some (wi w 64 63 0) else (F_Md_later 1 0 0 g (wi w 64 63 0)).bind fun q16 => some q16) (fun v => ∃ K' s', rE c (some e) (dp + 1) K' V S Y s' v) := by
    intro e K0 s' w hw
    simp only [if_pos (show w.1 64 52 = 0 from hw.1.1.1)]
    exact zu_some _ ⟨_, _, rE_told hw 0⟩
  obtain ⟨v1, he1, hv1⟩ := rStep (g := g) (P := fun v => (∃ o z x, pX c.1 15 (sAt s (s.1 + 1)) = .ok o ∧ pDecl c.1 o = .ok z ∧ pX c.1 17 z.2 = .ok x ∧ rE c none (dp + 1) ((1, 0, 0) :: (16, ie (s.1 : Nat), ie ((z.1 + 100 * (s.1 + 2) : Nat) : Int)) :: K) V S Y x v ∧ v.1 64 63 = ie 0) ∨ (∃ e, (pB (pX c.1 15 (sAt s (s.1 + 1))) fun o => pB (pDecl c.1 o) fun d => pX c.1 17 d.2) = .error e ∧ ∃ K' s', rE c (some e) (dp + 1) K' V S Y s' v)) H (by decide) d1 (by omega) (fun u' H' => by
    refine zu_rw (x_expr hG H' hd) (zu_bs ?_)
    simp only [e12, if_neg (show ¬ (12 = 7) by omega), if_neg (show ¬ (12 = 9) by omega), if_true]
    refine zu_bind (z_exp g hG 15 (by omega) (by omega) (rE_in H' hlt)) (fun w hw => ?_)
    cases hO : pX c.1 15 (sAt s (s.1 + 1)) with
    | error e =>
      rw [hO] at hw
      refine zu_bind (z_declC g hw) (fun w2 hw2 => ?_)
      refine zu_bind (z_expC g _ hw2) (fun w3 hw3 => ?_)
      refine zu_bind (z_later g 16 _ _ hw3 (by omega)) (fun w4 hw4 => ?_)
      exact zu_mono (fin0 e _ _ w4 hw4) (fun w5 hw5 => Or.inr ⟨e, rfl, hw5⟩)
    | ok o =>
      rw [hO] at hw
      have ho : o = sAt s (s.1 + 1 + 1) := (pX_ok (by omega) hO).1
      have h51 : w.1 64 51 = ie ((s.1 + 2 : Nat) : Int) := by
        have := hw.1.2.2.1
        rw [this, ho]; rfl
      rw [h51]
      refine zu_bind (z_decl g hG hw) (fun w2 hw2 => ?_)
      cases hD : pDecl c.1 o with
      | error e =>
        rw [hD] at hw2
        refine zu_bind (z_expC g _ hw2) (fun w3 hw3 => ?_)
        refine zu_bind (z_later g 16 _ _ hw3 (by omega)) (fun w4 hw4 => ?_)
        exact zu_mono (fin0 e _ _ w4 hw4) (fun w5 hw5 => Or.inr ⟨e, by rw [pB_o, hD]; rfl, hw5⟩)
      | ok z =>
        rw [hD] at hw2
        obtain ⟨hw2a, hw2b⟩ := hw2
        rw [hw2a, m100]
        refine zu_bind (z_exp g hG 17 (by omega) (by omega) hw2b) (fun w3 hw3 => ?_)
        cases hX : pX c.1 17 z.2 with
        | error e =>
          rw [hX] at hw3
          refine zu_bind (z_later g 16 _ _ hw3 (by omega)) (fun w4 hw4 => ?_)
          exact zu_mono (fin0 e _ _ w4 hw4) (fun w5 hw5 => Or.inr ⟨e, by rw [pB_o, hD, pB_o, hX], hw5⟩)
        | ok x =>
          rw [hX] at hw3
          refine zu_bind (z_later g 16 _ _ hw3 (by omega)) (fun w4 hw4 => ?_)
          simp only [if_neg (show ¬ (w4.1 64 52 = 0) from fun hh => by rw [hw4.1.1.1] at hh; exact absurd hh (by decide))]
          have h5 := rE_told hw4 0
          have hlt2 : ((16, ie (s.1 : Nat), ie ((z.1 + 100 * (s.1 + 2) : Nat) : Int)) :: K).length < 6000 := by show K.length + 1 < 6000; omega
          refine zu_bs ?_
          refine zu_eq _ (fun _ _ => r_later g _ h5.2.1.1 hlt2 1 0 0) (Or.inl ⟨o, z, x, rfl, hD, hX, ?_, rfl⟩)
          obtain ⟨y, hy1, hy2⟩ := z_later g 1 0 0 h5 hlt2
          have : F_Md_later 1 0 0 g (wi w4 64 63 0) = some y := hy1 200000 (by omega)
          rw [r_later g _ h5.2.1.1 hlt2 1 0 0] at this
          rw [Option.some.inj this]; exact hy2)
  unfold pFn
  rcases hv1 with ⟨o, z, x, hO, hD, hX, hv1, h63⟩ | ⟨e, hE, K', s', hv1⟩
  case inr =>
    have : ∀ k : PS → PE (Nat × PS) , True := fun _ => trivial
    cases hO : pX c.1 15 (sAt s (s.1 + 1)) with
    | error e' =>
      rw [hO] at hE
      have hE' : (Except.error e' : PE PS) = .error e := hE
      cases hE'
      exact rPe_of he1 hv1
    | ok o =>
      rw [hO, pB_o] at hE
      rw [pB_o, pB_er2 hE]
      exact rPe_of he1 hv1
  have ho : o = sAt s (s.1 + 1 + 1) := (pX_ok (by omega) hO).1
  obtain ⟨z1, z2, z3, z4⟩ := pDecl_eq hD
  have hz : z.1 = s.2.2.1.1 := by rw [z1, ho]; rfl
  have hz2 : z.2.1 = s.1 + 3 ∧ z.2.2.2.2 = s.2.2.2 ∧ z.2.2.2.1.1 = s.2.2.1.1 + 1 := by rw [z1, ho]; exact ⟨rfl, rfl, rfl⟩
  have z2' : tkK c.1 (s.1 + 2) = 1 := by have := z2; rw [ho] at this; exact this
  have z4' : s.2.2.1.1 ≠ 24 := by have := z4; rw [ho] at this; exact this
  obtain ⟨x1, x2, _⟩ := pX_ok (by omega) hX
  have hx : x.1 = s.1 + 4 ∧ x.2.2.2 = s.2.2.2 ∧ x.2.2.1.1 = s.2.2.1.1 + 1 := by
    rw [x1]; refine ⟨?_, ?_, ?_⟩
    · show z.2.1 + 1 = _; omega
    · exact hz2.2.1
    · exact hz2.2.2
  rw [hO, pB_o, hD, pB_o, hX, pB_o]
  have i0 := r_tyE (g := g) (fl := fl) hC hv1 h63 (by show fl ≤ K.length + 1; omega) (by show K.length + 1 ≤ 1000; omega)
  cases hT : pTy c.1 20 x.1 0 with
  | error e => rw [hT] at i0; exact rPe_eq he1 i0
  | ok t =>
    rw [hT] at i0
    obtain ⟨v2, Z1, k, he2, hv2, v60, v109, hk⟩ := i0
    obtain ⟨p1, p2, _, _⟩ := pAt_ty 20 x.1 0 t (by omega) hT
    rw [pB_o]
    have hE2 := rEq_trans he1 he2
    generalize hs1 : sAt (sWr (sLc x (x.2.2.1.1, pu_upd x.2.2.1.2.1 z.1 (some t.1), x.2.2.1.2.2)) (oE x.2.1 (badL c.1 (pmM ps) x.1 (t.2.1 - x.1)))) t.2.1 = s1
    have hs1a : s1.1 = t.2.1 := by rw [← hs1]; rfl
    obtain ⟨e100, f100⟩ := d100 z.1 (s.1 + 2) (by omega) (by omega)
    have K16 : ∀ (st : Option (Nat × Nat)) (s' : PS) (w : pm_J), rE c st (dp + 1) K V S (Y ++ Z1) s' w → zu (fun N => K_Md_exprTask_321 N g (ie (s.1 : Nat)) (ie ((z.1 + 100 * (s.1 + 2) : Nat) : Int)) w) (fun v => rE c st (dp + 1) ((10, 0, 0) :: (17, ie (s.1 : Nat), ie (z.1 : Nat)) :: K) V ((s.1 + 2, z.1) :: S) (Y ++ Z1) s' v) := by
      intro st s' w hw
      unfold K_Md_exprTask_321
      rw [f100, e100]
      refine zu_bind (z_enter g z.1 (s.1 + 2) hw (by omega)) (fun w2 hw2 => ?_)
      refine zu_bind (z_later g 17 _ _ hw2 (by omega)) (fun w3 hw3 => ?_)
      exact zu_bs (z_later g 10 0 0 hw3 (by show K.length + 1 < 6000; omega))
    have hv20 : wi (wi v2 64 60 (ie 0)) 64 60 (ie 1) = v2 := by rw [wi_wi]; exact wi_self _ _ _ _ v60
    have h56 : v2.1 64 56 = ie ((K.length + 1 : Nat) : Int) := hv2.2.1.1
    obtain ⟨v3, he3, hv3⟩ : ∃ v3, rEq g fl v2 v3 ∧ ((∃ y y2, pX c.1 16 s1 = .ok y ∧ pX c.1 25 y = .ok y2 ∧ rE c none (dp + 1) ((10, 0, 0) :: (17, ie (s.1 : Nat), ie (z.1 : Nat)) :: K) V ((s.1 + 2, z.1) :: S) (Y ++ Z1) y2 v3) ∨ (∃ e K' s' S', (pB (pX c.1 16 s1) fun y => pX c.1 25 y) = .error e ∧ rE c (some e) (dp + 1) K' V S' (Y ++ Z1) s' v3)) := by
      refine rStep60 hv2 v60 (by decide) d1 (by omega) (fun u' H' h109 => ?_)
      refine zu_rw (fun N => xt16 N _ _ g _) ?_
      have hP1 : ∀ q : PS, q.1 = t.2.1 → pX c.1 16 q = if tkK c.1 t.2.1 = 16 then .ok (sAt q (t.2.1 + 1)) else .error (2, t.2.1) := fun q hq => by unfold pX; rw [hq]
      have hP2 : ∀ q : PS, q.1 = t.2.1 + 1 → pX c.1 25 q = if tkK c.1 (t.2.1 + 1) = 25 then .ok (sAt q (t.2.1 + 1 + 1)) else .error (2, t.2.1 + 1) := fun q hq => by unfold pX; rw [hq]
      refine zu_bind (z_exp60 g (ie 1) (z_exp g hG 16 (by omega) (by omega) H')) (fun w hw => ?_)
      obtain ⟨w', rfl, hw9, hw⟩ := hw
      rw [hP1 (sAt x t.2.1) rfl] at hw
      rw [hP1 s1 hs1a]
      by_cases e16 : tkK c.1 t.2.1 = 16
      · rw [if_pos e16] at hw ⊢
        have hw' : rE c none (dp + 1) K V S (Y ++ Z1) (sAt x (t.2.1 + 1)) w' := hw
        refine zu_bind (z_exp60 g (ie 1) (z_exp g hG 25 (by omega) (by omega) hw')) (fun w2 hw2 => ?_)
        obtain ⟨w2', rfl, hw29, hw2⟩ := hw2
        rw [hP2 (sAt x (t.2.1 + 1)) rfl] at hw2
        have hB : (fun y => pX c.1 25 y) (sAt s1 (t.2.1 + 1)) = if tkK c.1 (t.2.1 + 1) = 25 then .ok (sAt (sAt s1 (t.2.1 + 1)) (t.2.1 + 1 + 1)) else .error (2, t.2.1 + 1) := hP2 _ rfl
        by_cases e25 : tkK c.1 (t.2.1 + 1) = 25
        · rw [if_pos e25] at hw2 hB
          have hw2' : rE c none (dp + 1) K V S (Y ++ Z1) (sAt x (t.2.1 + 2)) w2' := hw2
          have hn52 : ¬ ((wi w2' 64 60 (ie 1)).1 64 52 = 0) := fun hh => by
            have h1 : (wi w2' 64 60 (ie 1)).1 64 52 = ie 1 := hw2'.1.1.1
            rw [h1] at hh; exact absurd hh (by decide)
          simp only [if_neg hn52]
          have htk := tk0_take g (u := wi w2' 64 60 (ie 1)) (wi_at _ _ _ _)
          have hwb : wi (wi w2' 64 60 (ie 1)) 64 60 (ie 0) = w2' := by rw [wi_wi]; exact wi_self _ _ _ _ (hw2'.1.2.2.2.2.2.2.1 rfl)
          have hk9 : (wi w2' 64 60 (ie 1)).1 109 0 = ie k := by
            have h1 : (wi w2' 64 60 (ie 1)).1 109 0 = w2'.1 109 0 := wi_ne _ _ _ _ _ _ (by omega)
            rw [h1, hw29, hw9, h109]; exact v109
          rw [hwb, hk9] at htk
          refine zu_bind (zu_eq (P := fun q => q = (ie (k : Nat), w2')) _ (fun _ _ => htk) rfl) (fun q hq => ?_)
          subst hq
          have h44 : w2'.1 64 44 = ie (c.2.2.1 : Nat) := hw2'.1.2.2.2.2.2.2.2.1
          have hd30 := hw2'.1.2.2.2.2.2.2.2.2
          have a24 : 24 * ie (c.2.2.1 : Nat) + ie (z.1 : Nat) = ie ((24 * c.2.2.1 + z.1 : Nat) : Int) := by rw [show (24 : Int32) = ie 24 from rfl, ie_mul, ie_add]; rfl
          simp only [f100]
          simp only [e100, h44, a24, if_pos (okn (24 * c.2.2.1 + z.1) 720 (by omega) (by omega)), ntn (24 * c.2.2.1 + z.1) (by omega)]
          have HL : rE c none (dp + 1) K V S (Y ++ Z1) (sLc (sWr (sAt x (t.2.1 + 2)) x.2.1) (x.2.2.1.1, pu_upd x.2.2.1.2.1 z.1 (some t.1), x.2.2.1.2.2)) (wi w2' 100 (24 * c.2.2.1 + z.1) (ie (k : Nat))) := by
            refine rE_l hw2' (fun y i h1 h2 h3 => wi_ne _ _ _ _ _ _ (by omega)) rfl (rW_of hw2'.2.2.2.2.2.1 (wi_ne _ _ _ _ _ _ (by omega))) ⟨(wi_ne _ _ _ _ _ _ (by omega)).trans hw2'.2.2.2.2.2.2.1.1, hw2'.2.2.2.2.2.2.1.2.1, fun i ty hi ht => ?_⟩
            by_cases ei : i = z.1
            · have ht' : pu_upd x.2.2.1.2.1 z.1 (some t.1) i = some ty := ht
              rw [ei, upd_same] at ht'
              cases ht'
              exact ⟨k, by rw [ei]; exact wi_at _ _ _ _, hk⟩
            · have ht' : pu_upd x.2.2.1.2.1 z.1 (some t.1) i = some ty := ht
              rw [upd_ne _ _ _ _ ei] at ht'
              obtain ⟨k', k1, k2⟩ := hw2'.2.2.2.2.2.2.1.2.2 i ty hi ht'
              exact ⟨k', (wi_ne _ _ _ _ _ _ (by omega)).trans k1, k2⟩
          have hnm : ie ((s.1 + 2 : Nat) : Int) + 2 = ie (x.1 : Nat) := by rw [hx.1, show (2 : Int32) = ie 2 from rfl, ie_add]; rfl
          unfold F_Md_checkFnType
          rw [hnm]
          have hzl := z_letters g ps hG HL (rPm_app d7 Z1) x.1 (by show x.1 ≤ t.2.1 + 2; omega) (fun y hy => hv1.2.2.2.2.2.1.2 y hy)
          refine zu_bind (zu_bs hzl) (fun w3 hw3 => ?_)
          have hbd : badL c.1 (pmM ps) x.1 (t.2.1 + 2 - x.1) = badL c.1 (pmM ps) x.1 (t.2.1 - x.1) := by
            rw [show t.2.1 + 2 - x.1 = (t.2.1 - x.1) + 2 by omega]
            refine badL_more (fun i hi => ?_)
            rw [show x.1 + (t.2.1 - x.1) = t.2.1 by omega]
            have : i = 0 ∨ i = 1 := by omega
            rcases this with rfl | rfl
            · show tkK c.1 t.2.1 ≠ 4; omega
            · omega
          have hw3' : rE c none (dp + 1) K V S (Y ++ Z1) (sAt (sAt s1 (t.2.1 + 1)) (t.2.1 + 1 + 1)) w3 := by
            have h9 : rE c none (dp + 1) K V S (Y ++ Z1) (sWr (sLc (sWr (sAt x (t.2.1 + 2)) x.2.1) (x.2.2.1.1, pu_upd x.2.2.1.2.1 z.1 (some t.1), x.2.2.1.2.2)) (oE x.2.1 (badL c.1 (pmM ps) x.1 (t.2.1 + 2 - x.1)))) w3 := hw3
            rw [hbd] at h9
            rw [← hs1]; exact h9
          exact zu_mono (K16 none _ w3 hw3') (fun v hv => Or.inl ⟨sAt s1 (t.2.1 + 1), sAt (sAt s1 (t.2.1 + 1)) (t.2.1 + 1 + 1), rfl, hB, hv⟩)
        · rw [if_neg e25] at hw2 hB
          have hw2' : rE c (some (2, t.2.1 + 1)) (dp + 1) K V S (Y ++ Z1) (sAt x (t.2.1 + 1)) w2' := hw2
          have h60 := rE_60 hw2' (ie 1)
          simp only [if_pos (show (wi w2' 64 60 (ie 1)).1 64 52 = 0 from h60.1.1.1)]
          exact zu_mono (K16 (some (2, t.2.1 + 1)) _ _ h60) (fun v hv => Or.inr ⟨_, _, _, _, by rw [pB_o]; exact hB, hv⟩)
      · rw [if_neg e16] at hw ⊢
        have hw' : rE c (some (2, t.2.1)) (dp + 1) K V S (Y ++ Z1) (sAt x t.2.1) w' := hw
        have h60 := rE_60 hw' (ie 1)
        refine zu_bind (z_expC g _ h60) (fun w2 hw2 => ?_)
        simp only [if_pos (show w2.1 64 52 = 0 from hw2.1.1.1)]
        exact zu_mono (K16 (some (2, t.2.1)) _ _ hw2) (fun v hv => Or.inr ⟨_, _, _, _, pB_e _ _, hv⟩)
    have hE3 := rEq_trans hE2 he3
    rcases hv3 with ⟨y, y2, hA, hB, hv3⟩ | ⟨e, K', s', S', hE, hv3⟩
    case inr => rw [pB_er2 hE]; exact rPe_of hE3 hv3
    rw [hA, pB_o, hB, pB_o]
    obtain ⟨y1, y1b, _⟩ := pX_ok (by omega) hA
    obtain ⟨y3, y3b, _⟩ := pX_ok (by omega) hB
    have hs1n : s1.2.2.2 = s.2.2.2 ∧ s1.2.2.1.1 = s.2.2.1.1 + 1 := by rw [← hs1]; exact ⟨hx.2.1, hx.2.2⟩
    have hy2 : y2.1 = t.2.1 + 2 ∧ y2.2.2.2.1 = s.2.2.2.1 ∧ y2.2.2.1.1 = s.2.2.1.1 + 1 := by
      rw [y3, y1]; refine ⟨?_, ?_, ?_⟩
      · show s1.1 + 1 + 1 = _; omega
      · show s1.2.2.2.1 = _; rw [hs1n.1]
      · exact hs1n.2
    have y3c : t.2.1 + 1 < c.1.length := by have : y.1 = t.2.1 + 1 := by rw [y1]; show s1.1 + 1 = _; omega
                                            omega
    have i2 := hr _ _ _ _ _ _ hv3 ⟨by show fl ≤ K.length + 1; omega, by show K.length + 1 + 20 * (20 - (dp + 1)) ≤ 500; omega, by omega, by show S.length + 1 ≤ 6 + (dp + 1); omega, fun x hx => by
      rcases List.mem_cons.mp hx with rfl | hx
      · exact z2'
      · exact d5 x hx, by omega, rPm_app d7 Z1, hd⟩
    have hsc : scm c.1 ((s.1 + 2, z.1) :: S) = (tkV c.1 (s.1 + 2), z.1) :: scm c.1 S := rfl
    rw [hsc] at i2
    cases hp : r ((tkV c.1 (s.1 + 2), z.1) :: scm c.1 S) y2 with
    | error e => rw [hp] at i2; exact rPe_eq hE3 i2
    | ok p =>
      rw [hp] at i2
      obtain ⟨w3, Z2, hw3, hw4⟩ := i2
      obtain ⟨t1, t2, t3, t4, t5, t6, t7⟩ := bR_u hb hp (by omega) (by omega)
      rw [pB_o]
      obtain ⟨v4, he4, hv4⟩ := rStep (g := g) (P := fun v => rE c none dp K (p.2.2.2.2.1 :: V) S (Y ++ Z1 ++ Z2) (sNode p.2 (9, s.1, p.1, -1, z.1, je c.2.2.1, [])) v) hw4 (by decide) d1 (by omega) (fun u' H' => by
        refine zu_rw (fun N => xt17 N _ _ g u') ?_
        have he24 : p.1 < 2400 := H'.2.2.1.2.1.2
        refine zu_bind (z_take g (rE_dpm (rE_leave H')) (by omega)) (fun w hw => ?_)
        refine zu_bind (z_node g hw.2 (by omega) _ _ _ _ _ (9, s.1, p.1, -1, -1, je c.2.2.1, []) rfl rfl hw.1 rfl rfl rfl rfl (Or.inr ⟨by show (0 : Int) ≤ p.1; omega, by show (p.1 : Int) < 2400; omega⟩)) (fun w3 hw3 => ?_)
        obtain ⟨q1, q2⟩ := hw3
        rw [q1]
        simp only [if_pos (okn p.2.2.2.2.1 2400 (by omega) (by omega)), ntn p.2.2.2.2.1 (by omega)]
        have H4 := rE_82 (s := p.2) (t := p.2.2.2.2) (9, s.1, p.1, -1, z.1, je c.2.2.1, []) q2 ⟨rfl, rfl, rfl, rfl, rfl⟩ rfl
        exact zu_bs (z_give g p.2.2.2.2.1 H4 (by omega) (by omega)))
      exact ⟨v4, Z1 ++ Z2, rEq_trans hE3 (rEq_trans hw3 he4), by rw [← List.append_assoc]; exact hv4⟩
theorem r_expr {c : RC} {ps : rPl} {g : pm_s} {fl : Nat} (hC : rCn c) (r : Nat) : ∀ dp, dp + r = 20 → rIE c ps g fl dp (pE c.1 c.2.2.1 (pmM ps) r) := by
  induction r with
  | zero =>
    intro dp hdp K V S Y s u H sd
    obtain ⟨d1, d2, d3, d4, d5, d6, d7, d8⟩ := id sd
    obtain ⟨v1, he1, hv1⟩ := rStep (g := g) (P := fun v => rE c (some (3, s.1)) (dp + 1) K V S Y s v) H (by decide) d1 (by omega) (fun u' H' => by
      refine zu_rw (fun N => xt10 N 0 0 g u') (zu_bs ?_)
      unfold F_Md_expr
      rw [H'.1.2.2.2.2.1, iadd1, H'.1.2.2.1]
      simp only [if_neg (show ¬ (ie ((dp + 1 : Nat) : Int) ≤ 20) from fun hh => by have := (inle (dp + 1) 20 (by omega) (by omega)).mp hh; omega)]
      exact zu_bs (z_stop g 3 (by omega) (rE_dp H' (dp + 1))))
    exact rPe_of he1 hv1
  | succ r ih =>
    intro dp hdp K V S Y s u H sd
    obtain ⟨b1, b2, b3⟩ := rE_b H
    obtain ⟨d1, d2, d3, d4, d5, d6, d7, d8⟩ := id sd
    have hr := ih (dp + 1) (by omega)
    have hb := b_E (T := c.1) c.2.2.1 (pmM ps) r
    have hd : dp + 1 ≤ 20 := by omega
    unfold pE
    by_cases e7 : tkK c.1 s.1 = 7
    · rw [if_pos e7]; exact r_let hC hr hb hd H sd e7
    rw [if_neg e7]
    by_cases e9 : tkK c.1 s.1 = 9
    · rw [if_pos e9]; exact r_if hC hr hb hd H sd e9
    rw [if_neg e9]
    by_cases e12 : tkK c.1 s.1 = 12
    · rw [if_pos e12]; exact r_fn hC hr hb hd H sd e12
    rw [if_neg e12]
    obtain ⟨v1, he1, hv1⟩ := rStep (g := g) (P := fun v => rE c none (dp + 1) ((20, 0, 0) :: (18, 0, 0) :: (19, 0, 0) :: K) V S Y s v) H (by decide) d1 (by omega) (fun u' H' => by
      refine zu_rw (x_expr hC.1 H' hd) (zu_bs ?_)
      simp only [if_neg e7, if_neg e9, if_neg e12]
      refine zu_bind (z_later g 19 0 0 (rE_dp H' (dp + 1)) (by omega)) (fun w hw => ?_)
      refine zu_bind (z_later g 18 0 0 hw (by show K.length + 1 < 6000; omega)) (fun w hw => ?_)
      exact zu_bs (z_later g 20 0 0 hw (by show K.length + 1 + 1 < 6000; omega)))
    have i1 := r_cmp hC hr hb hv1 ⟨by show fl ≤ K.length + 1; omega, by show K.length + 1 + 20 * (20 - (dp + 1)) ≤ 483; omega, by omega, by omega, d5, d6, d7, hd⟩
    cases hq : pCmp (pE c.1 c.2.2.1 (pmM ps) r) c.1 (scm c.1 S) s with
    | error e => rw [hq] at i1; exact rPe_eq he1 i1
    | ok q =>
      rw [hq] at i1
      obtain ⟨w1, Z1, hw1, hw2⟩ := i1
      obtain ⟨v2, he2, hv2⟩ := rStep (g := g) (P := fun v => rE c none dp K (q.1 :: V) S (Y ++ Z1) q.2 v) hw2 (by decide) d1 (by omega) (fun u' H' => by
        refine zu_rw (fun N => xt19 N 0 0 g u') ?_
        exact zu_some _ (rE_dpm H'))
      exact ⟨v2, Z1, rEq_trans he1 (rEq_trans hw1 he2), hv2⟩
