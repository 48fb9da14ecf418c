set_option maxRecDepth 100000
theorem rE_in {c : RC} {dp : Nat} {K : List (Int32 × Int32 × Int32)} {V : List Nat} {S : List (Nat × Nat)} {Y : List Ty} {s : PS} {u : pm_J} (H : rE c none dp K V S Y s u) (ha : s.1 < c.1.length) : rE c none (dp + 1) K V S Y (sAt s (s.1 + 1)) (wi (wi u 64 61 (ie ((dp + 1 : Nat) : Int))) 64 51 (ie ((s.1 + 1 : Nat) : Int))) := by
  have := rE_at' (rE_dp H (dp + 1)) ha
  rw [iadd1] at this; exact this
theorem x_expr {c : RC} {g : pm_s} {dp : Nat} {K : List (Int32 × Int32 × Int32)} {V : List Nat} {S : List (Nat × Nat)} {Y : List Ty} {s : PS} {u : pm_J} (hG : tkG c.1) (H : rE c none dp K V S Y s u) (hd : dp + 1 ≤ 20) (N : Nat) : F_Md_exprTask N 10 0 0 g u = ((if tkK c.1 s.1 = 7 then (F_Md_declare N g (wi (wi u 64 61 (ie ((dp + 1 : Nat) : Int))) 64 51 (ie ((s.1 + 1 : Nat) : Int)))).bind fun q19 => (F_Md_expect N 18 g q19.2).bind fun q20 => (F_Md_later 12 (ie (s.1 : Nat)) (q19.1 + (100 * ie ((s.1 + 1 : Nat) : Int))) g q20).bind fun q21 => (F_Md_later 10 0 0 g q21).bind fun q22 => some q22 else if tkK c.1 s.1 = 9 then (F_Md_later 13 (ie (s.1 : Nat)) 0 g (wi (wi u 64 61 (ie ((dp + 1 : Nat) : Int))) 64 51 (ie ((s.1 + 1 : Nat) : Int)))).bind fun q17 => (F_Md_later 10 0 0 g q17).bind fun q18 => some q18 else if tkK c.1 s.1 = 12 then (F_Md_expect N 15 g (wi (wi u 64 61 (ie ((dp + 1 : Nat) : Int))) 64 51 (ie ((s.1 + 1 : Nat) : Int)))).bind fun q11 => (F_Md_declare N g q11).bind fun q12 => (F_Md_expect N 17 g q12.2).bind fun q13 => (F_Md_later 16 (ie (s.1 : Nat)) (q12.1 + (100 * (q11.1 64 51))) g q13).bind fun q14 => if (q14.1 64 52) = 0 then some (wi q14 64 63 0) else (F_Md_later 1 0 0 g (wi q14 64 63 0)).bind fun q16 => some q16 else (F_Md_later 19 0 0 g (wi u 64 61 (ie ((dp + 1 : Nat) : Int)))).bind fun q8 => (F_Md_later 18 0 0 g q8).bind fun q9 => (F_Md_later 20 0 0 g q9).bind fun q10 => some q10).bind fun q2 => some q2) := by
  obtain ⟨b1, b2, b3⟩ := rE_b H
  have k7 : (u.1 66 s.1 = 4) ↔ tkK c.1 s.1 = 7 := rE_kq hG H 7 (by omega)
  have k9 : (u.1 66 s.1 = 6) ↔ tkK c.1 s.1 = 9 := rE_kq hG H 9 (by omega)
  have k12 : (u.1 66 s.1 = 9) ↔ tkK c.1 s.1 = 12 := rE_kq hG H 12 (by omega)
  rw [xt10]
  unfold F_Md_expr
  rw [H.1.2.2.2.2.1, iadd1, if_pos (show ie ((dp + 1 : Nat) : Int) ≤ 20 from (inle _ 20 (by omega) (by omega)).mpr hd), H.1.2.2.1, iadd1, if_pos (okn _ 902 (by omega) (by omega)), if_pos (okn _ 902 (by omega) (by omega)), if_pos (okn _ 902 (by omega) (by omega)), ntn _ (by omega)]
  simp only [k7, k9, k12]
theorem r_if {c : RC} {ps : rPl} {g : pm_s} {fl dp : Nat} {r : PR} (hC : rCn c) (hr : rIE c ps g fl (dp + 1) r) (hb : bR c.1 r) (hd : dp + 1 ≤ 20) {K : List (Int32 × Int32 × Int32)} {V : List Nat} {S : List (Nat × Nat)} {Y : List Ty} {s : PS} {u : pm_J} (H : rE c none dp ((10, 0, 0) :: K) V S Y s u) (sd : rSd c ps fl dp 500 500 K V S Y s) (e9 : tkK c.1 s.1 = 9) : rP c g fl dp K V S Y u (pIf r c.1 (scm c.1 S) s) := by
  obtain ⟨b1, b2, b3⟩ := rE_b H
  obtain ⟨d1, d2, d3, d4, d5, d6, d7, d8⟩ := id sd
  have hG := hC.1
  have hlt : s.1 < c.1.length := tkK_lt (by omega)
  have SD : ∀ (K' : List (Int32 × Int32 × Int32)) (V' : List Nat) (Z : List Ty) (s' : PS), K'.length = K.length + 1 → V'.length ≤ V.length + 2 → s'.2.2.2.1 ≤ 2 * s'.1 → rSd c ps fl (dp + 1) 500 500 K' V' S (Y ++ Z) s' := fun K' V' Z s' h1 h2 h3 => ⟨by omega, by omega, by omega, by omega, d5, h3, rPm_app d7 Z, hd⟩
  obtain ⟨v1, he1, hv1⟩ := rStep (g := g) (P := fun v => rE c none (dp + 1) ((10, 0, 0) :: (13, ie (s.1 : Nat), 0) :: K) V S Y (sAt s (s.1 + 1)) v) H (by decide) d1 (by omega) (fun u' H' => by
    refine zu_rw (x_expr hG H' hd) (zu_bs ?_)
    simp only [e9, if_neg (show ¬ (9 = 7) by omega), if_true]
    refine zu_bind (z_later g 13 (ie (s.1 : Nat)) 0 (rE_in H' hlt) (by omega)) (fun w hw => ?_)
    exact zu_bs (z_later g 10 0 0 hw (by show K.length + 1 < 6000; omega)))
  have i1 := hr _ _ _ _ _ _ hv1 (by have := SD ((13, ie (s.1 : Nat), 0) :: K) V [] (sAt s (s.1 + 1)) rfl (by omega) (by show s.2.2.2.1 ≤ 2 * (s.1 + 1); omega); rw [List.append_nil] at this; exact this)
  unfold pIf
  cases hq : r (scm c.1 S) (sAt s (s.1 + 1)) with
  | error e => rw [hq] at i1; exact rPe_eq he1 i1
  | ok q =>
    rw [hq] at i1
    obtain ⟨w1, Z1, hw1, hw2⟩ := i1
    obtain ⟨p1, p2, p3, p4, p5, p6, p7⟩ := bR_u hb hq (show s.1 + 1 ≤ c.1.length by omega) b3
    have p3' : q.2.2.2.2.1 + 1 + 2 * (s.1 + 1) ≤ s.2.2.2.1 + 2 * q.2.1 := p3
    rw [pB_o]
    obtain ⟨v2, he2, hv2⟩ := rStep (g := g) (P := fun v => match pX c.1 10 q.2 with | .ok x => rE c none (dp + 1) ((10, 0, 0) :: (14, ie (s.1 : Nat), 0) :: K) (q.1 :: V) S (Y ++ Z1) x v | .error e => rE c (some e) (dp + 1) ((10, 0, 0) :: (14, ie (s.1 : Nat), 0) :: K) (q.1 :: V) S (Y ++ Z1) q.2 v) hw2 (by decide) d1 (by omega) (fun u' H' => by
      refine zu_rw (fun N => xt13 N (ie (s.1 : Nat)) 0 g u') ?_
      unfold K_Md_exprTask_172
      simp only [if_true]
      refine zu_bind (z_exp g hG 10 (by omega) (by omega) H') (fun w hw => ?_)
      unfold K_Md_exprTask_203
      cases hX : pX c.1 10 q.2 with
      | ok x =>
        rw [hX] at hw
        refine zu_bind (z_later g 14 (ie (s.1 : Nat)) 0 hw (by omega)) (fun w hw => ?_)
        exact zu_bs (z_later g 10 0 0 hw (by show K.length + 1 < 6000; omega))
      | error e =>
        rw [hX] at hw
        refine zu_bind (z_later g 14 (ie (s.1 : Nat)) 0 hw (by omega)) (fun w hw => ?_)
        exact zu_bs (z_later g 10 0 0 hw (by show K.length + 1 < 6000; omega)))
    have hE2 := rEq_trans he1 (rEq_trans hw1 he2)
    cases hX : pX c.1 10 q.2 with
    | error e => rw [hX] at hv2; exact rPe_of hE2 hv2
    | ok x =>
      rw [hX] at hv2
      obtain ⟨x1, x2, _⟩ := pX_ok (by omega) hX
      have x1' : x = sAt q.2 (q.2.1 + 1) := x1
      rw [pB_o]
      subst x1'
      have i2 := hr _ _ _ _ _ _ hv2 (SD ((14, ie (s.1 : Nat), 0) :: K) (q.1 :: V) Z1 _ rfl (by show V.length + 1 ≤ _; omega) (by show q.2.2.2.2.1 ≤ 2 * (q.2.1 + 1); omega))
      cases hp : r (scm c.1 S) (sAt q.2 (q.2.1 + 1)) with
      | error e => rw [hp] at i2; exact rPe_eq hE2 i2
      | ok p =>
        rw [hp] at i2
        obtain ⟨w3, Z2, hw3, hw4⟩ := i2
        obtain ⟨y1, y2, y3, y4, y5, y6, y7⟩ := bR_u hb hp (show q.2.1 + 1 ≤ c.1.length by omega) p7
        have y3' : p.2.2.2.2.1 + 1 + 2 * (q.2.1 + 1) ≤ q.2.2.2.2.1 + 2 * p.2.1 := y3
        rw [pB_o]
        obtain ⟨v3, he3, hv3⟩ := rStep (g := g) (P := fun v => match pX c.1 11 p.2 with | .ok x => rE c none (dp + 1) ((10, 0, 0) :: (15, ie (s.1 : Nat), 0) :: K) (p.1 :: q.1 :: V) S (Y ++ Z1 ++ Z2) x v | .error e => rE c (some e) (dp + 1) ((10, 0, 0) :: (15, ie (s.1 : Nat), 0) :: K) (p.1 :: q.1 :: V) S (Y ++ Z1 ++ Z2) p.2 v) hw4 (by decide) d1 (by omega) (fun u' H' => by
          refine zu_rw (fun N => xt14 N (ie (s.1 : Nat)) 0 g u') ?_
          unfold K_Md_exprTask_172
          simp only [if_neg (show ¬ ((14 : Int32) = 13) by decide)]
          refine zu_bind (z_exp g hG 11 (by omega) (by omega) H') (fun w hw => ?_)
          unfold K_Md_exprTask_203
          cases hX : pX c.1 11 p.2 with
          | ok x =>
            rw [hX] at hw
            refine zu_bind (z_later g 15 (ie (s.1 : Nat)) 0 hw (by omega)) (fun w hw => ?_)
            exact zu_bs (z_later g 10 0 0 hw (by show K.length + 1 < 6000; omega))
          | error e =>
            rw [hX] at hw
            refine zu_bind (z_later g 15 (ie (s.1 : Nat)) 0 hw (by omega)) (fun w hw => ?_)
            exact zu_bs (z_later g 10 0 0 hw (by show K.length + 1 < 6000; omega)))
        have hE3 := rEq_trans hE2 (rEq_trans hw3 he3)
        cases hX2 : pX c.1 11 p.2 with
        | error e => rw [hX2] at hv3; exact rPe_of hE3 hv3
        | ok x =>
          rw [hX2] at hv3
          obtain ⟨x1, x2, _⟩ := pX_ok (by omega) hX2
          have x1' : x = sAt p.2 (p.2.1 + 1) := x1
          rw [pB_o]
          subst x1'
          have i3 := hr _ _ _ _ _ _ hv3 (by have := SD ((15, ie (s.1 : Nat), 0) :: K) (p.1 :: q.1 :: V) (Z1 ++ Z2) (sAt p.2 (p.2.1 + 1)) rfl (by show V.length + 1 + 1 ≤ _; omega) (by show p.2.2.2.2.1 ≤ 2 * (p.2.1 + 1); omega); rw [← List.append_assoc] at this; exact this)
          cases ht : r (scm c.1 S) (sAt p.2 (p.2.1 + 1)) with
          | error e => rw [ht] at i3; exact rPe_eq hE3 i3
          | ok t =>
            rw [ht] at i3
            obtain ⟨w5, Z3, hw5, hw6⟩ := i3
            obtain ⟨z1, z2, z3, z4, z5, z6, z7⟩ := bR_u hb ht (show p.2.1 + 1 ≤ c.1.length by omega) y7
            have z3' : t.2.2.2.2.1 + 1 + 2 * (p.2.1 + 1) ≤ p.2.2.2.2.1 + 2 * t.2.1 := z3
            rw [pB_o]
            obtain ⟨v4, he4, hv4⟩ := rStep (g := g) (P := fun v => rE c none dp K (t.2.2.2.2.1 :: V) S (Y ++ Z1 ++ Z2 ++ Z3) (sNode t.2 (8, s.1, q.1, p.1, t.1, 0, [])) v) hw6 (by decide) d1 (by omega) (fun u' H' => by
              refine zu_rw (fun N => xt15 N (ie (s.1 : Nat)) 0 g u') ?_
              have he24 : q.1 < 2400 := H'.2.2.1.2.2.2.1.2
              refine zu_bind (z_take g (rE_dpm H') (by show V.length + 1 + 1 < 2400; omega)) (fun w hw => ?_)
              refine zu_bind (z_take g hw.2 (by show V.length + 1 < 2400; omega)) (fun w2 hw2 => ?_)
              refine zu_bind (z_take g hw2.2 (by omega)) (fun w3 hw3 => ?_)
              exact z_mk g hw3.2 (by omega) (by omega) _ _ _ _ _ (8, s.1, q.1, p.1, t.1, 0, []) rfl rfl hw3.1 hw2.1 hw.1 rfl rfl (Or.inr ⟨by show (0 : Int) ≤ q.1; omega, by show (q.1 : Int) < 2400; omega⟩))
            exact ⟨v4, Z1 ++ Z2 ++ Z3, rEq_trans hE3 (rEq_trans hw5 he4), by rw [← List.append_assoc, ← List.append_assoc]; exact hv4⟩
theorem r_let {c : RC} {ps : rPl} {g : pm_s} {fl dp : Nat} {r : PR} (hC : rCn c) (hr : rIE c ps g fl (dp + 1) r) (hb : bR c.1 r) (hd : dp + 1 ≤ 20) {K : List (Int32 × Int32 × Int32)} {V : List Nat} {S : List (Nat × Nat)} {Y : List Ty} {s : PS} {u : pm_J} (H : rE c none dp ((10, 0, 0) :: K) V S Y s u) (sd : rSd c ps fl dp 500 500 K V S Y s) (e7 : tkK c.1 s.1 = 7) : rP c g fl dp K V S Y u (pLet r c.1 (scm c.1 S) s) := by
  obtain ⟨b1, b2, b3⟩ := rE_b H
  obtain ⟨d1, d2, d3, d4, d5, d6, d7, d8⟩ := id sd
  have hG := hC.1
  have hlt : s.1 < c.1.length := tkK_lt (by omega)
  obtain ⟨v1, he1, hv1⟩ := rStep (g := g) (P := fun v => (∃ z x, pDecl c.1 (sAt s (s.1 + 1)) = .ok z ∧ pX c.1 18 z.2 = .ok x ∧ rE c none (dp + 1) ((10, 0, 0) :: (12, ie (s.1 : Nat), ie ((z.1 + 100 * (s.1 + 1) : Nat) : Int)) :: K) V S Y x v) ∨ (∃ e K' s', (pB (pDecl c.1 (sAt s (s.1 + 1))) fun d => pX c.1 18 d.2) = .error e ∧ rE c (some e) (dp + 1) K' V S Y s' v)) H (by decide) d1 (by omega) (fun u' H' => by
    refine zu_rw (x_expr hG H' hd) (zu_bs ?_)
    simp only [e7, if_true]
    refine zu_bind (z_decl g hG (rE_in H' hlt)) (fun w hw => ?_)
    cases hD : pDecl c.1 (sAt s (s.1 + 1)) with
    | error e =>
      rw [hD] at hw
      refine zu_bind (z_expC g _ hw) (fun w2 hw2 => ?_)
      refine zu_bind (z_later g 12 _ _ hw2 (by omega)) (fun w3 hw3 => ?_)
      exact zu_bs (zu_mono (z_later g 10 0 0 hw3 (by show K.length + 1 < 6000; omega)) (fun w4 hw4 => Or.inr ⟨e, _, _, rfl, hw4⟩))
    | ok z =>
      rw [hD] at hw
      obtain ⟨hw1, hw2⟩ := hw
      refine zu_bind (z_exp g hG 18 (by omega) (by omega) hw2) (fun w2 hw2 => ?_)
      rw [hw1, m100]
      cases hX : pX c.1 18 z.2 with
      | ok x =>
        rw [hX] at hw2
        refine zu_bind (z_later g 12 _ _ hw2 (by omega)) (fun w3 hw3 => ?_)
        exact zu_bs (zu_mono (z_later g 10 0 0 hw3 (by show K.length + 1 < 6000; omega)) (fun w4 hw4 => Or.inl ⟨z, x, rfl, hX, hw4⟩))
      | error e =>
        rw [hX] at hw2
        refine zu_bind (z_later g 12 _ _ hw2 (by omega)) (fun w3 hw3 => ?_)
        exact zu_bs (zu_mono (z_later g 10 0 0 hw3 (by show K.length + 1 < 6000; omega)) (fun w4 hw4 => Or.inr ⟨e, _, _, hX, hw4⟩)))
  unfold pLet
  rcases hv1 with ⟨z, x, hD, hX, hv1⟩ | ⟨e, K', s', hE, hv1⟩
  case inr => rw [pB_er2 hE]; exact rPe_of he1 hv1
  obtain ⟨z1, z2, z3, z4⟩ := pDecl_eq hD
  have hz : z.1 = s.2.2.1.1 := by rw [z1]; rfl
  have hz2 : z.2.1 = s.1 + 1 + 1 ∧ z.2.2.2.2 = s.2.2.2 ∧ z.2.2.2.1.1 = s.2.2.1.1 + 1 := by rw [z1]; exact ⟨rfl, rfl, rfl⟩
  have z2' : tkK c.1 (s.1 + 1) = 1 := z2
  have z4' : s.2.2.1.1 ≠ 24 := z4
  rw [hD, pB_o, hX, pB_o]
  obtain ⟨x1, x2, _⟩ := pX_ok (by omega) hX
  have hx : x.1 = s.1 + 3 ∧ x.2.2.2.1 = s.2.2.2.1 ∧ x.2.2.1.1 = s.2.2.1.1 + 1 := by
    rw [x1]; refine ⟨?_, ?_, ?_⟩
    · show z.2.1 + 1 = _; omega
    · show z.2.2.2.2.1 = _; rw [hz2.2.1]
    · exact hz2.2.2
  have hx3 : s.1 + 3 ≤ c.1.length := by omega
  have i1 := hr _ _ _ _ _ _ hv1 ⟨by show fl ≤ K.length + 1; omega, by show K.length + 1 + 20 * (20 - (dp + 1)) ≤ 500; omega, by omega, by omega, d5, by omega, d7, hd⟩
  cases hq : r (scm c.1 S) x with
  | error e => rw [hq] at i1; exact rPe_eq he1 i1
  | ok q =>
    rw [hq] at i1
    obtain ⟨w1, Z1, hw1, hw2⟩ := i1
    obtain ⟨p1, p2, p3, p4, p5, p6, p7⟩ := bR_u hb hq (by omega) (by omega)
    rw [pB_o]
    have hw2' : rE c none (dp + 1) ((12, ie (s.1 : Nat), ie ((z.1 + 100 * (s.1 + 1) : Nat) : Int)) :: K) (q.1 :: V) S (Y ++ Z1) (sLc q.2 (q.2.2.2.1.1, q.2.2.2.1.2.1, pu_upd q.2.2.2.1.2.2 z.1 q.1)) w1 := hw2
    generalize hs2 : sLc q.2 (q.2.2.2.1.1, q.2.2.2.1.2.1, pu_upd q.2.2.2.1.2.2 z.1 (q.1 : Int)) = s2 at hw2'
    have hs2' : s2.1 = q.2.1 ∧ s2.2.2.2 = q.2.2.2.2 ∧ s2.2.2.1.1 = q.2.2.2.1.1 := by rw [← hs2]; exact ⟨rfl, rfl, rfl⟩
    obtain ⟨e100, f100⟩ := d100 z.1 (s.1 + 1) (by omega) (by omega)
    obtain ⟨v2, he2, hv2⟩ := rStep (g := g) (P := fun v => (∃ y, pX c.1 8 s2 = .ok y ∧ rE c none (dp + 1) ((10, 0, 0) :: (11, ie (s.1 : Nat), ie (z.1 : Nat)) :: K) (q.1 :: V) ((s.1 + 1, z.1) :: S) (Y ++ Z1) y v) ∨ (∃ e K' s' S', pX c.1 8 s2 = .error e ∧ rE c (some e) (dp + 1) K' (q.1 :: V) S' (Y ++ Z1) s' v)) hw2' (by decide) d1 (by omega) (fun u' H' => by
      refine zu_rw (fun N => xt12 N _ _ g u') ?_
      refine zu_bind (z_exp g hG 8 (by omega) (by omega) H') (fun w hw => ?_)
      rw [f100, e100]
      cases hX2 : pX c.1 8 s2 with
      | ok y =>
        rw [hX2] at hw
        refine zu_bind (z_enter g z.1 (s.1 + 1) hw (by omega)) (fun w2 hw2 => ?_)
        refine zu_bind (z_later g 11 _ _ hw2 (by omega)) (fun w3 hw3 => ?_)
        exact zu_bs (zu_mono (z_later g 10 0 0 hw3 (by show K.length + 1 < 6000; omega)) (fun w4 hw4 => Or.inl ⟨y, rfl, hw4⟩))
      | error e =>
        rw [hX2] at hw
        refine zu_bind (z_enter g z.1 (s.1 + 1) hw (by omega)) (fun w2 hw2 => ?_)
        refine zu_bind (z_later g 11 _ _ hw2 (by omega)) (fun w3 hw3 => ?_)
        exact zu_bs (zu_mono (z_later g 10 0 0 hw3 (by show K.length + 1 < 6000; omega)) (fun w4 hw4 => Or.inr ⟨e, _, _, _, rfl, hw4⟩)))
    have hE2 := rEq_trans he1 (rEq_trans hw1 he2)
    rcases hv2 with ⟨y, hY2, hv2⟩ | ⟨e, K', s', S', hE, hv2⟩
    case inr => rw [hE, pB_e]; exact rPe_of hE2 hv2
    rw [hY2, pB_o]
    obtain ⟨y1, y2, _⟩ := pX_ok (by omega) hY2
    have hy : y.1 = q.2.1 + 1 ∧ y.2.2.2.1 = q.2.2.2.2.1 ∧ y.2.2.1.1 = q.2.2.2.1.1 := by
      rw [y1]; refine ⟨?_, ?_, ?_⟩
      · show s2.1 + 1 = _; rw [hs2'.1]
      · show s2.2.2.2.1 = _; rw [hs2'.2.1]
      · exact hs2'.2.2
    have i2 := hr _ _ _ _ _ _ hv2 ⟨by show fl ≤ K.length + 1; omega, by show K.length + 1 + 20 * (20 - (dp + 1)) ≤ 500; omega, by show V.length + 1 + 20 * (20 - (dp + 1)) ≤ 500; omega, by show S.length + 1 ≤ 6 + (dp + 1); omega, fun x hx => by
      rcases List.mem_cons.mp hx with rfl | hx
      · exact z2'
      · exact d5 x hx, by omega, rPm_app d7 Z1, hd⟩
    have hsc : scm c.1 ((s.1 + 1, z.1) :: S) = (tkV c.1 (s.1 + 1), z.1) :: scm c.1 S := rfl
    rw [hsc] at i2
    cases hp : r ((tkV c.1 (s.1 + 1), z.1) :: scm c.1 S) y with
    | error e => rw [hp] at i2; exact rPe_eq hE2 i2
    | ok p =>
      rw [hp] at i2
      obtain ⟨w3, Z2, hw3, hw4⟩ := i2
      obtain ⟨t1, t2, t3, t4, t5, t6, t7⟩ := bR_u hb hp (by omega) (by omega)
      rw [pB_o]
      obtain ⟨v3, he3, hv3⟩ := rStep (g := g) (P := fun v => rE c none dp K (p.2.2.2.2.1 :: V) S (Y ++ Z1 ++ Z2) (sTr p.2 (tBd (tAdd p.2.2.2.2 (7, s.1, q.1, p.1, z.1, 0, [])) q.1 z.1)) v) hw4 (by decide) d1 (by omega) (fun u' H' => by
        refine zu_rw (fun N => xt11 N _ _ g u') ?_
        have he24 : q.1 < 2400 := H'.2.2.1.2.2.1.2
        refine zu_bind (z_take g (rE_dpm (rE_leave H')) (by show V.length + 1 < 2400; omega)) (fun w hw => ?_)
        refine zu_bind (z_take g hw.2 (by omega)) (fun w2 hw2 => ?_)
        refine zu_bind (z_node g hw2.2 (by omega) _ _ _ _ _ (7, s.1, q.1, p.1, -1, 0, []) rfl rfl hw2.1 hw.1 rfl rfl rfl (Or.inr ⟨by show (0 : Int) ≤ q.1; omega, by show (q.1 : Int) < 2400; omega⟩)) (fun w3 hw3 => ?_)
        obtain ⟨q1, q2⟩ := hw3
        rw [q1, hw2.1]
        simp only [if_pos (okn p.2.2.2.2.1 2400 (by omega) (by omega)), if_pos (okn q.1 2400 he24 (by omega)), ntn p.2.2.2.2.1 (by omega), ntn q.1 (by omega)]
        have H4 := rE_82 (s := p.2) (t := p.2.2.2.2) (7, s.1, q.1, p.1, z.1, 0, []) q2 ⟨rfl, rfl, rfl, rfl, rfl⟩ rfl
        have H5 := rE_bd H4 q.1 (z.1 : Int)
        exact zu_bs (z_give g p.2.2.2.2.1 H5 (by omega) (by omega)))
      exact ⟨v3, Z1 ++ Z2, rEq_trans hE2 (rEq_trans hw3 he3), by rw [← List.append_assoc]; exact hv3⟩
