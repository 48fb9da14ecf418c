set_option maxRecDepth 100000
theorem rE_at' {c : RC} {st : Option (Nat × Nat)} {dp : Nat} {K : List (Int32 × Int32 × Int32)} {V : List Nat} {S : List (Nat × Nat)} {Y : List Ty} {s : PS} {u : pm_J} (H : rE c st dp K V S Y s u) (ha : s.1 < c.1.length) : rE c st dp K V S Y (sAt s (s.1 + 1)) (wi u 64 51 (ie (s.1 : Nat) + 1)) := by
  have := rE_at H ha
  rw [H.1.2.2.1] at this; exact this
theorem rE_kq {c : RC} {st : Option (Nat × Nat)} {dp : Nat} {K : List (Int32 × Int32 × Int32)} {V : List Nat} {S : List (Nat × Nat)} {Y : List Ty} {s : PS} {u : pm_J} (hG : tkG c.1) (H : rE c st dp K V S Y s u) (k : Nat) (hk : k ≤ 25) : (u.1 66 s.1 = ie (rk k : Nat)) ↔ tkK c.1 s.1 = k := r_kq hG H.1.2.1 s.1 H.1.2.2.2.1 k hk
theorem rE_b {c : RC} {st : Option (Nat × Nat)} {dp : Nat} {K : List (Int32 × Int32 × Int32)} {V : List Nat} {S : List (Nat × Nat)} {Y : List Ty} {s : PS} {u : pm_J} (H : rE c st dp K V S Y s u) : c.1.length ≤ 900 ∧ s.1 ≤ c.1.length ∧ s.2.2.1.1 ≤ 24 := ⟨H.1.2.1.1.2.1, H.1.2.2.2.1, H.2.2.2.2.2.2.1.2.1⟩
theorem z_mk {c : RC} {st : Option (Nat × Nat)} {dp : Nat} {K : List (Int32 × Int32 × Int32)} {V : List Nat} {S : List (Nat × Nat)} {Y : List Ty} {s : PS} {u : pm_J} (g : pm_s) (H : rE c st dp K V S Y s u) (he : s.2.2.2.1 < 2400) (hV : V.length < 2400) (k t a b cc : Int32) (x : Nd) (hk : k = ie (rop x.1 : Nat)) (ht : t = ie (x.2.1 : Nat)) (ha : a = ie (rva x)) (hb : b = ie (rvb x)) (hc : cc = ie (rvc x)) (hl : rvl x = -1) (hn : rvn x = 0) (ha2 : rva x = -1 ∨ (0 ≤ rva x ∧ rva x < 2400)) : zu (fun N => (F_Md_node N k t a b cc g u).bind fun q => (F_Md_give q.1 g q.2).bind fun v => some v) (fun v => rE c st dp K (s.2.2.2.1 :: V) S Y (sNode s x) v) := by
  refine zu_bind (z_node g H he k t a b cc x hk ht ha hb hc hl hn ha2) (fun q hq => ?_)
  rw [hq.1]
  exact zu_bs (z_give g s.2.2.2.1 hq.2 he hV)
theorem r_atom {c : RC} {ps : rPl} {g : pm_s} {fl dp : Nat} {r : PR} (hC : rCn c) (hr : rIE c ps g fl dp r) (hb : bR c.1 r) {K : List (Int32 × Int32 × Int32)} {V : List Nat} {S : List (Nat × Nat)} {Y : List Ty} {s : PS} {u : pm_J} (hd : Bool) (H : rE c none dp ((25, 0, 0) :: K) V S Y s u) (sd : rSd c ps fl dp 495 495 K V S Y s) : rP c g fl dp K V S Y u (pAtom r c.1 (scm c.1 S) hd s) := by
  obtain ⟨b1, b2, b3⟩ := rE_b H
  obtain ⟨d1, d2, d3, d4, d5, d6, d7, d8⟩ := id sd
  have hG := hC.1
  have hA : ∀ u', rE c none dp K V S Y s u' → ∀ N, F_Md_atom N g u' = (if tkK c.1 s.1 = 15 then (F_Md_later 26 0 0 g (wi u' 64 51 (ie (s.1 : Nat) + 1))).bind fun q12 => (F_Md_later 10 0 0 g q12).bind fun q13 => some q13 else if tkK c.1 s.1 = 2 then K_Md_atom_62 N g (ie (rk (tkK c.1 s.1) : Nat)) u' else if tkK c.1 s.1 = 3 then K_Md_atom_62 N g (ie (rk (tkK c.1 s.1) : Nat)) u' else if tkK c.1 s.1 = 1 then K_Md_atom_62 N g (ie (rk (tkK c.1 s.1) : Nat)) u' else (F_Md_stop 2 (ie (s.1 : Nat)) g u').bind fun q11 => some q11) := by
    intro u' H' N
    have k15 : (u'.1 66 s.1 = 15) ↔ tkK c.1 s.1 = 15 := rE_kq hG H' 15 (by omega)
    have k2 : (u'.1 66 s.1 = 12) ↔ tkK c.1 s.1 = 2 := rE_kq hG H' 2 (by omega)
    have k3 : (u'.1 66 s.1 = 13) ↔ tkK c.1 s.1 = 3 := rE_kq hG H' 3 (by omega)
    have k1 : (u'.1 66 s.1 = 1) ↔ tkK c.1 s.1 = 1 := rE_kq hG H' 1 (by omega)
    unfold F_Md_atom
    rw [H'.1.2.2.1, if_pos (okn _ 902 (by omega) (by omega)), ntn _ (by omega)]
    simp only [k15, k2, k3, k1]
    simp only [r_kind H'.1.2.1 s.1 b2]
  have leaf : ∀ (k kd : Nat) (l : Int), tkK c.1 s.1 = k → k = 2 ∨ k = 3 ∨ k = 1 → ((k = 2 ∧ kd = 0 ∧ l = -1) ∨ (k = 3 ∧ kd = 1 ∧ l = -1) ∨ (k = 1 ∧ (kd = 3 ∨ kd = 4) ∧ l = -1 ∧ fnd (scm c.1 S) (tkV c.1 s.1) = none) ∨ (k = 1 ∧ kd = 2 ∧ ∃ n : Nat, l = n ∧ fnd (scm c.1 S) (tkV c.1 s.1) = some n)) → rP c g fl dp K V S Y u (.ok (pLeaf c.1 kd l s)) := by
    intro k kd l hk hk3 hkd
    obtain ⟨v, he, hv⟩ := rStep (g := g) (P := fun v => rE c none dp K ((pLeaf c.1 kd l s).1 :: V) S Y (pLeaf c.1 kd l s).2 v) H (by decide) d1 (by omega) (fun u' H' => by
      refine zu_rw (fun N => xt25 N 0 0 g u') (zu_bs (zu_bs (zu_rw (hA u' H') ?_)))
      have hz := z_leaf g hC H' d5 (by omega) (by omega) (by omega) k kd l hk hkd
      rw [hk]
      rcases hk3 with rfl | rfl | rfl
      · exact hz
      · exact hz
      · exact hz)
    exact rP_ok he hv
  unfold pAtom
  by_cases e2 : tkK c.1 s.1 = 2
  · rw [if_pos e2]; exact leaf 2 0 (-1) e2 (by omega) (by omega)
  rw [if_neg e2]
  by_cases e3 : tkK c.1 s.1 = 3
  · rw [if_pos e3]; exact leaf 3 1 (-1) e3 (by omega) (by omega)
  rw [if_neg e3]
  by_cases e1 : tkK c.1 s.1 = 1
  · rw [if_pos e1]
    cases hf : fnd (scm c.1 S) (tkV c.1 s.1) with
    | some n => exact leaf 1 2 n e1 (by omega) (Or.inr (Or.inr (Or.inr ⟨rfl, rfl, n, rfl, hf⟩)))
    | none =>
      refine leaf 1 _ (-1) e1 (by omega) (Or.inr (Or.inr (Or.inl ⟨rfl, ?_, rfl, hf⟩)))
      by_cases e : hd = true ∧ bgA (tkK c.1 (s.1 + 1)) = true
      · rw [if_pos e]; omega
      · rw [if_neg e]; omega
  rw [if_neg e1]
  by_cases e15 : tkK c.1 s.1 = 15
  · rw [if_pos e15]
    have hlt : s.1 < c.1.length := tkK_lt (by omega)
    obtain ⟨v, he, hv⟩ := rStep (g := g) (P := fun v => rE c none dp ((10, 0, 0) :: (26, 0, 0) :: K) V S Y (sAt s (s.1 + 1)) v) H (by decide) d1 (by omega) (fun u' H' => by
      refine zu_rw (fun N => xt25 N 0 0 g u') (zu_bs (zu_bs (zu_rw (hA u' H') ?_)))
      simp only [if_pos e15]
      refine zu_bind (z_later g 26 0 0 (rE_at' H' hlt) (by omega)) (fun w hw => ?_)
      exact zu_bs (z_later g 10 0 0 hw (by show K.length + 1 < 6000; omega)))
    have i1 := hr _ _ _ _ _ _ hv (rSd_u0 sd (by show K.length ≤ K.length + 1; omega) (by show K.length + 1 + 495 ≤ K.length + 500; omega) (by omega) (by show s.2.2.2.1 ≤ 2 * (s.1 + 1); omega))
    cases hq : r (scm c.1 S) (sAt s (s.1 + 1)) with
    | error e => rw [hq] at i1; exact rPe_eq he i1
    | ok q =>
      rw [hq] at i1
      obtain ⟨w, Z, hw1, hw2⟩ := i1
      obtain ⟨p1, p2, p3, p4, p5, p6, p7⟩ := bR_u hb hq (show s.1 + 1 ≤ c.1.length by omega) b3
      have p1' : s.1 + 1 < q.2.1 := p1
      have p3' : q.2.2.2.2.1 + 1 + 2 * (s.1 + 1) ≤ s.2.2.2.1 + 2 * q.2.1 := p3
      rw [pB_o]
      by_cases e20 : tkK c.1 q.2.1 = 20
      · rw [if_pos e20]
        have hlt2 : q.2.1 < c.1.length := tkK_lt (by omega)
        obtain ⟨v2, he2, hv2⟩ := rStep (g := g) (P := fun v => rE c none dp ((10, 0, 0) :: (27, ie (q.2.1 : Nat), 0) :: K) (q.1 :: V) S (Y ++ Z) (sAt q.2 (q.2.1 + 1)) v) hw2 (by decide) d1 (by omega) (fun u' H' => by
          have k20 : (u'.1 66 q.2.1 = 21) ↔ tkK c.1 q.2.1 = 20 := rE_kq hG H' 20 (by omega)
          refine zu_rw (fun N => xt26 N 0 0 g u') (zu_bs ?_)
          rw [H'.1.2.2.1]
          simp only [if_pos (okn q.2.1 902 (by omega) (by omega)), ntn q.2.1 (by omega), if_pos (k20.mpr e20)]
          refine zu_bind (z_later g 27 (ie (q.2.1 : Nat)) 0 H' (by omega)) (fun w hw => ?_)
          refine zu_bind (z_later g 10 0 0 hw (by show K.length + 1 < 6000; omega)) (fun w2 hw2 => zu_some _ ?_)
          exact rE_at hw2 hlt2)
        have i2 := hr _ _ _ _ _ _ hv2 (rSd_up sd Z (by show K.length ≤ K.length + 1; omega) (by show K.length + 1 + 495 ≤ K.length + 500; omega) (by show V.length + 1 + 495 ≤ V.length + 500; omega) (by show q.2.2.2.2.1 ≤ 2 * (q.2.1 + 1); omega))
        have he3 := rEq_trans he (rEq_trans hw1 he2)
        cases hp : r (scm c.1 S) (sAt q.2 (q.2.1 + 1)) with
        | error e => rw [hp] at i2; exact rPe_eq he3 i2
        | ok p =>
          rw [hp] at i2
          obtain ⟨x, Z2, hx1, hx2⟩ := i2
          obtain ⟨y1, y2, y3, y4, y5, y6, y7⟩ := bR_u hb hp (show q.2.1 + 1 ≤ c.1.length by omega) p7
          have y1' : q.2.1 + 1 < p.2.1 := y1
          have y3' : p.2.2.2.2.1 + 1 + 2 * (q.2.1 + 1) ≤ q.2.2.2.2.1 + 2 * p.2.1 := y3
          rw [pB_o]
          have fin : ∀ (st : Option (Nat × Nat)) (z : PS) (u' : pm_J), z.2.2.2.1 < 2400 → rE c st dp K (p.1 :: q.1 :: V) S (Y ++ Z ++ Z2) z u' → zu (fun N => (F_Md_take g u').bind fun q72 => (F_Md_take g q72.2).bind fun q73 => (F_Md_node N 32 (ie (q.2.1 : Nat)) q73.1 q72.1 (-1) g q73.2).bind fun q74 => (F_Md_give q74.1 g q74.2).bind fun q75 => some q75) (fun v => rE c st dp K (z.2.2.2.1 :: V) S (Y ++ Z ++ Z2) (sNode z (13, q.2.1, q.1, p.1, -1, 0, [])) v) := by
            intro st z u' hz H'
            have hq24 : q.1 < 2400 := H'.2.2.1.2.2.1.2
            refine zu_bind (z_take g H' (by show V.length + 1 < 2400; omega)) (fun w hw => ?_)
            refine zu_bind (z_take g hw.2 (by omega)) (fun w2 hw2 => ?_)
            exact z_mk g hw2.2 hz (by omega) _ _ _ _ _ (13, q.2.1, q.1, p.1, -1, 0, []) rfl rfl hw2.1 hw.1 rfl rfl rfl (Or.inr ⟨by show (0 : Int) ≤ q.1; omega, by show (q.1 : Int) < 2400; omega⟩)
          have hx52 : ∀ u', rE c none dp K (p.1 :: q.1 :: V) S (Y ++ Z ++ Z2) p.2 u' → zu (fun N => F_Md_exprTask N 27 (ie (q.2.1 : Nat)) 0 g u') (fun v => match pX c.1 16 p.2 with | .ok z => rE c none dp K (z.2.2.2.1 :: V) S (Y ++ Z ++ Z2) (sNode z (13, q.2.1, q.1, p.1, -1, 0, [])) v | .error e => rE c (some e) dp K (p.2.2.2.2.1 :: V) S (Y ++ Z ++ Z2) (sNode p.2 (13, q.2.1, q.1, p.1, -1, 0, [])) v) := by
            intro u' H'
            refine zu_rw (fun N => xt27 N (ie (q.2.1 : Nat)) 0 g u') (zu_bs ?_)
            unfold K_Md_sumTask_529
            refine zu_bind (z_exp g hG 16 (by omega) (by omega) H') (fun w hw => ?_)
            cases hX : pX c.1 16 p.2 with
            | ok z =>
              rw [hX] at hw
              have hz := (pX_ok (by omega) hX).1
              exact fin none z w (by rw [hz]; show p.2.2.2.2.1 < 2400; omega) hw
            | error e =>
              rw [hX] at hw
              exact fin (some e) p.2 w (by omega) hw
          obtain ⟨v3, he4, hv3⟩ := rStep (g := g) hx2 (by decide) d1 (by omega) hx52
          have he5 := rEq_trans he3 (rEq_trans hx1 he4)
          cases hX : pX c.1 16 p.2 with
          | ok z =>
            rw [hX] at hv3
            exact ⟨v3, Z ++ Z2, he5, by rw [← List.append_assoc]; exact hv3⟩
          | error e => rw [hX] at hv3; exact rPe_of he5 hv3
      · rw [if_neg e20]
        obtain ⟨v2, he2, hv2⟩ := rStep (g := g) (P := fun v => rO c dp K (q.1 :: V) S (Y ++ Z) q.2 (pX c.1 16 q.2) v) hw2 (by decide) d1 (by omega) (fun u' H' => by
          have k20 : (u'.1 66 q.2.1 = 21) ↔ tkK c.1 q.2.1 = 20 := rE_kq hG H' 20 (by omega)
          refine zu_rw (fun N => xt26 N 0 0 g u') (zu_bs ?_)
          rw [H'.1.2.2.1]
          simp only [if_pos (okn q.2.1 902 (by omega) (by omega)), ntn q.2.1 (by omega), if_neg (fun hh => e20 (k20.mp hh))]
          exact zu_bs (z_exp g hG 16 (by omega) (by omega) H'))
        have he3 := rEq_trans he (rEq_trans hw1 he2)
        cases hX : pX c.1 16 q.2 with
        | ok z => rw [hX] at hv2; exact ⟨v2, Z, he3, hv2⟩
        | error e => rw [hX] at hv2; exact rPe_of he3 hv2
  · rw [if_neg e15]
    obtain ⟨v, he, hv⟩ := rStep (g := g) (P := fun v => rE c (some (2, s.1)) dp K V S Y s v) H (by decide) d1 (by omega) (fun u' H' => by
      refine zu_rw (fun N => xt25 N 0 0 g u') (zu_bs (zu_bs (zu_rw (hA u' H') ?_)))
      simp only [if_neg e15, if_neg e2, if_neg e3, if_neg e1]
      exact zu_bs (z_stop g 2 (by omega) H'))
    exact rPe_of he hv
