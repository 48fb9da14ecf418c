set_option maxRecDepth 100000
theorem r_call {c : RC} {ps : rPl} {g : pm_s} {fl dp : Nat} {r : PR} (hC : rCn c) (hr : rIE c ps g fl dp r) (hb : bR c.1 r) {K : List (Int32 × Int32 × Int32)} {V : List Nat} {S : List (Nat × Nat)} {Y : List Ty} {s : PS} {u : pm_J} (H : rE c none dp ((23, 0, 0) :: K) V S Y s u) (sd : rSd c ps fl dp 490 486 K V S Y s) : rP c g fl dp K V S Y u (pCall r c.1 (scm c.1 S) s) := by
  obtain ⟨b1, b2, b3⟩ := rE_b H
  obtain ⟨d1, d2, d3, d4, d5, d6, d7, d8⟩ := id sd
  have hG := hC.1
  have hA : ∀ u', rE c none dp K V S Y s u' → ∀ N, F_Md_exprTask N 23 0 0 g u' = ((if tkK c.1 s.1 = 13 ∨ tkK c.1 s.1 = 14 then K_Md_sumTask_273 N g u' else K_Md_sumTask_329 N g (if tkK c.1 s.1 = 1 then ie (s.1 : Nat) else -1) 24 u').bind fun q => some q) := by
    intro u' H' N
    have k13 : (u'.1 66 s.1 = 10) ↔ tkK c.1 s.1 = 13 := rE_kq hG H' 13 (by omega)
    have k14 : (u'.1 66 s.1 = 11) ↔ tkK c.1 s.1 = 14 := rE_kq hG H' 14 (by omega)
    have k1 : (u'.1 66 s.1 = 1) ↔ tkK c.1 s.1 = 1 := rE_kq hG H' 1 (by omega)
    rw [xt23, H'.1.2.2.1, if_pos (okn _ 902 (by omega) (by omega)), ntn _ (by omega)]
    simp only [k13, k14, k1, okn s.1 902 (by omega) (by omega), if_true]
    by_cases e13 : tkK c.1 s.1 = 13
    · simp [e13]
    · by_cases e14 : tkK c.1 s.1 = 14
      · simp [e14]
      · by_cases e1 : tkK c.1 s.1 = 1
        · simp [e1]
        · simp [e13, e14, e1]
  unfold pCall
  by_cases e : tkK c.1 s.1 = 13 ∨ tkK c.1 s.1 = 14
  · rw [if_pos e]
    have hlt : s.1 < c.1.length := tkK_lt (by omega)
    obtain ⟨v, he, hv⟩ := rStep (g := g) (P := fun v => rE c none dp ((25, 0, 0) :: (28, ie (s.1 : Nat), 0) :: K) V S Y (sAt s (s.1 + 1)) v) H (by decide) d1 (by omega) (fun u' H' => by
      refine zu_rw (hA u' H') (zu_bs ?_)
      simp only [if_pos e]
      unfold K_Md_sumTask_273
      rw [H'.1.2.2.1]
      refine zu_bind (z_later g 28 _ 0 H' (by omega)) (fun w hw => ?_)
      exact zu_bind (z_later g 25 0 0 hw (by show K.length + 1 < 6000; omega)) (fun w2 hw2 => zu_some _ (rE_at hw2 hlt)))
    have i1 := r_atom hC hr hb false hv (rSd_u0 sd (by show K.length ≤ K.length + 1; omega) (by show K.length + 1 + 490 ≤ K.length + 495; omega) (by omega) (by show s.2.2.2.1 ≤ 2 * (s.1 + 1); omega))
    cases hq : pAtom r c.1 (scm c.1 S) false (sAt s (s.1 + 1)) with
    | error e => rw [hq] at i1; exact rPe_eq he i1
    | ok q =>
      rw [hq] at i1
      obtain ⟨w, Z, hw1, hw2⟩ := i1
      obtain ⟨p1, p2, p3, p4, p5, p6, p7⟩ := b_atom hb (scm c.1 S) false (sAt s (s.1 + 1)) b3 q hq
      have p3' : q.2.2.2.2.1 + 1 + 2 * (s.1 + 1) ≤ s.2.2.2.1 + 2 * q.2.1 := p3
      have p1' : s.1 + 1 < q.2.1 := p1
      rw [pB_o]
      obtain ⟨v2, he2, hv2⟩ := rStep (g := g) (P := fun v => rE c none dp K (q.2.2.2.2.1 :: V) S (Y ++ Z) (sNode q.2 (tkK c.1 s.1 + 1, s.1, q.1, -1, -1, 0, [])) v) hw2 (by decide) d1 (by omega) (fun u' H' => by
        refine zu_rw (fun N => xt28 N (ie (s.1 : Nat)) 0 g u') (zu_bs ?_)
        have hq24 : q.1 < 2400 := H'.2.2.1.2.1.2
        refine zu_bind (z_take g H' (by omega)) (fun w hw => ?_)
        simp only [if_pos (okn s.1 902 (by omega) (by omega)), ntn s.1 (by omega)]
        have hk := r_kind hw.2.1.2.1 s.1 b2
        rw [hk]
        have hro : ie (rk (tkK c.1 s.1) : Nat) = ie (rop (tkK c.1 s.1 + 1) : Nat) := by rcases e with e | e <;> rw [e] <;> rfl
        have va : rva (tkK c.1 s.1 + 1, s.1, (q.1 : Int), -1, -1, 0, []) = (q.1 : Int) := by unfold rva; rw [if_neg (by show ¬ (tkK c.1 s.1 + 1 ≤ 4); omega)]
        have vb : rvb (tkK c.1 s.1 + 1, s.1, (q.1 : Int), -1, -1, 0, []) = -1 := by unfold rvb; rw [if_neg (by show ¬ (tkK c.1 s.1 + 1 = 16); omega)]
        have vc : rvc (tkK c.1 s.1 + 1, s.1, (q.1 : Int), -1, -1, 0, []) = -1 := by unfold rvc; rw [if_neg (by show ¬ (tkK c.1 s.1 + 1 = 8); omega)]
        have vl : rvl (tkK c.1 s.1 + 1, s.1, (q.1 : Int), -1, -1, 0, []) = -1 := by unfold rvl; rw [if_neg (by show ¬ (tkK c.1 s.1 + 1 = 2); omega), if_neg (by show ¬ (tkK c.1 s.1 + 1 = 7 ∨ tkK c.1 s.1 + 1 = 9); omega)]
        have vn : rvn (tkK c.1 s.1 + 1, s.1, (q.1 : Int), -1, -1, 0, []) = 0 := by unfold rvn; rw [if_neg (by show ¬ (tkK c.1 s.1 + 1 = 16); omega)]
        exact z_mk g hw.2 (by omega) (by omega) _ _ _ _ _ (tkK c.1 s.1 + 1, s.1, q.1, -1, -1, 0, []) hro rfl (by rw [va]; exact hw.1) (by rw [vb]; rfl) (by rw [vc]; rfl) vl vn (by rw [va]; omega))
      exact ⟨v2, Z, rEq_trans he (rEq_trans hw1 he2), hv2⟩
  · rw [if_neg e]
    obtain ⟨v, he, hv⟩ := rStep (g := g) (P := fun v => rE c none dp ((25, 0, 0) :: (24, (if tkK c.1 s.1 = 1 then ie (s.1 : Nat) else -1), 0) :: K) V S Y s v) H (by decide) d1 (by omega) (fun u' H' => by
      refine zu_rw (hA u' H') (zu_bs ?_)
      simp only [if_neg e]
      unfold K_Md_sumTask_329
      refine zu_bind (z_later g 24 _ 0 H' (by omega)) (fun w hw => ?_)
      exact zu_bs (z_later g 25 0 0 hw (by show K.length + 1 < 6000; omega)))
    have i1 := r_atom hC hr hb true hv (rSd_u0 sd (by show K.length ≤ K.length + 1; omega) (by show K.length + 1 + 490 ≤ K.length + 495; omega) (by omega) d6)
    cases hq : pAtom r c.1 (scm c.1 S) true s with
    | error e => rw [hq] at i1; exact rPe_eq he i1
    | ok q =>
      rw [hq] at i1
      obtain ⟨w, Z, hw1, hw2⟩ := i1
      obtain ⟨p1, p2, p3, p4, p5, p6, p7⟩ := b_atom hb (scm c.1 S) true s b3 q hq
      rw [pB_o]
      have hx : (if tkK c.1 s.1 = 1 then ie (s.1 : Nat) else -1) < 0 ↔ (tkK c.1 s.1 == 1) = false := by
        by_cases e1 : tkK c.1 s.1 = 1
        · rw [if_pos e1, e1]
          constructor
          · intro hh; exact absurd hh (nlt0 _ (by omega))
          · intro hh; cases hh
        · rw [if_neg e1]
          constructor
          · intro _; simp [e1]
          · intro _; decide
      by_cases eb : bgA (tkK c.1 q.2.1) = true
      · rw [if_pos eb]
        exact rP_eq (rEq_trans he hw1) (r_atoms hC hr hb q.1 _ _ hx 8 q.1 [] (Y ++ Z) q.2 w rfl (Or.inr eb) (by omega) hw2 (rSd_up sd Z (Nat.le_refl _) (Nat.le_refl _) (Nat.le_refl _) (by omega)))
      · rw [if_neg eb]
        obtain ⟨v2, he2, hv2⟩ := rStep (g := g) (P := fun v => rE c none dp K (q.1 :: V) S (Y ++ Z) q.2 v) hw2 (by decide) d1 (by omega) (fun u' H' => by
          have k15 : (u'.1 66 q.2.1 = 15) ↔ tkK c.1 q.2.1 = 15 := rE_kq hG H' 15 (by omega)
          have k2 : (u'.1 66 q.2.1 = 12) ↔ tkK c.1 q.2.1 = 2 := rE_kq hG H' 2 (by omega)
          have k3 : (u'.1 66 q.2.1 = 13) ↔ tkK c.1 q.2.1 = 3 := rE_kq hG H' 3 (by omega)
          have k1 : (u'.1 66 q.2.1 = 1) ↔ tkK c.1 q.2.1 = 1 := rE_kq hG H' 1 (by omega)
          have n4 : ¬ tkK c.1 q.2.1 = 2 ∧ ¬ tkK c.1 q.2.1 = 3 ∧ ¬ tkK c.1 q.2.1 = 1 ∧ ¬ tkK c.1 q.2.1 = 15 := by
            unfold bgA at eb
            simp only [Bool.or_eq_true, beq_iff_eq, not_or] at eb
            omega
          refine zu_rw (fun N => xt24 N _ 0 g u') (zu_bs ?_)
          rw [H'.1.2.2.1]
          simp only [if_pos (okn q.2.1 902 (by omega) (by omega)), ntn q.2.1 (by omega), k15, k2, k3, k1, if_neg n4.1, if_neg n4.2.1, if_neg n4.2.2.1, if_neg n4.2.2.2, if_pos (show (0 : Int32) ≤ 0 by decide)]
          exact zu_some _ H')
        exact ⟨v2, Z, rEq_trans he (rEq_trans hw1 he2), hv2⟩
theorem r_sums {c : RC} {ps : rPl} {g : pm_s} {fl dp : Nat} {r : PR} (hC : rCn c) (hr : rIE c ps g fl dp r) (hb : bR c.1 r) {K : List (Int32 × Int32 × Int32)} {V : List Nat} {S : List (Nat × Nat)} (j : Nat) : ∀ (e : Nat) (Y : List Ty) (s : PS) (u : pm_J), j ≤ 8 → rE c none dp ((21, ie ((8 - j : Nat) : Int), 0) :: K) (e :: V) S Y s u → rSd c ps fl dp 485 482 K V S Y s → e < s.2.2.2.1 → rP c g fl dp K V S Y u (pSums r c.1 (scm c.1 S) j e s) := by
  have hG := hC.1
  have hA : ∀ (x : Nat) (e : Nat) (Y : List Ty) (s : PS) (u' : pm_J), x ≤ 8 → rE c none dp K (e :: V) S Y s u' → ∀ N, F_Md_exprTask N 21 (ie (x : Nat)) 0 g u' = ((if tkK c.1 s.1 = 22 ∨ tkK c.1 s.1 = 23 then (if x = 8 then (F_Md_stop 3 (ie (s.1 : Nat)) g u').bind fun q => K_Md_sumTask_168 N g (ie (x : Nat)) q else K_Md_sumTask_168 N g (ie (x : Nat)) u') else some u').bind fun q => some q) := by
    intro x e Y s u' hx H' N
    obtain ⟨b1, b2, b3⟩ := rE_b H'
    have k22 : (u'.1 66 s.1 = 23) ↔ tkK c.1 s.1 = 22 := rE_kq hG H' 22 (by omega)
    have k23 : (u'.1 66 s.1 = 24) ↔ tkK c.1 s.1 = 23 := rE_kq hG H' 23 (by omega)
    have k8 : (ie (x : Nat) = 8) ↔ x = 8 := ineq _ 8 (by omega) (by omega)
    rw [xt21, H'.1.2.2.1, if_pos (okn _ 902 (by omega) (by omega)), ntn _ (by omega)]
    simp only [k22, k23, k8, okn s.1 902 (by omega) (by omega), if_true]
    by_cases e22 : tkK c.1 s.1 = 22
    · simp [e22]
    · by_cases e23 : tkK c.1 s.1 = 23
      · simp [e23]
      · simp [e22, e23]
  have push : ∀ (st : Option (Nat × Nat)) (x e : Nat) (Y : List Ty) (s : PS) (u' : pm_J), K.length < 1000 → s.1 < c.1.length → rE c st dp K (e :: V) S Y s u' → zu (fun N => K_Md_sumTask_168 N g (ie (x : Nat)) u') (fun v => rE c st dp ((23, 0, 0) :: (22, ie (s.1 : Nat), 0) :: (21, ie ((x + 1 : Nat) : Int), 0) :: K) (e :: V) S Y (sAt s (s.1 + 1)) v) := by
    intro st x e Y s u' hK hlt H'
    unfold K_Md_sumTask_168
    rw [iadd1]
    refine zu_bind (z_later g 21 _ 0 H' (by omega)) (fun w hw => ?_)
    rw [hw.1.2.2.1]
    refine zu_bind (z_later g 22 _ 0 hw (by show K.length + 1 < 6000; omega)) (fun w2 hw2 => ?_)
    exact zu_bind (z_later g 23 0 0 hw2 (by show K.length + 1 + 1 < 6000; omega)) (fun w3 hw3 => zu_some _ (rE_at hw3 hlt))
  have stay : ∀ (x e : Nat) (Y : List Ty) (s : PS) (u : pm_J), x ≤ 8 → ¬ (tkK c.1 s.1 = 22 ∨ tkK c.1 s.1 = 23) → rE c none dp ((21, ie (x : Nat), 0) :: K) (e :: V) S Y s u → rSd c ps fl dp 485 482 K V S Y s → rP c g fl dp K V S Y u (.ok (e, s)) := by
    intro x e Y s u hx hn H sd
    obtain ⟨d1, d2, d3, d4, d5, d6, d7, d8⟩ := id sd
    obtain ⟨v, he, hv⟩ := rStep (g := g) (P := fun v => rE c none dp K (e :: V) S Y s v) H (by decide) d1 (by omega) (fun u' H' => by
      refine zu_rw (hA x e Y s u' hx H') (zu_bs ?_)
      simp only [if_neg hn]
      exact zu_some _ H')
    exact rP_ok he hv
  induction j with
  | zero =>
    intro e Y s u hj H sd hen
    obtain ⟨b1, b2, b3⟩ := rE_b H
    obtain ⟨d1, d2, d3, d4, d5, d6, d7, d8⟩ := id sd
    unfold pSums
    by_cases ek : tkK c.1 s.1 = 22 ∨ tkK c.1 s.1 = 23
    · rw [if_pos ek]
      have hlt : s.1 < c.1.length := tkK_lt (by omega)
      obtain ⟨v, he, hv⟩ := rStep (g := g) (P := fun v => rE c (some (3, s.1)) dp ((23, 0, 0) :: (22, ie (s.1 : Nat), 0) :: (21, ie ((8 + 1 : Nat) : Int), 0) :: K) (e :: V) S Y (sAt s (s.1 + 1)) v) H (by decide) d1 (by omega) (fun u' H' => by
        refine zu_rw (hA 8 e Y s u' (by omega) H') (zu_bs ?_)
        simp only [if_pos ek, if_true]
        exact zu_bind (z_stop g 3 (by omega) H') (fun w hw => push (some (3, s.1)) 8 e Y s w (by omega) hlt hw))
      exact rPe_of he hv
    · rw [if_neg ek]
      exact stay 8 e Y s u (by omega) ek H sd
  | succ j ih =>
    intro e Y s u hj H sd hen
    obtain ⟨b1, b2, b3⟩ := rE_b H
    obtain ⟨d1, d2, d3, d4, d5, d6, d7, d8⟩ := id sd
    unfold pSums
    by_cases ek : tkK c.1 s.1 = 22 ∨ tkK c.1 s.1 = 23
    · rw [if_pos ek]
      have hlt : s.1 < c.1.length := tkK_lt (by omega)
      obtain ⟨v, he, hv⟩ := rStep (g := g) (P := fun v => rE c none dp ((23, 0, 0) :: (22, ie (s.1 : Nat), 0) :: (21, ie ((8 - (j + 1) + 1 : Nat) : Int), 0) :: K) (e :: V) S Y (sAt s (s.1 + 1)) v) H (by decide) d1 (by omega) (fun u' H' => by
        refine zu_rw (hA (8 - (j + 1)) e Y s u' (by omega) H') (zu_bs ?_)
        simp only [if_pos ek, if_neg (show ¬ (8 - (j + 1) = 8) by omega)]
        exact push none (8 - (j + 1)) e Y s u' (by omega) hlt H')
      have i1 := r_call hC hr hb hv (rSd_u0 sd (by show K.length ≤ K.length + 1 + 1; omega) (by show K.length + 1 + 1 + 485 ≤ K.length + 490; omega) (by show V.length + 1 + 482 ≤ V.length + 486; omega) (by show s.2.2.2.1 ≤ 2 * (s.1 + 1); omega))
      show rP c g fl dp K V S Y u (pB (pCall r c.1 (scm c.1 S) (sAt s (s.1 + 1))) fun q => pSums r c.1 (scm c.1 S) j q.2.2.2.2.1 (sNode q.2 (tkK c.1 s.1 - 12, s.1, e, q.1, -1, 0, [])))
      cases hq : pCall r c.1 (scm c.1 S) (sAt s (s.1 + 1)) with
      | error e => rw [hq] at i1; exact rPe_eq he i1
      | ok q =>
        rw [hq] at i1
        obtain ⟨w, Z, hw1, hw2⟩ := i1
        obtain ⟨p1, p2, p3, p4, p5, p6, p7⟩ := b_call hb (scm c.1 S) (sAt s (s.1 + 1)) (by show s.1 + 1 ≤ _; omega) b3 q hq
        have p3' : q.2.2.2.2.1 + 1 + 2 * (s.1 + 1) ≤ s.2.2.2.1 + 2 * q.2.1 := p3
        have p1' : s.1 + 1 < q.2.1 := p1
        have p5' : s.2.2.2.1 ≤ q.1 := p5
        rw [pB_o]
        obtain ⟨v2, he2, hv2⟩ := rStep (g := g) (P := fun v => rE c none dp ((21, ie ((8 - (j + 1) + 1 : Nat) : Int), 0) :: K) (q.2.2.2.2.1 :: V) S (Y ++ Z) (sNode q.2 (tkK c.1 s.1 - 12, s.1, e, q.1, -1, 0, [])) v) hw2 (by decide) (by show fl ≤ K.length + 1; omega) (by show K.length + 1 < 6000; omega) (fun u' H' => by
          refine zu_rw (fun N => xt22 N (ie (s.1 : Nat)) 0 g u') (zu_bs ?_)
          have he24 : e < 2400 := H'.2.2.1.2.2.1.2
          refine zu_bind (z_take g H' (by show V.length + 1 < 2400; omega)) (fun w hw => ?_)
          refine zu_bind (z_take g hw.2 (by omega)) (fun w2 hw2 => ?_)
          simp only [if_pos (okn s.1 902 (by omega) (by omega)), ntn s.1 (by omega)]
          have hk := r_kind hw2.2.1.2.1 s.1 b2
          rw [hk]
          have hro : ie (rk (tkK c.1 s.1) : Nat) = ie (rop (tkK c.1 s.1 - 12) : Nat) := by rcases ek with e | e <;> rw [e] <;> rfl
          have va : rva (tkK c.1 s.1 - 12, s.1, (e : Int), (q.1 : Int), -1, 0, []) = (e : Int) := by unfold rva; rw [if_neg (by show ¬ (tkK c.1 s.1 - 12 ≤ 4); omega)]
          have vb : rvb (tkK c.1 s.1 - 12, s.1, (e : Int), (q.1 : Int), -1, 0, []) = (q.1 : Int) := by unfold rvb; rw [if_neg (by show ¬ (tkK c.1 s.1 - 12 = 16); omega)]
          have vc : rvc (tkK c.1 s.1 - 12, s.1, (e : Int), (q.1 : Int), -1, 0, []) = -1 := by unfold rvc; rw [if_neg (by show ¬ (tkK c.1 s.1 - 12 = 8); omega)]
          have vl : rvl (tkK c.1 s.1 - 12, s.1, (e : Int), (q.1 : Int), -1, 0, []) = -1 := by unfold rvl; rw [if_neg (by show ¬ (tkK c.1 s.1 - 12 = 2); omega), if_neg (by show ¬ (tkK c.1 s.1 - 12 = 7 ∨ tkK c.1 s.1 - 12 = 9); omega)]
          have vn : rvn (tkK c.1 s.1 - 12, s.1, (e : Int), (q.1 : Int), -1, 0, []) = 0 := by unfold rvn; rw [if_neg (by show ¬ (tkK c.1 s.1 - 12 = 16); omega)]
          exact z_mk g hw2.2 (by omega) (by omega) _ _ _ _ _ (tkK c.1 s.1 - 12, s.1, e, q.1, -1, 0, []) hro rfl (by rw [va]; exact hw2.1) (by rw [vb]; exact hw.1) (by rw [vc]; rfl) vl vn (by rw [va]; omega))
        rw [show 8 - (j + 1) + 1 = 8 - j by omega] at hv2
        exact rP_eq (rEq_trans he (rEq_trans hw1 he2)) (ih q.2.2.2.2.1 (Y ++ Z) (sNode q.2 (tkK c.1 s.1 - 12, s.1, e, q.1, -1, 0, [])) v2 (by omega) hv2 (rSd_up sd Z (Nat.le_refl _) (Nat.le_refl _) (Nat.le_refl _) (by show q.2.2.2.2.1 + 1 ≤ 2 * q.2.1; omega)) (by show q.2.2.2.2.1 < q.2.2.2.2.1 + 1; omega))
    · rw [if_neg ek]
      exact stay _ e Y s u (by omega) ek H sd
theorem r_sum {c : RC} {ps : rPl} {g : pm_s} {fl dp : Nat} {r : PR} (hC : rCn c) (hr : rIE c ps g fl dp r) (hb : bR c.1 r) {K : List (Int32 × Int32 × Int32)} {V : List Nat} {S : List (Nat × Nat)} {Y : List Ty} {s : PS} {u : pm_J} (H : rE c none dp ((20, 0, 0) :: K) V S Y s u) (sd : rSd c ps fl dp 485 482 K V S Y s) : rP c g fl dp K V S Y u (pSum r c.1 (scm c.1 S) s) := by
  obtain ⟨b1, b2, b3⟩ := rE_b H
  obtain ⟨d1, d2, d3, d4, d5, d6, d7, d8⟩ := id sd
  obtain ⟨v, he, hv⟩ := rStep (g := g) (P := fun v => rE c none dp ((23, 0, 0) :: (21, 0, 0) :: K) V S Y s v) H (by decide) d1 (by omega) (fun u' H' => by
    refine zu_rw (fun N => xt20 N 0 0 g u') (zu_bs ?_)
    refine zu_bind (z_later g 21 0 0 H' (by omega)) (fun w hw => ?_)
    exact zu_bs (z_later g 23 0 0 hw (by show K.length + 1 < 6000; omega)))
  have i1 := r_call hC hr hb hv (rSd_u0 sd (by show K.length ≤ K.length + 1; omega) (by show K.length + 1 + 485 ≤ K.length + 490; omega) (by omega) d6)
  unfold pSum
  cases hq : pCall r c.1 (scm c.1 S) s with
  | error e => rw [hq] at i1; exact rPe_eq he i1
  | ok q =>
    rw [hq] at i1
    obtain ⟨w, Z, hw1, hw2⟩ := i1
    obtain ⟨p1, p2, p3, p4, p5, p6, p7⟩ := b_call hb (scm c.1 S) s b2 b3 q hq
    rw [pB_o]
    exact rP_eq (rEq_trans he hw1) (r_sums hC hr hb 8 q.1 (Y ++ Z) q.2 w (by omega) hw2 (rSd_up sd Z (Nat.le_refl _) (Nat.le_refl _) (Nat.le_refl _) (by omega)) (by omega))
theorem r_cmp {c : RC} {ps : rPl} {g : pm_s} {fl dp : Nat} {r : PR} (hC : rCn c) (hr : rIE c ps g fl dp r) (hb : bR c.1 r) {K : List (Int32 × Int32 × Int32)} {V : List Nat} {S : List (Nat × Nat)} {Y : List Ty} {s : PS} {u : pm_J} (H : rE c none dp ((20, 0, 0) :: (18, 0, 0) :: K) V S Y s u) (sd : rSd c ps fl dp 483 480 K V S Y s) : rP c g fl dp K V S Y u (pCmp r c.1 (scm c.1 S) s) := by
  obtain ⟨b1, b2, b3⟩ := rE_b H
  obtain ⟨d1, d2, d3, d4, d5, d6, d7, d8⟩ := id sd
  have hG := hC.1
  have i1 := r_sum hC hr hb H (rSd_u0 sd (by show K.length ≤ K.length + 1; omega) (by show K.length + 1 + 483 ≤ K.length + 485; omega) (by omega) d6)
  unfold pCmp
  cases hq : pSum r c.1 (scm c.1 S) s with
  | error e => rw [hq] at i1; exact i1
  | ok q =>
    rw [hq] at i1
    obtain ⟨w, Z, hw1, hw2⟩ := i1
    obtain ⟨p1, p2, p3, p4, p5, p6, p7⟩ := b_sum hb (scm c.1 S) s b2 b3 q hq
    rw [pB_o]
    by_cases e24 : tkK c.1 q.2.1 = 24
    · rw [if_pos e24]
      have hlt : q.2.1 < c.1.length := tkK_lt (by omega)
      obtain ⟨v2, he2, hv2⟩ := rStep (g := g) (P := fun v => rE c none dp ((20, 0, 0) :: (22, ie (q.2.1 : Nat), 0) :: K) (q.1 :: V) S (Y ++ Z) (sAt q.2 (q.2.1 + 1)) v) hw2 (by decide) d1 (by omega) (fun u' H' => by
        have k24 : (u'.1 66 q.2.1 = 25) ↔ tkK c.1 q.2.1 = 24 := rE_kq hG H' 24 (by omega)
        refine zu_rw (fun N => xt18 N 0 0 g u') (zu_bs ?_)
        rw [H'.1.2.2.1]
        simp only [if_pos (okn q.2.1 902 (by omega) (by omega)), ntn q.2.1 (by omega), if_pos (k24.mpr e24)]
        refine zu_bind (z_later g 22 _ 0 H' (by omega)) (fun w hw => ?_)
        exact zu_bind (z_later g 20 0 0 hw (by show K.length + 1 < 6000; omega)) (fun w2 hw2 => zu_some _ (rE_at hw2 hlt)))
      have i2 := r_sum hC hr hb hv2 (rSd_up sd Z (by show K.length ≤ K.length + 1; omega) (by show K.length + 1 + 483 ≤ K.length + 485; omega) (by show V.length + 1 + 480 ≤ V.length + 482; omega) (by show q.2.2.2.2.1 ≤ 2 * (q.2.1 + 1); omega))
      cases hp : pSum r c.1 (scm c.1 S) (sAt q.2 (q.2.1 + 1)) with
      | error e => rw [hp] at i2; exact rPe_eq (rEq_trans hw1 he2) i2
      | ok p =>
        rw [hp] at i2
        obtain ⟨x, Z2, hx1, hx2⟩ := i2
        obtain ⟨y1, y2, y3, y4, y5, y6, y7⟩ := b_sum hb (scm c.1 S) (sAt q.2 (q.2.1 + 1)) (by show q.2.1 + 1 ≤ _; omega) p7 p hp
        have y3' : p.2.2.2.2.1 + 1 + 2 * (q.2.1 + 1) ≤ q.2.2.2.2.1 + 2 * p.2.1 := y3
        rw [pB_o]
        obtain ⟨v3, he3, hv3⟩ := rStep (g := g) (P := fun v => rE c none dp K (p.2.2.2.2.1 :: V) S (Y ++ Z ++ Z2) (sNode p.2 (12, q.2.1, q.1, p.1, -1, 0, [])) v) hx2 (by decide) d1 (by omega) (fun u' H' => by
          refine zu_rw (fun N => xt22 N (ie (q.2.1 : Nat)) 0 g u') (zu_bs ?_)
          have he24 : q.1 < 2400 := H'.2.2.1.2.2.1.2
          refine zu_bind (z_take g H' (by show V.length + 1 < 2400; omega)) (fun w hw => ?_)
          refine zu_bind (z_take g hw.2 (by omega)) (fun w2 hw2 => ?_)
          simp only [if_pos (okn q.2.1 902 (by omega) (by omega)), ntn q.2.1 (by omega)]
          have hk := r_kind hw2.2.1.2.1 q.2.1 p2
          rw [hk]
          exact z_mk g hw2.2 (by omega) (by omega) _ _ _ _ _ (12, q.2.1, q.1, p.1, -1, 0, []) (by rw [e24]; rfl) rfl hw2.1 hw.1 rfl rfl rfl (Or.inr ⟨by show (0 : Int) ≤ q.1; omega, by show (q.1 : Int) < 2400; omega⟩))
        exact ⟨v3, Z ++ Z2, rEq_trans hw1 (rEq_trans he2 (rEq_trans hx1 he3)), by rw [← List.append_assoc]; exact hv3⟩
    · rw [if_neg e24]
      obtain ⟨v2, he2, hv2⟩ := rStep (g := g) (P := fun v => rE c none dp K (q.1 :: V) S (Y ++ Z) q.2 v) hw2 (by decide) d1 (by omega) (fun u' H' => by
        have k24 : (u'.1 66 q.2.1 = 25) ↔ tkK c.1 q.2.1 = 24 := rE_kq hG H' 24 (by omega)
        refine zu_rw (fun N => xt18 N 0 0 g u') (zu_bs ?_)
        rw [H'.1.2.2.1]
        simp only [if_pos (okn q.2.1 902 (by omega) (by omega)), ntn q.2.1 (by omega), if_neg (fun hh => e24 (k24.mp hh))]
        exact zu_some _ H')
      exact ⟨v2, Z, rEq_trans hw1 he2, hv2⟩
