set_option maxRecDepth 100000
theorem zu_rwN {α : Type} {F G : Nat → Option α} {P : α → Prop} (h1 : ∀ N, 200000 ≤ N → F N = G N) (h : zu G P) : zu F P := by
  obtain ⟨a, h3, h2⟩ := h
  exact ⟨a, fun N hN => (h1 N hN).trans (h3 N hN), h2⟩
theorem rVs_at {V : List Nat} {u : pm_J} (h : rVs V u) (r e : Nat) (hx : V[r]? = some e) : u.1 108 (V.length - 1 - r) = ie (e : Nat) ∧ e < 2400 := by
  induction V generalizing r with
  | nil => cases hx
  | cons y V ih =>
    cases r with
    | zero =>
      cases hx
      exact h.1
    | succ r =>
      have := ih h.2 r hx
      have hl : (y :: V).length - 1 - (r + 1) = V.length - 1 - r := by show V.length + 1 - 1 - (r + 1) = _; omega
      rw [hl]; exact this
theorem rVs_acc {acc V : List Nat} {h : Nat} {u : pm_J} (hv : rVs (acc.reverse ++ h :: V) u) : (u.1 108 V.length = ie (h : Nat) ∧ h < 2400) ∧ ∀ i e, acc[i]? = some e → u.1 108 (V.length + 1 + i) = ie (e : Nat) ∧ e < 2400 := by
  have hl : (acc.reverse ++ h :: V).length = acc.length + (V.length + 1) := by rw [List.length_append, List.length_reverse]; rfl
  constructor
  · have := rVs_at hv acc.length h (by rw [List.getElem?_append_right (by rw [List.length_reverse]; omega), List.length_reverse, Nat.sub_self]; rfl)
    rw [hl, show acc.length + (V.length + 1) - 1 - acc.length = V.length by omega] at this
    exact this
  · intro i e he
    have hi := (List.getElem?_eq_some_iff.mp he).1
    have := rVs_at hv (acc.length - 1 - i) e (by rw [List.getElem?_append_left (by rw [List.length_reverse]; omega), List.getElem?_reverse (by omega), show acc.length - 1 - (acc.length - 1 - i) = i by omega]; exact he)
    rw [hl, show acc.length + (V.length + 1) - 1 - (acc.length - 1 - i) = V.length + 1 + i by omega] at this
    exact this
theorem rVs_tl {acc V : List Nat} {u : pm_J} (hv : rVs (acc ++ V) u) : rVs V u := by
  induction acc with
  | nil => exact hv
  | cons a acc ih => exact ih hv.2
theorem z_row {c : RC} {dp : Nat} {K : List (Int32 × Int32 × Int32)} {V : List Nat} {S : List (Nat × Nat)} {Y : List Ty} {s : PS} {u : pm_J} (g : pm_s) (h : Nat) (nm : Bool) (acc : List Nat) (hacc : acc ≠ []) (h8 : acc.length ≤ 8) (H : rE c none dp K (acc.reverse ++ h :: V) S Y s u) (hh : h < s.2.2.2.1) (he : s.2.2.2.1 < 2400) (hV : V.length < 1000) :
    zu (fun N => F_Md_row N (ie (acc.length : Nat)) (ib nm) g u) (fun v => rE c none dp K (s.2.2.2.1 :: V) S Y (sTr s (tAdd (tNr (tHr s.2.2.2 h nm) acc) (16, (s.2.2.2.2.1 h).2.1, h, -1, acc.length, 0, acc))) v) := by
  have hl : (acc.reverse ++ h :: V).length = acc.length + (V.length + 1) := by rw [List.length_append, List.length_reverse]; rfl
  have h58 : ∀ w : pm_J, ∀ t, rE c none dp K (acc.reverse ++ h :: V) S Y (sTr s t) w → w.1 64 58 = ie ((acc.length + (V.length + 1) : Nat) : Int) := fun w t hw => by rw [hw.2.2.1.1, hl]
  have s1 : ie ((acc.length + (V.length + 1) : Nat) : Int) - ie (acc.length : Nat) = ie ((V.length + 1 : Nat) : Int) := by rw [ie_sub]; congr 1; omega
  have s2 : ie ((acc.length + (V.length + 1) : Nat) : Int) - (ie (acc.length : Nat) + 1) = ie (V.length : Nat) := by rw [iadd1, ie_sub]; congr 1; omega
  have hu0 : rE c none dp K (acc.reverse ++ h :: V) S Y (sTr s s.2.2.2) u := H
  obtain ⟨⟨v1, v2⟩, v3⟩ := rVs_acc H.2.2.1.2
  have lp : ∀ (L : List Nat) (k : Nat) (t : Tr) (w : pm_J), acc.drop k = L → L ≠ [] → t.1 = s.2.2.2.1 → t.2.1 = s.2.2.2.2.1 → rE c none dp K (acc.reverse ++ h :: V) S Y (sTr s t) w →
      ∃ w', rE c none dp K (acc.reverse ++ h :: V) S Y (sTr s (tNr t L)) w' ∧ ∀ N f', K_Md_row_24 N g (L.length + f') (ie (acc.length : Nat)) (ie (h : Nat)) (ie (k : Nat)) w = K_Md_row_24 N g (f' + 1) (ie (acc.length : Nat)) (ie (h : Nat)) (ie ((acc.length - 1 : Nat) : Int)) w' := by
    intro L
    induction L with
    | nil => intro k t w _ hne; exact absurd rfl hne
    | cons i L ih =>
      intro k t w hL _ ht1 ht2 Hw
      have hk : k < acc.length := by
        apply Decidable.byContradiction; intro hc
        rw [List.drop_eq_nil_of_le (by omega)] at hL; cases hL
      have hlen : (i :: L).length = acc.length - k := by rw [← hL, List.length_drop]
      have hi : acc[k]? = some i := by
        have : (acc.drop k)[0]? = some i := by rw [hL]; rfl
        rw [List.getElem?_drop] at this; exact this
      cases L with
      | nil =>
        have hk1 : acc.length - 1 = k := by have : ([i] : List Nat).length = 1 := rfl; omega
        refine ⟨w, Hw, fun N f' => ?_⟩
        rw [hk1, show ([i] : List Nat).length + f' = f' + 1 by show 1 + f' = _; omega]
      | cons j L =>
        have hlen2 : (i :: j :: L).length = L.length + 2 := rfl
        have hj : acc[k + 1]? = some j := by
          have : (acc.drop k)[1]? = some j := by rw [hL]; rfl
          rw [List.getElem?_drop] at this; exact this
        have hL2 : acc.drop (k + 1) = j :: L := by
          rw [← List.drop_drop, hL]; rfl
        obtain ⟨_, w3⟩ := rVs_acc Hw.2.2.1.2
        obtain ⟨i1, i2⟩ := w3 k i hi
        obtain ⟨j1, j2⟩ := w3 (k + 1) j hj
        have H1 := rE_nr Hw i (j : Int)
        obtain ⟨w', hw', hst⟩ := ih (k + 1) (tN1 t i (j : Int)) _ hL2 (by simp) ht1 ht2 H1
        refine ⟨w', hw', fun N f' => ?_⟩
        rw [← hst N f', show (i :: j :: L).length + f' = (j :: L).length + f' + 1 by show L.length + 1 + 1 + f' = L.length + 1 + f' + 1; omega, K_Md_row_24]
        have a1 : ie (((V.length + 1 : Nat)) : Int) + ie (k : Nat) = ie ((V.length + 1 + k : Nat) : Int) := by rw [ie_add]; congr 1
        rw [h58 w t Hw, s1, iadd1, if_neg (fun hh => by have := (inle _ _ (by omega) (by omega)).mp hh; omega), a1, if_pos (okn _ 2400 (by omega) (by omega)), iadd1, if_pos (okn _ 2400 (by omega) (by omega)), ntn _ (by omega), ntn _ (by omega), i1, if_pos (okn _ 2400 i2 (by omega)), ntn _ (by omega), show V.length + 1 + k + 1 = V.length + 1 + (k + 1) by omega, j1]
  have H1 := rE_hr hu0 h nm
  have hdrop : acc.drop 0 = acc := rfl
  have hpos : 0 < acc.length := by cases acc with | nil => exact absurd rfl hacc | cons a l => show 0 < l.length + 1; omega
  obtain ⟨w', hw', hst⟩ := lp acc 0 (tHr s.2.2.2 h nm) _ hdrop hacc rfl rfl H1
  obtain ⟨⟨x1, x2⟩, x3⟩ := rVs_acc hw'.2.2.1.2
  obtain ⟨a0, ha0⟩ : ∃ a0, acc[0]? = some a0 := ⟨acc[0], List.getElem?_eq_getElem hpos⟩
  obtain ⟨y1, y2⟩ := x3 0 a0 ha0
  have e78 : w'.1 78 h = ie ((s.2.2.2.2.1 h).2.1 : Nat) := (hw'.2.2.2.2.2.2.2.1.2.2 h hh).2.1
  have Hv : rE c none dp K V S Y (sTr s (tNr (tHr s.2.2.2 h nm) acc)) (wi w' 64 58 (ie (V.length : Nat))) :=
    rE_v hw' (fun x i h1 h2 => wi_ne _ _ _ _ _ _ (by omega)) rfl ⟨wi_at _ _ _ _, rVs_of (rVs_tl (acc := acc.reverse ++ [h]) (by rw [List.append_assoc]; exact hw'.2.2.1.2)) (fun i hi => wi_ne _ _ _ _ _ _ (by omega))⟩
  have vb : rvb (16, (s.2.2.2.2.1 h).2.1, (h : Int), -1, 0, 0, acc) = (a0 : Int) := by
    unfold rvb; rw [if_pos rfl]
    cases acc with
    | nil => exact absurd rfl hacc
    | cons b l => cases ha0; rfl
  have fin : zu (fun N => (F_Md_node N 30 (ie ((s.2.2.2.2.1 h).2.1 : Nat)) (ie (h : Nat)) (ie (a0 : Nat)) (-1) g (wi w' 64 58 (ie (V.length : Nat)))).bind fun q7 => if pm_ok q7.1 2400 = true then (F_Md_give q7.1 g (wi q7.2 84 q7.1.toNatClampNeg (ie (acc.length : Nat)))).bind fun q9 => some q9 else none) (fun v => rE c none dp K (s.2.2.2.1 :: V) S Y (sTr s (tAdd (tNr (tHr s.2.2.2 h nm) acc) (16, (s.2.2.2.2.1 h).2.1, h, -1, acc.length, 0, acc))) v) := by
    refine zu_bind (z_node g Hv he _ _ _ _ _ (16, (s.2.2.2.2.1 h).2.1, h, -1, 0, 0, acc) rfl rfl rfl (by rw [vb]) rfl rfl rfl (Or.inr ⟨by show (0 : Int) ≤ h; omega, by show (h : Int) < 2400; omega⟩)) (fun q hq => ?_)
    obtain ⟨q1, q2⟩ := hq
    have q1' : q.1 = ie (s.2.2.2.1 : Nat) := q1
    simp only [q1', if_pos (okn _ 2400 he (by omega)), ntn s.2.2.2.1 (by omega)]
    have H4 := rE_84 (s := s) (t := tNr (tHr s.2.2.2 h nm) acc) (16, (s.2.2.2.2.1 h).2.1, h, -1, acc.length, 0, acc) q2 ⟨rfl, rfl, rfl, rfl, rfl⟩ rfl
    exact zu_bs (z_give g s.2.2.2.1 H4 he (by omega))
  refine zu_rwN (fun N hN => ?_) fin
  unfold F_Md_row
  have e1 : u.1 64 58 = ie ((acc.length + (V.length + 1) : Nat) : Int) := by rw [H.2.2.1.1, hl]
  have e2 : ie ((V.length + 1 : Nat) : Int) - 1 = ie (V.length : Nat) := isub1 _
  rw [e1, s1, e2, if_pos (okn _ 2400 (by omega) (by omega)), if_pos (show (ib nm == 0 || ib nm == 1) = true by cases nm <;> decide), ntn _ (by omega), v1, if_pos (okn _ 2400 v2 (by omega)), ntn _ (by omega)]
  have := hst N (N - acc.length)
  rw [show acc.length + (N - acc.length) = N by omega] at this
  rw [show (0 : Int32) = ie ((0 : Nat) : Int) from rfl, this, K_Md_row_24, iadd1, show acc.length - 1 + 1 = acc.length by omega, if_pos ((inle _ _ (by omega) (by omega)).mpr (Nat.le_refl _)), h58 w' _ hw', s1, if_pos (okn _ 2400 (by omega) (by omega)), if_pos (okn _ 2400 v2 (by omega)), ntn h (by omega), e78, ntn _ (by omega), show V.length + 1 = V.length + 1 + 0 from rfl, y1, s2]
theorem r_atoms {c : RC} {ps : rPl} {g : pm_s} {fl dp : Nat} {r : PR} (hC : rCn c) (hr : rIE c ps g fl dp r) (hb : bR c.1 r) {K : List (Int32 × Int32 × Int32)} {V : List Nat} {S : List (Nat × Nat)} (h : Nat) (nm : Bool) (x : Int32) (hx : x < 0 ↔ nm = false) (j : Nat) : ∀ (last : Nat) (acc : List Nat) (Y : List Ty) (s : PS) (u : pm_J), acc.length + j = 8 → (acc ≠ [] ∨ bgA (tkK c.1 s.1) = true) → h < s.2.2.2.1 → rE c none dp ((24, x, ie (acc.length : Nat)) :: K) (acc.reverse ++ h :: V) S Y s u → rSd c ps fl dp 490 486 K V S Y s → rP c g fl dp K V S Y u (pAtoms r c.1 (scm c.1 S) h nm j last acc s) := by
  have hG := hC.1
  have hA : ∀ (acc : List Nat) (Y : List Ty) (s : PS) (u' : pm_J), acc.length ≤ 8 → rE c none dp K (acc.reverse ++ h :: V) S Y s u' → ∀ N, F_Md_exprTask N 24 x (ie (acc.length : Nat)) g u' = ((if bgA (tkK c.1 s.1) = true then (if acc.length = 8 then (F_Md_stop 3 (ie (s.1 : Nat)) g u').bind fun q => K_Md_sumTask_425 N g x (ie (acc.length : Nat)) q else K_Md_sumTask_425 N g x (ie (acc.length : Nat)) u') else if acc.length ≤ 0 then some u' else (F_Md_row N (ie (acc.length : Nat)) (ib nm) g u').bind fun q => some q).bind fun q => some q) := by
    intro acc Y s u' h8 H' N
    obtain ⟨b1, b2, b3⟩ := rE_b H'
    have k15 : (u'.1 66 s.1 = 15) ↔ tkK c.1 s.1 = 15 := rE_kq hG H' 15 (by omega)
    have k2 : (u'.1 66 s.1 = 12) ↔ tkK c.1 s.1 = 2 := rE_kq hG H' 2 (by omega)
    have k3 : (u'.1 66 s.1 = 13) ↔ tkK c.1 s.1 = 3 := rE_kq hG H' 3 (by omega)
    have k1 : (u'.1 66 s.1 = 1) ↔ tkK c.1 s.1 = 1 := rE_kq hG H' 1 (by omega)
    have k8 : (ie (acc.length : Nat) = 8) ↔ acc.length = 8 := ineq _ 8 (by omega) (by omega)
    have k0 : (ie (acc.length : Nat) ≤ 0) ↔ acc.length ≤ 0 := inle _ 0 (by omega) (by omega)
    rw [xt24, H'.1.2.2.1, if_pos (okn _ 902 (by omega) (by omega)), ntn _ (by omega)]
    simp only [k15, k2, k3, k1, k8, k0]
    have hnm : (if x < 0 then (F_Md_row N (ie (acc.length : Nat)) 0 g u').bind fun q54 => some q54 else (F_Md_row N (ie (acc.length : Nat)) 1 g u').bind fun q55 => some q55) = (F_Md_row N (ie (acc.length : Nat)) (ib nm) g u').bind fun q => some q := by
      cases nm with
      | false => rw [if_pos (hx.mpr rfl)]; rfl
      | true => rw [if_neg (fun hh => by have := hx.mp hh; cases this)]; rfl
    rw [hnm]
    unfold bgA
    by_cases e2 : tkK c.1 s.1 = 2
    · simp [e2]
    · by_cases e3 : tkK c.1 s.1 = 3
      · simp [e3]
      · by_cases e1 : tkK c.1 s.1 = 1
        · simp [e1]
        · by_cases e15 : tkK c.1 s.1 = 15
          · simp [e15]
          · simp [e2, e3, e1, e15]
  have push : ∀ (st : Option (Nat × Nat)) (acc : List Nat) (Y : List Ty) (s : PS) (u' : pm_J), K.length < 1000 → rE c st dp K (acc.reverse ++ h :: V) S Y s u' → zu (fun N => K_Md_sumTask_425 N g x (ie (acc.length : Nat)) u') (fun v => rE c st dp ((25, 0, 0) :: (24, x, ie ((acc.length + 1 : Nat) : Int)) :: K) (acc.reverse ++ h :: V) S Y s v) := by
    intro st acc Y s u' hK H'
    unfold K_Md_sumTask_425
    rw [iadd1]
    refine zu_bind (z_later g 24 x _ H' (by omega)) (fun w hw => ?_)
    exact zu_bs (z_later g 25 0 0 hw (by show K.length + 1 < 6000; omega))
  have row : ∀ (last : Nat) (acc : List Nat) (Y : List Ty) (s : PS) (u : pm_J), acc.length ≤ 8 → acc ≠ [] → ¬ (bgA (tkK c.1 s.1) = true) → h < s.2.2.2.1 → rE c none dp ((24, x, ie (acc.length : Nat)) :: K) (acc.reverse ++ h :: V) S Y s u → rSd c ps fl dp 490 486 K V S Y s → rP c g fl dp K V S Y u (.ok (s.2.2.2.1, sTr s (tAdd (tNr (tHr s.2.2.2 h nm) acc) (16, (s.2.2.2.2.1 h).2.1, h, -1, acc.length, 0, acc)))) := by
    intro last acc Y s u h8 hne hbg hh H sd
    obtain ⟨b1, b2, b3⟩ := rE_b H
    obtain ⟨d1, d2, d3, d4, d5, d6, d7, d8⟩ := id sd
    obtain ⟨v, he, hv⟩ := rStep (g := g) (P := fun v => rE c none dp K (s.2.2.2.1 :: V) S Y (sTr s (tAdd (tNr (tHr s.2.2.2 h nm) acc) (16, (s.2.2.2.2.1 h).2.1, h, -1, acc.length, 0, acc))) v) H (by decide) d1 (by omega) (fun u' H' => by
      refine zu_rw (hA acc Y s u' h8 H') (zu_bs ?_)
      have hl0 : ¬ (acc.length ≤ 0) := by cases acc with | nil => exact absurd rfl hne | cons a l => show ¬ (l.length + 1 ≤ 0); omega
      simp only [if_neg hbg, if_neg hl0]
      exact zu_bs (z_row g h nm acc hne h8 H' hh (by omega) (by omega)))
    exact rP_ok he hv
  induction j with
  | zero =>
    intro last acc Y s u hj hne hh H sd
    obtain ⟨b1, b2, b3⟩ := rE_b H
    obtain ⟨d1, d2, d3, d4, d5, d6, d7, d8⟩ := id sd
    unfold pAtoms
    by_cases e : bgA (tkK c.1 s.1) = true
    · rw [if_pos e]
      obtain ⟨v, he, hv⟩ := rStep (g := g) (P := fun v => rE c (some (3, s.1)) dp ((25, 0, 0) :: (24, x, ie ((acc.length + 1 : Nat) : Int)) :: K) (acc.reverse ++ h :: V) S Y s v) H (by decide) d1 (by omega) (fun u' H' => by
        refine zu_rw (hA acc Y s u' (by omega) H') (zu_bs ?_)
        simp only [if_pos e, if_pos (show acc.length = 8 by omega)]
        exact zu_bind (z_stop g 3 (by omega) H') (fun w hw => push (some (3, s.1)) acc Y s w (by omega) hw))
      exact rPe_of he hv
    · rw [if_neg e]
      exact row last acc Y s u (by omega) (by rcases hne with h1 | h1; exact h1; exact absurd h1 e) e hh H sd
  | succ j ih =>
    intro last acc Y s u hj hne hh H sd
    obtain ⟨b1, b2, b3⟩ := rE_b H
    obtain ⟨d1, d2, d3, d4, d5, d6, d7, d8⟩ := id sd
    unfold pAtoms
    by_cases e : bgA (tkK c.1 s.1) = true
    · rw [if_pos e]
      obtain ⟨v, he, hv⟩ := rStep (g := g) (P := fun v => rE c none dp ((25, 0, 0) :: (24, x, ie ((acc.length + 1 : Nat) : Int)) :: K) (acc.reverse ++ h :: V) S Y s v) H (by decide) d1 (by omega) (fun u' H' => by
        refine zu_rw (hA acc Y s u' (by omega) H') (zu_bs ?_)
        simp only [if_pos e, if_neg (show ¬ acc.length = 8 by omega)]
        exact push none acc Y s u' (by omega) H')
      have hl : (acc.reverse ++ h :: V).length = acc.length + (V.length + 1) := by rw [List.length_append, List.length_reverse]; rfl
      have i1 := r_atom hC hr hb false hv (rSd_u0 sd (by show K.length ≤ K.length + 1; omega) (by show K.length + 1 + 490 ≤ K.length + 495; omega) (by rw [hl]; omega) d6)
      show rP c g fl dp K V S Y u (pB (pAtom r c.1 (scm c.1 S) false s) fun q => pAtoms r c.1 (scm c.1 S) h nm j q.1 (acc ++ [q.1]) (sTr q.2 (tNx q.2.2.2.2 last q.1)))
      cases hq : pAtom r c.1 (scm c.1 S) false s with
      | error e => rw [hq] at i1; exact rPe_eq he i1
      | ok q =>
        rw [hq] at i1
        obtain ⟨w, Z, hw1, hw2⟩ := i1
        obtain ⟨p1, p2, p3, p4, p5, p6, p7⟩ := b_atom hb (scm c.1 S) false s b3 q hq
        rw [pB_o]
        have ha : (acc ++ [q.1]).reverse ++ h :: V = q.1 :: (acc.reverse ++ h :: V) := by rw [List.reverse_append]; rfl
        have hal : (acc ++ [q.1]).length = acc.length + 1 := by rw [List.length_append]; rfl
        refine rP_eq (rEq_trans he hw1) (ih q.1 (acc ++ [q.1]) (Y ++ Z) (sTr q.2 (tNx q.2.2.2.2 last q.1)) w (by rw [hal]; omega) (Or.inl (by simp)) (by show h < q.2.2.2.2.1; omega) ?_ (rSd_up sd Z (Nat.le_refl _) (Nat.le_refl _) (Nat.le_refl _) (by show q.2.2.2.2.1 ≤ 2 * q.2.1; omega)))
        rw [ha, hal]
        exact hw2
    · rw [if_neg e]
      exact row last acc Y s u (by omega) (by rcases hne with h1 | h1; exact h1; exact absurd h1 e) e hh H sd
