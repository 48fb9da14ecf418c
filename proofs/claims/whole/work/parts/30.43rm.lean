set_option maxRecDepth 100000
theorem tyR_M {u : pm_J} {Y : List Ty} (h : tyR u Y) (i : Nat) : ∀ T, Y[i]? = some T → tyM T < 16 := by
  induction i using Nat.strongRecOn with
  | ind i ih =>
    intro T hT
    have hr := (h.2.2.1 i T hT).2.2.2
    cases T with
    | num k =>
      have hk : k < 6 := hr.2
      have : ∀ k, k < 6 → tyM (.num k) < 16 := by decide
      exact this k hk
    | var k => exact absurd hr (fun x => x)
    | add A B =>
      obtain ⟨l, r, l1, r1, l2, r2, _⟩ := hr
      exact or_lt16 _ (ih l l1 A l2) _ (ih r r1 B r2)
    | mul A B =>
      obtain ⟨l, r, l1, r1, l2, r2, _⟩ := hr
      exact or_lt16 _ (ih l l1 A l2) _ (ih r r1 B r2)
theorem sh16 : ∀ m, m < 16 → ∀ l, l < 4 → (((ie ((m : Nat) : Int) >>> (ie ((l : Nat) : Int) &&& 31)) &&& 1) = 0 ↔ Nat.testBit m l = false) := by decide +kernel
theorem pmM_app (A B : PM) : pmM (A ++ B) = pmM B ||| pmM A := by
  induction A with
  | nil => show pmM B = pmM B ||| 0; rw [Nat.or_zero]
  | cons x A ih => show pmM (A ++ B) ||| tyM x.2 = pmM B ||| (pmM A ||| tyM x.2); rw [ih, Nat.or_assoc]
theorem r_lop {c : RC} {st : Option (Nat × Nat)} {dp : Nat} {K : List (Int32 × Int32 × Int32)} {V : List Nat} {S : List (Nat × Nat)} {Y : List Ty} {s : PS} {u : pm_J} (g : pm_s) (ps : rPl) (H : rE c st dp K V S Y s u) (hP : rPm c ps Y) : (∀ N, 200000 ≤ N → F_Md_lettersOfParameters N g u = some (ie (pmM ps : Nat))) ∧ pmM ps < 16 := by
  have hF := H.2.2.2.2.2.2.2.2
  have hd := H.1.2.2.2.2.2.2.2
  have hY := H.2.2.2.2.1.1
  have e92 : u.1 92 c.2.2.1 = ie (ps.length : Nat) := ((hF 92 _ (rSE_no (by unfold rSEp; omega))).1).trans hP.1
  have lp : ∀ (r i f N : Nat), i + r = ps.length → r < f → K_Md_lettersOfParameters_4 N g u f (ie (pmM (ps.drop r) : Nat)) (ie (i : Nat)) = some (ie (pmM ps : Nat)) := by
    intro r
    induction r with
    | zero =>
      intro i f N hi hf
      obtain ⟨f, rfl⟩ : ∃ f', f = f' + 1 := ⟨f - 1, by omega⟩
      rw [K_Md_lettersOfParameters_4, hd.1, if_pos (okn _ 30 hd.2 (by omega)), ntn _ (by omega), e92, if_pos ((inle _ _ (by have := hP.2.1; omega) (by have := hP.2.1; omega)).mpr (by omega))]
      rfl
    | succ r ih =>
      intro i f N hi hf
      have h6 := hP.2.1
      obtain ⟨f, rfl⟩ : ∃ f', f = f' + 1 := ⟨f - 1, by omega⟩
      obtain ⟨x, hx⟩ : ∃ x, ps[r]? = some x := ⟨ps[r]'(by omega), List.getElem?_eq_getElem _⟩
      have hx' : ps.reverse[i]? = some x := by rw [List.getElem?_reverse (by omega), show ps.length - 1 - i = r by omega]; exact hx
      obtain ⟨k, k1, k2⟩ := hP.2.2 i x hx'
      have hk := (List.getElem?_eq_some_iff.mp k2).1
      have e99 : u.1 99 (6 * c.2.2.1 + i) = ie (k : Nat) := ((hF 99 _ (rSE_no (by unfold rSEp; omega))).1).trans k1
      have e73 := (hY.2.2.1 k x.2 k2).2.2.1
      have a1 : 6 * ie (c.2.2.1 : Nat) + ie (i : Nat) = ie ((6 * c.2.2.1 + i : Nat) : Int) := by rw [show (6 : Int32) = ie 6 from rfl, ie_mul, ie_add]; rfl
      have hdrop : ps.drop r = x :: ps.drop (r + 1) := by
        rw [List.drop_eq_getElem_cons (by omega)]
        congr 1
        exact (List.getElem?_eq_some_iff.mp hx).2
      rw [K_Md_lettersOfParameters_4, hd.1, if_pos (okn _ 30 hd.2 (by omega)), ntn _ (by omega), e92, if_neg (fun hh => by have := (inle _ _ (by omega) (by omega)).mp hh; omega), a1, if_pos (okn _ 180 (by omega) (by omega)), ntn _ (by omega), e99, if_pos (okn _ 100000 (by have := hY.2.1.2; omega) (by omega)), ntn _ (by have := hY.2.1.2; omega), e73, ie_or, iadd1]
      have := ih (i + 1) f N (by omega) (by omega)
      rw [hdrop] at this
      exact this
  refine ⟨fun N hN => ?_, ?_⟩
  · unfold F_Md_lettersOfParameters
    have h6 := hP.2.1
    have := lp ps.length 0 N N (by omega) (by omega)
    rw [List.drop_length] at this
    exact this
  · refine pmM_lt ps (fun x hx => ?_)
    obtain ⟨i, hi⟩ := List.getElem?_of_mem (List.mem_reverse.mpr hx)
    obtain ⟨k, k1, k2⟩ := hP.2.2 i x hi
    exact tyR_M hY k x.2 k2
theorem badL_rg {T : List Tok} {m a k x : Nat} (h : badL T m a k = some x) : a ≤ x ∧ x < a + k := by
  induction k with
  | zero => cases h
  | succ k ih =>
    unfold badL at h
    cases hb : badL T m a k with
    | some y => rw [hb] at h; cases h; have := ih hb; omega
    | none =>
      rw [hb] at h
      by_cases e : tkK T (a + k) = 4 ∧ Nat.testBit m (tkV T (a + k)).toInt.toNat = false
      · have h' : (if tkK T (a + k) = 4 ∧ Nat.testBit m (tkV T (a + k)).toInt.toNat = false then some (a + k) else none) = some x := h
        rw [if_pos e] at h'; cases h'; omega
      · have h' : (if tkK T (a + k) = 4 ∧ Nat.testBit m (tkV T (a + k)).toInt.toNat = false then some (a + k) else none) = some x := h
        rw [if_neg e] at h'; cases h'
theorem z_wrong {c : RC} {st : Option (Nat × Nat)} {dp : Nat} {K : List (Int32 × Int32 × Int32)} {V : List Nat} {S : List (Nat × Nat)} {Y : List Ty} {s : PS} {u : pm_J} (g : pm_s) (H : rE c st dp K V S Y s u) (x : Nat) (hx : x < s.1) (hw : ∀ y, s.2.1 = some y → y ≤ x) : zu (fun _ => F_Md_wrong (ie x) g u) (fun v => rE c st dp K V S Y (sWr s (oE s.2.1 (some x))) v) := by
  have hd := H.1.2.2.2.2.2.2.2
  obtain ⟨b1, b2, b3⟩ := rE_b H
  have h97 := H.2.2.2.2.2.1.1
  unfold F_Md_wrong
  rw [hd.1]
  simp only [if_pos (okn _ 30 hd.2 (by omega)), ntn c.2.2.1 (by omega)]
  cases h : s.2.1 with
  | none =>
    rw [h] at h97
    rw [h97]
    simp only [if_pos (show ie (-1) < 0 by decide)]
    refine zu_some _ ?_
    exact rE_l (l := s.2.2.1) (w := some x) H (fun y i h1 h2 h3 => wi_ne _ _ _ _ _ _ (by omega)) rfl ⟨wi_at _ _ _ _, fun y hy => by cases hy; exact hx⟩ (rLo_of H.2.2.2.2.2.2.1 (wi_ne _ _ _ _ _ _ (by omega)) (fun i hi => wi_ne _ _ _ _ _ _ (by omega)))
  | some y =>
    rw [h] at h97
    have hyx := hw y h
    have h97' : u.1 97 c.2.2.1 = ie (y : Nat) := h97
    rw [h97']
    simp only [if_neg (nlt0 y (by omega)), if_pos ((inle y x (by omega) (by omega)).mpr hyx)]
    refine zu_some _ ?_
    have hs : sWr s (oE (some y) (some x)) = s := by
      show (s.1, some y, s.2.2) = s
      rw [← h]
    rw [hs]; exact H
theorem z_letters {c : RC} {dp : Nat} {K : List (Int32 × Int32 × Int32)} {V : List Nat} {S : List (Nat × Nat)} {Y : List Ty} {s : PS} {u : pm_J} (g : pm_s) (ps : rPl) (hG : tkG c.1) (H : rE c none dp K V S Y s u) (hP : rPm c ps Y) (a : Nat) (ha : a ≤ s.1) (hw : ∀ y, s.2.1 = some y → y < a) : zu (fun N => F_Md_checkLetters N (ie a) g u) (fun v => rE c none dp K V S Y (sWr s (oE s.2.1 (badL c.1 (pmM ps) a (s.1 - a)))) v) := by
  obtain ⟨hm, hm16⟩ := r_lop g ps H hP
  obtain ⟨b1, b2, b3⟩ := rE_b H
  have lp : ∀ (r k : Nat) (w : pm_J), k + r = s.1 - a → rE c none dp K V S Y (sWr s (oE s.2.1 (badL c.1 (pmM ps) a k))) w → ∃ w', rE c none dp K V S Y (sWr s (oE s.2.1 (badL c.1 (pmM ps) a (s.1 - a)))) w' ∧ ∀ N f, 200000 ≤ N → r < f → K_Md_checkLetters_7 N g f (ie (pmM ps : Nat)) (ie ((a + k : Nat) : Int)) w = some w' := by
    intro r
    induction r with
    | zero =>
      intro k w hk Hw
      have hk' : k = s.1 - a := by omega
      refine ⟨w, by rw [← hk']; exact Hw, fun N f hN hf => ?_⟩
      obtain ⟨f, rfl⟩ : ∃ f', f = f' + 1 := ⟨f - 1, by omega⟩
      have h51 : w.1 64 51 = ie (s.1 : Nat) := Hw.1.2.2.1
      rw [K_Md_checkLetters_7, h51, if_pos ((inle _ _ (by omega) (by omega)).mpr (by omega))]
    | succ r ih =>
      intro k w hk Hw
      have h51 : w.1 64 51 = ie (s.1 : Nat) := Hw.1.2.2.1
      have k4 : (w.1 66 (a + k) = 14) ↔ tkK c.1 (a + k) = 4 := r_kq hG Hw.1.2.1 (a + k) (by omega) 4 (by omega)
      have hst : ∀ N f, 200000 ≤ N → K_Md_checkLetters_7 N g (f + 1) (ie (pmM ps : Nat)) (ie ((a + k : Nat) : Int)) w = (if tkK c.1 (a + k) = 4 then (if ((ie (pmM ps : Nat) >>> (((w.2 69 (a + k)).toInt32) &&& 31)) &&& 1) = 0 then (F_Md_wrong (ie ((a + k : Nat) : Int)) g w).bind fun q7 => K_Md_checkLetters_7 N g f (ie (pmM ps : Nat)) (ie ((a + k + 1 : Nat) : Int)) q7 else K_Md_checkLetters_7 N g f (ie (pmM ps : Nat)) (ie ((a + k + 1 : Nat) : Int)) w) else K_Md_checkLetters_7 N g f (ie (pmM ps : Nat)) (ie ((a + k + 1 : Nat) : Int)) w) := by
        intro N f hN
        rw [K_Md_checkLetters_7, h51, if_neg (fun hh => by have := (inle _ _ (by omega) (by omega)).mp hh; omega), if_pos (okn _ 902 (by omega) (by omega)), ntn _ (by omega), if_pos (okn _ 902 (by omega) (by omega)), iadd1]
        simp only [k4]
      have hbs : badL c.1 (pmM ps) a (k + 1) = match badL c.1 (pmM ps) a k with
          | some x => some x
          | none => if tkK c.1 (a + k) = 4 ∧ Nat.testBit (pmM ps) (tkV c.1 (a + k)).toInt.toNat = false then some (a + k) else none := rfl
      by_cases e4 : tkK c.1 (a + k) = 4
      · obtain ⟨l, l4, hv⟩ := hG.2 (a + k) e4
        obtain ⟨t, ht⟩ : ∃ t, c.1[a + k]? = some t := ⟨c.1[a + k]'(by omega), List.getElem?_eq_getElem _⟩
        have hv' : t.2.2.2 = je l := by unfold tkV at hv; rw [ht] at hv; exact hv
        have hk' : t.1 = 4 := by unfold tkK at e4; rw [ht] at e4; exact e4
        have e69 : w.2 69 (a + k) = je l := by
          rw [(Hw.1.2.1.1.2.2 (a + k) t ht).2.2.2, hk', hv']; rfl
        have hbit : ((ie (pmM ps : Nat) >>> (((w.2 69 (a + k)).toInt32) &&& 31)) &&& 1) = 0 ↔ Nat.testBit (pmM ps) l = false := by
          rw [e69, je_ie _ (by omega) (by omega)]; exact sh16 _ hm16 l l4
        rw [hv, je_nat l l4] at hbs
        by_cases eb : Nat.testBit (pmM ps) l = false
        · have hwr := z_wrong g Hw (a + k) (by show a + k < s.1; omega) (fun y hy => by
            have hy' : oE s.2.1 (badL c.1 (pmM ps) a k) = some y := hy
            cases hs : s.2.1 with
            | some z => rw [hs] at hy'; have := hw z hs; cases hy'; omega
            | none => rw [hs] at hy'; have := badL_rg (show badL c.1 (pmM ps) a k = some y from hy'); omega)
          obtain ⟨q, hq1, hq2⟩ := hwr
          have heq : oE s.2.1 (badL c.1 (pmM ps) a (k + 1)) = oE (oE s.2.1 (badL c.1 (pmM ps) a k)) (some (a + k)) := by
            rw [hbs]
            cases s.2.1 with
            | some z => rfl
            | none =>
              cases badL c.1 (pmM ps) a k with
              | some z => rfl
              | none => show (if tkK c.1 (a + k) = 4 ∧ _ then _ else _) = _; rw [if_pos ⟨e4, eb⟩]; rfl
          have hq2' : rE c none dp K V S Y (sWr s (oE s.2.1 (badL c.1 (pmM ps) a (k + 1)))) q := by rw [heq]; exact hq2
          obtain ⟨w', w1, w2⟩ := ih (k + 1) q (by omega) hq2'
          refine ⟨w', w1, fun N f hN hf => ?_⟩
          obtain ⟨f, rfl⟩ : ∃ f', f = f' + 1 := ⟨f - 1, by omega⟩
          have hq1' : F_Md_wrong (ie ((a + k : Nat) : Int)) g w = some q := hq1 N hN
          rw [hst N f hN, if_pos e4, if_pos (hbit.mpr eb), hq1', Option.bind_some]
          exact w2 N f hN (by omega)
        · have heq : oE s.2.1 (badL c.1 (pmM ps) a (k + 1)) = oE s.2.1 (badL c.1 (pmM ps) a k) := by
            rw [hbs]
            cases badL c.1 (pmM ps) a k with
            | some z => rfl
            | none => show oE _ (if tkK c.1 (a + k) = 4 ∧ _ then _ else _) = _; rw [if_neg (fun hh => eb hh.2)]
          obtain ⟨w', w1, w2⟩ := ih (k + 1) w (by omega) (by rw [heq]; exact Hw)
          refine ⟨w', w1, fun N f hN hf => ?_⟩
          obtain ⟨f, rfl⟩ : ∃ f', f = f' + 1 := ⟨f - 1, by omega⟩
          rw [hst N f hN, if_pos e4, if_neg (fun hh => eb (hbit.mp hh))]
          exact w2 N f hN (by omega)
      · have heq : oE s.2.1 (badL c.1 (pmM ps) a (k + 1)) = oE s.2.1 (badL c.1 (pmM ps) a k) := by
          rw [hbs]
          cases badL c.1 (pmM ps) a k with
          | some z => rfl
          | none => show oE _ (if tkK c.1 (a + k) = 4 ∧ _ then _ else _) = _; rw [if_neg (fun hh => e4 hh.1)]
        obtain ⟨w', w1, w2⟩ := ih (k + 1) w (by omega) (by rw [heq]; exact Hw)
        refine ⟨w', w1, fun N f hN hf => ?_⟩
        obtain ⟨f, rfl⟩ : ∃ f', f = f' + 1 := ⟨f - 1, by omega⟩
        rw [hst N f hN, if_neg e4]
        exact w2 N f hN (by omega)
  have h0 : rE c none dp K V S Y (sWr s (oE s.2.1 (badL c.1 (pmM ps) a 0))) u := by
    have : oE s.2.1 (badL c.1 (pmM ps) a 0) = s.2.1 := oE_none _
    rw [this]; exact H
  obtain ⟨w', w1, w2⟩ := lp (s.1 - a) 0 u (by omega) h0
  refine zu_eq w' (fun N hN => ?_) w1
  unfold F_Md_checkLetters
  rw [hm N hN, Option.bind_some]
  exact w2 N N hN (by omega)
