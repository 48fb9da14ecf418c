set_option maxRecDepth 100000
def pmG (sc : Sc) (ps : PM) (lc : Lc) : Prop := lc.1 = ps.length ∧ ps.length ≤ 6 ∧ (∀ x ∈ sc, x.2 < lc.1) ∧ ∀ i x, ps.reverse[i]? = some x → lc.2.1 i = some x.2 ∧ lc.2.2 i = -1 ∧ tyL x.2 ≤ 100
theorem pmG_s {sc : Sc} {ps : PM} {lc : Lc} (h : pmG sc ps lc) (h6 : ps.length < 6) (v : Int64) (a : Nat) (t : Ty) (ht : tyL t ≤ 100) : pmG ((v, lc.1) :: sc) ((a, t) :: ps) (lc.1 + 1, pu_upd (pu_upd lc.2.1 lc.1 none) lc.1 (some t), pu_upd lc.2.2 lc.1 (-1)) := by
  obtain ⟨h1, h2, h3, h4⟩ := h
  refine ⟨by show lc.1 + 1 = ps.length + 1; omega, by show ps.length + 1 ≤ 6; omega, fun x hx => ?_, fun i x hi => ?_⟩
  · show x.2 < lc.1 + 1
    rcases List.mem_cons.mp hx with rfl | hx
    · show lc.1 < lc.1 + 1; omega
    · have := h3 x hx; omega
  · rw [List.reverse_cons] at hi
    by_cases e : i < ps.length
    · rw [List.getElem?_append_left (by rw [List.length_reverse]; exact e)] at hi
      obtain ⟨g1, g2, g3⟩ := h4 i x hi
      exact ⟨(upd_ne _ _ _ _ (by omega)).trans ((upd_ne _ _ _ _ (by omega)).trans g1), (upd_ne _ _ _ _ (by omega)).trans g2, g3⟩
    · have hl := (List.getElem?_eq_some_iff.mp hi).1
      rw [List.length_append, List.length_reverse, List.length_singleton] at hl
      have hi' : i = lc.1 := by omega
      rw [List.getElem?_append_right (by rw [List.length_reverse]; omega), List.length_reverse, show i - ps.length = 0 by omega] at hi
      have hx : x = (a, t) := (Option.some.inj hi).symm
      subst hx; subst hi'
      exact ⟨upd_same _ _ _, upd_same _ _ _, ht⟩
theorem pPar_g {T : List Tok} (j : Nat) : ∀ (sc : Sc) (ps : PM) (s : PS) (q : Sc × PM × PS), ps.length + j = 6 → pmG sc ps s.2.2.1 → pPar T j sc ps s = .ok q → pmG q.1 q.2.1 q.2.2.2.2.1 ∧ s.1 ≤ q.2.2.1 := by
  induction j with
  | zero =>
    intro sc ps s q _ hg h
    by_cases e : tkK T s.1 = 15
    · rw [pPar_eq T 0 sc ps s e, if_pos rfl] at h
      split at h <;> cases h
    · unfold pPar at h; rw [if_neg e] at h; cases h; exact ⟨hg, Nat.le_refl _⟩
  | succ j ih =>
    intro sc ps s q hj hg h
    by_cases e : tkK T s.1 = 15
    · rw [pPar_eq T (j + 1) sc ps s e, if_neg (by omega)] at h
      obtain ⟨q1, h1, h2⟩ := pB_ok h
      obtain ⟨l, hl, h1⟩ := pB_ok h1
      obtain ⟨x, hx, h1⟩ := pB_ok h1
      obtain ⟨t, htt, h1⟩ := pB_ok h1
      obtain ⟨y, hy, hfin⟩ := pB_ok h1
      obtain ⟨rfl, _, _, _⟩ := pDecl_eq hl
      obtain ⟨rfl, _, _⟩ := pX_ok (by omega) hx
      obtain ⟨rfl, _, _⟩ := pX_ok (by omega) hy
      have ht1 := pTy_at 20 _ 0 t htt
      have ht2 := pAt_ty 20 _ 0 t (by omega) htt
      have ht1' : s.1 + 1 + 1 + 1 < t.2.1 := ht1.1
      cases hfin
      obtain ⟨a1, a2⟩ := ih _ _ _ _ (by show ps.length + 1 + j = 6; omega) (pmG_s hg (by omega) (tkV T (s.1 + 1)) (s.1 + 1) t.1 (by omega)) h2
      have a2' : t.2.1 + 1 ≤ q.2.2.1 := a2
      exact ⟨a1, by omega⟩
    · unfold pPar at h; rw [if_neg e] at h; cases h; exact ⟨hg, Nat.le_refl _⟩
def dW (T : List Tok) (t : Tr) (i f0 : Nat) (x : Df) : Prop :=
  (tkK T x.1 = 1 ∧ x.2.2.2.2.1 = f0 ∧ f0 ≤ x.2.2.2.1 ∧ x.2.2.2.1 < t.1 ∧ (t.2.1 x.2.2.2.1).1 ≠ 4) ∧
  (∀ e, f0 ≤ e → e ≤ x.2.2.2.1 → nW T i f0 f0 (x.2.2.2.2.2.2, t) e) ∧
  (∀ e e' a, f0 ≤ e → e ≤ x.2.2.2.1 → f0 ≤ e' → e' ≤ x.2.2.2.1 → a ∈ row (t.2.1 e) → a ∈ row (t.2.1 e') → e = e') ∧
  (∀ e, f0 ≤ e → e ≤ x.2.2.2.1 → (t.2.1 e).1 = 4 → t.2.2.2.2.1 e = true) ∧
  (∀ e, f0 ≤ e → e ≤ x.2.2.2.1 → t.2.2.2.1 e = -1 ∨ ∃ l : Nat, t.2.2.2.1 e = l ∧ l < x.2.2.2.2.2.2.1 ∧ x.2.2.2.2.2.2.2.2 l = e) ∧
  (∀ l, l < x.2.2.2.2.2.2.1 → x.2.2.2.2.2.2.2.2 l = -1 ∨ ∃ e : Nat, x.2.2.2.2.2.2.2.2 l = e ∧ f0 ≤ e ∧ e ≤ x.2.2.2.1 ∧ t.2.2.2.1 e = l) ∧
  (x.2.1.length ≤ 6 ∧ x.2.1.length ≤ x.2.2.2.2.2.2.1 ∧ x.2.2.2.2.2.2.1 ≤ 24 ∧ ∀ k p, x.2.1.reverse[k]? = some p → x.2.2.2.2.2.2.2.1 k = some p.2 ∧ x.2.2.2.2.2.2.2.2 k = -1 ∧ tyL p.2 ≤ 100) ∧
  tyL x.2.2.1 ≤ 100 ∧ (x.2.2.2.2.2.1 = none → ∀ b, Nat.testBit (tyM x.2.2.1) b = true → Nat.testBit (pmM x.2.1) b = true)
def dF (D : List Df) (i : Nat) : Nat := if i = 0 then 0 else match D[i - 1]? with
  | some y => y.2.2.2.1 + 1
  | none => 0
def pW (T : List Tok) (D : List Df) (t : Tr) : Prop := (∀ i x, D[i]? = some x → dW T t i (dF D i) x) ∧ t.1 = dF D D.length ∧ D.length ≤ 30
theorem dW_mono {T : List Tok} {t t' : Tr} {i f0 : Nat} {x : Df} (h : dW T t i f0 x) (hk : ∀ e, e < t.1 → t'.2.1 e = t.2.1 e ∧ t'.2.2.1 e = t.2.2.1 e ∧ t'.2.2.2.1 e = t.2.2.2.1 e ∧ t'.2.2.2.2.1 e = t.2.2.2.2.1 e ∧ t'.2.2.2.2.2 e = t.2.2.2.2.2 e) (hn : t.1 ≤ t'.1) : dW T t' i f0 x := by
  obtain ⟨⟨a1, a2, a3, a4, a5⟩, a6, a7, a8, a9, a10, a11, a12, a13⟩ := h
  refine ⟨⟨a1, a2, a3, by omega, by rw [(hk _ a4).1]; exact a5⟩, fun e e1 e2 => ?_, fun e e' a e1 e2 e3 e4 ha ha' => ?_, fun e e1 e2 => ?_, fun e e1 e2 => ?_, fun l hl => ?_, a11, a12, a13⟩
  · refine nW_mono (a6 e e1 e2) (fun j hj => (hk j (by omega)).1) (fun a ha => ?_) (fun _ => (hk e (by omega)).2.2.2.1) (Nat.le_refl _) (fun _ _ _ => ⟨rfl, rfl⟩) (Nat.le_refl _)
    have := row_ge (a6 e e1 e2) ha
    obtain ⟨_, q2, _, q4, q5⟩ := hk a (by omega)
    exact ⟨q2, q5, q4⟩
  · rw [(hk e (by omega)).1] at ha; rw [(hk e' (by omega)).1] at ha'; exact a7 e e' a e1 e2 e3 e4 ha ha'
  · rw [(hk e (by omega)).1, (hk e (by omega)).2.2.2.1]; exact a8 e e1 e2
  · rw [(hk e (by omega)).2.2.1]; exact a9 e e1 e2
  · rcases a10 l hl with hh | ⟨e, e1, e2, e3, e4⟩
    · exact Or.inl hh
    · exact Or.inr ⟨e, e1, e2, e3, by rw [(hk e (by omega)).2.2.1]; exact e4⟩
theorem w_def {T : List Tok} {D : List Df} {a : Nat} {t : Tr} {q : Df × Nat × Tr} (h : pW T D t) (hq : pDef T D.length a t = .ok q) : pW T (D ++ [q.1]) q.2.2 ∧ 2 * kT q.2.2 + a ≤ 2 * kT t + q.2.1 ∧ a < q.2.1 ∧ q.2.1 ≤ T.length := by
  unfold pDef at hq
  by_cases e1 : tkK T a = 1
  · rw [if_pos e1] at hq
    by_cases e30 : D.length = 30
    · rw [if_pos e30] at hq; cases hq
    · rw [if_neg e30] at hq
      obtain ⟨p, p1, hq⟩ := pB_ok hq
      obtain ⟨x, x1, hq⟩ := pB_ok hq
      obtain ⟨y, y1, hq⟩ := pB_ok hq
      obtain ⟨z, z1, hq⟩ := pB_ok hq
      obtain ⟨r, r1, hq⟩ := pB_ok hq
      obtain ⟨w, w1, hfin⟩ := pB_ok hq
      obtain ⟨hg, hp1⟩ := pPar_g 6 [] [] _ p rfl ⟨rfl, by show 0 ≤ 6; omega, fun x hx => (by cases hx), fun i x hi => (by cases hi)⟩ p1
      have hp1' : a + 1 ≤ p.2.2.1 := hp1
      have ht := pPar_t 6 _ _ _ _ p1
      have ht' : p.2.2.2.2.2 = t := ht
      obtain ⟨rfl, x2, _⟩ := pX_ok (by omega) x1
      obtain ⟨rfl, z2, _⟩ := pX_ok (by omega) z1
      obtain ⟨rfl, w2, _⟩ := pX_ok (by omega) w1
      have y2 := pTy_at 20 _ 0 y y1
      have y3 := pAt_ty 20 _ 0 y (by omega) y1
      have y4 := pTy_in 20 _ 0 y y1
      have y2' : p.2.2.1 + 1 < y.2.1 := y2.1
      have z2' : y.2.1 < T.length := z2
      obtain ⟨g1, g2, g3, g4⟩ := hg
      have n24 : p.2.2.2.2.1.1 ≤ 24 := by omega
      have hsc : scG t.1 (p.2.2.2.2.1, p.2.2.2.2.2) p.1 := fun v hv => by
        have hv1 := g3 v hv
        refine ⟨hv1, Or.inl ?_⟩
        obtain ⟨u, hu⟩ : ∃ u, p.2.1.reverse[v.2]? = some u := ⟨p.2.1.reverse[v.2]'(by rw [List.length_reverse]; omega), List.getElem?_eq_getElem _⟩
        obtain ⟨q1, q2, _⟩ := g4 v.2 u hu
        exact ⟨q2, u.2, q1⟩
      have hsc' : scG t.1 (sAt (sAt (sWr (sAt p.2.2 (p.2.2.1 + 1)) (oE (sAt p.2.2 (p.2.2.1 + 1)).2.1 (badL T (pmM p.2.1) (sAt p.2.2 (p.2.2.1 + 1)).1 (y.2.1 - (sAt p.2.2 (p.2.2.1 + 1)).1)))) y.2.1) ((sAt (sWr (sAt p.2.2 (p.2.2.1 + 1)) (oE (sAt p.2.2 (p.2.2.1 + 1)).2.1 (badL T (pmM p.2.1) (sAt p.2.2 (p.2.2.1 + 1)).1 (y.2.1 - (sAt p.2.2 (p.2.2.1 + 1)).1)))) y.2.1).1 + 1)).2.2 p.1 := hsc
      obtain ⟨v1, k1⟩ := wR_u (w_E D.length (pmM p.2.1) t.1 20) r1 (by show y.2.1 + 1 ≤ T.length; omega) n24 hsc' (by show t.1 ≤ p.2.2.2.2.2.1; rw [ht']; exact Nat.le_refl _)
      obtain ⟨b1, b2, b3, b4, b5, b6, b7⟩ := bR_u (b_E D.length (pmM p.2.1) 20) r1 (by show y.2.1 + 1 ≤ T.length; omega) n24
      obtain ⟨c1, c2⟩ := v_E (T := T) D.length (pmM p.2.1) 20 _ _ _ r1
      have b1' : y.2.1 + 1 < r.2.1 := b1
      have b4' : r.1 + 1 = r.2.2.2.2.1 := b4
      have c2' : 2 * kT r.2.2.2.2 + (y.2.1 + 1) + 0 ≤ 2 * kT p.2.2.2.2.2 + r.2.1 := c2
      rw [ht'] at c2'
      have vW : pu_W T D.length t.1 (p.2.2.2.2.1, p.2.2.2.2.2) r.2.2.2 [r.1] [] := v1.1
      rw [ht'] at vW
      obtain ⟨⟨_, w3, w4⟩, w5, w6, w7, w8, ⟨_, w9⟩, w10, w11, w12⟩ := vW
      have w3' : t.1 ≤ r.2.2.2.2.1 := w3
      have w4' : p.2.2.2.2.1.1 ≤ r.2.2.2.1.1 := w4
      have hr1 := w9 r.1 (List.mem_singleton.mpr rfl)
      have hr1' : t.1 ≤ r.1 := hr1.1
      cases hfin
      obtain ⟨h1, h2, h3⟩ := h
      have hdF : ∀ i, i ≤ D.length → dF (D ++ [((a, p.2.1, y.1, r.1, t.1, r.2.2.1, r.2.2.2.1) : Df)]) i = dF D i := by
        intro i hi
        unfold dF
        by_cases e0 : i = 0
        · rw [if_pos e0, if_pos e0]
        · rw [if_neg e0, if_neg e0, List.getElem?_append_left (by omega)]
      have kp : ∀ e, e < t.1 → r.2.2.2.2.2.1 e = t.2.1 e ∧ r.2.2.2.2.2.2.1 e = t.2.2.1 e ∧ r.2.2.2.2.2.2.2.1 e = t.2.2.2.1 e ∧ r.2.2.2.2.2.2.2.2.1 e = t.2.2.2.2.1 e ∧ r.2.2.2.2.2.2.2.2.2 e = t.2.2.2.2.2 e := fun e he => w5 e he
      show pW T (D ++ [((a, p.2.1, y.1, r.1, t.1, r.2.2.1, r.2.2.2.1) : Df)]) r.2.2.2.2 ∧ _
      refine ⟨⟨fun i xx hi => ?_, ?_, ?_⟩, ?_, ?_, ?_⟩
      · by_cases ei : i < D.length
        · rw [List.getElem?_append_left ei] at hi
          rw [hdF i (by omega)]
          exact dW_mono (h1 i xx hi) kp w3'
        · have hl := (List.getElem?_eq_some_iff.mp hi).1
          rw [List.length_append, List.length_singleton] at hl
          have ei' : i = D.length := by omega
          subst ei'
          rw [List.getElem?_append_right (Nat.le_refl _), Nat.sub_self] at hi
          have hx : xx = (a, p.2.1, y.1, r.1, t.1, r.2.2.1, r.2.2.2.1) := (Option.some.inj hi).symm
          subst hx
          rw [hdF _ (Nat.le_refl _), ← h2]
          refine ⟨⟨e1, rfl, hr1', by show r.1 < r.2.2.2.2.1; omega, k1⟩, fun e e1 e2 => ?_, fun e e' b e1 e2 e3 e4 => ?_, fun e e1 e2 hk => ?_, fun e e1 e2 => ?_, fun l hl => ?_, ⟨g2, by show p.2.1.length ≤ r.2.2.2.1.1; omega, b7, fun k pp hk => ?_⟩, by show tyL y.1 ≤ 100; omega, fun hn b hb => ?_⟩
          · have e2' : e ≤ r.1 := e2
            exact w7 e e1 (by show e < r.2.2.2.2.1; omega)
          · have e2' : e ≤ r.1 := e2
            have e4' : e' ≤ r.1 := e4
            exact w8 e e' b e1 (by show e < r.2.2.2.2.1; omega) e3 (by show e' < r.2.2.2.2.1; omega)
          · have e2' : e ≤ r.1 := e2
            rcases w10 e e1 (by show e < r.2.2.2.2.1; omega) hk with hh | hh
            · rw [List.mem_singleton.mp hh] at hk; exact absurd hk k1
            · exact hh
          · have e2' : e ≤ r.1 := e2
            exact w11 e e1 (by show e < r.2.2.2.2.1; omega)
          · by_cases hlp : l < p.2.2.2.2.1.1
            · obtain ⟨u, hu⟩ : ∃ u, p.2.1.reverse[l]? = some u := ⟨p.2.1.reverse[l]'(by rw [List.length_reverse]; omega), List.getElem?_eq_getElem _⟩
              obtain ⟨_, q2, _⟩ := g4 l u hu
              exact Or.inl ((w6 l hlp).2.trans q2)
            · have hlp' : p.2.2.2.2.1.1 ≤ l := by omega
              rcases w12 l hlp' hl with hh | ⟨e, f1, f2, f3, f4⟩
              · exact Or.inl hh
              · have f3' : e < r.2.2.2.2.1 := f3
                refine Or.inr ⟨e, f1, f2, by show e ≤ r.1; omega, ?_⟩
                rcases f4 with f4 | f4
                · exact f4
                · cases f4
          · have hkl := (List.getElem?_eq_some_iff.mp hk).1
            rw [List.length_reverse] at hkl
            have hkl' : k < p.2.1.length := hkl
            obtain ⟨q1, q2, q3⟩ := g4 k pp hk
            obtain ⟨m1, m2⟩ := w6 k (by show k < p.2.2.2.2.1.1; omega)
            exact ⟨m1.trans q1, m2.trans q2, q3⟩
          · have hn' : r.2.2.1 = none := hn
            have hn2 := c1 hn'
            obtain ⟨_, hbad⟩ := oE_n2 hn2
            obtain ⟨j, j1, j2, j3, j4⟩ := y4 b hb
            have hbad' : badL T (pmM p.2.1) (p.2.2.1 + 1) (y.2.1 - (p.2.2.1 + 1)) = none := hbad
            have j1' : p.2.2.1 + 1 ≤ j := j1
            rw [← j4]
            exact badL_none hbad' j j1' (by omega) j3
      · show r.2.2.2.2.1 = dF _ _
        rw [List.length_append, List.length_singleton]
        unfold dF
        rw [if_neg (by omega), Nat.add_sub_cancel, List.getElem?_append_right (Nat.le_refl _), Nat.sub_self]
        show r.2.2.2.2.1 = r.1 + 1; omega
      · rw [List.length_append, List.length_singleton]; omega
      · show 2 * kT r.2.2.2.2 + a ≤ 2 * kT t + (r.2.1 + 1); omega
      · show a < r.2.1 + 1; omega
      · show r.2.1 + 1 ≤ T.length; exact w2
  · rw [if_neg e1] at hq; cases hq
theorem w_prog {T : List Tok} (f : Nat) : ∀ (D : List Df) (a : Nat) (t : Tr) (q : List Df × Tr), pW T D t → 2 * kT t ≤ a → a ≤ T.length → pProg T f D a t = .ok q → pW T q.1 q.2 ∧ 2 * kT q.2 ≤ T.length := by
  induction f with
  | zero => intro D a t q _ _ _ hq; cases hq
  | succ f ih =>
    intro D a t q hw h1 h2 hq
    rw [pProg] at hq
    by_cases e0 : tkK T a = 0
    · rw [if_pos e0] at hq; cases hq; exact ⟨hw, by show 2 * kT t ≤ _; omega⟩
    · rw [if_neg e0] at hq
      obtain ⟨p, p1, p2⟩ := pB_ok hq
      obtain ⟨w1, w2, w3, w4⟩ := w_def hw p1
      exact ih _ _ _ _ w1 (by omega) w4 p2
theorem w_all {T : List Tok} {q : List Df × Tr} (hq : pProg T 31 [] 0 tr0 = .ok q) : pW T q.1 q.2 ∧ 2 * kT q.2 ≤ T.length :=
  w_prog 31 [] 0 tr0 q ⟨fun i x hi => (by cases hi), rfl, by show 0 ≤ 30; omega⟩ (Nat.le_refl _) (Nat.zero_le _) hq
