set_option maxRecDepth 100000
def pts (x : Nd) : List Nat := (ptS x (fun _ => True)).map Prod.snd
theorem pts_e (x : Nd) (S : Nat → Prop) : (ptS x S).map Prod.snd = pts x := ptS_snd x _ S
theorem chn_mem {R : (Nat → Prop) → Nat → Nat → Prop} {e : Nat} : ∀ {l : List ((Nat → Prop) × Nat)} {lo : Nat}, chn R lo l e → ∀ x ∈ l, ∃ lo', lo ≤ lo' ∧ lo' ≤ x.2 ∧ x.2 < e ∧ R x.1 lo' x.2
  | [], _, _, x, hx => by cases hx
  | y :: l, lo, ⟨h1, h2, h3, h4⟩, x, hx => by
    rcases List.mem_cons.mp hx with rfl | hx
    · exact ⟨lo, Nat.le_refl _, h1, h2, h3⟩
    · obtain ⟨lo', a1, a2, a3, a4⟩ := chn_mem h4 x hx
      exact ⟨lo', by omega, a2, a3, a4⟩
def pIv (f : Nat → Nd) (lo e : Nat) : Prop := (∀ p, lo ≤ p → p ≤ e → ∀ x ∈ pts (f p), lo ≤ x ∧ x < p) ∧ ∀ p p' x, lo ≤ p → p ≤ e → lo ≤ p' → p' ≤ e → x ∈ pts (f p) → x ∈ pts (f p') → p = p'
theorem iv_chn {f : Nat → Nd} {R : (Nat → Prop) → Nat → Nat → Prop} {e : Nat} (hR : ∀ S lo a, a < e → R S lo a → pIv f lo a ∧ lo ≤ a) : ∀ {l : List ((Nat → Prop) × Nat)} {lo : Nat}, chn R lo l e →
    (∀ p, lo ≤ p → p < e → ∀ x ∈ pts (f p), lo ≤ x ∧ x < p ∧ x ∉ l.map Prod.snd) ∧ (∀ p p' x, lo ≤ p → p < e → lo ≤ p' → p' < e → x ∈ pts (f p) → x ∈ pts (f p') → p = p') ∧ ∀ x ∈ l.map Prod.snd, lo ≤ x ∧ x < e
  | [], lo, h => by
    have h' : lo = e := h
    exact ⟨fun p h1 h2 => by omega, fun p p' x h1 h2 => by omega, fun x hx => by cases hx⟩
  | y :: l, lo, ⟨h1, h2, h3, h4⟩ => by
    obtain ⟨⟨i1, i2⟩, i3⟩ := hR _ _ _ h2 h3
    obtain ⟨j1, j2, j3⟩ := iv_chn hR h4
    refine ⟨fun p p1 p2 x hx => ?_, fun p p' x p1 p2 p3 p4 hx hx' => ?_, fun x hx => ?_⟩
    · by_cases hp : p ≤ y.2
      · have a := i1 p p1 hp x hx
        refine ⟨a.1, a.2, fun hm => ?_⟩
        rcases List.mem_cons.mp hm with rfl | hm
        · omega
        · have := j3 x hm; omega
      · have a := j1 p (by omega) p2 x hx
        refine ⟨by omega, a.2.1, fun hm => ?_⟩
        rcases List.mem_cons.mp hm with rfl | hm
        · omega
        · exact a.2.2 hm
    · by_cases hp : p ≤ y.2
      · have a := i1 p p1 hp x hx
        by_cases hp' : p' ≤ y.2
        · exact i2 p p' x p1 hp p3 hp' hx hx'
        · have b := j1 p' (by omega) p4 x hx'; omega
      · have a := j1 p (by omega) p2 x hx
        by_cases hp' : p' ≤ y.2
        · have b := i1 p' p3 hp' x hx'; omega
        · exact j2 p p' x (by omega) p2 (by omega) p4 hx hx'
    · rcases List.mem_cons.mp hx with rfl | hx
      · exact ⟨h1, h2⟩
      · have := j3 x hx; omega
theorem iv_sC {T : List Tok} {f : Nat → Nd} : ∀ (e : Nat) (S : Nat → Prop) (lo : Nat), sC T f S lo e → pIv f lo e := by
  intro e
  induction e using Nat.strongRecOn with
  | ind e ih =>
    intro S lo h
    have hl := (sC_out h).2.2
    obtain ⟨a1, a2, a3⟩ := iv_chn (f := f) (fun S lo a ha hh => ⟨ih a ha S lo hh, sC_lo hh⟩) hl
    rw [pts_e] at a1 a3
    refine ⟨fun p p1 p2 x hx => ?_, fun p p' x p1 p2 p3 p4 hx hx' => ?_⟩
    · by_cases hp : p = e
      · rw [hp] at hx ⊢; exact a3 x hx
      · have := a1 p p1 (by omega) x hx; exact ⟨this.1, this.2.1⟩
    · by_cases hp : p = e
      · by_cases hp' : p' = e
        · omega
        · rw [hp] at hx; exact absurd hx (a1 p' p3 (by omega) x hx').2.2
      · by_cases hp' : p' = e
        · rw [hp'] at hx'; exact absurd hx' (a1 p p1 (by omega) x hx).2.2
        · exact a2 p p' x p1 (by omega) p3 (by omega) hx hx'
def gX (T : List Tok) (D : List Df) (t : Tr) (c : CS) : Prop := pW T D t ∧ pS T D t ∧ ltI D ∧ kI0 D t t.1 c ∧ cOK T D t D.length t.1 c ∧ (∀ (e : Nat) (s : Ty), c.1 e = some s → tyG s) ∧ (∀ (d : Nat) (x : Df), D[d]? = some x → tyG x.2.2.1 ∧ ∀ p ∈ x.2.1, tyG p.2)
def nS (T : List Tok) (D : List Df) (t : Tr) (d : Nat) (S : Nat → Prop) (e : Nat) : Prop := ∃ x : Df, D[d]? = some x ∧ ∃ lo, sC T t.2.1 S lo e ∧ dF D d ≤ lo ∧ e ≤ x.2.2.2.1
theorem nS_lt {T : List Tok} {D : List Df} {t : Tr} {c : CS} (G : gX T D t c) {d : Nat} {S : Nat → Prop} {e : Nat} (h : nS T D t d S e) : dF D d ≤ e ∧ e ≤ dRt D d ∧ e < t.1 ∧ d < D.length := by
  obtain ⟨x, hx, lo, h1, h2, h3⟩ := h
  have hd := (List.getElem?_eq_some_iff.mp hx).1
  have := sC_lo h1
  have := (G.1.1 d x hx).1.2.2.2.1
  refine ⟨by omega, ?_, by omega, hd⟩
  unfold dRt; rw [hx]; exact h3
theorem nS_kid {T : List Tok} {D : List Df} {t : Tr} {d : Nat} {S : Nat → Prop} {e : Nat} (h : nS T D t d S e) {S' : Nat → Prop} {a : Nat} (ha : (S', a) ∈ ptS (t.2.1 e) S) : nS T D t d S' a := by
  obtain ⟨x, hx, lo, h1, h2, h3⟩ := h
  obtain ⟨lo', a1, a2, a3, a4⟩ := chn_mem (sC_out h1).2.2 _ ha
  exact ⟨x, hx, lo', a4, by omega, by (have a3' : a < e := a3); omega⟩
theorem nS_W {T : List Tok} {D : List Df} {t : Tr} {c : CS} (G : gX T D t c) {d : Nat} {S : Nat → Prop} {e : Nat} (h : nS T D t d S e) : ∃ x, D[d]? = some x ∧ nW T d (dF D d) (dF D d) (x.2.2.2.2.2.2, t) e ∧ tOK T D t x.2.2.2.2.2.2 c e ∧ dF D d ≤ e ∧ e ≤ x.2.2.2.1 ∧ e < t.1 := by
  obtain ⟨h1, _, h3, _⟩ := nS_lt G h
  obtain ⟨x, hx, lo, k1, k2, k3⟩ := h
  exact ⟨x, hx, (G.1.1 d x hx).2.1 e h1 k3, G.2.2.2.2.1.1 d x hx e h1 k3 h3, h1, k3, h3⟩
theorem nS_2 {T : List Tok} {D : List Df} {t : Tr} {d : Nat} {S : Nat → Prop} {e : Nat} (h : nS T D t d S e) (h2 : (t.2.1 e).1 = 2) : S (t.2.1 e).2.2.1.toNat := by
  obtain ⟨x, hx, lo, h1, _⟩ := h
  exact (sC_out h1).1 h2
theorem nS_root {T : List Tok} {D : List Df} {t : Tr} {c : CS} (G : gX T D t c) {d : Nat} {x : Df} (hx : D[d]? = some x) : nS T D t d (fun l => l < x.2.1.length) (dRt D d) := by
  have h1 := (G.2.1 d x hx).2
  have h2 := (G.1.1 d x hx).1.2.1
  refine ⟨x, hx, x.2.2.2.2.1, ?_, by omega, ?_⟩
  · unfold dRt; rw [hx]; exact h1
  · unfold dRt; rw [hx]; exact Nat.le_refl _
theorem has_ty {T : List Tok} {D : List Df} {t : Tr} {c : CS} (G : gX T D t c) {d : Nat} {S : Nat → Prop} {e : Nat} (h : nS T D t d S e) (h4 : (t.2.1 e).1 ≠ 4) : ∃ s, c.1 e = some s := by
  obtain ⟨x, hx, _, ⟨b1, b2, b3⟩, _⟩ := nS_W G h
  by_cases e3 : (t.2.1 e).1 = 3
  · obtain ⟨d', _, _, _, c4, c5⟩ := b1 (Or.inl e3)
    by_cases e0 : (dPs D d').length = 0
    · exact ⟨_, c4 e0⟩
    · exact absurd (c5 e0).1 h4
  · by_cases e16 : (t.2.1 e).1 = 16
    · obtain ⟨r, r1, _⟩ := b3 e16; exact ⟨r, r1⟩
    · obtain ⟨_, s, _, s2, _⟩ := b2 (fun hh => hh.elim e3 h4) e16; exact ⟨s, s2⟩
theorem pts_row {x : Nd} (h : x.1 = 16) : pts x = x.2.2.1.toNat :: x.2.2.2.2.2.2 := by
  unfold pts ptS
  rw [if_neg (by omega), if_neg (by omega), if_neg (by omega), if_neg (by omega), if_neg (by omega), if_pos h, row_c h, List.map_map]
  show List.map (fun a => a) _ = _
  rw [List.map_id']
theorem sh_only {T : List Tok} {D : List Df} {t : Tr} {c : CS} (G : gX T D t c) {d : Nat} {S : Nat → Prop} {e : Nat} (h : nS T D t d S e) {a : Nat} (ha : a ∈ pts (t.2.1 e)) (hs : c.2.2.2 a = true) : (t.2.1 e).1 = 16 ∧ ∃ (d' i : Nat) (p : Ty), c.2.1 e = some d' ∧ (dPs D d')[i]? = some p ∧ (t.2.1 e).2.2.2.2.2.2[i]? = some a ∧ isL p = true ∧ aLt D t c a = true := by
  obtain ⟨e', d', i, p, k1, k2, k3, k4, k5, k6, k7, k8⟩ := G.2.2.2.2.1.2.2.1 a hs
  obtain ⟨g1, g2, g3, g4⟩ := nS_lt G h
  obtain ⟨x, hx, _⟩ := id h
  obtain ⟨y, hy, lo, y1, y2, y3⟩ := nS_root G hx
  have hyx : y = x := by rw [hx] at hy; cases hy; rfl
  subst hyx
  have hlo := (G.1.1 d y hx).1.2.1
  have hrt : dRt D d = y.2.2.2.1 := by unfold dRt; rw [hx]
  have iv : pIv t.2.1 (dF D d) (dRt D d) := by
    have := iv_sC _ _ _ (G.2.1 d y hx).2
    rw [hlo, ← hrt] at this; exact this
  have a1 := iv.1 e g1 g2 a ha
  have hat : a ∈ pts (t.2.1 e') := by
    rw [pts_row k2]; exact List.mem_cons_of_mem _ (List.mem_of_getElem? k5)
  obtain ⟨i', x', l1, l2, l3, l4⟩ := in_def G.1 D.length (Nat.le_refl _) e' (by rw [← G.1.2.1]; exact k1)
  have iv' : pIv t.2.1 (dF D i') (dRt D i') := by
    have := iv_sC _ _ _ (G.2.1 i' x' l2).2
    rw [(G.1.1 i' x' l2).1.2.1] at this
    have hh : dRt D i' = x'.2.2.2.1 := by unfold dRt; rw [l2]
    rw [hh]; exact this
  have hr' : dRt D i' = x'.2.2.2.1 := by unfold dRt; rw [l2]
  have a2 := iv'.1 e' l3 (by omega) a hat
  have hd : i' = d := by
    rcases Nat.lt_trichotomy i' d with hlt | heq | hgt
    · have := dF_le G.1 d (by omega) i' x' hlt l2; omega
    · exact heq
    · have := dF_le G.1 i' (by omega) d y hgt hx; omega
  subst hd
  have he : e = e' := iv.2 e e' a g1 g2 l3 (by omega) ha hat
  subst he
  exact ⟨k2, d', i, p, k3, k4, k5, k6, k7⟩
theorem rt_nsh {T : List Tok} {D : List Df} {t : Tr} {c : CS} (G : gX T D t c) {d : Nat} {x : Df} (hx : D[d]? = some x) : c.2.2.2 (dRt D d) = false := by
  cases hs : c.2.2.2 (dRt D d) with
  | false => rfl
  | true =>
    exfalso
    obtain ⟨e', d', i, p, k1, k2, k3, k4, k5, k6, k7, k8⟩ := G.2.2.2.2.1.2.2.1 _ hs
    obtain ⟨i', x', l1, l2, l3, l4⟩ := in_def G.1 D.length (Nat.le_refl _) e' (by rw [← G.1.2.1]; exact k1)
    have hr' : dRt D d = x.2.2.2.1 := by unfold dRt; rw [hx]
    have w := (G.1.1 i' x' l2).2.1 e' l3 l4
    have hat := (w.2.2.2.2.2.2.2.2.2.2 k2).2.2.1 (dRt D d) (by rw [row_c k2]; exact List.mem_cons_of_mem _ (List.mem_of_getElem? k5))
    have h0 := (dF_mono G.1 hx)
    rcases Nat.lt_trichotomy i' d with hlt | heq | hgt
    · have := dF_le G.1 d (by (have := (List.getElem?_eq_some_iff.mp hx).1); omega) i' x' hlt l2; omega
    · subst heq; rw [hx] at l2; cases l2; omega
    · have := dF_le G.1 i' (by omega) d x hgt hx; omega
