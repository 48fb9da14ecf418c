set_option maxRecDepth 100000
theorem wR_u {T : List Tok} {d f0 : Nat} {r : PR} (hr : wR T d f0 r) {sc : Sc} {s : PS} {q : Nat × PS} (hq : r sc s = .ok q) (hs : s.1 ≤ T.length) (h24 : s.2.2.1.1 ≤ 24) (hsc : scG f0 s.2.2 sc) (hf : f0 ≤ s.2.2.2.1) : wO T d f0 s q ∧ (q.2.2.2.2.2.1 q.1).1 ≠ 4 := hr sc s q hs h24 hsc hf hq
theorem w_one {T : List Tok} {d f0 : Nat} {s : PS} {q : Nat × PS} (hq : wO T d f0 s q) (kq : (q.2.2.2.2.2.1 q.1).1 ≠ 4) (k tk : Nat) (hk : k = 14 ∨ k = 15) (ht : tk < T.length) : pu_W T d f0 s.2.2 (q.2.2.2.1, tAdd q.2.2.2.2 (k, tk, q.1, -1, -1, 0, [])) [q.2.2.2.2.1] [] := by
  have hc := wO_c hq kq (W_refl (T := T) (d := d) (f0 := f0) (s := q.2.2.2) (by have := hq.1.1; omega))
  exact W_add (P1 := []) (C := [q.1]) hq.1 (k, tk, q.1, -1, -1, 0, []) (fun a ha hh => by rw [List.mem_singleton.mp ha] at hh; exact absurd hh kq) (nW_new ht ⟨by show k < 16; omega, by show k ≠ 5; omega, by show k ≠ 6; omega⟩ (fun hh => by have : k = 2 := hh; omega) (fun hh => by have : k = 3 ∨ k = 4 := hh; omega) (fun hh => by have : k = 7 := hh; omega) (fun hh => by have : k = 9 := hh; omega) (fun _ _ => hc) (fun hh => by have : k = 7 ∨ k = 8 ∨ 10 ≤ k ∧ k ≤ 13 := hh; omega) (fun hh => by have : k = 8 := hh; omega)) (row0 (by show k ≠ 16; omega))
theorem wf0 {T : List Tok} {d f0 : Nat} {s : PS} {q : Nat × PS} (hq : wO T d f0 s q) : f0 ≤ q.2.2.2.2.1 := by
  have := hq.1.1; have h2 : s.2.2.2.1 ≤ q.2.2.2.2.1 := this.2.1; have h3 : f0 ≤ s.2.2.2.1 := this.1; omega
theorem w_call {T : List Tok} {d f0 : Nat} {r : PR} (hb : bR T r) (hr : wR T d f0 r) : wR T d f0 (fun sc s => pCall r T sc s) := by
  intro sc s q hs h24 hsc hf hq
  have hq : pCall r T sc s = .ok q := hq
  unfold pCall at hq
  by_cases e : tkK T s.1 = 13 ∨ tkK T s.1 = 14
  · rw [if_pos e] at hq
    have hlt := tkK_lt (show tkK T s.1 ≠ 0 by omega)
    obtain ⟨p, p1, p2⟩ := pB_ok hq
    obtain ⟨w1, w2, w3⟩ := w_atom hb hr sc false (sAt s (s.1 + 1)) p (by show s.1 + 1 ≤ _; omega) h24 hsc hf p1
    have kp : (p.2.2.2.2.2.1 p.1).1 ≠ 4 := by
      by_cases e1 : tkK T (sAt s (s.1 + 1)).1 = 1
      · obtain ⟨_, hh⟩ := w2 e1
        rcases hh with hh | hh
        · rw [hh]; omega
        · rw [if_neg (by rintro ⟨h1, _⟩; cases h1)] at hh; rw [hh]; omega
      · exact w3 e1
    have w1' : wO T d f0 s p := w1
    cases p2
    refine ⟨⟨w_one w1' kp (tkK T s.1 + 1) s.1 (by omega) hlt, rf_add _ _, rfl⟩, ?_⟩
    show ((tAdd p.2.2.2.2 _).2.1 p.2.2.2.2.1).1 ≠ 4
    rw [(tAdd_at p.2.2.2.2 _).1]; show tkK T s.1 + 1 ≠ 4; omega
  · rw [if_neg e] at hq
    obtain ⟨p, p1, p2⟩ := pB_ok hq
    obtain ⟨w1, w2, w3⟩ := w_atom hb hr sc true s p hs h24 hsc hf p1
    obtain ⟨b1, b2, b3, b4, b5, b6, b7⟩ := b_atom hb sc true s h24 p p1
    by_cases hbg : bgA (tkK T p.2.1) = true
    · rw [if_pos hbg] at p2
      have n1 : (tkK T s.1 == 1) = true → (p.2.2.2.2.2.1 p.1).1 = 2 ∨ (p.2.2.2.2.2.1 p.1).1 = 4 := fun hn => by
        have e1 : tkK T s.1 = 1 := by rw [beq_iff_eq] at hn; exact hn
        obtain ⟨h1, h2⟩ := w2 e1
        rcases h2 with h2 | h2
        · exact Or.inl h2
        · rw [h1] at hbg; rw [if_pos ⟨rfl, hbg⟩] at h2; exact Or.inr h2
      have n2 : (tkK T s.1 == 1) = false → (p.2.2.2.2.2.1 p.1).1 ≠ 4 := fun hn => by
        have e1 : tkK T s.1 ≠ 1 := fun hh => by rw [hh] at hn; cases hn
        exact w3 e1
      obtain ⟨g1, g2, g3, g4⟩ := w_atoms hb hr sc p.1 (tkK T s.1 == 1) s.2.2 8 p.1 [] p.2 q b2 b7 (scG_W hsc w1.1) rfl (fun _ => hbg) w1.1 w1.2.1.1 (fun a ha => by cases ha) rfl n1 n2 p2
      exact ⟨⟨g1, g2, g3⟩, by rw [g4]; omega⟩
    · rw [if_neg hbg] at p2; cases p2
      refine ⟨w1, ?_⟩
      by_cases e1 : tkK T s.1 = 1
      · obtain ⟨h1, h2⟩ := w2 e1
        rcases h2 with h2 | h2
        · rw [h2]; omega
        · rw [h1] at hbg; rw [if_neg (fun hh => hbg hh.2)] at h2; rw [h2]; omega
      · exact w3 e1
theorem w_sums {T : List Tok} {d f0 : Nat} {r : PR} (hb : bR T r) (hr : wR T d f0 r) (sc : Sc) (s0 : PS) (j : Nat) : ∀ (e : Nat) (s : PS) (q : Nat × PS), s.1 ≤ T.length → s.2.2.1.1 ≤ 24 → scG f0 s.2.2 sc → wO T d f0 s0 (e, s) → (s.2.2.2.2.1 e).1 ≠ 4 → pSums r T sc j e s = .ok q → wO T d f0 s0 q ∧ (q.2.2.2.2.2.1 q.1).1 ≠ 4 := by
  induction j with
  | zero =>
    intro e s q hs h24 hsc hw hk hq
    rw [pSums] at hq
    by_cases hbb : tkK T s.1 = 22 ∨ tkK T s.1 = 23
    · rw [if_pos hbb] at hq; cases hq
    · rw [if_neg hbb] at hq; cases hq; exact ⟨hw, hk⟩
  | succ j ih =>
    intro e s q hs h24 hsc hw hk hq
    rw [pSums] at hq
    by_cases hbb : tkK T s.1 = 22 ∨ tkK T s.1 = 23
    · rw [if_pos hbb] at hq
      have hlt := tkK_lt (show tkK T s.1 ≠ 0 by omega)
      obtain ⟨p, p1, p2⟩ := pB_ok hq
      obtain ⟨b1, b2, b3, b4, b5, b6, b7⟩ := b_call hb sc (sAt s (s.1 + 1)) (by show s.1 + 1 ≤ _; omega) h24 p p1
      obtain ⟨w1, k1⟩ := w_call hb hr sc (sAt s (s.1 + 1)) p (by show s.1 + 1 ≤ _; omega) h24 hsc (wf0 hw) p1
      have w2 := w_two (q := (e, s)) hw hk w1 k1 (tkK T s.1 - 12) s.1 (by omega) hlt
      refine ih _ (sNode p.2 (tkK T s.1 - 12, s.1, e, p.1, -1, 0, [])) q b2 b7 ?_ ⟨w2, rf_add _ _, rfl⟩ ?_ p2
      · have hg := scG_W hsc w1.1
        intro x hx
        obtain ⟨⟨a1, a2, a3⟩, a4, a5, _⟩ := w2
        exact lOK_mono (hg x hx) (by show p.2.2.2.2.1 ≤ p.2.2.2.2.1 + 1; omega) (fun i hi => (tAdd_lt hi).1) (Nat.le_refl _) (fun _ _ _ => ⟨rfl, rfl⟩)
      · show ((tAdd p.2.2.2.2 _).2.1 p.2.2.2.2.1).1 ≠ 4
        rw [(tAdd_at p.2.2.2.2 _).1]; show tkK T s.1 - 12 ≠ 4; omega
    · rw [if_neg hbb] at hq; cases hq; exact ⟨hw, hk⟩
theorem w_sum {T : List Tok} {d f0 : Nat} {r : PR} (hb : bR T r) (hr : wR T d f0 r) : wR T d f0 (fun sc s => pSum r T sc s) := by
  intro sc s q hs h24 hsc hf hq
  have hq : pSum r T sc s = .ok q := hq
  unfold pSum at hq
  obtain ⟨p, p1, p2⟩ := pB_ok hq
  obtain ⟨b1, b2, b3, b4, b5, b6, b7⟩ := b_call hb sc s hs h24 p p1
  obtain ⟨w1, k1⟩ := w_call hb hr sc s p hs h24 hsc hf p1
  exact w_sums hb hr sc s 8 p.1 p.2 q b2 b7 (scG_W hsc w1.1) w1 k1 p2
theorem w_cmp {T : List Tok} {d f0 : Nat} {r : PR} (hb : bR T r) (hr : wR T d f0 r) : wR T d f0 (fun sc s => pCmp r T sc s) := by
  intro sc s q hs h24 hsc hf hq
  have hq : pCmp r T sc s = .ok q := hq
  unfold pCmp at hq
  obtain ⟨p, p1, p2⟩ := pB_ok hq
  obtain ⟨b1, b2, b3, b4, b5, b6, b7⟩ := b_sum hb sc s hs h24 p p1
  obtain ⟨w1, k1⟩ := w_sum hb hr sc s p hs h24 hsc hf p1
  by_cases e : tkK T p.2.1 = 24
  · rw [if_pos e] at p2
    have hlt := tkK_lt (show tkK T p.2.1 ≠ 0 by omega)
    obtain ⟨z, z1, z2⟩ := pB_ok p2
    obtain ⟨w2, k2⟩ := w_sum hb hr sc (sAt p.2 (p.2.1 + 1)) z (by show p.2.1 + 1 ≤ _; omega) b7 (scG_W hsc w1.1) (wf0 w1) z1
    cases z2
    refine ⟨⟨w_two w1 k1 w2 k2 12 p.2.1 (by omega) hlt, rf_add _ _, rfl⟩, ?_⟩
    show ((tAdd z.2.2.2.2 _).2.1 z.2.2.2.2.1).1 ≠ 4
    rw [(tAdd_at z.2.2.2.2 _).1]; show 12 ≠ 4; omega
  · rw [if_neg e] at p2; cases p2; exact ⟨w1, k1⟩
theorem w_if {T : List Tok} {d f0 : Nat} {r : PR} (hb : bR T r) (hr : wR T d f0 r) (sc : Sc) (s : PS) (q : Nat × PS) (hs : s.1 ≤ T.length) (h24 : s.2.2.1.1 ≤ 24) (hsc : scG f0 s.2.2 sc) (hf : f0 ≤ s.2.2.2.1) (e9 : tkK T s.1 = 9) (hq : pIf r T sc s = .ok q) : wO T d f0 s q ∧ (q.2.2.2.2.2.1 q.1).1 ≠ 4 := by
  unfold pIf at hq
  have hlt := tkK_lt (show tkK T s.1 ≠ 0 by omega)
  obtain ⟨c, c1, hq⟩ := pB_ok hq
  obtain ⟨x, x1, hq⟩ := pB_ok hq
  obtain ⟨y, y1, hq⟩ := pB_ok hq
  obtain ⟨z, z1, hq⟩ := pB_ok hq
  obtain ⟨w, w1, hfin⟩ := pB_ok hq
  obtain ⟨rfl, x2, _⟩ := pX_ok (by omega) x1
  obtain ⟨rfl, z2, _⟩ := pX_ok (by omega) z1
  obtain ⟨_, a2, _, _, _, _, a7⟩ := bR_u hb c1 (by show s.1 + 1 ≤ _; omega) h24
  obtain ⟨_, b2, _, _, _, _, b7⟩ := bR_u hb y1 (by show c.2.1 + 1 ≤ _; omega) a7
  obtain ⟨v1, k1⟩ := wR_u hr c1 (by show s.1 + 1 ≤ _; omega) h24 hsc hf
  have v1' : wO T d f0 s c := v1
  obtain ⟨v2, k2⟩ := wR_u hr y1 (by show c.2.1 + 1 ≤ _; omega) a7 (scG_W hsc v1.1) (wf0 v1)
  have v2' : wO T d f0 c.2 y := v2
  have s2 : scG f0 y.2.2.2 sc := scG_W (scG_W hsc v1.1) v2.1
  obtain ⟨v3, k3⟩ := wR_u hr w1 (by show y.2.1 + 1 ≤ _; omega) b7 s2 (wf0 v2)
  have v3' : wO T d f0 y.2 w := v3
  cases hfin
  have t1 : pu_W T d f0 c.2.2.2 w.2.2.2 ([y.1] ++ [w.1]) ([] ++ []) := W_trans v2'.1 v3'.1
  have t2 : pu_W T d f0 s.2.2 w.2.2.2 ([] ++ [c.1, y.1, w.1]) [] := W_trans v1'.1 t1
  have p1 := wO_c v1' k1 t1
  have p2 := wO_c v2' k2 v3'.1
  have p3 := wO_c v3' k3 (W_refl (T := T) (d := d) (f0 := f0) (s := w.2.2.2) (wf0 v3))
  have i1 : s.2.2.2.1 ≤ c.2.2.2.2.1 := v1'.1.1.2.1
  have i2 : c.2.2.2.2.1 ≤ y.2.2.2.2.1 := v2'.1.1.2.1
  have lo : ∀ {m : Nat} {j : Int}, cO w.2.2.2 m w.2.2.2.2.1 j → s.2.2.2.1 ≤ m → cO w.2.2.2 s.2.2.2.1 w.2.2.2.2.1 j := fun ⟨j', j1, j2, j3, j4⟩ hm => ⟨j', j1, by omega, j3, j4⟩
  have kk : ∀ a ∈ [c.1, y.1, w.1], (w.2.2.2.2.2.1 a).1 ≠ 4 := by
    intro a ha
    rcases List.mem_cons.mp ha with rfl | ha
    · obtain ⟨j, j1, _, _, j4⟩ := p1
      have : j = c.1 := by omega
      subst this; exact j4
    · rcases List.mem_cons.mp ha with rfl | ha
      · obtain ⟨j, j1, _, _, j4⟩ := p2
        have : j = y.1 := by omega
        subst this; exact j4
      · rw [List.mem_singleton.mp ha]; exact k3
  refine ⟨⟨W_add (P1 := []) t2 (8, s.1, c.1, y.1, w.1, 0, []) (fun a ha hh => absurd hh (kk a ha)) (nW_new hlt ⟨by show 8 < 16; omega, by show 8 ≠ 5; omega, by show 8 ≠ 6; omega⟩ (fun hh => by (have : 8 = 2 := hh); omega) (fun hh => by (have : 8 = 3 ∨ 8 = 4 := hh); omega) (fun hh => by (have : 8 = 7 := hh); omega) (fun hh => by (have : 8 = 9 := hh); omega) (fun _ _ => p1) (fun _ => lo p2 i1) (fun _ => lo p3 (by omega))) (row0 (by show 8 ≠ 16; omega)), rf_add _ _, rfl⟩, ?_⟩
  show ((tAdd w.2.2.2.2 _).2.1 w.2.2.2.2.1).1 ≠ 4
  rw [(tAdd_at w.2.2.2.2 _).1]; show 8 ≠ 4; omega
theorem W_decl {T : List Tok} {d f0 : Nat} {y : YT} (hf : f0 ≤ y.2.1) (lt : Option Ty) : pu_W T d f0 y ((y.1.1 + 1, pu_upd y.1.2.1 y.1.1 lt, pu_upd y.1.2.2 y.1.1 (-1)), y.2) [] [] := by
  refine W_lc (W_refl hf) _ (by show y.1.1 ≤ y.1.1 + 1; omega) (fun l hl _ => ⟨upd_ne _ _ _ _ (by omega), upd_ne _ _ _ _ (by omega)⟩) (fun l h1 h2 => Or.inl ?_) (fun x hx => hx)
  have h2' : l < y.1.1 + 1 := h2
  have : l = y.1.1 := by omega
  rw [this]; exact upd_same _ _ _
theorem w_fn {T : List Tok} {d f0 m : Nat} {r : PR} (hb : bR T r) (hr : wR T d f0 r) (sc : Sc) (s : PS) (q : Nat × PS) (hs : s.1 ≤ T.length) (h24 : s.2.2.1.1 ≤ 24) (hsc : scG f0 s.2.2 sc) (hf : f0 ≤ s.2.2.2.1) (e12 : tkK T s.1 = 12) (hq : pFn r T d m sc s = .ok q) : wO T d f0 s q ∧ (q.2.2.2.2.2.1 q.1).1 ≠ 4 := by
  unfold pFn at hq
  have hlt := tkK_lt (show tkK T s.1 ≠ 0 by omega)
  obtain ⟨o, o1, hq⟩ := pB_ok hq
  obtain ⟨l, l1, hq⟩ := pB_ok hq
  obtain ⟨x, x1, hq⟩ := pB_ok hq
  obtain ⟨t, t1, hq⟩ := pB_ok hq
  obtain ⟨y, y1, hq⟩ := pB_ok hq
  obtain ⟨z, z1, hq⟩ := pB_ok hq
  obtain ⟨p, p1, hfin⟩ := pB_ok hq
  obtain ⟨rfl, _, _⟩ := pX_ok (by omega) o1
  obtain ⟨rfl, _, _, l24⟩ := pDecl_eq l1
  obtain ⟨rfl, _, _⟩ := pX_ok (by omega) x1
  obtain ⟨rfl, _, _⟩ := pX_ok (by omega) y1
  obtain ⟨rfl, z2, _⟩ := pX_ok (by omega) z1
  have l24' : s.2.2.1.1 ≠ 24 := l24
  have hY : (pu_upd (pu_upd s.2.2.1.2.1 s.2.2.1.1 none) s.2.2.1.1 (some t.1)) = pu_upd s.2.2.1.2.1 s.2.2.1.1 (some t.1) := by
    funext i
    by_cases e : i = s.2.2.1.1
    · rw [e, upd_same, upd_same]
    · rw [upd_ne _ _ _ _ e, upd_ne _ _ _ _ e, upd_ne _ _ _ _ e]
  have hD : pu_W T d f0 s.2.2 ((s.2.2.1.1 + 1, pu_upd (pu_upd s.2.2.1.2.1 s.2.2.1.1 none) s.2.2.1.1 (some t.1), pu_upd s.2.2.1.2.2 s.2.2.1.1 (-1)), s.2.2.2) [] [] := by
    rw [hY]; exact W_decl hf (some t.1)
  have hlo : lOK ((s.2.2.1.1 + 1, pu_upd (pu_upd s.2.2.1.2.1 s.2.2.1.1 none) s.2.2.1.1 (some t.1), pu_upd s.2.2.1.2.2 s.2.2.1.1 (-1)), s.2.2.2) f0 s.2.2.2.1 s.2.2.1.1 := ⟨by show s.2.2.1.1 < s.2.2.1.1 + 1; omega, Or.inl ⟨upd_same _ _ _, t.1, upd_same _ _ _⟩⟩
  have hg := scG_W hsc hD
  obtain ⟨v1, k1⟩ := wR_u hr p1 z2 (by show s.2.2.1.1 + 1 ≤ 24; omega) (fun x hx => by
    rcases List.mem_cons.mp hx with rfl | hx
    · exact hlo
    · exact hg x hx) hf
  have v1W : pu_W T d f0 ((s.2.2.1.1 + 1, pu_upd (pu_upd s.2.2.1.2.1 s.2.2.1.1 none) s.2.2.1.1 (some t.1), pu_upd s.2.2.1.2.2 s.2.2.1.1 (-1)), s.2.2.2) p.2.2.2 [p.1] [] := v1.1
  have tW : pu_W T d f0 s.2.2 p.2.2.2 ([] ++ [p.1]) [] := W_trans hD v1W
  obtain ⟨c1, c2⟩ := v1W.2.2.1 s.2.2.1.1 (by show s.2.2.1.1 < s.2.2.1.1 + 1; omega)
  have c1' : p.2.2.2.1.2.1 s.2.2.1.1 = some t.1 := c1.trans (upd_same _ _ _)
  have c2' : p.2.2.2.1.2.2 s.2.2.1.1 = -1 := c2.trans (upd_same _ _ _)
  have c3 : s.2.2.1.1 + 1 ≤ p.2.2.2.1.1 := v1W.1.2.2
  have i1 : s.2.2.2.1 ≤ p.2.2.2.2.1 := v1W.1.2.1
  have hpc := wO_c v1 k1 (W_refl (T := T) (d := d) (f0 := f0) (s := p.2.2.2) (wf0 v1))
  have hpc' : cO p.2.2.2 s.2.2.2.1 p.2.2.2.2.1 (p.1 : Nat) := hpc
  cases hfin
  refine ⟨⟨W_add (P1 := []) tW (9, s.1, p.1, -1, s.2.2.1.1, je d, []) (fun a ha hh => by rw [List.mem_singleton.mp ha] at hh; exact absurd hh k1) (nW_new hlt ⟨by show 9 < 16; omega, by show 9 ≠ 5; omega, by show 9 ≠ 6; omega⟩ (fun hh => by (have : 9 = 2 := hh); omega) (fun hh => by (have : 9 = 3 ∨ 9 = 4 := hh); omega) (fun hh => by (have : 9 = 7 := hh); omega) (fun _ => ⟨rfl, s.2.2.1.1, rfl, by omega, c2', t.1, c1'⟩) (fun _ _ => hpc') (fun hh => by (have : 9 = 7 ∨ 9 = 8 ∨ 10 ≤ 9 ∧ 9 ≤ 13 := hh); omega) (fun hh => by (have : 9 = 8 := hh); omega)) (row0 (by show 9 ≠ 16; omega)), rf_add _ _, rfl⟩, ?_⟩
  show ((tAdd p.2.2.2.2 _).2.1 p.2.2.2.2.1).1 ≠ 4
  rw [(tAdd_at p.2.2.2.2 _).1]; show 9 ≠ 4; omega
theorem w_let {T : List Tok} {d f0 : Nat} {r : PR} (hb : bR T r) (hr : wR T d f0 r) (sc : Sc) (s : PS) (q : Nat × PS) (hs : s.1 ≤ T.length) (h24 : s.2.2.1.1 ≤ 24) (hsc : scG f0 s.2.2 sc) (hf : f0 ≤ s.2.2.2.1) (e7 : tkK T s.1 = 7) (hq : pLet r T sc s = .ok q) : wO T d f0 s q ∧ (q.2.2.2.2.2.1 q.1).1 ≠ 4 := by
  unfold pLet at hq
  have hlt := tkK_lt (show tkK T s.1 ≠ 0 by omega)
  obtain ⟨l, l1, hq⟩ := pB_ok hq
  obtain ⟨x, x1, hq⟩ := pB_ok hq
  obtain ⟨a, a1, hq⟩ := pB_ok hq
  obtain ⟨y, y1, hq⟩ := pB_ok hq
  obtain ⟨p, p1, hfin⟩ := pB_ok hq
  obtain ⟨rfl, _, _, l24⟩ := pDecl_eq l1
  obtain ⟨rfl, x2, _⟩ := pX_ok (by omega) x1
  obtain ⟨rfl, y2, _⟩ := pX_ok (by omega) y1
  have l24' : s.2.2.1.1 ≠ 24 := l24
  have hD : pu_W T d f0 s.2.2 ((s.2.2.1.1 + 1, pu_upd s.2.2.1.2.1 s.2.2.1.1 none, pu_upd s.2.2.1.2.2 s.2.2.1.1 (-1)), s.2.2.2) [] [] := W_decl hf none
  obtain ⟨v1, k1⟩ := wR_u hr a1 (by show s.1 + 1 + 1 + 1 ≤ _; exact x2) (by show s.2.2.1.1 + 1 ≤ 24; omega) (scG_W hsc hD) hf
  have v1W : pu_W T d f0 ((s.2.2.1.1 + 1, pu_upd s.2.2.1.2.1 s.2.2.1.1 none, pu_upd s.2.2.1.2.2 s.2.2.1.1 (-1)), s.2.2.2) a.2.2.2 [a.1] [] := v1.1
  have t1 : pu_W T d f0 s.2.2 a.2.2.2 [a.1] [] := W_trans hD v1W
  obtain ⟨c1, c2⟩ := v1W.2.2.1 s.2.2.1.1 (by show s.2.2.1.1 < s.2.2.1.1 + 1; omega)
  have c1' : a.2.2.2.1.2.1 s.2.2.1.1 = none := c1.trans (upd_same _ _ _)
  have c2' : a.2.2.2.1.2.2 s.2.2.1.1 = -1 := c2.trans (upd_same _ _ _)
  have c3 : s.2.2.1.1 + 1 ≤ a.2.2.2.1.1 := v1W.1.2.2
  obtain ⟨m1, m2, _⟩ := t1.2.2.2.2.2.1.2 a.1 (List.mem_singleton.mpr rfl)
  have t2 : pu_W T d f0 s.2.2 ((a.2.2.2.1.1, a.2.2.2.1.2.1, pu_upd a.2.2.2.1.2.2 s.2.2.1.1 a.1), a.2.2.2.2) [a.1] [(s.2.2.1.1, a.1)] := by
    refine W_lc t1 _ (Nat.le_refl _) (fun l' hl hh => ⟨rfl, upd_ne _ _ _ _ (fun e => ?_)⟩) (fun l' h1 h2 => ?_) (fun x hx => by cases hx)
    · subst e
      rcases hh with hh | hh | hh
      · exact hh c2'
      · exact hh c1'
      · exact Nat.lt_irrefl _ hh
    · by_cases e : l' = s.2.2.1.1
      · exact Or.inr (Or.inr ⟨a.1, by rw [e]; exact upd_same _ _ _, m1, m2, by rw [e]; exact List.mem_singleton.mpr rfl⟩)
      · exact Or.inr (Or.inl ⟨h2, upd_ne _ _ _ _ e⟩)
  obtain ⟨_, b2, _, b4, _, _, b7⟩ := bR_u hb a1 (by show s.1 + 1 + 1 + 1 ≤ _; exact x2) (by show s.2.2.1.1 + 1 ≤ 24; omega)
  have hlo : lOK ((a.2.2.2.1.1, a.2.2.2.1.2.1, pu_upd a.2.2.2.1.2.2 s.2.2.1.1 a.1), a.2.2.2.2) f0 a.2.2.2.2.1 s.2.2.1.1 := ⟨by show s.2.2.1.1 < a.2.2.2.1.1; omega, Or.inr ⟨a.1, upd_same _ _ _, by have : s.2.2.2.1 ≤ a.1 := m1; omega, m2, k1⟩⟩
  have hg := scG_W hsc t2
  obtain ⟨v2, k2⟩ := wR_u hr p1 (by show a.2.1 + 1 ≤ T.length; exact y2) b7 (fun x hx => by
    rcases List.mem_cons.mp hx with rfl | hx
    · exact hlo
    · exact hg x hx) (wf0 v1)
  have v2W : pu_W T d f0 ((a.2.2.2.1.1, a.2.2.2.1.2.1, pu_upd a.2.2.2.1.2.2 s.2.2.1.1 a.1), a.2.2.2.2) p.2.2.2 [p.1] [] := v2.1
  have t3 : pu_W T d f0 s.2.2 p.2.2.2 ([] ++ [a.1, p.1]) [(s.2.2.1.1, a.1)] := W_trans t2 v2W
  obtain ⟨d1, d2⟩ := v2W.2.2.1 s.2.2.1.1 (by show s.2.2.1.1 < a.2.2.2.1.1; omega)
  have d2' : p.2.2.2.1.2.2 s.2.2.1.1 = a.1 := d2.trans (upd_same _ _ _)
  have d3 : a.2.2.2.1.1 ≤ p.2.2.2.1.1 := v2W.1.2.2
  have i1 : a.2.2.2.2.1 ≤ p.2.2.2.2.1 := v2W.1.2.1
  have m1' : s.2.2.2.1 ≤ a.1 := m1
  have m2' : a.1 < a.2.2.2.2.1 := m2
  obtain ⟨f1, f2, f3, f4, f5⟩ := v2W.2.1 a.1 m2
  have f1' : p.2.2.2.2.2.1 a.1 = a.2.2.2.2.2.1 a.1 := f1
  have f3' : p.2.2.2.2.2.2.2.1 a.1 = -1 := f3.trans v1.2.1.2.1
  have hc1 : cO p.2.2.2 s.2.2.2.1 p.2.2.2.2.1 (a.1 : Nat) := ⟨a.1, rfl, m1', by omega, by rw [show p.2.2.2.2.2.1 a.1 = _ from f1']; exact k1⟩
  obtain ⟨n1, n2, _⟩ := v2W.2.2.2.2.2.1.2 p.1 (List.mem_singleton.mpr rfl)
  have n1' : a.2.2.2.2.1 ≤ p.1 := n1
  have hc2 : cO p.2.2.2 s.2.2.2.1 p.2.2.2.2.1 (p.1 : Nat) := ⟨p.1, rfl, by omega, n2, k2⟩
  have kk : ∀ b ∈ [a.1, p.1], (p.2.2.2.2.2.1 b).1 ≠ 4 := by
    intro b hb
    rcases List.mem_cons.mp hb with rfl | hb
    · rw [f1']; exact k1
    · rw [List.mem_singleton.mp hb]; exact k2
  have t4 := W_add (P1 := []) t3 (7, s.1, a.1, p.1, s.2.2.1.1, 0, []) (fun b hb hh => absurd hh (kk b hb)) (nW_new hlt ⟨by show 7 < 16; omega, by show 7 ≠ 5; omega, by show 7 ≠ 6; omega⟩ (fun hh => by (have : 7 = 2 := hh); omega) (fun hh => by (have : 7 = 3 ∨ 7 = 4 := hh); omega) (fun _ => ⟨s.2.2.1.1, rfl, by omega, d2'⟩) (fun hh => by (have : 7 = 9 := hh); omega) (fun _ _ => hc1) (fun _ => hc2) (fun hh => by (have : 7 = 8 := hh); omega)) (row0 (by show 7 ≠ 16; omega))
  have t5 := W_bd t4 ⟨m1', by show a.1 < p.2.2.2.2.1 + 1; omega⟩ ((tAdd_lt (by omega)).2.2.1.trans f3') (by show s.2.2.1.1 < p.2.2.2.1.1; omega) d2'
  cases hfin
  have hrf : rf (p.2.2.2.1, tAdd p.2.2.2.2 (7, s.1, a.1, p.1, s.2.2.1.1, 0, [])) p.2.2.2.2.1 := rf_add _ _
  refine ⟨⟨t5, ⟨hrf.1, ?_, hrf.2.2.1, hrf.2.2.2⟩, rfl⟩, ?_⟩
  · show pu_upd _ a.1 _ p.2.2.2.2.1 = -1
    rw [upd_ne _ _ _ _ (by omega)]; exact hrf.2.1
  · show ((tAdd p.2.2.2.2 _).2.1 p.2.2.2.2.1).1 ≠ 4
    rw [(tAdd_at p.2.2.2.2 _).1]; show 7 ≠ 4; omega
theorem w_E {T : List Tok} (d m f0 : Nat) (r : Nat) : wR T d f0 (pE T d m r) := by
  induction r with
  | zero => intro sc s q _ _ _ _ hq; cases hq
  | succ r ih =>
    intro sc s q hs h24 hsc hf hq
    have hb := b_E (T := T) d m r
    unfold pE at hq
    by_cases e7 : tkK T s.1 = 7
    · rw [if_pos e7] at hq; exact w_let hb ih sc s q hs h24 hsc hf e7 hq
    rw [if_neg e7] at hq
    by_cases e9 : tkK T s.1 = 9
    · rw [if_pos e9] at hq; exact w_if hb ih sc s q hs h24 hsc hf e9 hq
    rw [if_neg e9] at hq
    by_cases e12 : tkK T s.1 = 12
    · rw [if_pos e12] at hq; exact w_fn hb ih sc s q hs h24 hsc hf e12 hq
    rw [if_neg e12] at hq
    exact w_cmp hb ih sc s q hs h24 hsc hf hq
