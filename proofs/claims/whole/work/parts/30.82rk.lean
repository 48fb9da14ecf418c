set_option maxRecDepth 100000
theorem row_u {T : List Tok} {D : List Df} {t : Tr} (h : pW T D t) {e e' a : Nat} (he : e < t.1) (he' : e' < t.1) (ha : a ∈ row (t.2.1 e)) (ha' : a ∈ row (t.2.1 e')) : e = e' := by
  have h1 := he
  have h2 := he'
  rw [h.2.1] at h1 h2
  obtain ⟨i, x, i1, hx, e1, e2⟩ := in_def h D.length (Nat.le_refl _) e h1
  obtain ⟨j, y, j1, hy, e3, e4⟩ := in_def h D.length (Nat.le_refl _) e' h2
  obtain ⟨_, w6, w7, _⟩ := h.1 i x hx
  obtain ⟨_, v6, _⟩ := h.1 j y hy
  have r1 := row_ge (w6 e e1 e2) ha
  have r2 := row_ge (v6 e' e3 e4) ha'
  by_cases hij : i < j
  · have := dF_le h j (by omega) i x hij hx; omega
  · by_cases hji : j < i
    · have := dF_le h i (by omega) j y hji hy; omega
    · have : i = j := by omega
      subst this
      rw [hx] at hy; cases hy
      exact w7 e e' a e1 e2 e3 e4 ha ha'
def shN (D : List Df) (t : Tr) (c : CS) : Nat → (Nat → Bool)
  | 0 => fun _ => false
  | e + 1 => if (t.2.1 e).1 = 16 then (match c.2.1 e with
    | some d => shL D t c (dPs D d) (t.2.1 e).2.2.2.2.2.2 (shN D t c e)
    | none => shN D t c e) else shN D t c e
theorem at_row {x : Nd} (h : x.1 = 16) {i a : Nat} (ha : x.2.2.2.2.2.2[i]? = some a) : a ∈ row x := by rw [row_c h]; exact List.mem_cons_of_mem _ (List.mem_of_getElem? ha)
theorem pw_at {T : List Tok} {D : List Df} {t : Tr} (h : pW T D t) {e : Nat} (he : e < t.1) (h16 : (t.2.1 e).1 = 16) : (t.2.1 e).2.2.2.2.2.2.Pairwise (· < ·) := by
  have h1 := he
  rw [h.2.1] at h1
  obtain ⟨i, x, i1, hx, e1, e2⟩ := in_def h D.length (Nat.le_refl _) e h1
  obtain ⟨_, w6, _⟩ := h.1 i x hx
  obtain ⟨_, c2, _⟩ := (w6 e e1 e2).2.2.2.2.2.2.2.2.2.2 h16
  have c2' : (row (t.2.1 e)).Pairwise (· < ·) := c2
  rw [row_c h16] at c2'
  exact (List.pairwise_cons.mp c2').2
theorem pw_inj : ∀ {l : List Nat} (_ : l.Pairwise (· < ·)) {i j a : Nat}, l[i]? = some a → l[j]? = some a → i = j
  | [], _, i, j, a, h, _ => by cases h
  | b :: l, hp, i, j, a, h1, h2 => by
    obtain ⟨p1, p2⟩ := List.pairwise_cons.mp hp
    cases i with
    | zero =>
      cases j with
      | zero => rfl
      | succ j =>
        have e1 : b = a := Option.some.inj h1
        have := p1 a (List.mem_of_getElem? h2); omega
    | succ i =>
      cases j with
      | zero =>
        have e1 : b = a := Option.some.inj h2
        have := p1 a (List.mem_of_getElem? h1); omega
      | succ j => rw [pw_inj p2 h1 h2]
theorem shN_iff {T : List Tok} {D : List Df} {t : Tr} {c : CS} (h : pW T D t) : ∀ E, E ≤ t.1 → ∀ a, shN D t c E a = true ↔ ∃ (e d i : Nat) (p : Ty), e < E ∧ (t.2.1 e).1 = 16 ∧ c.2.1 e = some d ∧ (dPs D d)[i]? = some p ∧ (t.2.1 e).2.2.2.2.2.2[i]? = some a ∧ shB D t c p a = true := by
  intro E
  induction E with
  | zero =>
    intro _ a
    constructor
    · intro hh; cases hh
    · rintro ⟨e, _, _, _, he, _⟩; omega
  | succ E ih =>
    intro hE a
    have ihE := ih (by omega) a
    have skip : (∀ d, (t.2.1 E).1 = 16 → c.2.1 E ≠ some d) → shN D t c (E + 1) = shN D t c E → (shN D t c (E + 1) a = true ↔ ∃ (e d i : Nat) (p : Ty), e < E + 1 ∧ (t.2.1 e).1 = 16 ∧ c.2.1 e = some d ∧ (dPs D d)[i]? = some p ∧ (t.2.1 e).2.2.2.2.2.2[i]? = some a ∧ shB D t c p a = true) := by
      intro hno heq
      rw [heq, ihE]
      constructor
      · rintro ⟨e, d, i, p, q1, q2⟩; exact ⟨e, d, i, p, by omega, q2⟩
      · rintro ⟨e, d, i, p, q1, q2, q3, q4⟩
        by_cases ee : e = E
        · subst ee; exact absurd q3 (hno d q2)
        · exact ⟨e, d, i, p, by omega, q2, q3, q4⟩
    by_cases h16 : (t.2.1 E).1 = 16
    · cases hdf : c.2.1 E with
      | none => exact skip (fun d _ hh => by rw [hdf] at hh; cases hh) (by rw [shN, if_pos h16, hdf])
      | some d =>
        have hs : shN D t c (E + 1) = shL D t c (dPs D d) (t.2.1 E).2.2.2.2.2.2 (shN D t c E) := by rw [shN, if_pos h16, hdf]
        have hpw := pw_at h (by omega : E < t.1) h16
        obtain ⟨s1, s2⟩ := shL_at D t c (dPs D d) (t.2.1 E).2.2.2.2.2.2 (shN D t c E) a hpw
        rw [hs]
        by_cases hex : ∃ (i : Nat) (p : Ty), (dPs D d)[i]? = some p ∧ (t.2.1 E).2.2.2.2.2.2[i]? = some a
        · obtain ⟨i, p, q1, q2⟩ := hex
          rw [s1 i p q1 q2]
          constructor
          · intro hb; exact ⟨E, d, i, p, by omega, h16, hdf, q1, q2, hb⟩
          · rintro ⟨e, d', i', p', r1, r2, r3, r4, r5, r6⟩
            have ee : e = E := row_u h (by omega) (by omega) (at_row r2 r5) (at_row h16 q2)
            subst ee
            rw [hdf] at r3; cases r3
            have ii : i' = i := pw_inj hpw r5 q2
            subst ii
            rw [q1] at r4; cases r4; exact r6
        · rw [s2 (fun i p q1 q2 => hex ⟨i, p, q1, q2⟩), ihE]
          constructor
          · rintro ⟨e, d', i, p, q1, q2⟩; exact ⟨e, d', i, p, by omega, q2⟩
          · rintro ⟨e, d', i, p, q1, q2, q3, q4, q5, q6⟩
            by_cases ee : e = E
            · subst ee
              rw [hdf] at q3; cases q3
              exact absurd ⟨i, p, q4, q5⟩ hex
            · exact ⟨e, d', i, p, by omega, q2, q3, q4, q5, q6⟩
    · exact skip (fun d hh => absurd hh h16) (by rw [shN, if_neg h16])
theorem shN_all {T : List Tok} {D : List Df} {t : Tr} {c : CS} (h : pW T D t) (hO : shOK D t t.1 c) : shN D t c t.1 = c.2.2.2 := by
  funext a
  have h1 := shN_iff (c := c) h t.1 (Nat.le_refl _) a
  have h2 : c.2.2.2 a = true ↔ ∃ (e d i : Nat) (p : Ty), e < t.1 ∧ (t.2.1 e).1 = 16 ∧ c.2.1 e = some d ∧ (dPs D d)[i]? = some p ∧ (t.2.1 e).2.2.2.2.2.2[i]? = some a ∧ shB D t c p a = true := by
    constructor
    · intro hh
      obtain ⟨e, d, i, p, q1, q2, q3, q4, q5, q6, q7, _⟩ := hO.1 a hh
      exact ⟨e, d, i, p, q1, q2, q3, q4, q5, by unfold shB; rw [q6, q7]; rfl⟩
    · rintro ⟨e, d, i, p, q1, q2, q3, q4, q5, q6⟩
      unfold shB at q6
      rw [Bool.and_eq_true] at q6
      exact hO.2 e d i p a q1 q2 q3 q4 q5 q6.1 q6.2
  have h3 := h1.trans h2.symm
  cases hx : shN D t c t.1 a with
  | true => rw [h3.mp hx]
  | false =>
    cases hy : c.2.2.2 a with
    | false => rfl
    | true => rw [h3.mpr hy] at hx; cases hx
theorem r_shA {T : List Tok} {n : Nat} {D : List Df} {t : Tr} {c : CS} {w : Nat → Option Ty} {Y : List Ty} (g : pm_s) (hpW : pW T D t) (hI : kI0 D t t.1 c) (hJ : kJ D t c) (hlet : ltI D) (m : Nat) : ∀ (e : Nat) (u : pm_J), e + m = t.1 → rC T n D t (c.1, c.2.1, c.2.2.1, shN D t c e) w u Y → ∃ v, (∀ N fuel, 1000 ≤ N → m + 1 ≤ fuel → K_Md_shorten_2 N g fuel (ie (e : Nat)) u = some v) ∧ rC T n D t (c.1, c.2.1, c.2.2.1, shN D t c t.1) w v Y ∧ frP u v := by
  have hpar := pW_par hpW
  induction m with
  | zero =>
    intro e u he H
    have : e = t.1 := by omega
    subst this
    have h18 := H.2.2.2.1.2
    refine ⟨u, fun N fuel _ hf => ?_, H, frP_r _⟩
    obtain ⟨fuel, rfl⟩ : ∃ f', fuel = f' + 1 := ⟨fuel - 1, by omega⟩
    rw [K_Md_shorten_2, H.2.2.2.1.1, if_pos ((inle _ _ (by omega) (by omega)).mpr (Nat.le_refl _))]
  | succ m ih =>
    intro e u he H
    have h18 := H.2.2.2.1.2
    have het : e < t.1 := by omega
    have h1 := het
    rw [hpW.2.1] at h1
    obtain ⟨di, x, _, hx, e1, e2⟩ := in_def hpW D.length (Nat.le_refl _) e h1
    obtain ⟨_, w6, _⟩ := hpW.1 di x hx
    have hWe := w6 e e1 e2
    have kc : (t.2.1 e).1 ≤ 16 ∧ (t.2.1 e).1 ≠ 5 ∧ (t.2.1 e).1 ≠ 6 := hWe.2.1
    have rop16 : ∀ k, k ≤ 16 → k ≠ 5 → k ≠ 6 → (rop k = 30 ↔ k = 16) ∧ rop k < 100 := by decide
    obtain ⟨r1, r3⟩ := rop16 _ kc.1 kc.2.1 kc.2.2
    obtain ⟨k77, _, _, k80, _, _, _, _, _, _, _, k88, _⟩ := H.2.2.2.2.2.2 e het
    have k88' : u.1 88 e = ie (oI (c.2.1 e)) := k88
    have ok := okn e 2400 (by omega) (by omega)
    have nt := ntn e (by omega)
    have nle : ¬ (ie (t.1 : Nat) ≤ ie (e : Nat)) := fun hh => by have := (inle _ _ (by omega) (by omega)).mp hh; omega
    have skip : shN D t c (e + 1) = shN D t c e → (∀ N fuel, K_Md_shorten_2 N g (fuel + 1) (ie (e : Nat)) u = K_Md_shorten_2 N g fuel (ie ((e + 1 : Nat) : Int)) u) → ∃ v, (∀ N fuel, 1000 ≤ N → m + 1 + 1 ≤ fuel → K_Md_shorten_2 N g fuel (ie (e : Nat)) u = some v) ∧ rC T n D t (c.1, c.2.1, c.2.2.1, shN D t c t.1) w v Y ∧ frP u v := by
      intro heq hst
      obtain ⟨v, v1, v2⟩ := ih (e + 1) u (by omega) (by rw [heq]; exact H)
      refine ⟨v, fun N fuel hN hf => ?_, v2⟩
      obtain ⟨fuel, rfl⟩ : ∃ f', fuel = f' + 1 := ⟨fuel - 1, by omega⟩
      rw [hst N fuel]; exact v1 N fuel hN (by omega)
    by_cases h16 : (t.2.1 e).1 = 16
    · cases hdf : c.2.1 e with
      | none =>
        refine skip (by rw [shN, if_pos h16, hdf]) (fun N fuel => ?_)
        rw [K_Md_shorten_2, H.2.2.2.1.1, if_neg nle, if_pos ok, nt, k77, h16, if_pos (show ie ((rop 16 : Nat) : Int) = 30 from rfl), if_pos ok, k88', hdf, if_pos (show ie (oI none) < 0 by decide), iadd1]
      | some d =>
        have hdl := hI.1 e d hdf
        have h30 := H.2.2.1.2
        obtain ⟨y, hy⟩ : ∃ y, D[d]? = some y := ⟨D[d], List.getElem?_eq_getElem hdl⟩
        obtain ⟨b1, b2, b3, b4, b5, b6, b7, b8, b9, b10, b11⟩ := hWe.2.2.2.2.2.2.2.2.2.2 h16
        have hp6 := (hpar d y hy).1
        obtain ⟨_, _, p3⟩ := dPs_some hy
        have hs : shN D t c (e + 1) = shL D t c (dPs D d) (t.2.1 e).2.2.2.2.2.2 (shN D t c e) := by rw [shN, if_pos h16, hdf]
        obtain ⟨v1, q1, q2, q3⟩ := r_shL g c het hy hdf hI hpar hlet (dPs D d).length 0 (t.2.1 e).2.2.2.2.2.2 (shN D t c e) u (Nat.zero_add _) (hJ e d het h16 hdf) b9 (fun a ha => by
          have hr := b3 a (by show a ∈ row (t.2.1 e); rw [row_c h16]; exact List.mem_cons_of_mem _ ha)
          have hWa := w6 a hr.1 (by omega)
          refine ⟨by omega, ⟨hWa.2.1.1, hWa.2.1.2.1, hWa.2.1.2.2, b4 a ha⟩, fun ha16 => ?_⟩
          obtain ⟨_, _, _, _, c5, _, c7, _⟩ := hWa.2.2.2.2.2.2.2.2.2.2 ha16
          exact ⟨c5, c7⟩) H
        rw [List.drop_zero, ← hs] at q2
        obtain ⟨v, v1', v2, v3⟩ := ih (e + 1) v1 (by omega) q2
        refine ⟨v, fun N fuel hN hf => ?_, v2, frP_t q3 v3⟩
        obtain ⟨fuel, rfl⟩ : ∃ f', fuel = f' + 1 := ⟨fuel - 1, by omega⟩
        have q1' : K_Md_shorten_39 N g (K_Md_shorten_2 N g fuel) N (ie (e : Nat)) (hdI (t.2.1 e).2.2.2.2.2.2) 0 u = K_Md_shorten_2 N g fuel (ie ((e + 1 : Nat) : Int)) v1 := q1 N _ N (by omega)
        rw [K_Md_shorten_2, H.2.2.2.1.1, if_neg nle, if_pos ok, nt, k77, h16, if_pos (show ie ((rop 16 : Nat) : Int) = 30 from rfl), if_pos ok, k88', hdf, if_neg (show ¬ (ie (oI (some d)) < 0) from fun hh => by have := (inlt d 0 (by omega) (by omega)).mp hh; omega), if_pos ok, k80, rvb_c h16, q1']
        exact v1' N fuel hN (by omega)
    · refine skip (by rw [shN, if_neg h16]) (fun N fuel => ?_)
      rw [K_Md_shorten_2, H.2.2.2.1.1, if_neg nle, if_pos ok, nt, k77, if_neg (show ¬ (ie (rop (t.2.1 e).1 : Nat) = 30) from fun hh => h16 (r1.mp ((ineq _ 30 (by omega) (by omega)).mp hh))), iadd1]
theorem rC_0 {T : List Tok} {n : Nat} {D : List Df} {Y : List Ty} {a : Nat} {t : Tr} {u00 u : pm_J} (hC : rCn (T, n, 0, u00)) (H : rB T n D Y a t u00 u) : rC T n D t (cz cs0) cs0.1 u Y := by
  obtain ⟨a1, a2, a3, a4, a5, a6, a7, a8, a9, a10, a11, a12⟩ := H
  obtain ⟨hG, o, ho, hx, hok⟩ := hC
  have h9 := a2.1.2.1
  refine ⟨a1.2, ⟨a2, hG, o, ho, ⟨((a11 64 1 (rSD_no (by unfold rSDp; omega))).1).trans hx.1, fun i hi => ((a11 65 i (rSD_no (by unfold rSDp; omega))).1).trans (hx.2 i hi)⟩, hok⟩, ⟨a5, a6⟩, ⟨a8.1, by omega⟩, a7.1, fun i x hi => ?_, fun e he => ?_⟩
  · obtain ⟨c1, c2, c3, c4, c5, c6, c7, c8, c9⟩ := a10 i x hi
    refine ⟨⟨c1, c2, c3, c4, c5, c6⟩, fun l hl => ⟨fun _ s hs => c9 l s hl hs, fun b hb s hs => (by cases hs)⟩⟩
  · obtain ⟨b1, b2, b3, b4, b5, b6, b7, b8, b9, b10, b11, b12, b13, b14⟩ := a8.2.2 e he
    exact ⟨b1, b2, b3, b4, b5, b6, b7, b8, b9, b13, b10, b11, b12, b14⟩
