set_option maxRecDepth 100000
theorem ty_200 {T : List Tok} {D : List Df} {t : Tr} {c : CS} (G : gX T D t c) {d : Nat} {S : Nat → Prop} {e : Nat} (h : nS T D t d S e) {s : Ty} (hs : c.1 e = some s) : tyL s ≤ 200 := by
  obtain ⟨x, hx, w, tk, _⟩ := nS_W G h
  by_cases e3 : (t.2.1 e).1 = 3 ∨ (t.2.1 e).1 = 4
  · obtain ⟨d', k1, k2, k3, k4, k5⟩ := tk.1 e3
    by_cases e0 : (dPs D d').length = 0
    · rw [k4 e0] at hs; cases hs
      have hd : D[d']? = some D[d'] := List.getElem?_eq_getElem k2
      have := (pW_par G.1 d' _ hd).2.2.2
      rw [(dPs_some hd).2.1]; omega
    · rw [(k5 e0).2] at hs; cases hs
  · by_cases e16 : (t.2.1 e).1 = 16
    · obtain ⟨r, r1, r2, _⟩ := tk.2.2 e16
      rw [r1] at hs; cases hs; exact r2
    · obtain ⟨_, s', _, s2, s3⟩ := tk.2.1 e3 e16
      rw [s2] at hs; cases hs; exact s3
def mDef (D : List Df) (c : CS) (M : Nat → Option Ty) (lc d : Nat) (ρ : Nat → Ty) : Nat → Option Ty := fun i => if lc ≤ i ∧ i < lc + dWd D d then (lTd D c d (i - lc)).map (itp ρ) else M i
theorem par_ty {T : List Tok} {D : List Df} {t : Tr} {c : CS} (G : gX T D t c) {d : Nat} {x : Df} (hx : D[d]? = some x) {k : Nat} {p : Ty} (hp : (dPs D d)[k]? = some p) : lTd D c d k = some p ∧ tyG p ∧ tyL p ≤ 100 := by
  obtain ⟨q, q1, q2⟩ := dPs_i hx hp
  obtain ⟨_, _, p3, _⟩ := pW_par G.1 d x hx
  obtain ⟨a1, a2, a3⟩ := p3 k q q1
  subst q2
  refine ⟨?_, (G.2.2.2.2.2.2 d x hx).2 q (List.mem_reverse.mp (List.mem_of_getElem? q1)), a3⟩
  unfold lTd lTy; rw [hx]
  show (if x.2.2.2.2.2.2.2.2 k < 0 then x.2.2.2.2.2.2.2.1 k else _) = _
  rw [a2, if_pos (by omega)]; exact a1
theorem df_T {T : List Tok} {D : List Df} {t : Tr} {c : CS} {bx : Bool} {R : Ty} (G : gX T D t c) {τ : List Ty} {M : Nat → Option Ty} {lc : Nat} {hp : Hp} {L : Lo} {F : List Fr} {v : Va} {ρ ρ' : Nat → Ty} {e b j d st cc dp : Nat} {hd : List Va} (h1 : hT T D t c τ (M, L, lc) hp.1) (h2 : lT τ (M, L, lc)) (h3 : lc ≤ 60000) (hn : nOK T D t c (M, L, lc) e b ρ) (hF : sTk T D t c bx τ (M, L, lc) hp.1 R F (rt c bx ρ e)) (hd' : d < D.length) (hl : hd.length = (dPs D d).length) (hh : ∀ (k : Nat) (x : Va) (p : Ty), hd[k]? = some x → (dPs D d)[k]? = some p → vT τ x (itp ρ' p)) (hf : fN D t c bx τ e 4 j hd ρ (itp ρ' (dTy D d))) : gN T D t c bx R (oDf D hp L lc e b j hd F v st cc dp d) := by
  have hx : D[d]? = some D[d] := List.getElem?_eq_getElem hd'
  by_cases e6 : lc + dWd D d ≤ 60000
  · refine ⟨0, _, ⟨hd', Or.inl ⟨e6, rfl, rfl⟩⟩, by omega, by omega, fun _ => ?_⟩
    have hw : dWd D d = D[d].2.2.2.2.2.2.1 := by unfold dWd; rw [hx]
    obtain ⟨p1, p2, p3, p4⟩ := pW_par G.1 d _ hx
    obtain ⟨q1, q2, q3⟩ := dPs_some hx
    have hm : mE (M, L, lc) (mDef D c M lc d ρ', lDef L lc (dWd D d) hd, lc + dWd D d) := by
      refine ⟨by show lc ≤ lc + dWd D d; omega, fun i hi => ?_, fun i y hi hy => ⟨y, ?_⟩⟩
      · have hi' : i < lc := hi
        show mDef D c M lc d ρ' i = M i
        unfold mDef; rw [if_neg (by omega)]
      · have hi' : i < lc := hi
        show lDef L lc (dWd D d) hd i = some y
        unfold lDef; rw [if_neg (by omega)]; exact hy
    have g2 : lT τ (mDef D c M lc d ρ', lDef L lc (dWd D d) hd, lc + dWd D d) := fun i y hy => by
      have hy' : lDef L lc (dWd D d) hd i = some y := hy
      show ∃ r, mDef D c M lc d ρ' i = some r ∧ _
      unfold lDef at hy'
      unfold mDef
      by_cases ei : lc ≤ i ∧ i < lc + dWd D d
      · rw [if_pos ei] at hy' ⊢
        have hk := (List.getElem?_eq_some_iff.mp hy').1
        have hpk : (dPs D d)[i - lc]? = some (dPs D d)[i - lc] := List.getElem?_eq_getElem (by omega)
        rw [(par_ty G hx hpk).1]
        exact ⟨_, rfl, hh _ _ _ hy' hpk⟩
      · rw [if_neg ei] at hy' ⊢; exact h2 i y hy'
    have gF := sTk_mono [] [] hm hF
    rw [List.append_nil, List.append_nil] at gF
    have hroot : c.1 (dRt D d) = some (dTy D d) := by
      have := G.2.2.2.2.1.2.1 d _ hd' hx
      unfold dRt dTy; rw [hx]; exact this
    have hna : nOK T D t c (mDef D c M lc d ρ', lDef L lc (dWd D d) hd, lc + dWd D d) (dRt D d) lc ρ' := by
      refine ⟨d, _, nS_root G hx, ⟨Nat.le_refl _, fun l hl' => ?_, fun l hl' => ?_⟩, h3, _, hroot⟩
      · show mDef D c M lc d ρ' (lc + l) = _
        unfold mDef; rw [if_pos (by omega), Nat.add_sub_cancel_left]
      · have hl'' : l < D[d].2.1.length := hl'
        have hlw : l < dWd D d := by omega
        refine ⟨hlw, ?_⟩
        show ∃ v, lDef L lc (dWd D d) hd (lc + l) = some v
        unfold lDef; rw [if_pos (by omega), Nat.add_sub_cancel_left]
        exact ⟨_, List.getElem?_eq_getElem (by omega)⟩
    refine w_part (hT_mono h1 hm) g2 e6 (nOK_mono hn hm) gF hna ?_
    rw [rt_n (rt_nsh G hx), tE_s hroot]; exact hf
  · exact ⟨4, _, ⟨hd', Or.inr ⟨by omega, rfl, rfl⟩⟩, by omega, by omega, fun h => by cases h⟩
theorem no_let {T : List Tok} {D : List Df} {t : Tr} {c : CS} (G : gX T D t c) {d : Nat} (hd : d < D.length) (h : (dPs D d).length = 0) : tyM (dTy D d) = 0 := by
  have hx : D[d]? = some D[d] := List.getElem?_eq_getElem hd
  obtain ⟨q1, q2, q3⟩ := dPs_some hx
  have hl := G.2.2.1 d _ hx
  have h0 : D[d].2.1 = [] := List.eq_nil_of_length_eq_zero (by omega)
  rw [h0] at hl
  rw [q2]
  apply Nat.eq_of_testBit_eq
  intro i
  rw [Nat.zero_testBit]
  cases hb : Nat.testBit (tyM D[d].2.2.1) i with
  | false => rfl
  | true =>
    have := hl i hb
    have hz : pmM [] = 0 := rfl
    rw [hz, Nat.zero_testBit] at this; cases this
theorem nS_34 {T : List Tok} {D : List Df} {t : Tr} {d : Nat} {S : Nat → Prop} {e : Nat} (h : nS T D t d S e) (hk : (t.2.1 e).1 = 3 ∨ (t.2.1 e).1 = 4) : (t.2.1 e).2.2.1 = -1 := by
  obtain ⟨x, hx, lo, h1, _⟩ := h
  exact (sC_out h1).2.1.2 hk
theorem nd_T3 {T : List Tok} {D : List Df} {t : Tr} {c : CS} {bx : Bool} {R : Ty} (G : gX T D t c) {τ : List Ty} {M : Nat → Option Ty} {lc : Nat} {hp : Hp} {L : Lo} {F : List Fr} {v : Va} {ρ : Nat → Ty} {e b q j st cc dp : Nat} {hd : List Va} {r : Ty} (h1 : hT T D t c τ (M, L, lc) hp.1) (h2 : lT τ (M, L, lc)) (h3 : lc ≤ 60000) (hn : nOK T D t c (M, L, lc) e b ρ) (hF : sTk T D t c bx τ (M, L, lc) hp.1 R F (rt c bx ρ e)) (hf : fN D t c bx τ e q j hd ρ r) (hv : q = 0 ∨ vT τ v r) (hk : (t.2.1 e).1 = 3 ∨ (t.2.1 e).1 = 4) : gN T D t c bx R (oNd D t c bx hp L lc e b q j hd F v st cc dp) := by
  obtain ⟨d, S, n1, n2, n3, s0, n4⟩ := id hn
  obtain ⟨x, hx, w, tk, b1, b2, b3⟩ := nS_W G n1
  obtain ⟨d', k1, k2, k3, k4, k5⟩ := tk.1 hk
  have e0 : (dPs D d').length = 0 := by
    by_cases e0 : (dPs D d').length = 0
    · exact e0
    · rw [(k5 e0).2] at n4; cases n4
  have hs := k4 e0
  have hm := no_let G k2 e0
  have hrt : rt c bx ρ e = itp ρ (dTy D d') := by rw [rt_16 G bx ρ (by omega), tE_s hs]
  have hkk : kk D c (t.2.1 e) e = 6 := by unfold kk; rw [k3]; show (if (t.2.1 e).1 = 16 then 17 else if (dPs D d').length = 0 then 6 else 5) = 6; rw [if_neg (by omega), if_pos e0]
  refine gN_or ?_ (fun r s' hh => Or.inr (Or.inr (Or.inr (Or.inr (Or.inr (Or.inr (Or.inr (Or.inl ⟨hk, hkk, nS_34 n1 hk, d', k3, k2, e0, hm, hh⟩))))))))
  rcases hf with ⟨rfl, rfl, rfl⟩ | ⟨hh, _⟩ | ⟨hh, _⟩ | ⟨hh, _⟩ | ⟨hh, _⟩ | ⟨_, rfl | rfl, hr⟩ | ⟨hh, _⟩
  · refine gN_or (df_T G (ρ' := ρ) h1 h2 h3 hn hF k2 (by rw [e0]; rfl) (fun k x p hx => by cases hx) ?_) (fun r s' hh => Or.inl ⟨rfl, rfl, hh⟩)
    exact Or.inr (Or.inr (Or.inr (Or.inr (Or.inr (Or.inl ⟨hk, Or.inl rfl, by rw [tE_s hs]⟩)))))
  · exfalso; omega
  · exfalso; omega
  · exfalso; omega
  · exfalso; omega
  · rcases hv with hv | hv
    · cases hv
    refine gN_or (P := fun r s' => r = 0 ∧ s' = (hp, L, lc, (some e, b, 1, j, hd) :: F, v, st, cc, dp, rM)) ⟨0, _, ⟨rfl, rfl⟩, by omega, by omega, fun _ => ?_⟩ (fun r s' hh => Or.inr (Or.inl ⟨rfl, hh⟩))
    refine w_fin (r := r) h1 h2 h3 ⟨_, ⟨ρ, hn, rfl, ?_⟩, hF⟩ hv
    exact Or.inr (Or.inr (Or.inr (Or.inr (Or.inr (Or.inl ⟨hk, Or.inr rfl, hr⟩)))))
  · rcases hv with hv | hv
    · cases hv
    rw [hr, tE_s hs] at hv
    rw [hrt] at hF
    exact gN_or (g_fin (w_fin h1 h2 h3 hF hv)) (fun r s' hh => Or.inr (Or.inr ⟨rfl, hh⟩))
  · exfalso; omega
theorem pw_in2 {l : List Nat} (h : l.Pairwise (· < ·)) {i j a : Nat} (hi : l[i]? = some a) (hj : l[j]? = some a) : i = j := by
  obtain ⟨i1, i2⟩ := List.getElem?_eq_some_iff.mp hi
  obtain ⟨j1, j2⟩ := List.getElem?_eq_some_iff.mp hj
  rw [List.pairwise_iff_getElem] at h
  rcases Nat.lt_trichotomy i j with hlt | heq | hgt
  · have := h i j i1 j1 hlt; omega
  · exact heq
  · have := h j i j1 i1 hgt; omega
theorem at_nsh {T : List Tok} {D : List Df} {t : Tr} {c : CS} (G : gX T D t c) {d : Nat} {S : Nat → Prop} {e : Nat} (h : nS T D t d S e) (h16 : (t.2.1 e).1 = 16) {j a : Nat} (ha : (t.2.1 e).2.2.2.2.2.2[j]? = some a) (hj : ∀ d', c.2.1 e = some d' → (dPs D d').length ≤ j) : c.2.2.2 a = false := by
  cases hs : c.2.2.2 a with
  | false => rfl
  | true =>
    obtain ⟨_, d', i, p, k1, k2, k3, _⟩ := sh_only G h (by rw [pts_row h16]; exact List.mem_cons_of_mem _ (List.mem_of_getElem? ha)) hs
    obtain ⟨x, hx, w, _⟩ := nS_W G h
    have hp := (w.2.2.2.2.2.2.2.2.2.2 h16).2.1
    rw [row_c h16, List.pairwise_cons] at hp
    have := pw_in2 hp.2 k3 ha
    have := hj d' k1
    have := (List.getElem?_eq_some_iff.mp k2).1
    omega
theorem apF_s {ty : Nat → Option Ty} {X r : Ty} {a : Nat} {l : List Nat} (h : apF ty X (a :: l) = some r) : ∃ s B, X = .mul s B ∧ ty a = some s ∧ apF ty B l = some r := by
  cases X with
  | num k => cases h
  | var k => cases h
  | add A B => cases h
  | mul A B =>
    unfold apF at h
    cases e : ty a with
    | none => rw [e] at h; cases h
    | some s =>
      rw [e] at h
      have h' : (if tyQ A s = true then apF ty B l else none) = some r := h
      by_cases e2 : tyQ A s = true
      · rw [if_pos e2] at h'; exact ⟨s, B, by rw [tyQ_imp e2], rfl, h'⟩
      · rw [if_neg e2] at h'; cases h'
theorem apF_n (ty : Nat → Option Ty) (s : Ty) : apF ty s [] = some s := by cases s <;> rfl
theorem drop_s {l : List Nat} {j a : Nat} (h : l[j]? = some a) : l.drop j = a :: l.drop (j + 1) := by
  obtain ⟨h1, h2⟩ := List.getElem?_eq_some_iff.mp h
  rw [List.drop_eq_getElem_cons h1, h2]
theorem fC_next {D : List Df} {t : Tr} {c : CS} {bx : Bool} {τ : List Ty} {e j : Nat} {hd : List Va} {ρ : Nat → Ty} {X : Ty} (hj : j ≤ (t.2.1 e).2.2.2.2.2.2.length) (hs : c.2.2.2 e = false) (hd' : ∀ d, c.2.1 e = some d → (dPs D d).length ≤ j) (ha : apF c.1 X ((t.2.1 e).2.2.2.2.2.2.drop j) = some (tE c e)) : fC D t c bx τ e 1 j hd ρ (itp ρ X) := by
  refine Or.inl ⟨rfl, ?_⟩
  by_cases ej : j = (t.2.1 e).2.2.2.2.2.2.length
  · refine Or.inl ⟨ej, ?_⟩
    rw [List.drop_of_length_le (by omega)] at ha
    rw [apF_n] at ha
    cases ha
    exact (rt_n hs).symm
  · exact Or.inr ⟨by omega, hs, hd', X, rfl, ha⟩
theorem cal_ok {T : List Tok} {D : List Df} {t : Tr} {c : CS} (G : gX T D t c) {dd : Nat} {S : Nat → Prop} {e d : Nat} (h : nS T D t dd S e) (h16 : (t.2.1 e).1 = 16) (hd : c.2.1 e = some d) : d < D.length ∧ 0 < (dPs D d).length ∧ (dPs D d).length ≤ (t.2.1 e).2.2.2.2.2.2.length ∧ (∀ (i : Nat) (p : Ty), (dPs D d)[i]? = some p → ∃ a s, (t.2.1 e).2.2.2.2.2.2[i]? = some a ∧ c.1 a = some s ∧ sbt (c.2.2.1 e) p = some s ∧ aOK t c (e : Int) p) ∧ aOK t c (e : Int) (dTy D d) ∧ ∃ s, sbt (c.2.2.1 e) (dTy D d) = some s ∧ apF c.1 s ((t.2.1 e).2.2.2.2.2.2.drop (dPs D d).length) = some (tE c e) := by
  obtain ⟨x, hx, w, tk, b1, b2, b3⟩ := nS_W G h
  obtain ⟨r, r1, r2, ok⟩ := tk.2.2 h16
  have hdl := G.2.2.2.1.1 e d hd
  have hdx : D[d]? = some D[d] := List.getElem?_eq_getElem hdl
  cases hc : calD D t c (t.2.1 e).2.2.1.toNat with
  | none => rw [hc] at ok; rw [hd] at ok; cases ok.1
  | some d' =>
    rw [hc] at ok
    obtain ⟨o1, o2, o3, s, o4, o5⟩ := ok
    rw [hd] at o1; cases o1
    have hpos : 0 < (dPs D d).length := by
      unfold calD at hc
      by_cases e4 : (t.2.1 (t.2.1 e).2.2.1.toNat).1 = 4
      · rw [if_pos e4] at hc
        cases hh : c.2.1 (t.2.1 e).2.2.1.toNat with
        | none => rw [hh] at hc; cases hc
        | some d'' =>
          rw [hh] at hc
          have hc' : (if (dPs D d'').length = 0 then none else some d'') = some d := hc
          by_cases e0 : (dPs D d'').length = 0
          · rw [if_pos e0] at hc'; cases hc'
          · rw [if_neg e0] at hc'; cases hc'; omega
      · rw [if_neg e4] at hc; cases hc
    have hpg : ∀ p ∈ dPs D d, tyG p := fun p hp => by
      obtain ⟨i, hi⟩ := List.mem_iff_getElem?.mp hp
      exact (par_ty G hdx hi).2.1
    have hran : ∀ k r, c.2.2.1 e k = some r → tyL r ≤ 200 ∧ tyG r := by
      refine fits_ran (fun s => tyL s ≤ 200 ∧ tyG s) (fun a b hh => ?_) (fun a b hh => ?_) _ _ _ _ (fun a ha s hs => ?_) (fun k r hk => by cases hk) o3
      · have : tyL a + tyL b ≤ 200 := hh.1
        exact ⟨⟨by omega, hh.2.1⟩, ⟨by omega, hh.2.2⟩⟩
      · have : tyL a + tyL b ≤ 200 := hh.1
        exact ⟨⟨by omega, hh.2.1⟩, ⟨by omega, hh.2.2⟩⟩
      · exact ⟨ty_200 G (nS_kid h (pt_16 S h16 (List.mem_cons_of_mem _ ha))) hs, G.2.2.2.2.2.1 a s hs⟩
    refine ⟨hdl, hpos, o2, fun i p hp => ?_, ⟨?_, Or.inr ⟨e, rfl, b3, ?_, hran, s, o4⟩⟩, s, o4, by rw [tE_s r1]; exact o5⟩
    · obtain ⟨a, s', s1, s2, s3⟩ := fits_sbt _ _ _ _ hpg o3 i p hp
      exact ⟨a, s', s1, s2, s3, (par_ty G hdx hp).2.1, Or.inr ⟨e, rfl, b3, (par_ty G hdx hp).2.2, hran, s', s3⟩⟩
    · rw [(dPs_some hdx).2.1]; exact (G.2.2.2.2.2.2 d _ hdx).1
    · rw [(dPs_some hdx).2.1]; exact (pW_par G.1 d _ hdx).2.2.2
theorem arg_T {T : List Tok} {D : List Df} {t : Tr} {c : CS} (bx : Bool) (G : gX T D t c) {dd : Nat} {S : Nat → Prop} {e d : Nat} (h : nS T D t dd S e) (h16 : (t.2.1 e).1 = 16) (hd : c.2.1 e = some d) {E : Ev} {ρ : Nat → Ty} {τ : List Ty} {hp : Hp} {v : Va} {i a : Nat} {p : Ty} (hp' : (dPs D d)[i]? = some p) (ha : (t.2.1 e).2.2.2.2.2.2[i]? = some a) (hh : hT T D t c τ E hp.1) (hv : vT τ v (rt c bx ρ a)) : hG T D t c E τ hp (itp (cEn c bx ρ e) p) (adX bx (c.2.2.2 a) true (c.2.2.1 e) e p v hp) := by
  obtain ⟨k1, k2, k3, k4, _⟩ := cal_ok G h h16 hd
  obtain ⟨a', s, s1, s2, s3, hg, hs4⟩ := k4 i p hp'
  rw [ha] at s1; cases s1
  obtain ⟨hs4, _⟩ | ⟨e', e1, e2, e3, e4, e5⟩ := hs4
  · omega
  have : e' = e := by omega
  subst this
  unfold adX
  cases bx with
  | true =>
    cases hs : c.2.2.2 a with
    | false =>
      rw [if_pos ⟨rfl, rfl⟩]
      rw [rt_n hs, tE_s s2] at hv
      have := ad_T (T := T) (D := D) (E := E) ρ true e2 e4 p v hp τ hg e3 e5 hh (by
        rw [sdA_e]
        rw [itp_sbt (c := c) (e := e') (p := p) (s := s) ρ s3] at hv
        exact hv)
      rw [sdA_e] at this; exact this
    | true =>
      rw [if_neg (by rintro ⟨_, h⟩; cases h)]
      obtain ⟨_, d', i', p', q1, q2, q3, q4, _⟩ := sh_only G h (by rw [pts_row h16]; exact List.mem_cons_of_mem _ (List.mem_of_getElem? ha)) hs
      rw [hd] at q1; cases q1
      obtain ⟨x, hx, w, _⟩ := nS_W G h
      have hpw := (w.2.2.2.2.2.2.2.2.2.2 h16).2.1
      rw [row_c h16, List.pairwise_cons] at hpw
      have hi := pw_in2 hpw.2 q3 ha
      subst hi
      rw [q2] at hp'; cases hp'
      refine hG_id hp.2 hh ?_
      have hv' : vT τ v (bxp ρ (tE c a)) := by
        unfold rt at hv; rw [if_pos ⟨rfl, hs⟩] at hv; exact hv
      cases p with
      | num k =>
        have hk : ¬ (k < 2) := by
          have q4' : Nat.ble 2 k = true := q4
          rw [Nat.ble_eq] at q4'; omega
        unfold sbt at s3
        rw [if_neg hk] at s3
        show vT τ v (if k < 2 then .num k else cEn c true ρ e' (k - 2))
        rw [if_neg hk]
        have : cEn c true ρ e' (k - 2) = bxp ρ (tE c a) := by
          unfold cEn fo; rw [if_pos rfl, s3, tE_s s2]
        rw [this]; exact hv'
      | var k => cases q4
      | add A B => cases q4
      | mul A B => cases q4
  | false =>
    rw [if_neg (by rintro ⟨h, _⟩; cases h)]
    refine hG_id hp.2 hh ?_
    have hv' : vT τ v (itp ρ s) := by
      unfold rt at hv; rw [if_neg (by rintro ⟨h, _⟩; cases h), tE_s s2] at hv; exact hv
    have : itp (cEn c false ρ e') p = itp ρ s := by
      have : cEn c false ρ e' = fun k => itp ρ (fo c e' k) := by
        funext k; unfold cEn; rw [if_neg (by decide)]
      rw [this, ← itp_sbt ρ s3]
    rw [this]; exact hv'
theorem res_T {T : List Tok} {D : List Df} {t : Tr} {c : CS} (bx : Bool) (G : gX T D t c) {dd : Nat} {S : Nat → Prop} {e d : Nat} (h : nS T D t dd S e) (h16 : (t.2.1 e).1 = 16) (hd : c.2.1 e = some d) {E : Ev} {ρ : Nat → Ty} {τ : List Ty} {hp : Hp} {v : Va} (hh : hT T D t c τ E hp.1) (hv : vT τ v (itp (cEn c bx ρ e) (dTy D d))) : ∃ r, hG T D t c E τ hp r (adX bx (c.2.2.2 e) false (c.2.2.1 e) e (dTy D d) v hp) ∧ ∀ τ' hd, fC D t c bx τ' e 1 (dPs D d).length hd ρ r := by
  obtain ⟨k1, k2, k3, _, ⟨hg, hs4⟩, s, s3, s4⟩ := cal_ok G h h16 hd
  obtain ⟨hs4, _⟩ | ⟨e', e1, e2, e3, e4, e5⟩ := hs4
  · omega
  have : e' = e := by omega
  subst this
  have hsh : c.2.2.2 e' = true → (t.2.1 e').2.2.2.2.2.2.length = (dPs D d).length ∧ isL (dTy D d) = true := fun hs => by
    obtain ⟨_, _, _, _, _, _, _, _, _, _, q, _⟩ := G.2.2.2.2.1.2.2.1 _ hs
    unfold aLt at q
    rw [if_pos h16, hd] at q
    have q' : (Nat.beq (t.2.1 e').2.2.2.2.2.2.length (dPs D d).length && isL (dTy D d)) = true := q
    rw [Bool.and_eq_true, Nat.beq_eq] at q'; exact q'
  have hfin : c.2.2.2 e' = false → ∀ τ' hd, fC D t c bx τ' e' 1 (dPs D d).length hd ρ (itp ρ s) := fun hs τ' hd' => fC_next k3 hs (fun d' hd'' => by rw [hd] at hd''; cases hd''; exact Nat.le_refl _) s4
  have hst : c.2.2.2 e' = true → s = tE c e' := fun hs => by
    rw [List.drop_of_length_le (by rw [(hsh hs).1]; exact Nat.le_refl _)] at s4
    rw [apF_n] at s4
    cases s4; rfl
  unfold adX
  cases bx with
  | true =>
    cases hs : c.2.2.2 e' with
    | false =>
      rw [if_pos ⟨rfl, rfl⟩]
      refine ⟨itp ρ s, ?_, hfin hs⟩
      have := ad_T (T := T) (D := D) (E := E) ρ false e2 e4 (dTy D d) v hp τ hg e3 e5 hh (by rw [sdA_e]; exact hv)
      rw [sdA_e] at this
      rw [itp_sbt (c := c) (e := e') (p := dTy D d) (s := s) ρ s3]; exact this
    | true =>
      rw [if_neg (by rintro ⟨_, h⟩; cases h)]
      refine ⟨_, hG_id hp.2 hh hv, fun τ' hd' => Or.inl ⟨rfl, Or.inl ⟨(hsh hs).1.symm, ?_⟩⟩⟩
      have hl := (hsh hs).2
      have hst' := hst hs
      unfold rt; rw [if_pos ⟨rfl, hs⟩]
      cases hp' : dTy D d with
      | num k =>
        rw [hp'] at hl s3
        have hk : ¬ (k < 2) := by
          have q4' : Nat.ble 2 k = true := hl
          rw [Nat.ble_eq] at q4'; omega
        unfold sbt at s3
        rw [if_neg hk] at s3
        show (if k < 2 then .num k else cEn c true ρ e' (k - 2)) = _
        rw [if_neg hk]
        unfold cEn fo; rw [if_pos rfl, s3, hst']
      | var k => rw [hp'] at hl; cases hl
      | add A B => rw [hp'] at hl; cases hl
      | mul A B => rw [hp'] at hl; cases hl
  | false =>
    rw [if_neg (by rintro ⟨h, _⟩; cases h)]
    have he : itp (cEn c false ρ e') (dTy D d) = itp ρ s := by
      have : cEn c false ρ e' = fun k => itp ρ (fo c e' k) := by
        funext k; unfold cEn; rw [if_neg (by decide)]
      rw [this, ← itp_sbt ρ s3]
    refine ⟨itp ρ s, hG_id hp.2 hh (by rw [← he]; exact hv), ?_⟩
    cases hs : c.2.2.2 e' with
    | false => exact hfin hs
    | true =>
      refine fun τ' hd' => Or.inl ⟨rfl, Or.inl ⟨(hsh hs).1.symm, ?_⟩⟩
      unfold rt; rw [if_neg (by rintro ⟨h, _⟩; cases h), hst hs]
