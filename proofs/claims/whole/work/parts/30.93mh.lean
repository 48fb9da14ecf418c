set_option maxRecDepth 100000
theorem nd_T16 {T : List Tok} {D : List Df} {t : Tr} {c : CS} {bx : Bool} {R : Ty} (G : gX T D t c) {τ : List Ty} {M : Nat → Option Ty} {lc : Nat} {hp : Hp} {L : Lo} {F : List Fr} {v : Va} {ρ : Nat → Ty} {e b q j st cc dp : Nat} {hd : List Va} {r : Ty} (h1 : hT T D t c τ (M, L, lc) hp.1) (h2 : lT τ (M, L, lc)) (h3 : lc ≤ 60000) (hn : nOK T D t c (M, L, lc) e b ρ) (hF : sTk T D t c bx τ (M, L, lc) hp.1 R F (rt c bx ρ e)) (hf : fN D t c bx τ e q j hd ρ r) (hv : q = 0 ∨ vT τ v r) (hk : (t.2.1 e).1 = 16) : gN T D t c bx R (oNd D t c bx hp L lc e b q j hd F v st cc dp) := by
  obtain ⟨d, S, n1, n2, n3, s0, n4⟩ := id hn
  obtain ⟨x, hx, w, tk, b1, b2, b3⟩ := nS_W G n1
  have hnC := w.2.2.2.2.2.2.2.2.2.2 hk
  have hkk : kk D c (t.2.1 e) e = (if c.2.1 e = none then 16 else 17) := by
    unfold kk
    cases hc : c.2.1 e with
    | none => rw [if_pos rfl]; exact hk
    | some d' => rw [if_neg (by intro hh; cases hh)]; show (if (t.2.1 e).1 = 16 then 17 else _) = 17; rw [if_pos hk]
  refine gN_or ?_ (fun r s' hh => Or.inr (Or.inr (Or.inr (Or.inr (Or.inr (Or.inr (Or.inr (Or.inr ⟨hk, hkk, hh⟩))))))))
  have hat : ∀ (i a : Nat), (t.2.1 e).2.2.2.2.2.2[i]? = some a → nOK T D t c (M, L, lc) a b ρ ∧ a < t.1 := fun i a ha => by
    have hm : a ∈ (t.2.1 e).2.2.1.toNat :: (t.2.1 e).2.2.2.2.2.2 := List.mem_cons_of_mem _ (List.mem_of_getElem? ha)
    have hk' := nS_kid n1 (pt_16 S hk hm)
    exact ⟨kid_ok hn (fun S => pt_16 S hk hm) (has_ty G hk' (hnC.2.2.2.1 a (List.mem_of_getElem? ha))), (nS_lt G hk').2.2.1⟩
  have fr16 : ∀ {τ' : List Ty} {q j : Nat} {hd : List Va} {r : Ty}, fC D t c bx τ' e q j hd ρ r → fN D t c bx τ' e q j hd ρ r := fun h => Or.inr (Or.inr (Or.inr (Or.inr (Or.inr (Or.inr ⟨hk, h⟩)))))
  rcases hf with ⟨rfl, rfl, rfl⟩ | ⟨hh, _⟩ | ⟨hh, _⟩ | ⟨hh, _⟩ | ⟨hh, _⟩ | ⟨hh, _⟩ | ⟨_, hf⟩
  · cases hc : c.2.1 e with
    | none =>
      obtain ⟨r', r1, r2, ok⟩ := tk.2.2 hk
      cases hcd : calD D t c (t.2.1 e).2.2.1.toNat with
      | some d' => rw [hcd] at ok; rw [hc] at ok; cases ok.1
      | none =>
        rw [hcd] at ok
        obtain ⟨_, s, o1, o2⟩ := ok
        have hm : (t.2.1 e).2.2.1.toNat ∈ (t.2.1 e).2.2.1.toNat :: (t.2.1 e).2.2.2.2.2.2 := List.mem_cons_self
        have hns : c.2.2.2 (t.2.1 e).2.2.1.toNat = false := by
          cases hs : c.2.2.2 (t.2.1 e).2.2.1.toNat with
          | false => rfl
          | true =>
            obtain ⟨_, d', i, p, q1, _⟩ := sh_only G n1 (by rw [pts_row hk]; exact hm) hs
            rw [hc] at q1; cases q1
        have hne : c.2.2.2 e = false := by
          cases hs : c.2.2.2 e with
          | false => rfl
          | true =>
            obtain ⟨_, _, _, _, _, _, _, _, _, _, q, _⟩ := G.2.2.2.2.1.2.2.1 _ hs
            unfold aLt at q
            rw [if_pos hk, hc] at q; cases q
        have hh : 0 ≤ (t.2.1 e).2.2.1 := hnC.1
        refine gN_or (g_pt (a := (t.2.1 e).2.2.1.toNat) (by omega) (nS_lt G (nS_kid n1 (pt_16 S hk hm))).2.2.1 (w_part h1 h2 h3 hn hF (kid_ok hn (fun S => pt_16 S hk hm) ⟨s, o1⟩) (fr16 ?_))) (fun r s' hh => Or.inl ⟨rfl, rfl, rfl, hc, hh⟩)
        rw [rt_n hns, tE_s o1]
        exact fC_next (Nat.zero_le _) hne (fun d' hd' => by rw [hc] at hd'; cases hd') (by rw [List.drop_zero, tE_s r1]; exact o2)
    | some d' =>
      obtain ⟨k1, k2, k3, k4, _⟩ := cal_ok G n1 hk hc
      have ha : (t.2.1 e).2.2.2.2.2.2[0]? = some (t.2.1 e).2.2.2.2.2.2[0] := List.getElem?_eq_getElem (by omega)
      obtain ⟨a1, a2⟩ := hat 0 _ ha
      refine gN_or (g_pt (a := (t.2.1 e).2.2.2.2.2.2[0]) (x := ((t.2.1 e).2.2.2.2.2.2[0] : Nat)) rfl a2 (w_part h1 h2 h3 hn hF a1 (fr16 ?_))) (fun r s' hh => Or.inr (Or.inl ⟨rfl, rfl, rfl, ⟨d', hc, k1, k2⟩, _, ha, hh⟩))
      exact Or.inr (Or.inr (Or.inl ⟨rfl, rfl, d', _, hc, k2, ha, rfl, fun k x p hx => by cases hx⟩))
  · exfalso; omega
  · exfalso; omega
  · exfalso; omega
  · exfalso; omega
  · exfalso; omega
  · rcases hf with ⟨rfl, hf⟩ | ⟨rfl, f1, f2, f3, f4, f, X, s, rfl, f5, f6, f7⟩ | ⟨rfl, f1, d', a, f2, f3, f4, f5, f6⟩ | ⟨rfl, d', f1, f2, f3⟩
    · rcases hv with hv | hv
      · cases hv
      rcases hf with ⟨f1, f2⟩ | ⟨f1, f2, f3, X, f4, f5⟩
      · rw [f2] at hv
        exact gN_or (g_fin (w_fin h1 h2 h3 hF hv)) (fun r s' hh => Or.inr (Or.inr (Or.inl ⟨rfl, f1.symm, hh⟩)))
      · have ha : (t.2.1 e).2.2.2.2.2.2[j]? = some (t.2.1 e).2.2.2.2.2.2[j] := List.getElem?_eq_getElem f1
        rw [drop_s ha] at f5
        obtain ⟨s, B, rfl, s1, s2⟩ := apF_s f5
        obtain ⟨a1, a2⟩ := hat j _ ha
        rw [f4] at hv
        refine gN_or (g_pt (a := (t.2.1 e).2.2.2.2.2.2[j]) (x := ((t.2.1 e).2.2.2.2.2.2[j] : Nat)) rfl a2 (w_part h1 h2 h3 hn hF a1 (fr16 ?_))) (fun r s' hh => Or.inr (Or.inr (Or.inr (Or.inl ⟨rfl, _, ha, hh⟩))))
        refine Or.inr (Or.inl ⟨rfl, by omega, by omega, f2, fun d' hd' => by have := f3 d' hd'; omega, v, B, s, rfl, hv, ?_, s2⟩)
        rw [rt_n (at_nsh G n1 hk ha f3), tE_s s1]
    · rcases hv with hv | hv
      · cases hv
      rw [f6] at hv
      refine gN_or (P := fun r s' => r = 0 ∧ s' = (hp, L, lc, (some e, b, 1, j, [f]) :: F, v, st, cc, dp, (1, 0, 0, f))) ⟨0, _, ⟨rfl, rfl⟩, by omega, by omega, fun _ => ?_⟩ (fun r s' hh => Or.inr (Or.inr (Or.inr (Or.inr (Or.inl ⟨rfl, f1, f2, f, rfl, hh⟩)))))
      exact ⟨τ, M, h1, h2, h3, Or.inr (Or.inl ⟨f, _, _, rfl, f5, hv, _, ⟨ρ, hn, rfl, fr16 (fC_next f2 f3 f4 f7)⟩, hF⟩)⟩
    · rcases hv with hv | hv
      · cases hv
      rw [f5] at hv
      obtain ⟨k1, k2, k3, k4, _⟩ := cal_ok G n1 hk f2
      have hp' : (dPs D d')[hd.length]? = some (dPs D d')[hd.length] := List.getElem?_eq_getElem f3
      obtain ⟨y, h', σ, g1, ⟨Z, g2⟩, g3, g4⟩ := arg_T bx G n1 hk f2 hp' f4 h1 hv
      obtain ⟨_, _, m1, m2, m3, m4⟩ := k4 _ _ hp'
      obtain ⟨a1, a2⟩ := hat _ a f4
      have gF := sTk_mono σ Z (mE_r _) hF
      rw [← g2] at gF
      refine gN_or (P := fun r s' => ((y = none ∧ r = 4 ∧ s' = (h', L, lc, (some e, b, 3, j, hd) :: F, v, st, cc, dp, rM)) ∨
        (∃ x, y = some x ∧ hd.length + 1 < (dPs D d').length ∧ ∃ a' : Nat, (t.2.1 e).2.2.2.2.2.2[hd.length + 1]? = some a' ∧ oPt t h' L lc e b 3 (j + 1) (hd ++ [x]) F x st cc dp a' r s') ∨
        (∃ x, y = some x ∧ hd.length + 1 = (dPs D d').length ∧ oDf D h' L lc e b j (hd ++ [x]) F x st cc dp d' r s'))) ?_ (fun r s' hh => Or.inr (Or.inr (Or.inr (Or.inr (Or.inr (Or.inl ⟨rfl, f1, d', a, _, y, h', f2, k1, f4, a2, hp', m4, g1, hh⟩))))))
      cases y with
      | none => exact ⟨4, _, Or.inl ⟨rfl, rfl, rfl⟩, by omega, by omega, fun h => by cases h⟩
      | some y =>
        have hy := g4 y rfl
        have hall : ∀ (k : Nat) (x : Va) (p : Ty), (hd ++ [y])[k]? = some x → (dPs D d')[k]? = some p → vT (τ ++ σ) x (itp (cEn c bx ρ e) p) := fun k x p hx hp => by
          by_cases ek : k < hd.length
          · rw [List.getElem?_append_left ek] at hx; exact vT_app (f6 k x p hx hp) σ
          · rw [List.getElem?_append_right (by omega)] at hx
            have k0 : k - hd.length = 0 := by
              have := (List.getElem?_eq_some_iff.mp hx).1
              rw [List.length_singleton] at this; omega
            rw [k0] at hx; cases hx
            have : k = hd.length := by omega
            subst this
            rw [hp'] at hp; cases hp; exact hy
        by_cases el : hd.length + 1 < (dPs D d').length
        · have ha : (t.2.1 e).2.2.2.2.2.2[hd.length + 1]? = some (t.2.1 e).2.2.2.2.2.2[hd.length + 1] := List.getElem?_eq_getElem (by omega)
          obtain ⟨a1', a2'⟩ := hat _ _ ha
          refine gN_or (g_pt (a := (t.2.1 e).2.2.2.2.2.2[hd.length + 1]) (x := ((t.2.1 e).2.2.2.2.2.2[hd.length + 1] : Nat)) rfl a2' (w_part (τ := τ ++ σ) g3 (lT_app h2 σ) h3 hn gF a1' (fr16 ?_))) (fun r s' hh => Or.inr (Or.inl ⟨y, rfl, el, _, ha, hh⟩))
          refine Or.inr (Or.inr (Or.inl ⟨rfl, by rw [List.length_append]; show j + 1 = hd.length + 1 + 1; omega, d', _, f2, by rw [List.length_append]; exact el, ?_, rfl, hall⟩))
          rw [List.length_append]; exact ha
        · have el' : hd.length + 1 = (dPs D d').length := by omega
          refine gN_or (df_T G (τ := τ ++ σ) (ρ' := cEn c bx ρ e) g3 (lT_app h2 σ) h3 hn gF k1 (by rw [List.length_append]; exact el') hall (fr16 ?_)) (fun r s' hh => Or.inr (Or.inr ⟨y, rfl, el', hh⟩))
          exact Or.inr (Or.inr (Or.inr ⟨rfl, d', f2, by omega, rfl⟩))
    · rcases hv with hv | hv
      · cases hv
      rw [f3] at hv
      obtain ⟨k1, k2, k3, _, k5, _⟩ := cal_ok G n1 hk f1
      obtain ⟨rr, ⟨y, h', σ, g1, ⟨Z, g2⟩, g3, g4⟩, hfc⟩ := res_T bx G n1 hk f1 h1 hv
      have gF := sTk_mono σ Z (mE_r _) hF
      rw [← g2] at gF
      refine gN_or (P := fun r s' => ((y = none ∧ r = 4 ∧ s' = (h', L, lc, (some e, b, 4, j, hd) :: F, v, st, cc, dp, rM)) ∨
        (∃ x, y = some x ∧ r = 0 ∧ s' = (h', L, lc, (some e, b, 1, j, hd) :: F, x, st, cc, dp, rM)))) ?_ (fun r s' hh => Or.inr (Or.inr (Or.inr (Or.inr (Or.inr (Or.inr ⟨rfl, d', y, h', f1, k1, f2, by omega, k5, g1, hh⟩))))))
      cases y with
      | none => exact ⟨4, _, Or.inl ⟨rfl, rfl, rfl⟩, by omega, by omega, fun h => by cases h⟩
      | some y =>
        refine ⟨0, _, Or.inr ⟨y, rfl, rfl, rfl⟩, by omega, by omega, fun _ => ?_⟩
        refine w_fin (r := rr) g3 (lT_app h2 σ) h3 ⟨_, ⟨ρ, hn, rfl, fr16 ?_⟩, gF⟩ (g4 y rfl)
        rw [f2]; exact hfc _ _
theorem nd_T {T : List Tok} {D : List Df} {t : Tr} {c : CS} {bx : Bool} {R : Ty} (G : gX T D t c) {τ : List Ty} {M : Nat → Option Ty} {lc : Nat} {hp : Hp} {L : Lo} {F : List Fr} {v : Va} {ρ : Nat → Ty} {e b q j st cc dp : Nat} {hd : List Va} {r : Ty} (h1 : hT T D t c τ (M, L, lc) hp.1) (h2 : lT τ (M, L, lc)) (h3 : lc ≤ 60000) (hn : nOK T D t c (M, L, lc) e b ρ) (hF : sTk T D t c bx τ (M, L, lc) hp.1 R F (rt c bx ρ e)) (hf : fN D t c bx τ e q j hd ρ r) (hv : q = 0 ∨ vT τ v r) : gN T D t c bx R (oNd D t c bx hp L lc e b q j hd F v st cc dp) := by
  obtain ⟨d, S, n1, _⟩ := id hn
  obtain ⟨x, hx, w, _⟩ := nS_W G n1
  obtain ⟨k1, k2, k3⟩ := w.2.1
  have k1' : (t.2.1 e).1 ≤ 16 := k1
  have k2' : (t.2.1 e).1 ≠ 5 := k2
  have k3' : (t.2.1 e).1 ≠ 6 := k3
  by_cases c1 : (t.2.1 e).1 ≤ 2 ∨ (t.2.1 e).1 = 9
  · exact nd_T1 G h1 h2 h3 hn hF c1
  by_cases c2 : (t.2.1 e).1 = 3 ∨ (t.2.1 e).1 = 4
  · exact nd_T3 G h1 h2 h3 hn hF hf hv c2
  by_cases c3 : (t.2.1 e).1 = 7
  · exact nd_T7 G h1 h2 h3 hn hF hf hv c3
  by_cases c4 : (t.2.1 e).1 = 8
  · exact nd_T8 G h1 h2 h3 hn hF hf hv c4
  by_cases c5 : (t.2.1 e).1 = 14 ∨ (t.2.1 e).1 = 15
  · exact nd_T14 G h1 h2 h3 hn hF hf hv c5
  by_cases c6 : 10 ≤ (t.2.1 e).1 ∧ (t.2.1 e).1 ≤ 13
  · exact nd_T10 G h1 h2 h3 hn hF hf hv c6
  exact nd_T16 G h1 h2 h3 hn hF hf hv (by omega)
def mFn (M : Nat → Option Ty) (lc w b : Nat) : Nat → Option Ty := fun i => if lc ≤ i ∧ i < lc + w then M (b + (i - lc)) else M i
theorem ap_T {T : List Tok} {D : List Df} {t : Tr} {c : CS} {bx : Bool} {R : Ty} (G : gX T D t c) {τ : List Ty} {M : Nat → Option Ty} {lc : Nat} {hp : Hp} {L : Lo} {F : List Fr} {v f : Va} {st cc dp : Nat} {a r : Ty} (h1 : hT T D t c τ (M, L, lc) hp.1) (h2 : lT τ (M, L, lc)) (h3 : lc ≤ 60000) (hf : vT τ f (.mul a r)) (hv : vT τ v a) (hF : sTk T D t c bx τ (M, L, lc) hp.1 R F r) : gN T D t c bx R (oApp D t hp L lc F v st cc dp f) := by
  obtain ⟨i, it, i1, i2, i3, i4, i5⟩ := vT_it h1 hf (by show ¬ (3 < 2); omega)
  rcases i5 with ⟨k0, e, b, d, ρ, S, k1, k2, k3, k4, k5, ⟨s, k6, k7⟩, k8⟩ | ⟨bo, ρ, A, B, k1, k2, k3, k4, k5⟩
  · obtain ⟨x, hx, w, _, b1, b2, b3⟩ := nS_W G k3
    obtain ⟨g1, g2, g3, g4⟩ := nS_lt G k3
    obtain ⟨w1, l, w2, w3, w4, _⟩ := w.2.2.2.2.2.2.1 k4
    have w1' : (t.2.1 e).2.2.2.2.2.1 = je (d : Nat) := w1
    have w2' : (t.2.1 e).2.2.2.2.1 = (l : Int) := w2
    have w3' : l < x.2.2.2.2.2.2.1 := w3
    have hw : dWd D d = x.2.2.2.2.2.2.1 := by unfold dWd; rw [hx]
    obtain ⟨a0, a1, a2, a3, a4, a5⟩ := nW_1 w (by omega) (by omega)
    have a1' : (t.2.1 e).2.2.1 = (a0 : Int) := a1
    have p9 := pt_9 (x := t.2.1 e) S k4
    have hkid := nS_kid k3 p9
    have hlt := (nS_lt G hkid).2.2.1
    have htn : (t.2.1 e).2.2.1.toNat = a0 := by rw [a1']; rfl
    rw [htn] at hkid hlt k8 p9
    have kb : b + dWd D d ≤ lc := k5.1
    refine gN_or (P := fun r s' => (lc + dWd D d ≤ 60000 ∧ r = 0 ∧ s' = (hp, lFn L lc (dWd D d) b l v, lc + dWd D d, F, v, st, cc, dp, (0, a0, lc, v0))) ∨ (60000 < lc + dWd D d ∧ r = 4 ∧ s' = (hp, L, lc, F, v, st, cc, dp, rM))) ?_ (fun r s' hh => ⟨i, it, i1, i3, Or.inl ⟨k0, e, b, d, l, a0, k1, k2, g3, k4, w1', g4, g1, g2, w2', by omega, kb, a1', hlt, ⟨it, i3⟩, hh⟩⟩)
    by_cases e6 : lc + dWd D d ≤ 60000
    · refine ⟨0, _, Or.inl ⟨e6, rfl, rfl⟩, by omega, by omega, fun _ => ?_⟩
      have hm : mE (M, L, lc) (mFn M lc (dWd D d) b, lFn L lc (dWd D d) b l v, lc + dWd D d) := by
        refine ⟨by show lc ≤ lc + dWd D d; omega, fun i hi => ?_, fun i y hi hy => ⟨y, ?_⟩⟩
        · have hi' : i < lc := hi
          show mFn M lc (dWd D d) b i = M i
          unfold mFn; rw [if_neg (by omega)]
        · have hi' : i < lc := hi
          show lFn L lc (dWd D d) b l v i = some y
          unfold lFn; rw [if_neg (by omega)]; exact hy
      have hMl : M (b + l) = some a := by
        have : M (b + l) = (lTd D c d l).map (itp ρ) := k5.2.1 l (by omega)
        rw [w2'] at k6
        have k6' : lTd D c d l = some s := k6
        rw [this, k6', k7]; rfl
      have g2' : lT τ (mFn M lc (dWd D d) b, lFn L lc (dWd D d) b l v, lc + dWd D d) := fun i y hy => by
        have hy' : lFn L lc (dWd D d) b l v i = some y := hy
        show ∃ r, mFn M lc (dWd D d) b i = some r ∧ _
        unfold lFn at hy'
        unfold mFn
        by_cases ei : lc ≤ i ∧ i < lc + dWd D d
        · rw [if_pos ei] at hy' ⊢
          by_cases el : i = lc + l
          · rw [if_pos el] at hy'; cases hy'
            have : i - lc = l := by omega
            rw [this]; exact ⟨a, hMl, hv⟩
          · rw [if_neg el] at hy'; exact h2 _ y hy'
        · rw [if_neg ei] at hy' ⊢; exact h2 i y hy'
      have gF := sTk_mono [] [] hm hF
      rw [List.append_nil, List.append_nil] at gF
      refine ⟨τ, _, hT_mono h1 hm, g2', e6, Or.inl ⟨a0, lc, ρ, rfl, ⟨d, insS S (l : Int), ?_, ⟨Nat.le_refl _, fun k hk => ?_, fun k hk => ?_⟩, h3, has_ty G hkid a5⟩, ?_⟩⟩
      · rw [w2'] at hkid; exact hkid
      · show mFn M lc (dWd D d) b (lc + k) = _
        unfold mFn; rw [if_pos (by omega), Nat.add_sub_cancel_left]
        exact k5.2.1 k hk
      · show k < dWd D d ∧ ∃ v', lFn L lc (dWd D d) b l v (lc + k) = some v'
        have hkw : k < dWd D d := by
          rcases hk with hk | hk
          · exact (k5.2.2 k hk).1
          · omega
        refine ⟨hkw, ?_⟩
        unfold lFn; rw [if_pos (by omega), Nat.add_sub_cancel_left]
        by_cases el : lc + k = lc + l
        · exact ⟨v, by rw [if_pos el]⟩
        · rw [if_neg el]
          rcases hk with hk | hk
          · exact (k5.2.2 k hk).2
          · omega
      · rw [rt_kid G bx ρ k3 p9 (by omega), ← k8]; exact gF
    · exact ⟨4, _, Or.inr ⟨by omega, rfl, rfl⟩, by omega, by omega, fun h => by cases h⟩
  · have hit : it.1 = 4 ∨ it.1 = 5 := by rw [k1]; cases bo <;> simp
    by_cases e : F.length < 150
    · refine ⟨0, _, ⟨i, it, i1, i3, Or.inr ⟨hit, Or.inl ⟨e, rfl, rfl⟩⟩⟩, by omega, by omega, fun _ => ?_⟩
      exact ⟨τ, M, h1, h2, h3, Or.inr (Or.inr (Or.inl ⟨f, F, i, it, a, r, rfl, rfl, hf, i1, i3, hit, hv, hF⟩))⟩
    · exact ⟨3, _, ⟨i, it, i1, i3, Or.inr ⟨hit, Or.inr ⟨by omega, rfl, rfl⟩⟩⟩, by omega, by omega, fun h => by cases h⟩
theorem je_i {i k : Nat} (h : je (i : Nat) = je (k : Nat)) (hi : i < 4000) (hk : k < 4000) : i = k := by
  have := (je_eq i k (by omega) (by omega) (by omega) (by omega)).mp h; omega
theorem stp_T {T : List Tok} {D : List Df} {t : Tr} {c : CS} {bx : Bool} {R : Ty} (G : gX T D t c) {hp : Hp} {L : Lo} {lc : Nat} {F : List Fr} {v : Va} {m : Mo} (lim st cc dp : Nat) (h : wT T D t c bx R hp L lc F v m) : ∃ r s', stp D t c bx lim hp L lc F v st cc dp m r s' ∧ r ≤ 4 ∧ (r = 0 → wS T D t c bx R s') ∧ (r = 1 → F = [] ∧ ∃ τ M, hT T D t c τ (M, L, lc) hp.1 ∧ vT τ v R) := by
  obtain ⟨τ, M, h1, h2, h3, hm⟩ := h
  have fin : ∀ {P : Nat → Ms → Prop}, gN T D t c bx R P → (∀ r s', P r s' → stp D t c bx lim hp L lc F v st cc dp m r s') → ∃ r s', stp D t c bx lim hp L lc F v st cc dp m r s' ∧ r ≤ 4 ∧ (r = 0 → wS T D t c bx R s') ∧ (r = 1 → F = [] ∧ ∃ τ M, hT T D t c τ (M, L, lc) hp.1 ∧ vT τ v R) := fun ⟨r, s', p1, p2, p3, p4⟩ hP => ⟨r, s', hP r s' p1, p2, p4, fun hh => absurd hh p3⟩
  rcases hm with ⟨a, b, ρ, rfl, hn, hF⟩ | ⟨f, a, r, rfl, hf, hv, hF⟩ | ⟨f, F', i, it, a, r, rfl, rfl, hf, hi1, hi2, hi3, hv, hF⟩ | ⟨rfl, r, hF, hv⟩
  · obtain ⟨d, S, n1, n2, n3, s0, n4⟩ := id hn
    have ha := (nS_lt G n1).2.2.1
    by_cases e1 : F.length < 150
    · by_cases e2 : st < lim
      · refine ⟨0, _, Or.inl ⟨a, b, rfl, ha, Or.inr (Or.inr ⟨e1, e2, rfl, rfl⟩)⟩, by omega, fun _ => ?_, fun h => by cases h⟩
        exact ⟨τ, M, h1, h2, h3, Or.inr (Or.inr (Or.inr ⟨rfl, .num 0, ⟨_, ⟨ρ, hn, rfl, Or.inl ⟨rfl, rfl, rfl⟩⟩, hF⟩, Or.inr ⟨a, b, F, rfl⟩⟩))⟩
      · exact ⟨2, _, Or.inl ⟨a, b, rfl, ha, Or.inr (Or.inl ⟨e1, by omega, rfl, rfl⟩)⟩, by omega, (fun h => by cases h), (fun h => by cases h)⟩
    · exact ⟨3, _, Or.inl ⟨a, b, rfl, ha, Or.inl ⟨by omega, rfl, rfl⟩⟩, by omega, (fun h => by cases h), (fun h => by cases h)⟩
  · exact fin (ap_T G (st := st) (cc := cc) (dp := dp) h1 h2 h3 hf hv hF) (fun r s' hh => Or.inr (Or.inl ⟨f, rfl, hh⟩))
  · obtain ⟨i', it', j1, j2, j3, j4, j5⟩ := vT_it h1 hf (by show ¬ (3 < 2); omega)
    have hi4 : i < 4000 := by have := (List.getElem?_eq_some_iff.mp hi2).1; have := h1.2.1; omega
    have hii := je_i (hi1.symm.trans j1) hi4 j2
    subst hii
    rw [hi2] at j3; cases j3
    rcases j5 with ⟨k0, _⟩ | ⟨bo, ρ, A, B, k1, k2, k3, k4, k5⟩
    · exfalso; omega
    rw [sdA_mul] at k5
    injection k5 with k5a k5b
    rw [k5a] at hv
    have hbb : (if (true : Bool) = true then Nat.beq it.1 5 else Nat.beq it.1 4) = !bo := by
      rw [if_pos rfl, k1]; cases bo <;> rfl
    obtain ⟨y, h', σ, g1, ⟨Z, g2⟩, g3, g4⟩ := adp_T ρ (!bo) (aOK_mul k3).1 h1 (by rw [Bool.not_not]; exact hv)
    have gF := sTk_mono σ Z (mE_r _) hF
    rw [← g2] at gF
    have hcov : oCov t c true hp f v it (y, h') := ⟨i, A, B, hi1, hi2, hi3, k2, k3, by rw [hbb, if_pos rfl]; exact g1⟩
    cases y with
    | none => exact ⟨4, _, Or.inr (Or.inr (Or.inl ⟨f, F', it, (none, h'), rfl, rfl, hcov, Or.inr ⟨rfl, rfl, rfl⟩⟩)), by omega, (fun h => by cases h), (fun h => by cases h)⟩
    | some y =>
      refine ⟨0, _, Or.inr (Or.inr (Or.inl ⟨f, F', it, (some y, h'), rfl, rfl, hcov, Or.inl ⟨y, rfl, rfl, rfl⟩⟩)), by omega, fun _ => ?_, fun h => by cases h⟩
      rw [sdA_mul] at k4
      refine ⟨τ ++ σ, M, g3, lT_app h2 σ, h3, Or.inr (Or.inl ⟨it.2.1, _, _, rfl, vT_app k4 σ, g4 y rfl, r, ⟨f, i, it, ρ, bo, A, B, rfl, hi1, hi4, ?_, k1, k2, k3, rfl, k5b⟩, gF⟩)⟩
      show h'.1[i]? = some it
      rw [g2]; exact getz hi2 Z
  · cases F with
    | nil =>
      have hr : r = R := hF
      subst hr
      rcases hv with hv | ⟨e, b, F', hv⟩
      · exact ⟨1, _, Or.inr (Or.inr (Or.inr (Or.inl ⟨rfl, rfl, rfl, rfl⟩))), by omega, (fun h => by cases h), fun _ => ⟨rfl, τ, M, h1, hv⟩⟩
      · cases hv
    | cons fr F =>
      obtain ⟨r', hf, hF⟩ := hF
      obtain ⟨n, b, q, j, hd⟩ := fr
      cases n with
      | some e =>
        obtain ⟨ρ, hn, rfl, hfn⟩ := hf
        have hn' : nOK T D t c (M, L, lc) e b ρ := hn
        obtain ⟨d, S, n1, _⟩ := id hn'
        have he := (nS_lt G n1).2.2.1
        have hv' : q = 0 ∨ vT τ v r := by
          rcases hv with hv | ⟨e', b', F', hv⟩
          · exact Or.inr hv
          · cases hv; exact Or.inl rfl
        exact fin (nd_T G (st := st) (cc := cc) (dp := dp) h1 h2 h3 hn' hF hfn hv') (fun r s' hh => Or.inr (Or.inr (Or.inr (Or.inr (Or.inr ⟨e, b, q, j, hd, F, rfl, rfl, he, hh⟩)))))
      | none =>
        obtain ⟨f, i, it, ρ, bo, A, B, k0, k1, k2, k3, k4, k5, k6, k7, k8⟩ := hf
        have k0' : (b, q, j, hd) = (0, 1, 0, [f]) := k0
        cases k0'
        rcases hv with hv | ⟨e', b', F', hv⟩
        · rw [k7] at hv
          have hbb : (if (false : Bool) = true then Nat.beq it.1 5 else Nat.beq it.1 4) = bo := by
            rw [if_neg (by decide), k4]; cases bo <;> rfl
          obtain ⟨y, h', σ, g1, ⟨Z, g2⟩, g3, g4⟩ := adp_T ρ bo (aOK_mul k6).2 h1 hv
          have gF := sTk_mono σ Z (mE_r _) hF
          rw [← g2] at gF
          have hit : it.1 = 4 ∨ it.1 = 5 := by rw [k4]; cases bo <;> simp
          have hcov : oCov t c false hp f v it (y, h') := ⟨i, A, B, k1, k3, hit, k5, k6, by rw [hbb, if_neg (by decide)]; exact g1⟩
          cases y with
          | none => exact ⟨4, _, Or.inr (Or.inr (Or.inr (Or.inr (Or.inl ⟨f, F, it, (none, h'), rfl, rfl, hcov, Or.inr ⟨rfl, rfl, rfl⟩⟩)))), by omega, (fun h => by cases h), (fun h => by cases h)⟩
          | some y =>
            refine ⟨0, _, Or.inr (Or.inr (Or.inr (Or.inr (Or.inl ⟨f, F, it, (some y, h'), rfl, rfl, hcov, Or.inl ⟨y, rfl, rfl, rfl⟩⟩)))), by omega, fun _ => ?_, fun h => by cases h⟩
            rw [k8] at gF
            exact w_fin (r := sdA c ρ bo it.2.2.2.2 B) g3 (lT_app h2 σ) h3 gF (g4 y rfl)
        · cases hv
