set_option maxRecDepth 100000
theorem kk_z {D : List Df} {c : CS} {x : Nd} {e : Nat} (h : c.2.1 e = none) : kk D c x e = x.1 := by unfold kk; rw [h]
theorem rt_16 {T : List Tok} {D : List Df} {t : Tr} {c : CS} (G : gX T D t c) (bx : Bool) (ρ : Nat → Ty) {a : Nat} (h : (t.2.1 a).1 ≠ 16) : rt c bx ρ a = itp ρ (tE c a) := rt_n (sh_16 G h)
theorem rt_kid {T : List Tok} {D : List Df} {t : Tr} {c : CS} (G : gX T D t c) (bx : Bool) (ρ : Nat → Ty) {d : Nat} {S S' : Nat → Prop} {e a : Nat} (h : nS T D t d S e) (ha : (S', a) ∈ ptS (t.2.1 e) S) (h16 : (t.2.1 e).1 ≠ 16) : rt c bx ρ a = itp ρ (tE c a) := by
  apply rt_n
  cases hs : c.2.2.2 a with
  | false => rfl
  | true => exact absurd (sh_only G h (pt_s ha) hs).1 h16
theorem nd_T1 {T : List Tok} {D : List Df} {t : Tr} {c : CS} {bx : Bool} {R : Ty} (G : gX T D t c) {τ : List Ty} {M : Nat → Option Ty} {lc : Nat} {hp : Hp} {L : Lo} {F : List Fr} {v : Va} {ρ : Nat → Ty} {e b q j st cc dp : Nat} {hd : List Va} (h1 : hT T D t c τ (M, L, lc) hp.1) (h2 : lT τ (M, L, lc)) (h3 : lc ≤ 60000) (hn : nOK T D t c (M, L, lc) e b ρ) (hF : sTk T D t c bx τ (M, L, lc) hp.1 R F (rt c bx ρ e)) (hk : (t.2.1 e).1 ≤ 2 ∨ (t.2.1 e).1 = 9) : gN T D t c bx R (oNd D t c bx hp L lc e b q j hd F v st cc dp) := by
  obtain ⟨d, S, n1, n2, n3, s0, n4⟩ := id hn
  obtain ⟨x, hx, w, tk, b1, b2, b3⟩ := nS_W G n1
  obtain ⟨k1, s, k2, k3, k4⟩ := tk.2.1 (by omega) (by omega)
  rw [rt_16 G bx ρ (by omega), tE_s k3] at hF
  have hkk : kk D c (t.2.1 e) e = (t.2.1 e).1 := kk_z k1
  by_cases e9 : (t.2.1 e).1 = 9
  · refine gN_or ?_ (fun r s' hh => Or.inr (Or.inr (Or.inl ⟨e9, hkk.trans e9, hh⟩)))
    obtain ⟨a, a1, a2, _⟩ := nty_1 k2 (by omega)
    obtain ⟨l, l1, rfl⟩ := a2 e9
    refine g_mk (dst := itp ρ (.mul l a)) h1 h2 h3 hF rfl (by omega) (Or.inl ⟨rfl, e, b, d, ρ, S, rfl, rfl, n1, e9, n2, ⟨l, ?_, rfl⟩, ?_⟩)
    · unfold lTd; rw [hx]; exact l1
    · rw [tE_s a1]
  · obtain ⟨z0, z1, z2, _⟩ := nty_0 k2
    by_cases e2 : (t.2.1 e).1 = 2
    · obtain ⟨l, l1, l2⟩ := w.2.2.1 e2
      have hS := nS_2 n1 e2
      rw [l1] at hS
      obtain ⟨m1, y, m2⟩ := n2.2.2 l hS
      have m3 := n2.2.1 l m1
      have hl := z2 e2
      rw [l1] at hl
      have hl' : lTd D c d l = some s := by unfold lTd; rw [hx]; exact hl
      rw [hl'] at m3
      obtain ⟨r, r1, r2⟩ := h2 _ y m2
      have r1' : M (b + l) = some r := r1
      have m3' : M (b + l) = some (itp ρ s) := m3
      have hr : r = itp ρ s := by rw [r1'] at m3'; cases m3'; rfl
      subst hr
      have n21 := n2.1
      refine gN_or (g_fin (w_fin h1 h2 h3 hF r2)) (fun r s' hh => Or.inr (Or.inl ⟨e2, hkk.trans e2, l, y, l1, m2, ?_, hh⟩))
      have n21' : b + dWd D d ≤ lc := n21
      omega
    · refine gN_or (g_fin (v := ((t.2.1 e).1, (t.2.1 e).2.2.2.2.2.1)) (w_fin h1 h2 h3 hF ?_)) (fun r s' hh => Or.inl ⟨by omega, hkk, hh⟩)
      by_cases e0 : (t.2.1 e).1 = 0
      · rw [z0 e0, itp_num (by omega), e0]; exact vT_num (by omega) _
      · have e1 : (t.2.1 e).1 = 1 := by omega
        rw [z1 e1, itp_num (by omega), e1]; exact vT_num (by omega) _
theorem kid_1 {T : List Tok} {D : List Df} {t : Tr} {c : CS} (G : gX T D t c) (bx : Bool) {E : Ev} {e b a : Nat} {ρ : Nat → Ty} (hn : nOK T D t c E e b ρ) (ha : ∀ S, (S, a) ∈ ptS (t.2.1 e) S) (h4 : (t.2.1 a).1 ≠ 4) (h16 : (t.2.1 e).1 ≠ 16) : nOK T D t c E a b ρ ∧ rt c bx ρ a = itp ρ (tE c a) ∧ a < t.1 := by
  obtain ⟨d, S, n1, n2, n3, n4⟩ := id hn
  have hk := nS_kid n1 (ha S)
  exact ⟨kid_ok hn ha (has_ty G hk h4), rt_kid G bx ρ n1 (ha S) h16, (nS_lt G hk).2.2.1⟩
theorem nd_T7 {T : List Tok} {D : List Df} {t : Tr} {c : CS} {bx : Bool} {R : Ty} (G : gX T D t c) {τ : List Ty} {M : Nat → Option Ty} {lc : Nat} {hp : Hp} {L : Lo} {F : List Fr} {v : Va} {ρ : Nat → Ty} {e b q j st cc dp : Nat} {hd : List Va} {r : Ty} (h1 : hT T D t c τ (M, L, lc) hp.1) (h2 : lT τ (M, L, lc)) (h3 : lc ≤ 60000) (hn : nOK T D t c (M, L, lc) e b ρ) (hF : sTk T D t c bx τ (M, L, lc) hp.1 R F (rt c bx ρ e)) (hf : fN D t c bx τ e q j hd ρ r) (hv : q = 0 ∨ vT τ v r) (hk : (t.2.1 e).1 = 7) : gN T D t c bx R (oNd D t c bx hp L lc e b q j hd F v st cc dp) := by
  obtain ⟨d, S, n1, n2, n3, s0, n4⟩ := id hn
  obtain ⟨x, hx, w, tk, b1, b2, b3⟩ := nS_W G n1
  obtain ⟨k1, s, k2, k3, k4⟩ := tk.2.1 (by omega) (by omega)
  have hrt : rt c bx ρ e = itp ρ s := by rw [rt_16 G bx ρ (by omega), tE_s k3]
  have hkk : kk D c (t.2.1 e) e = 7 := (kk_z k1).trans hk
  obtain ⟨a, a1, a2, a3, a4, a5⟩ := nW_1 w (by omega) (by omega)
  obtain ⟨a', a1', a2', a3', a4', a5'⟩ := nW_2 w (by omega)
  obtain ⟨l, l1, l2, l3⟩ := w.2.2.2.2.2.1 hk
  have l2' : l < x.2.2.2.2.2.2.1 := l2
  have l3' : x.2.2.2.2.2.2.2.2 l = (t.2.1 e).2.2.1 := l3
  have hw : dWd D d = x.2.2.2.2.2.2.1 := by unfold dWd; rw [hx]
  obtain ⟨c1, c2, c3⟩ := kid_1 G bx hn (a := (t.2.1 e).2.2.1.toNat) (fun S => pt_1 S (Or.inl hk)) (by rw [a2]; exact a5) (by omega)
  have p7 := pt_7 (x := t.2.1 e) S hk
  have n1' := nS_kid n1 p7
  have c2' := rt_kid G bx ρ n1 p7 (by omega)
  have c3' := (nS_lt G n1').2.2.1
  have hs2 : c.1 (t.2.1 e).2.2.2.1.toNat = some s := (nty_0 k2).2.2.2 hk
  refine gN_or ?_ (fun r s' hh => Or.inr (Or.inr (Or.inr (Or.inl ⟨hk, hkk, hh⟩))))
  rcases hf with ⟨rfl, rfl, rfl⟩ | ⟨_, ⟨rfl, hr⟩ | ⟨rfl, hr⟩⟩ | ⟨hh, _⟩ | ⟨hh, _⟩ | ⟨hh, _⟩ | ⟨hh, _⟩ | ⟨hh, _⟩
  · refine gN_or (g_pt (a := (t.2.1 e).2.2.1.toNat) (by rw [a2]; exact a1) c3 (w_part h1 h2 h3 hn hF c1 ?_)) (fun r s' hh => Or.inl ⟨rfl, hh⟩)
    exact Or.inr (Or.inl ⟨hk, Or.inl ⟨rfl, c2⟩⟩)
  · rcases hv with hv | hv
    · cases hv
    rw [hr] at hv
    have hM : M (b + l) = some (itp ρ (tE c (t.2.1 e).2.2.1.toNat)) := by
      have hm : M (b + l) = (lTd D c d l).map (itp ρ) := n2.2.1 l (by omega)
      obtain ⟨s1, hs1⟩ := c1.choose_spec.choose_spec.2.2.2
      have : lTd D c d l = some s1 := by
        unfold lTd lTy; rw [hx]
        show (if x.2.2.2.2.2.2.2.2 l < 0 then _ else c.1 (x.2.2.2.2.2.2.2.2 l).toNat) = _
        rw [l3', if_neg (by omega)]; exact hs1
      rw [hm, this, tE_s hs1]; rfl
    have hmE : mE (M, L, lc) (M, pu_upd L (b + l) (some v), lc) := ⟨Nat.le_refl _, fun _ _ => rfl, fun i y _ hy => by
      show ∃ v', pu_upd L (b + l) (some v) i = some v'
      by_cases ei : i = b + l
      · exact ⟨v, by rw [ei, upd_same]⟩
      · exact ⟨y, by rw [upd_ne _ _ _ _ ei]; exact hy⟩⟩
    have g1 := hT_mono h1 hmE
    have g2 : lT τ (M, pu_upd L (b + l) (some v), lc) := fun i y hy => by
      have hy' : pu_upd L (b + l) (some v) i = some y := hy
      by_cases ei : i = b + l
      · rw [ei, upd_same] at hy'; cases hy'
        exact ⟨_, by rw [ei]; exact hM, hv⟩
      · rw [upd_ne _ _ _ _ ei] at hy'; exact h2 i y hy'
    have gF := sTk_mono [] [] hmE hF
    rw [List.append_nil, List.append_nil] at gF
    have n2' : b + dWd D d ≤ lc := n2.1
    have hn' : nOK T D t c (M, pu_upd L (b + l) (some v), lc) (t.2.1 e).2.2.2.1.toNat b ρ := by
      refine ⟨d, _, n1', ?_, n3, s, hs2⟩
      rw [l1]
      exact eT_ins (eT_mono n2 hmE) (by omega) ⟨v, upd_same _ _ _⟩
    refine gN_or (g_pt (a := (t.2.1 e).2.2.2.1.toNat) (by rw [a2']; exact a1') c3' (w_part g1 g2 h3 (nOK_mono hn hmE) gF hn' ?_)) (fun r s' hh => Or.inr (Or.inl ⟨rfl, l, l1, by omega, hh⟩))
    exact Or.inr (Or.inl ⟨hk, Or.inr ⟨rfl, by rw [c2', tE_s hs2, tE_s k3]⟩⟩)
  · rcases hv with hv | hv
    · cases hv
    rw [hr, tE_s k3] at hv
    rw [hrt] at hF
    exact gN_or (g_fin (w_fin h1 h2 h3 hF hv)) (fun r s' hh => Or.inr (Or.inr ⟨rfl, hh⟩))
  all_goals exfalso; omega
theorem nd_T8 {T : List Tok} {D : List Df} {t : Tr} {c : CS} {bx : Bool} {R : Ty} (G : gX T D t c) {τ : List Ty} {M : Nat → Option Ty} {lc : Nat} {hp : Hp} {L : Lo} {F : List Fr} {v : Va} {ρ : Nat → Ty} {e b q j st cc dp : Nat} {hd : List Va} {r : Ty} (h1 : hT T D t c τ (M, L, lc) hp.1) (h2 : lT τ (M, L, lc)) (h3 : lc ≤ 60000) (hn : nOK T D t c (M, L, lc) e b ρ) (hF : sTk T D t c bx τ (M, L, lc) hp.1 R F (rt c bx ρ e)) (hf : fN D t c bx τ e q j hd ρ r) (hv : q = 0 ∨ vT τ v r) (hk : (t.2.1 e).1 = 8) : gN T D t c bx R (oNd D t c bx hp L lc e b q j hd F v st cc dp) := by
  obtain ⟨d, S, n1, n2, n3, s0, n4⟩ := id hn
  obtain ⟨x, hx, w, tk, b1, b2, b3⟩ := nS_W G n1
  obtain ⟨k1, s, k2, k3, k4⟩ := tk.2.1 (by omega) (by omega)
  have hrt : rt c bx ρ e = itp ρ s := by rw [rt_16 G bx ρ (by omega), tE_s k3]
  have hkk : kk D c (t.2.1 e) e = 8 := (kk_z k1).trans hk
  obtain ⟨a, a1, a2, a3, a4, a5⟩ := nW_1 w (by omega) (by omega)
  obtain ⟨a', a1', a2', a3', a4', a5'⟩ := nW_2 w (by omega)
  obtain ⟨a'', a1'', a2'', a3'', a4'', a5''⟩ := nW_3 w hk
  obtain ⟨c1, c2, c3⟩ := kid_1 G bx hn (a := (t.2.1 e).2.2.1.toNat) (fun S => pt_1 S (by omega)) (by rw [a2]; exact a5) (by omega)
  obtain ⟨c1', c2', c3'⟩ := kid_1 G bx hn (a := (t.2.1 e).2.2.2.1.toNat) (fun S => pt_2 S (by omega)) (by rw [a2']; exact a5') (by omega)
  obtain ⟨c1'', c2'', c3''⟩ := kid_1 G bx hn (a := (t.2.1 e).2.2.2.2.1.toNat) (fun S => pt_3 S hk) (by rw [a2'']; exact a5'') (by omega)
  obtain ⟨y, y1, _, _, _, y2⟩ := nty_1 k2 (by omega)
  obtain ⟨z, z1, z2, _⟩ := y2 (by omega)
  obtain ⟨rfl, rfl, z3⟩ := z2 hk
  refine gN_or ?_ (fun r s' hh => Or.inr (Or.inr (Or.inr (Or.inr (Or.inl ⟨hk, hkk, hh⟩)))))
  rcases hf with ⟨rfl, rfl, rfl⟩ | ⟨hh, _⟩ | ⟨_, rfl | ⟨rfl, hr⟩⟩ | ⟨hh, _⟩ | ⟨hh, _⟩ | ⟨hh, _⟩ | ⟨hh, _⟩
  · refine gN_or (g_pt (a := (t.2.1 e).2.2.1.toNat) (by rw [a2]; exact a1) c3 (w_part h1 h2 h3 hn hF c1 ?_)) (fun r s' hh => Or.inl ⟨rfl, hh⟩)
    exact Or.inr (Or.inr (Or.inl ⟨hk, Or.inl rfl⟩))
  · exfalso; omega
  · by_cases ev : v.2 = 0
    · refine gN_or (g_pt (a := (t.2.1 e).2.2.2.2.1.toNat) (x := if v.2 = 0 then (t.2.1 e).2.2.2.2.1 else (t.2.1 e).2.2.2.1) (by rw [if_pos ev, a2'']; exact a1'') c3'' (w_part h1 h2 h3 hn hF c1'' ?_)) (fun r s' hh => Or.inr (Or.inl ⟨rfl, hh⟩))
      exact Or.inr (Or.inr (Or.inl ⟨hk, Or.inr ⟨rfl, by rw [c2'', tE_s z3, tE_s k3]⟩⟩))
    · refine gN_or (g_pt (a := (t.2.1 e).2.2.2.1.toNat) (x := if v.2 = 0 then (t.2.1 e).2.2.2.2.1 else (t.2.1 e).2.2.2.1) (by rw [if_neg ev, a2']; exact a1') c3' (w_part h1 h2 h3 hn hF c1' ?_)) (fun r s' hh => Or.inr (Or.inl ⟨rfl, hh⟩))
      exact Or.inr (Or.inr (Or.inl ⟨hk, Or.inr ⟨rfl, by rw [c2', tE_s z1, tE_s k3]⟩⟩))
  · rcases hv with hv | hv
    · cases hv
    rw [hr, tE_s k3] at hv
    rw [hrt] at hF
    exact gN_or (g_fin (w_fin h1 h2 h3 hF hv)) (fun r s' hh => Or.inr (Or.inr ⟨rfl, hh⟩))
  all_goals exfalso; omega
theorem nd_T14 {T : List Tok} {D : List Df} {t : Tr} {c : CS} {bx : Bool} {R : Ty} (G : gX T D t c) {τ : List Ty} {M : Nat → Option Ty} {lc : Nat} {hp : Hp} {L : Lo} {F : List Fr} {v : Va} {ρ : Nat → Ty} {e b q j st cc dp : Nat} {hd : List Va} {r : Ty} (h1 : hT T D t c τ (M, L, lc) hp.1) (h2 : lT τ (M, L, lc)) (h3 : lc ≤ 60000) (hn : nOK T D t c (M, L, lc) e b ρ) (hF : sTk T D t c bx τ (M, L, lc) hp.1 R F (rt c bx ρ e)) (hf : fN D t c bx τ e q j hd ρ r) (hv : q = 0 ∨ vT τ v r) (hk : (t.2.1 e).1 = 14 ∨ (t.2.1 e).1 = 15) : gN T D t c bx R (oNd D t c bx hp L lc e b q j hd F v st cc dp) := by
  obtain ⟨d, S, n1, n2, n3, s0, n4⟩ := id hn
  obtain ⟨x, hx, w, tk, b1, b2, b3⟩ := nS_W G n1
  obtain ⟨k1, s, k2, k3, k4⟩ := tk.2.1 (by omega) (by omega)
  have hrt : rt c bx ρ e = itp ρ s := by rw [rt_16 G bx ρ (by omega), tE_s k3]
  have hkk : kk D c (t.2.1 e) e = (t.2.1 e).1 := kk_z k1
  obtain ⟨a, a1, a2, a3, a4, a5⟩ := nW_1 w (by omega) (by omega)
  obtain ⟨c1, c2, c3⟩ := kid_1 G bx hn (a := (t.2.1 e).2.2.1.toNat) (fun S => pt_1 S (by omega)) (by rw [a2]; exact a5) (by omega)
  obtain ⟨y, y1, _, y2, y3, _⟩ := nty_1 k2 (by omega)
  refine gN_or ?_ (fun r s' hh => Or.inr (Or.inr (Or.inr (Or.inr (Or.inr (Or.inl ⟨hk, hkk, hh⟩))))))
  rcases hf with ⟨rfl, rfl, rfl⟩ | ⟨hh, _⟩ | ⟨hh, _⟩ | ⟨_, rfl, hr⟩ | ⟨hh, _⟩ | ⟨hh, _⟩ | ⟨hh, _⟩
  · refine gN_or (g_pt (a := (t.2.1 e).2.2.1.toNat) (by rw [a2]; exact a1) c3 (w_part h1 h2 h3 hn hF c1 ?_)) (fun r s' hh => Or.inl ⟨rfl, hh⟩)
    exact Or.inr (Or.inr (Or.inr (Or.inl ⟨hk, rfl, c2⟩)))
  · exfalso; omega
  · exfalso; omega
  · rcases hv with hv | hv
    · cases hv
    rw [hr, tE_s y1] at hv
    rw [hrt] at hF
    by_cases e14 : (t.2.1 e).1 = 14
    · obtain ⟨rr, rfl⟩ := y2 e14
      obtain ⟨i, it, i1, i2, i3, i4, i5⟩ := vT_it h1 hv (by show ¬ (2 < 2); omega)
      refine gN_or (g_fin (v := if (t.2.1 e).1 = 14 then it.2.1 else it.2.2.1) (w_fin h1 h2 h3 hF ?_)) (fun r s' hh => Or.inr ⟨rfl, i, it, i1, i3, i5.1, hh⟩)
      rw [if_pos e14]; exact i5.2.1
    · obtain ⟨ll, rfl⟩ := y3 (by omega)
      obtain ⟨i, it, i1, i2, i3, i4, i5⟩ := vT_it h1 hv (by show ¬ (2 < 2); omega)
      refine gN_or (g_fin (v := if (t.2.1 e).1 = 14 then it.2.1 else it.2.2.1) (w_fin h1 h2 h3 hF ?_)) (fun r s' hh => Or.inr ⟨rfl, i, it, i1, i3, i5.1, hh⟩)
      rw [if_neg e14]; exact i5.2.2
  all_goals exfalso; omega
theorem nd_T10 {T : List Tok} {D : List Df} {t : Tr} {c : CS} {bx : Bool} {R : Ty} (G : gX T D t c) {τ : List Ty} {M : Nat → Option Ty} {lc : Nat} {hp : Hp} {L : Lo} {F : List Fr} {v : Va} {ρ : Nat → Ty} {e b q j st cc dp : Nat} {hd : List Va} {r : Ty} (h1 : hT T D t c τ (M, L, lc) hp.1) (h2 : lT τ (M, L, lc)) (h3 : lc ≤ 60000) (hn : nOK T D t c (M, L, lc) e b ρ) (hF : sTk T D t c bx τ (M, L, lc) hp.1 R F (rt c bx ρ e)) (hf : fN D t c bx τ e q j hd ρ r) (hv : q = 0 ∨ vT τ v r) (hk : 10 ≤ (t.2.1 e).1 ∧ (t.2.1 e).1 ≤ 13) : gN T D t c bx R (oNd D t c bx hp L lc e b q j hd F v st cc dp) := by
  obtain ⟨d, S, n1, n2, n3, s0, n4⟩ := id hn
  obtain ⟨x, hx, w, tk, b1, b2, b3⟩ := nS_W G n1
  obtain ⟨k1, s, k2, k3, k4⟩ := tk.2.1 (by omega) (by omega)
  have hrt : rt c bx ρ e = itp ρ s := by rw [rt_16 G bx ρ (by omega), tE_s k3]
  have hkk : kk D c (t.2.1 e) e = (t.2.1 e).1 := kk_z k1
  obtain ⟨a, a1, a2, a3, a4, a5⟩ := nW_1 w (by omega) (by omega)
  obtain ⟨a', a1', a2', a3', a4', a5'⟩ := nW_2 w (by omega)
  obtain ⟨c1, c2, c3⟩ := kid_1 G bx hn (a := (t.2.1 e).2.2.1.toNat) (fun S => pt_1 S (by omega)) (by rw [a2]; exact a5) (by omega)
  obtain ⟨c1', c2', c3'⟩ := kid_1 G bx hn (a := (t.2.1 e).2.2.2.1.toNat) (fun S => pt_2 S (by omega)) (by rw [a2']; exact a5') (by omega)
  obtain ⟨y, y1, _, _, _, y2⟩ := nty_1 k2 (by omega)
  obtain ⟨z, z1, _, z13, z10⟩ := y2 (by omega)
  refine gN_or ?_ (fun r s' hh => Or.inr (Or.inr (Or.inr (Or.inr (Or.inr (Or.inr (Or.inl ⟨hk, hkk, hh⟩)))))))
  rcases hf with ⟨rfl, rfl, rfl⟩ | ⟨hh, _⟩ | ⟨hh, _⟩ | ⟨hh, _⟩ | ⟨_, ⟨rfl, rfl, hr⟩ | ⟨rfl, A, rfl, hA, hr⟩⟩ | ⟨hh, _⟩ | ⟨hh, _⟩
  · refine gN_or (g_pt (a := (t.2.1 e).2.2.1.toNat) (by rw [a2]; exact a1) c3 (w_part h1 h2 h3 hn hF c1 ?_)) (fun r s' hh => Or.inl ⟨rfl, hh⟩)
    exact Or.inr (Or.inr (Or.inr (Or.inr (Or.inl ⟨hk, Or.inl ⟨rfl, rfl, c2⟩⟩))))
  · exfalso; omega
  · exfalso; omega
  · exfalso; omega
  · rcases hv with hv | hv
    · cases hv
    rw [hr] at hv
    refine gN_or (g_pt (a := (t.2.1 e).2.2.2.1.toNat) (by rw [a2']; exact a1') c3' (w_part h1 h2 h3 hn hF c1' ?_)) (fun r s' hh => Or.inr (Or.inl ⟨rfl, rfl, hh⟩))
    exact Or.inr (Or.inr (Or.inr (Or.inr (Or.inl ⟨hk, Or.inr ⟨rfl, v, rfl, hv, c2'⟩⟩))))
  · rcases hv with hv | hv
    · cases hv
    rw [hr, tE_s z1] at hv
    rw [tE_s y1] at hA
    rw [hrt] at hF
    by_cases e13 : (t.2.1 e).1 = 13
    · rw [z13 e13] at hF
      refine gN_or (g_mk (dst := itp ρ (.add y z)) (tag := 2) (it := (0, A, v, .num 0, -1)) h1 h2 h3 hF rfl (by omega) ⟨rfl, hA, hv⟩) (fun r s' hh => Or.inr (Or.inr ⟨rfl, A, rfl, Or.inr (Or.inr (Or.inr ⟨e13, hh⟩))⟩))
    · obtain ⟨_, _, rfl⟩ := z10 (by omega)
      rw [itp_num (by omega)] at hF
      have fin : ∀ wd : Int64, gN T D t c bx R (oFin hp L lc F (0, wd) st cc dp) := fun wd => g_fin (w_fin h1 h2 h3 hF (vT_num (by omega) _))
      by_cases e10 : (t.2.1 e).1 = 10
      · exact gN_or (fin _) (fun r s' hh => Or.inr (Or.inr ⟨rfl, A, rfl, Or.inl ⟨e10, hh⟩⟩))
      · by_cases e11 : (t.2.1 e).1 = 11
        · exact gN_or (fin _) (fun r s' hh => Or.inr (Or.inr ⟨rfl, A, rfl, Or.inr (Or.inl ⟨e11, hh⟩)⟩))
        · exact gN_or (fin _) (fun r s' hh => Or.inr (Or.inr ⟨rfl, A, rfl, Or.inr (Or.inr (Or.inl ⟨by omega, hh⟩))⟩))
  all_goals exfalso; omega
