set_option maxRecDepth 100000
theorem fill50 (g : pm_s) (x : Int32) (N : Nat) (r : Nat) : ∀ (i f : Nat) (u : pm_J), i + r = 6 → r < f → (∀ j, j < i → u.1 50 j = x) → ∃ v, K_Arrays_fill_0_50_5 N g f x (ie (i : Nat)) (ie ((6 : Nat) : Int)) u = some v ∧ (∀ j, j < 6 → v.1 50 j = x) ∧ ag (fun c _ => c ≠ 50) u v := by
  induction r with
  | zero =>
    intro i f u hi hf h
    obtain ⟨f, rfl⟩ : ∃ f', f = f' + 1 := ⟨f - 1, by omega⟩
    exact ⟨u, by rw [K_Arrays_fill_0_50_5, if_pos ((inle _ _ (by omega) (by omega)).mpr (by omega))], fun j hj => h j (by omega), ag_r _ u⟩
  | succ r ih =>
    intro i f u hi hf h
    obtain ⟨f, rfl⟩ : ∃ f', f = f' + 1 := ⟨f - 1, by omega⟩
    obtain ⟨v, v1, v2, v3⟩ := ih (i + 1) f (wi u 50 i x) (by omega) (by omega) (fun j hj => by
      by_cases e : j = i
      · rw [e, wi_at]
      · rw [wi_ne _ _ _ _ _ _ (by omega)]; exact h j (by omega))
    refine ⟨v, ?_, v2, ag_t (ag_wi (ag_r _ u) _ _ _ (by omega)) v3⟩
    rw [K_Arrays_fill_0_50_5, if_neg (fun hh => by have := (inle _ _ (by omega) (by omega)).mp hh; omega), if_pos (okn i 6 (by omega) (by omega)), ntn i (by omega), iadd1]; exact v1
def qG (c i : Nat) : Prop := (c = 45 ∧ (i = 5 ∨ i = 6 ∨ i = 8 ∨ i = 9)) ∨ c = 50 ∨ (c = 57 ∧ (i = 6 ∨ i = 7)) ∨ (c = 44 ∧ (i = 8 ∨ i = 9 ∨ i = 10 ∨ i = 15))
def clC (u : pm_J) : Prop := u.1 45 5 = ie 0 ∧ u.1 45 6 = ie 0 ∧ u.1 45 8 = ie 0 ∧ u.1 45 9 = ie 0 ∧ (∀ j, j < 6 → u.1 50 j = ie 0) ∧ u.1 57 6 = ie 0 ∧ u.1 57 7 = ie 0 ∧ u.1 44 8 = ie 0 ∧ u.1 44 9 = ie 0 ∧ u.1 44 10 = ie 0 ∧ u.2 44 15 = 0
theorem clC_ag {u v : pm_J} (h : clC u) (ha : ag qG u v) : clC v := by
  have e : ∀ c i, (c = 45 ∧ (i = 5 ∨ i = 6 ∨ i = 8 ∨ i = 9)) ∨ c = 50 ∨ (c = 57 ∧ (i = 6 ∨ i = 7)) ∨ (c = 44 ∧ (i = 8 ∨ i = 9 ∨ i = 10 ∨ i = 15)) → v.1 c i = u.1 c i ∧ v.2 c i = u.2 c i := ha
  obtain ⟨h1, h2, h3, h4, h5, h6, h7, h8, h9, h10, h11⟩ := h
  exact ⟨(e _ _ (by omega)).1.trans h1, (e _ _ (by omega)).1.trans h2, (e _ _ (by omega)).1.trans h3, (e _ _ (by omega)).1.trans h4, fun j hj => (e _ _ (by omega)).1.trans (h5 j hj), (e _ _ (by omega)).1.trans h6, (e _ _ (by omega)).1.trans h7, (e _ _ (by omega)).1.trans h8, (e _ _ (by omega)).1.trans h9, (e _ _ (by omega)).1.trans h10, (e _ _ (by omega)).2.trans h11⟩
theorem c_mforget (N : Nat) (hN : 100 ≤ N) (g : pm_s) (u : pm_J) : ∃ w, F_Machine_forget N g u = some w ∧ clC w ∧ ag (fun c i => ¬ qG c i) u w := by
  let u1 : pm_J := wi (wi (wi (wi u 45 5 0) 45 6 0) 45 8 0) 45 9 0
  have a1 : ag (fun c i => ¬ (c = 45 ∧ (i = 5 ∨ i = 6 ∨ i = 8 ∨ i = 9))) u u1 := ag_wi (ag_wi (ag_wi (ag_wi (ag_r _ u) _ _ _ (by omega)) _ _ _ (by omega)) _ _ _ (by omega)) _ _ _ (by omega)
  obtain ⟨v, v1, v2, v3⟩ := fill50 g 0 N 6 0 N u1 (by omega) (by omega) (fun j hj => by omega)
  let w : pm_J := wi (wj (wi (wi (wi (wi v 57 6 0) 57 7 0) 44 8 0) 44 9 0) 44 15 0) 44 10 0
  have a2 : ag (fun c i => ¬ ((c = 57 ∧ (i = 6 ∨ i = 7)) ∨ (c = 44 ∧ (i = 8 ∨ i = 9 ∨ i = 10 ∨ i = 15)))) v w := ag_wi (ag_wj (ag_wi (ag_wi (ag_wi (ag_wi (ag_r _ v) _ _ _ (by omega)) _ _ _ (by omega)) _ _ _ (by omega)) _ _ _ (by omega)) _ _ _ (by omega)) _ _ _ (by omega)
  have k : ∀ i, w.1 45 i = u1.1 45 i := fun i => (a2 45 i (by omega)).1.trans (v3 45 i (by omega)).1
  refine ⟨w, ?_, ⟨(k 5).trans rfl, (k 6).trans rfl, (k 8).trans rfl, (k 9).trans rfl, fun j hj => (a2 50 j (by omega)).1.trans (v2 j hj), rfl, rfl, rfl, rfl, rfl, rfl⟩, ?_⟩
  · unfold F_Machine_forget F_Heap_clear F_Arrays_fill_0_50 F_Frames_clear
    show (Option.bind (Option.bind (K_Arrays_fill_0_50_5 N g N 0 (ie ((0 : Nat) : Int)) (ie ((6 : Nat) : Int)) u1) _) _) = _
    rw [v1]; rfl
  · exact ag_t (ag_t (ag_m a1 (fun c i hc => by unfold qG at hc; omega)) (ag_m v3 (fun c i hc => by unfold qG at hc; omega))) (ag_m a2 (fun c i hc => by unfold qG at hc; omega))
def s0R (D : List Df) (d : Nat) (A : List Va) : Ms := (([], 0), lDef (fun _ => none) 0 (dWd D d) A, 0 + dWd D d, [], v0, 0, 0, 0, (0, dRt D d, 0, v0))
def aRg (D : List Df) (d : Nat) (A : List Va) : Prop := A.length = (dPs D d).length ∧ ∀ (k : Nat) (x : Va) (p : Ty), A[k]? = some x → (dPs D d)[k]? = some p → x.1 < 2 ∧ p = .num x.1
theorem itp_id (ρ : Nat → Ty) {s : Ty} (h : tyM s = 0) : itp ρ s = s := by
  induction s with
  | num k =>
    unfold itp
    by_cases hk : k < 2
    · rw [if_pos hk]
    · exfalso
      have h' : (if k < 2 then 0 else 2 ^ (k - 2)) = 0 := h
      rw [if_neg hk] at h'
      have := Nat.pow_pos (n := k - 2) (show 0 < 2 by omega); omega
  | var k => rfl
  | add a b iha ihb =>
    have h' : tyM a ||| tyM b = 0 := h
    have h2 := Nat.or_eq_zero_iff.mp h'
    unfold itp; rw [iha h2.1, ihb h2.2]
  | mul a b iha ihb =>
    have h' : tyM a ||| tyM b = 0 := h
    have h2 := Nat.or_eq_zero_iff.mp h'
    unfold itp; rw [iha h2.1, ihb h2.2]
theorem run_lt {T : List Tok} {D : List Df} {t : Tr} {c : CS} (G : gX T D t c) {d : Nat} (hd : d < D.length) {A : List Va} (hA : aRg D d A) : tyM (dTy D d) = 0 := by
  have hx : D[d]? = some D[d] := List.getElem?_eq_getElem hd
  obtain ⟨q1, q2, q3⟩ := dPs_some hx
  rw [q2]
  apply Nat.eq_of_testBit_eq
  intro b
  rw [Nat.zero_testBit]
  cases hb : Nat.testBit (tyM D[d].2.2.1) b with
  | false => rfl
  | true =>
    exfalso
    obtain ⟨p, p1, p2⟩ := pmM_mem _ b (G.2.2.1 d _ hx b hb)
    have hm : p.2 ∈ dPs D d := by rw [q1]; exact List.mem_map.mpr ⟨p, List.mem_reverse.mpr p1, rfl⟩
    obtain ⟨i, hi⟩ := List.mem_iff_getElem?.mp hm
    have hil := (List.getElem?_eq_some_iff.mp hi).1
    have hlA := hA.1
    obtain ⟨y, hai⟩ : ∃ y, A[i]? = some y := ⟨_, List.getElem?_eq_getElem (by omega)⟩
    obtain ⟨a1, a2⟩ := hA.2 i _ _ hai hi
    rw [a2] at p2
    have h0 : tyM (.num y.1) = 0 := by show (if y.1 < 2 then 0 else 2 ^ (y.1 - 2)) = 0; rw [if_pos a1]
    rw [h0, Nat.zero_testBit] at p2; cases p2
theorem run_T {T : List Tok} {D : List Df} {t : Tr} {c : CS} (G : gX T D t c) (bx : Bool) {d lim : Nat} (hd : d < D.length) {A : List Va} (hA : aRg D d A) (hl : lim ≤ 20000) : ∃ r sf, rch D t c bx lim 9700000 (s0R D d A) r sf ∧ 1 ≤ r ∧ r ≤ 4 ∧ (r = 1 → ∃ τ M, hT T D t c τ (M, sf.2.1, sf.2.2.1) sf.1.1 ∧ vT τ sf.2.2.2.2.1 (dTy D d)) := by
  have hx : D[d]? = some D[d] := List.getElem?_eq_getElem hd
  have h8 : ∀ e, e < t.1 → (t.2.1 e).1 = 16 → (t.2.1 e).2.2.2.2.2.2.length ≤ 8 := fun e he h16 => by
    obtain ⟨_, _, hn⟩ := nC_any G.1 he h16
    exact hn.2.2.2.2.2.2.1
  have hw : dWd D d = D[d].2.2.2.2.2.2.1 := by unfold dWd; rw [hx]
  obtain ⟨p1, p2, p3, p4⟩ := pW_par G.1 d _ hx
  obtain ⟨q1, q2, q3⟩ := dPs_some hx
  have hw24 : dWd D d ≤ 24 := by
    have := (G.1.1 d _ hx).2.2.2.2.2.2.1.2.2.1
    rw [hw]; exact this
  have hAl := hA.1
  let ρ : Nat → Ty := fun _ => .num 0
  have hroot : c.1 (dRt D d) = some (dTy D d) := by
    have := G.2.2.2.2.1.2.1 d _ hd hx
    unfold dRt dTy; rw [hx]; exact this
  have hS : wS T D t c bx (dTy D d) (s0R D d A) := by
    refine ⟨[], mDef D c (fun _ => none) 0 d ρ, ⟨rfl, by show 0 ≤ 4000; omega, fun i r it hi => by cases hi⟩, ?_, by show 0 + dWd D d ≤ 60000; omega, Or.inl ⟨dRt D d, 0, ρ, rfl, ?_, ?_⟩⟩
    · intro i y hy
      have hy' : lDef (fun _ => none) 0 (dWd D d) A i = some y := hy
      show ∃ r, mDef D c (fun _ => none) 0 d ρ i = some r ∧ _
      unfold lDef at hy'
      unfold mDef
      by_cases ei : 0 ≤ i ∧ i < 0 + dWd D d
      · rw [if_pos ei] at hy' ⊢
        have hk := (List.getElem?_eq_some_iff.mp hy').1
        have hpk : (dPs D d)[i - 0]? = some (dPs D d)[i - 0] := List.getElem?_eq_getElem (by omega)
        rw [(par_ty G hx hpk).1]
        obtain ⟨a1, a2⟩ := hA.2 _ _ _ hy' hpk
        refine ⟨_, rfl, ?_⟩
        rw [a2]
        have ei2 : itp ρ (.num y.1) = .num y.1 := by unfold itp; rw [if_pos a1]
        rw [ei2]
        exact ⟨by show y.1 = (if y.1 < 2 then y.1 else 4); rw [if_pos a1], Or.inl a1⟩
      · rw [if_neg ei] at hy'; cases hy'
    · refine ⟨d, _, nS_root G hx, ⟨Nat.le_refl _, fun l hl' => ?_, fun l hl' => ?_⟩, by omega, _, hroot⟩
      · show mDef D c (fun _ => none) 0 d ρ (0 + l) = _
        unfold mDef; rw [if_pos (by omega), Nat.add_sub_cancel_left]
      · have hl'' : l < D[d].2.1.length := hl'
        have hlw : l < dWd D d := by omega
        refine ⟨hlw, ?_⟩
        show ∃ v, lDef (fun _ => none) 0 (dWd D d) A (0 + l) = some v
        unfold lDef; rw [if_pos (by omega), Nat.add_sub_cancel_left]
        exact ⟨_, List.getElem?_eq_getElem (by omega)⟩
    · show rt c bx ρ (dRt D d) = dTy D d
      rw [rt_n (rt_nsh G hx), tE_s hroot, itp_id ρ (run_lt G hd hA)]
  refine rch_T G lim h8 9700000 (s0R D d A) hS (by show 0 ≤ 150; omega) ?_
  show 480 * (lim - 0) + 0 + (if (0 : Nat) = 0 then 498 - 3 * 0 else _) < 9700000
  rw [if_pos rfl]; omega
