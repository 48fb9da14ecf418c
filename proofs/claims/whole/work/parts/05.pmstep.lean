/-! one instruction, a block of them -/
def pm_xk (y : pm_m) (o : pm_I) : Bool := match o.1 with
  | .iconst n => decide (Int32.ofInt n = o.2.1)
  | .bipush n => decide ((Int8.ofInt n).toInt32 = o.2.1)
  | .sipush n => decide ((Int16.ofInt n).toInt32 = o.2.1)
  | .lconst n => decide (Int64.ofNat n.val = o.2.2.1)
  | .ldc i => (pm_ctab y.1.cls).any (fun f => decide (f.1 = i) && decide (f.2 = o.2.1))
  | .ldc2_w i => (pm_ltab y.1.cls).any (fun f => decide (f.1 = i) && decide (f.2 = o.2.2.1))
  | .iinc _ n => decide (Int32.ofInt n = o.2.1)
  | .getfield i => (pm_ftab y.1.cls).any (fun f => decide (f.1 = i) && decide (f.2.1 = o.2.2.2.1) && decide (f.2.2.1 = o.2.2.2.2.1) && decide (f.2.2.2.1 = o.2.2.2.2.2))
  | .putfield i => (pm_ftab y.1.cls).any (fun f => decide (f.1 = i) && decide (f.2.1 = o.2.2.2.1) && decide (f.2.2.1 = o.2.2.2.2.1) && decide (f.2.2.2.1 = o.2.2.2.2.2) && (!f.2.2.2.2 || (decide (y.1.name = "<init>") && decide (pm_on f.2.1 = y.1.cls))))
  | _ => true
section PMT
variable {x : pm_c} {y : pm_m} {h0 : Nat} {D : pm_D} {b : pm_b} {Q : State → Prop} {pc : Nat} {L L' : List (Nat × Value)} {S S' : List Value} {M M' : pm_M}
theorem pm_getV {ci k t idx : Nat} {v1 : Int32} {v2 : Int64} (hx9 : pm_xk y (.getfield idx, v1, v2, ci, k, t) = true) (hd : decode y.2.1 pc = .ok (.getfield idx, 3)) (hs : pm_gf ci k t L S M = some (L', S', M')) (kk : pm_V x y h0 D b Q (pc + 3) L' S' M') : pm_V x y h0 D b Q pc L S M := by
  obtain ⟨p, l, e, R, s, m, args, below, meth, c⟩ := x
  simp only [pm_xk, List.any_eq_true, Bool.and_eq_true, decide_eq_true_eq] at hx9
  obtain ⟨f, hf, ⟨⟨e1, e2⟩, e3⟩, e4⟩ := hx9
  obtain ⟨q, hc, hci, hk, hl, hft, -, -⟩ := pm_ftab_s hf
  rw [e2] at hc hci hft; rw [e3] at hk hl hft; rw [e1] at hl; rw [e4] at hft
  unfold pm_gf at hs
  split at hs
  · rename_i a T
    obtain ⟨hka, hs⟩ := pm_beq hs
    intro X H locs ls hR hF hlo hL hn hz
    obtain ⟨X1, X2, X3, X4, X5, X6, X7⟩ := id X
    refine pm_getW X1 X2 X4 X5 X6 hR hka hci hc hk hl hd ?_
    rw [hft]
    by_cases t1 : t = 1
    · subst t1
      obtain ⟨rfl, rfl, rfl⟩ := pm_some3 hs
      exact kk X H locs ls hR hF hlo hL hn hz
    · have b1 : Nat.beq t 1 = false := by
        cases h9 : Nat.beq t 1 with
        | true => exact absurd (Nat.eq_of_beq_eq_true h9) t1
        | false => rfl
      rw [b1] at hs
      by_cases t2 : t = 2
      · subst t2
        obtain ⟨rfl, rfl, rfl⟩ := pm_some3 hs
        exact kk X H locs ls hR hF hlo hL hn hz
      · have b2 : Nat.beq t 2 = false := by
          cases h9 : Nat.beq t 2 with
          | true => exact absurd (Nat.eq_of_beq_eq_true h9) t2
          | false => rfl
        rw [b2] at hs
        obtain ⟨rfl, rfl, rfl⟩ := pm_some3 hs
        have h9 := kk X H locs ls hR hF hlo hL hn hz
        have e9 : pm_fv h0 M t a k = .int (M.2.1 a k) := by simp [pm_fv, t1, t2]
        rw [e9]
        exact h9
  · cases hs
/-- a field is written: any new memory that differs there alone -/
theorem pm_putV {ci k t idx a : Nat} {v1 : Int32} {v2 : Int64} (hx9 : pm_xk y (.putfield idx, v1, v2, ci, k, t) = true) (hd : decode y.2.1 pc = .ok (.putfield idx, 3)) (hka : M.1.2.2.1 a = ci) {v : Value} (hv : ∀ ty, pm_tc ty = t → narrow ty (pm_cv h0 v) = pm_cv h0 v ∧ fits ty (pm_cv h0 v) = true)
    (m1 : M'.1.1 = M.1.1) (m1z : M'.1.2.1 = M.1.2.1) (m2 : M'.1.2.2.1 = M.1.2.2.1) (m3 : M'.1.2.2.2.1 = M.1.2.2.2.1) (m4 : ∀ c, c ≠ a → ∀ k, M'.1.2.2.2.2 c k = M.1.2.2.2.2 c k) (m5 : ∀ c, c ≠ a → ∀ k, M'.2.1 c k = M.2.1 c k) (m6 : ∀ c, c ≠ a → ∀ k, M'.2.2 c k = M.2.2 c k) (m7 : ∀ t j, j ≠ k → pm_fv h0 M' t a j = pm_fv h0 M t a j) (m8 : pm_fv h0 M' t a k = pm_cv h0 v)
    (kk : pm_V x y h0 D b Q (pc + 3) L S M') : pm_V x y h0 D b Q pc L (v :: .ref a :: S) M := by
  obtain ⟨p, l, e, R, s, m, args, below, meth, c⟩ := x
  simp only [pm_xk, List.any_eq_true, Bool.and_eq_true, decide_eq_true_eq, Bool.or_eq_true, Bool.not_eq_true'] at hx9
  obtain ⟨f, hf, ⟨⟨⟨e1, e2⟩, e3⟩, e4⟩, e5⟩ := hx9
  obtain ⟨q, hc, hci, hk, hl, hft, hfi, hdc⟩ := pm_ftab_s hf
  rw [e2] at hc hci hft hdc; rw [e3] at hk hl hft hfi hdc; rw [e1] at hl; rw [e4] at hft; rw [e2] at e5
  intro X H locs ls hR hF hlo hL hn hz
  obtain ⟨X1, X2, X3, X4, X5, X6, X7, X8, X9, X10⟩ := id X
  obtain ⟨-, -, hpa⟩ := pm_ck_s hc
  obtain ⟨ty, hty⟩ := hpa k hk
  have htc : pm_tc ty = t := by
    have h9 := hft
    unfold pm_ft at h9
    rw [hc] at h9
    simp only [hty] at h9
    exact h9
  refine pm_putW X1 X2 X4 X5 X6 hR hka hci hc hk hl ?_ hty (hv ty htc).1 (hv ty htc).2 m1 m2 m3 m4 m5 m6 m7 (by rw [hft]; exact m8) hd (fun H' z hz9 hR' hF' => ?_)
  · rcases e5 with h9 | ⟨h9, h8⟩
    · exact Or.inl (by rw [hfi]; exact h9)
    · cases hq : (q.2.1 k).2.2.2 with
      | false => exact Or.inl rfl
      | true => exact Or.inr ⟨rfl, by rw [X9]; exact h9, by rw [hdc]; exact h8⟩
  · have h9 := kk X H' (locs ++ [z]) ls hR' (fun q hq => (hF' q hq).trans (hF q hq)) (fun w hw => by
      rcases List.mem_append.mp hw with h | h
      · exact hlo w h
      · rw [List.mem_singleton.mp h, hz9]; omega) hL (by rw [m1]; exact hn) (by rw [m1z]; exact hz)
    rw [m1, m1z] at h9
    exact h9
theorem pm_wi_n (M : pm_M) (a k : Nat) (v : Int32) (j : Nat) (h : j ≠ k) (h0 t : Nat) : pm_fv h0 (pm_wi M a k v) t a j = pm_fv h0 M t a j := by simp [pm_fv, pm_wi, h]
theorem pm_wj_n (M : pm_M) (a k : Nat) (v : Int64) (j : Nat) (h : j ≠ k) (h0 t : Nat) : pm_fv h0 (pm_wj M a k v) t a j = pm_fv h0 M t a j := by simp [pm_fv, pm_wj, h]
theorem pm_wr_n (M : pm_M) (a k : Nat) (v : Option Nat) (j : Nat) (h : j ≠ k) (h0 t : Nat) : pm_fv h0 (pm_wr M a k v) t a j = pm_fv h0 M t a j := by simp [pm_fv, pm_wr, h]
theorem pm_tc0 {ty : FieldType} (h : pm_tc ty = 0) : ty = .int := by cases ty <;> first | rfl | (simp [pm_tc] at h)
theorem pm_tc1 {ty : FieldType} (h : pm_tc ty = 1) : ty = .long := by cases ty <;> first | rfl | (simp [pm_tc] at h)
theorem pm_tc3 {ty : FieldType} (h : pm_tc ty = 3) : ty = .boolean := by cases ty <;> first | rfl | (simp [pm_tc] at h)
theorem pm_tc2 {ty : FieldType} (h : pm_tc ty = 2) : (∃ C, ty = .object C) ∨ ∃ t, ty = .array t := by cases ty <;> first | exact Or.inl ⟨_, rfl⟩ | exact Or.inr ⟨_, rfl⟩ | (simp [pm_tc] at h)
theorem pm_fitz {v : Int32} (h : (v == 0 || v == 1) = true) : narrow .boolean (.int v) = .int v ∧ fits .boolean (.int v) = true := by
  refine ⟨?_, h⟩
  rcases Bool.or_eq_true _ _ |>.mp h with h | h
  · rw [eq_of_beq h]; rfl
  · rw [eq_of_beq h]; rfl
theorem pm_puti {ci k t idx a : Nat} {v1 : Int32} {v2 : Int64} (hx9 : pm_xk y (.putfield idx, v1, v2, ci, k, t) = true) (hd : decode y.2.1 pc = .ok (.putfield idx, 3)) (hka : M.1.2.2.1 a = ci) {v : Int32} (ht : t = 0 ∨ (t = 3 ∧ (v == 0 || v == 1) = true)) (kk : pm_V x y h0 D b Q (pc + 3) L S (pm_wi M a k v)) : pm_V x y h0 D b Q pc L (.int v :: .ref a :: S) M := by
  refine pm_putV (v := .int v) (M' := pm_wi M a k v) hx9 hd hka (fun ty hty => ?_) rfl rfl rfl rfl (fun _ _ _ => rfl) (fun c hc k => by simp [pm_wi, hc]) (fun _ _ _ => rfl) (fun t j h => pm_wi_n M a k v j h h0 t) ?_ kk
  · rcases ht with h | ⟨h, h2⟩
    · rw [pm_tc0 (hty.trans h)]; exact ⟨rfl, rfl⟩
    · rw [pm_tc3 (hty.trans h)]; exact pm_fitz h2
  · rcases ht with h | ⟨h, h2⟩ <;> subst h <;> simp [pm_fv, pm_wi, pm_cv]
theorem pm_pfV {ci k t idx : Nat} {v1 : Int32} {v2 : Int64} (hx9 : pm_xk y (.putfield idx, v1, v2, ci, k, t) = true) (hd : decode y.2.1 pc = .ok (.putfield idx, 3)) (hs : pm_pf ci k t L S M = some (L', S', M')) (kk : pm_V x y h0 D b Q (pc + 3) L' S' M') : pm_V x y h0 D b Q pc L S M := by
  unfold pm_pf at hs
  split at hs
  · rename_i v a T
    obtain ⟨hka, hs⟩ := pm_beq hs
    cases b0 : Nat.beq t 0 with
    | true =>
      rw [b0] at hs
      obtain ⟨rfl, rfl, rfl⟩ := pm_some3 hs
      exact pm_puti hx9 hd hka (Or.inl (Nat.eq_of_beq_eq_true b0)) kk
    | false =>
      rw [b0] at hs
      obtain ⟨h3, hs⟩ := pm_beq hs
      cases bz : (v == 0 || v == 1) with
      | false => rw [bz] at hs; cases hs
      | true =>
        rw [bz] at hs
        obtain ⟨rfl, rfl, rfl⟩ := pm_some3 hs
        exact pm_puti hx9 hd hka (Or.inr ⟨h3, bz⟩) kk
  · rename_i v a T
    obtain ⟨hka, hs⟩ := pm_beq hs
    obtain ⟨h1, hs⟩ := pm_beq hs
    obtain ⟨rfl, rfl, rfl⟩ := pm_some3 hs
    subst h1
    refine pm_putV (v := .long v) (M' := pm_wj M a k v) hx9 hd hka (fun ty hty => ?_) rfl rfl rfl rfl (fun _ _ _ => rfl) (fun _ _ _ => rfl) (fun c hc k => by simp [pm_wj, hc]) (fun t j h => pm_wj_n M a k v j h h0 t) (by simp [pm_fv, pm_wj, pm_cv]) kk
    rw [pm_tc1 hty]; exact ⟨rfl, rfl⟩
  · rename_i v a T
    obtain ⟨hka, hs⟩ := pm_beq hs
    obtain ⟨h1, hs⟩ := pm_beq hs
    obtain ⟨rfl, rfl, rfl⟩ := pm_some3 hs
    subst h1
    refine pm_putV (v := .ref v) (M' := pm_wr M a k (some v)) hx9 hd hka (fun ty hty => ?_) rfl rfl rfl rfl (fun c hc k => by simp [pm_wr, hc]) (fun _ _ _ => rfl) (fun _ _ _ => rfl) (fun t j h => pm_wr_n M a k (some v) j h h0 t) (by simp [pm_fv, pm_wr, pm_cv, va_rf]) kk
    rcases pm_tc2 hty with ⟨C, rfl⟩ | ⟨t, rfl⟩ <;> exact ⟨rfl, rfl⟩
  · cases hs
theorem pm_stV (i : pm_I) (hd : decode y.2.1 pc = .ok (i.1, pm_ln i.1)) (hx9 : pm_xk y i = true) (hs : pm_st y.2.2.1 i L S M = some (L', S', M')) (kk : pm_V x y h0 D b Q (pc + pm_ln i.1) L' S' M') : pm_V x y h0 D b Q pc L S M := by
  obtain ⟨i, v1, v2, ci, k, t⟩ := i
  cases i with
  | getfield idx => exact pm_getV hx9 hd hs kk
  | putfield idx => exact pm_pfV hx9 hd hs kk
  | iconst n =>
    obtain ⟨p, l, e, R, s, m, args, below, meth, c⟩ := x
    obtain ⟨rfl, rfl, rfl⟩ := pm_some3 hs
    intro X H locs ls hR hF hlo hL hn hz
    exact lv_iconst X.1 X.2.1 hd (of_decide_eq_true hx9) (kk X H locs ls hR hF hlo hL hn hz)
  | bipush n =>
    obtain ⟨p, l, e, R, s, m, args, below, meth, c⟩ := x
    obtain ⟨rfl, rfl, rfl⟩ := pm_some3 hs
    intro X H locs ls hR hF hlo hL hn hz
    exact lv_bipush X.1 X.2.1 hd (of_decide_eq_true hx9) (kk X H locs ls hR hF hlo hL hn hz)
  | sipush n =>
    obtain ⟨p, l, e, R, s, m, args, below, meth, c⟩ := x
    obtain ⟨rfl, rfl, rfl⟩ := pm_some3 hs
    intro X H locs ls hR hF hlo hL hn hz
    exact lv_sipush X.1 X.2.1 hd (of_decide_eq_true hx9) (kk X H locs ls hR hF hlo hL hn hz)
  | lconst n =>
    obtain ⟨p, l, e, R, s, m, args, below, meth, c⟩ := x
    obtain ⟨rfl, rfl, rfl⟩ := pm_some3 hs
    intro X H locs ls hR hF hlo hL hn hz
    exact lv_lconst X.1 X.2.1 hd (of_decide_eq_true hx9) (kk X H locs ls hR hF hlo hL hn hz)
  | ldc n =>
    obtain ⟨p, l, e, R, s, m, args, below, meth, c⟩ := x
    obtain ⟨rfl, rfl, rfl⟩ := pm_some3 hs
    intro X H locs ls hR hF hlo hL hn hz
    simp only [pm_xk, List.any_eq_true, Bool.and_eq_true, decide_eq_true_eq] at hx9
    obtain ⟨f, hf, e1, e2⟩ := hx9
    have hw := pm_ctab_s hf
    rw [e1, e2] at hw
    exact lv_ldc X.1 X.2.1 X.2.2.2.1 (X.2.2.2.2.1 _ hw) hd (kk X H locs ls hR hF hlo hL hn hz)
  | ldc2_w n =>
    obtain ⟨p, l, e, R, s, m, args, below, meth, c⟩ := x
    obtain ⟨rfl, rfl, rfl⟩ := pm_some3 hs
    intro X H locs ls hR hF hlo hL hn hz
    simp only [pm_xk, List.any_eq_true, Bool.and_eq_true, decide_eq_true_eq] at hx9
    obtain ⟨f, hf, e1, e2⟩ := hx9
    have hw := pm_ltab_s hf
    rw [e1, e2] at hw
    exact lv_ldc2 X.1 X.2.1 X.2.2.2.1 (X.2.2.2.2.1 _ hw) hd (kk X H locs ls hR hF hlo hL hn hz)
  | iload n =>
    obtain ⟨p, l, e, R, s, m, args, below, meth, c⟩ := x
    obtain ⟨v, hv, rfl, rfl, rfl⟩ := pm_ldi_s hs
    intro X H locs ls hR hF hlo hL hn hz
    exact lv_iload X.1 X.2.1 hd (pm_has hL hv) (kk X H locs ls hR hF hlo hL hn hz)
  | iload_n n =>
    obtain ⟨p, l, e, R, s, m, args, below, meth, c⟩ := x
    obtain ⟨v, hv, rfl, rfl, rfl⟩ := pm_ldi_s hs
    intro X H locs ls hR hF hlo hL hn hz
    exact lv_iload_n X.1 X.2.1 hd rfl (pm_has hL hv) (kk X H locs ls hR hF hlo hL hn hz)
  | lload n =>
    obtain ⟨p, l, e, R, s, m, args, below, meth, c⟩ := x
    obtain ⟨v, hv, rfl, rfl, rfl⟩ := pm_ldj_s hs
    intro X H locs ls hR hF hlo hL hn hz
    exact lv_lload X.1 X.2.1 hd (pm_has hL hv) (kk X H locs ls hR hF hlo hL hn hz)
  | lload_n n =>
    obtain ⟨p, l, e, R, s, m, args, below, meth, c⟩ := x
    obtain ⟨v, hv, rfl, rfl, rfl⟩ := pm_ldj_s hs
    intro X H locs ls hR hF hlo hL hn hz
    exact lv_lload_n X.1 X.2.1 hd rfl (pm_has hL hv) (kk X H locs ls hR hF hlo hL hn hz)
  | aload n =>
    obtain ⟨p, l, e, R, s, m, args, below, meth, c⟩ := x
    obtain ⟨v, hv, rfl, rfl, rfl⟩ := pm_lda_s hs
    intro X H locs ls hR hF hlo hL hn hz
    exact lv_aload X.1 X.2.1 hd (pm_has hL hv) (kk X H locs ls hR hF hlo hL hn hz)
  | aload_n n =>
    obtain ⟨p, l, e, R, s, m, args, below, meth, c⟩ := x
    obtain ⟨v, hv, rfl, rfl, rfl⟩ := pm_lda_s hs
    intro X H locs ls hR hF hlo hL hn hz
    exact lv_aload_n X.1 X.2.1 hd rfl (pm_has hL hv) (kk X H locs ls hR hF hlo hL hn hz)
  | istore n =>
    obtain ⟨p, l, e, R, s, m, args, below, meth, c⟩ := x
    obtain ⟨v, T, rfl, hi, rfl, rfl, rfl⟩ := pm_sti_s hs
    intro X H locs ls hR hF hlo hL hn hz
    exact lv_istore X.1 X.2.1 hd hL hi (pm_s1_eq h0 L _ (.int v)) (fun ls hL => kk X H locs ls hR hF hlo hL hn hz)
  | istore_n n =>
    obtain ⟨p, l, e, R, s, m, args, below, meth, c⟩ := x
    obtain ⟨v, T, rfl, hi, rfl, rfl, rfl⟩ := pm_sti_s hs
    intro X H locs ls hR hF hlo hL hn hz
    exact lv_istore_n X.1 X.2.1 hd rfl hL hi (pm_s1_eq h0 L _ (.int v)) (fun ls hL => kk X H locs ls hR hF hlo hL hn hz)
  | lstore n =>
    obtain ⟨p, l, e, R, s, m, args, below, meth, c⟩ := x
    obtain ⟨v, T, rfl, hi, rfl, rfl, rfl⟩ := pm_stj_s hs
    intro X H locs ls hR hF hlo hL hn hz
    exact lv_lstore X.1 X.2.1 hd hL hi (pm_s2_eq h0 L _ (.long v)) (fun ls hL => kk X H locs ls hR hF hlo hL hn hz)
  | lstore_n n =>
    obtain ⟨p, l, e, R, s, m, args, below, meth, c⟩ := x
    obtain ⟨v, T, rfl, hi, rfl, rfl, rfl⟩ := pm_stj_s hs
    intro X H locs ls hR hF hlo hL hn hz
    exact lv_lstore_n X.1 X.2.1 hd rfl hL hi (pm_s2_eq h0 L _ (.long v)) (fun ls hL => kk X H locs ls hR hF hlo hL hn hz)
  | astore n =>
    obtain ⟨p, l, e, R, s, m, args, below, meth, c⟩ := x
    obtain ⟨v, T, rfl, hi, rfl, rfl, rfl⟩ := pm_sta_s hs
    intro X H locs ls hR hF hlo hL hn hz
    exact lv_astore X.1 X.2.1 hd hL hi (pm_s1_eq h0 L _ (.ref v)) (fun ls hL => kk X H locs ls hR hF hlo hL hn hz)
  | astore_n n =>
    obtain ⟨p, l, e, R, s, m, args, below, meth, c⟩ := x
    obtain ⟨v, T, rfl, hi, rfl, rfl, rfl⟩ := pm_sta_s hs
    intro X H locs ls hR hF hlo hL hn hz
    exact lv_astore_n X.1 X.2.1 hd rfl hL hi (pm_s1_eq h0 L _ (.ref v)) (fun ls hL => kk X H locs ls hR hF hlo hL hn hz)
  | iinc n d =>
    obtain ⟨p, l, e, R, s, m, args, below, meth, c⟩ := x
    have hs : (match pm_lk L n with | some (.int v) => cond (Nat.blt n y.2.2.1) (some (pm_s1 L n (.int (v + v1)), S, M)) none | _ => none) = some (L', S', M') := hs
    split at hs
    · rename_i v hv
      obtain ⟨hi, hs⟩ := pm_blt hs
      obtain ⟨rfl, rfl, rfl⟩ := pm_some3 (congrArg some hs)
      intro X H locs ls hR hF hlo hL hn hz
      obtain ⟨kq, hkq⟩ := List.getElem?_of_mem (List.mem_map.mpr ⟨(n, .int v), pm_lk_mem hv, rfl⟩ : (n, Value.int v) ∈ L.map (pm_cp h0))
      exact lv_iinc X.1 X.2.1 hd hL hkq (congrArg (v + ·) (of_decide_eq_true hx9)) hi (pm_s1_eq h0 L n (.int (v + v1))) (fun ls hL => kk X H locs ls hR hF hlo hL hn hz)
    · cases hs
  | iadd =>
    obtain ⟨p, l, e, R, s, m, args, below, meth, c⟩ := x
    obtain ⟨u, v, T, rfl, rfl, rfl, rfl⟩ := pm_ii_s hs
    intro X H locs ls hR hF hlo hL hn hz
    exact lv_iadd X.1 X.2.1 hd (kk X H locs ls hR hF hlo hL hn hz)
  | isub =>
    obtain ⟨p, l, e, R, s, m, args, below, meth, c⟩ := x
    obtain ⟨u, v, T, rfl, rfl, rfl, rfl⟩ := pm_ii_s hs
    intro X H locs ls hR hF hlo hL hn hz
    exact lv_isub X.1 X.2.1 hd (kk X H locs ls hR hF hlo hL hn hz)
  | imul =>
    obtain ⟨p, l, e, R, s, m, args, below, meth, c⟩ := x
    obtain ⟨u, v, T, rfl, rfl, rfl, rfl⟩ := pm_ii_s hs
    intro X H locs ls hR hF hlo hL hn hz
    exact lv_imul X.1 X.2.1 hd (kk X H locs ls hR hF hlo hL hn hz)
  | iand =>
    obtain ⟨p, l, e, R, s, m, args, below, meth, c⟩ := x
    obtain ⟨u, v, T, rfl, rfl, rfl, rfl⟩ := pm_ii_s hs
    intro X H locs ls hR hF hlo hL hn hz
    exact lv_iand X.1 X.2.1 hd (kk X H locs ls hR hF hlo hL hn hz)
  | ior =>
    obtain ⟨p, l, e, R, s, m, args, below, meth, c⟩ := x
    obtain ⟨u, v, T, rfl, rfl, rfl, rfl⟩ := pm_ii_s hs
    intro X H locs ls hR hF hlo hL hn hz
    exact lv_ior X.1 X.2.1 hd (kk X H locs ls hR hF hlo hL hn hz)
  | ixor =>
    obtain ⟨p, l, e, R, s, m, args, below, meth, c⟩ := x
    obtain ⟨u, v, T, rfl, rfl, rfl, rfl⟩ := pm_ii_s hs
    intro X H locs ls hR hF hlo hL hn hz
    exact lv_ixor X.1 X.2.1 hd (kk X H locs ls hR hF hlo hL hn hz)
  | ishl =>
    obtain ⟨p, l, e, R, s, m, args, below, meth, c⟩ := x
    obtain ⟨u, v, T, rfl, rfl, rfl, rfl⟩ := pm_ii_s hs
    intro X H locs ls hR hF hlo hL hn hz
    exact lv_ishl X.1 X.2.1 hd (kk X H locs ls hR hF hlo hL hn hz)
  | ishr =>
    obtain ⟨p, l, e, R, s, m, args, below, meth, c⟩ := x
    obtain ⟨u, v, T, rfl, rfl, rfl, rfl⟩ := pm_ii_s hs
    intro X H locs ls hR hF hlo hL hn hz
    exact lv_ishr X.1 X.2.1 hd (kk X H locs ls hR hF hlo hL hn hz)
  | iushr =>
    obtain ⟨p, l, e, R, s, m, args, below, meth, c⟩ := x
    obtain ⟨u, v, T, rfl, rfl, rfl, rfl⟩ := pm_ii_s hs
    intro X H locs ls hR hF hlo hL hn hz
    exact lv_iushr X.1 X.2.1 hd rfl (kk X H locs ls hR hF hlo hL hn hz)
  | ladd =>
    obtain ⟨p, l, e, R, s, m, args, below, meth, c⟩ := x
    obtain ⟨u, v, T, rfl, rfl, rfl, rfl⟩ := pm_jj_s hs
    intro X H locs ls hR hF hlo hL hn hz
    exact lv_ladd X.1 X.2.1 hd (kk X H locs ls hR hF hlo hL hn hz)
  | lsub =>
    obtain ⟨p, l, e, R, s, m, args, below, meth, c⟩ := x
    obtain ⟨u, v, T, rfl, rfl, rfl, rfl⟩ := pm_jj_s hs
    intro X H locs ls hR hF hlo hL hn hz
    exact lv_lsub X.1 X.2.1 hd (kk X H locs ls hR hF hlo hL hn hz)
  | lmul =>
    obtain ⟨p, l, e, R, s, m, args, below, meth, c⟩ := x
    obtain ⟨u, v, T, rfl, rfl, rfl, rfl⟩ := pm_jj_s hs
    intro X H locs ls hR hF hlo hL hn hz
    exact lv_lmul X.1 X.2.1 hd (kk X H locs ls hR hF hlo hL hn hz)
  | land =>
    obtain ⟨p, l, e, R, s, m, args, below, meth, c⟩ := x
    obtain ⟨u, v, T, rfl, rfl, rfl, rfl⟩ := pm_jj_s hs
    intro X H locs ls hR hF hlo hL hn hz
    exact lv_land X.1 X.2.1 hd (kk X H locs ls hR hF hlo hL hn hz)
  | lor =>
    obtain ⟨p, l, e, R, s, m, args, below, meth, c⟩ := x
    obtain ⟨u, v, T, rfl, rfl, rfl, rfl⟩ := pm_jj_s hs
    intro X H locs ls hR hF hlo hL hn hz
    exact lv_lor X.1 X.2.1 hd (kk X H locs ls hR hF hlo hL hn hz)
  | lxor =>
    obtain ⟨p, l, e, R, s, m, args, below, meth, c⟩ := x
    obtain ⟨u, v, T, rfl, rfl, rfl, rfl⟩ := pm_jj_s hs
    intro X H locs ls hR hF hlo hL hn hz
    exact lv_lxor X.1 X.2.1 hd (kk X H locs ls hR hF hlo hL hn hz)
  | lshl =>
    obtain ⟨p, l, e, R, s, m, args, below, meth, c⟩ := x
    obtain ⟨u, v, T, rfl, rfl, rfl, rfl⟩ := pm_ji_s hs
    intro X H locs ls hR hF hlo hL hn hz
    exact lv_lshl X.1 X.2.1 hd rfl (kk X H locs ls hR hF hlo hL hn hz)
  | lshr =>
    obtain ⟨p, l, e, R, s, m, args, below, meth, c⟩ := x
    obtain ⟨u, v, T, rfl, rfl, rfl, rfl⟩ := pm_ji_s hs
    intro X H locs ls hR hF hlo hL hn hz
    exact lv_lshr X.1 X.2.1 hd rfl (kk X H locs ls hR hF hlo hL hn hz)
  | lushr =>
    obtain ⟨p, l, e, R, s, m, args, below, meth, c⟩ := x
    obtain ⟨u, v, T, rfl, rfl, rfl, rfl⟩ := pm_ji_s hs
    intro X H locs ls hR hF hlo hL hn hz
    exact lv_lushr X.1 X.2.1 hd rfl (kk X H locs ls hR hF hlo hL hn hz)
  | ineg =>
    obtain ⟨p, l, e, R, s, m, args, below, meth, c⟩ := x
    simp only [pm_st] at hs
    split at hs
    · obtain ⟨rfl, rfl, rfl⟩ := pm_some3 hs
      intro X H locs ls hR hF hlo hL hn hz
      exact lv_ineg X.1 X.2.1 hd (kk X H locs ls hR hF hlo hL hn hz)
    · cases hs
  | i2l =>
    obtain ⟨p, l, e, R, s, m, args, below, meth, c⟩ := x
    simp only [pm_st] at hs
    split at hs
    · obtain ⟨rfl, rfl, rfl⟩ := pm_some3 hs
      intro X H locs ls hR hF hlo hL hn hz
      exact lv_i2l X.1 X.2.1 hd rfl (kk X H locs ls hR hF hlo hL hn hz)
    · cases hs
  | l2i =>
    obtain ⟨p, l, e, R, s, m, args, below, meth, c⟩ := x
    simp only [pm_st] at hs
    split at hs
    · obtain ⟨rfl, rfl, rfl⟩ := pm_some3 hs
      intro X H locs ls hR hF hlo hL hn hz
      exact lv_l2i X.1 X.2.1 hd rfl (kk X H locs ls hR hF hlo hL hn hz)
    · cases hs
  | lcmp =>
    obtain ⟨p, l, e, R, s, m, args, below, meth, c⟩ := x
    simp only [pm_st] at hs
    split at hs
    · obtain ⟨rfl, rfl, rfl⟩ := pm_some3 hs
      intro X H locs ls hR hF hlo hL hn hz
      exact W.lcmp X.1 X.2.1 hd (kk X H locs ls hR hF hlo hL hn hz)
    · cases hs
  | dup =>
    obtain ⟨p, l, e, R, s, m, args, below, meth, c⟩ := x
    simp only [pm_st] at hs
    split at hs
    · obtain ⟨rfl, rfl, rfl⟩ := pm_some3 hs
      intro X H locs ls hR hF hlo hL hn hz
      exact lv_dup X.1 X.2.1 hd rfl (kk X H locs ls hR hF hlo hL hn hz)
    · obtain ⟨rfl, rfl, rfl⟩ := pm_some3 hs
      intro X H locs ls hR hF hlo hL hn hz
      exact lv_dup X.1 X.2.1 hd rfl (kk X H locs ls hR hF hlo hL hn hz)
    · cases hs
  | pop =>
    obtain ⟨p, l, e, R, s, m, args, below, meth, c⟩ := x
    simp only [pm_st] at hs
    split at hs
    · obtain ⟨rfl, rfl, rfl⟩ := pm_some3 hs
      intro X H locs ls hR hF hlo hL hn hz
      exact lv_pop X.1 X.2.1 hd rfl (kk X H locs ls hR hF hlo hL hn hz)
    · obtain ⟨rfl, rfl, rfl⟩ := pm_some3 hs
      intro X H locs ls hR hF hlo hL hn hz
      exact lv_pop X.1 X.2.1 hd rfl (kk X H locs ls hR hF hlo hL hn hz)
    · cases hs
  | dup2 =>
    obtain ⟨p, l, e, R, s, m, args, below, meth, c⟩ := x
    simp only [pm_st] at hs
    split at hs
    · obtain ⟨rfl, rfl, rfl⟩ := pm_some3 hs
      intro X H locs ls hR hF hlo hL hn hz
      exact lv_dup2_11 X.1 X.2.1 hd rfl rfl (kk X H locs ls hR hF hlo hL hn hz)
    · cases hs
  | dup_x1 =>
    obtain ⟨p, l, e, R, s, m, args, below, meth, c⟩ := x
    simp only [pm_st] at hs
    split at hs
    · obtain ⟨rfl, rfl, rfl⟩ := pm_some3 hs
      intro X H locs ls hR hF hlo hL hn hz
      exact lv_dup_x1 X.1 X.2.1 hd rfl rfl (kk X H locs ls hR hF hlo hL hn hz)
    · cases hs
  | arraylength =>
    obtain ⟨p, l, e, R, s, m, args, below, meth, c⟩ := x
    simp only [pm_st] at hs
    split at hs
    · rename_i a T
      cases h1 : Nat.ble 100 (M.1.2.2.1 a) with
      | false => rw [h1] at hs; cases hs
      | true =>
        rw [h1] at hs
        obtain ⟨h2, hs⟩ := pm_blt hs
        obtain ⟨rfl, rfl, rfl⟩ := pm_some3 (congrArg some hs)
        intro X H locs ls hR hF hlo hL hn hz
        obtain ⟨cA, h3, h4⟩ := (hR.2.1 a h2).2.2 (Nat.le_of_ble_eq_true h1)
        exact W.alen X.1 X.2.1 h4 (h3 _ _) (by rw [arrV_size]) rfl rfl hd (kk X H locs ls hR hF hlo hL hn hz)
    · cases hs
  | _ => cases hs
def pm_dk (y : pm_m) : Nat → List pm_I → Bool
  | _, [] => true
  | pc, i :: is => decide (decode y.2.1 pc = .ok (i.1, pm_ln i.1)) && pm_xk y i && pm_dk y (pc + pm_ln i.1) is
noncomputable def pm_run (n : Nat) (is : List pm_I) : Nat → List (Nat × Value) → List Value → pm_M → Option (Nat × List (Nat × Value) × List Value × pm_M) :=
  List.rec (motive := fun _ => Nat → List (Nat × Value) → List Value → pm_M → Option (Nat × List (Nat × Value) × List Value × pm_M)) (fun pc L S M => some (pc, L, S, M)) (fun i _ ih pc L S M => match pm_st n i L S M with | some q => ih (pc + pm_ln i.1) q.1 q.2.1 q.2.2 | none => none) is
/-- a block -/
theorem pm_blk (is : List pm_I) {pc' : Nat} (hd : pm_dk y pc is = true) (hs : pm_run y.2.2.1 is pc L S M = some (pc', L', S', M')) (kk : pm_V x y h0 D b Q pc' L' S' M') : pm_V x y h0 D b Q pc L S M := by
  induction is generalizing pc L S M with
  | nil =>
    have h1 := Option.some.inj (hs : some (pc, L, S, M) = some (pc', L', S', M'))
    cases h1
    exact kk
  | cons i is ih =>
    simp only [pm_dk, Bool.and_eq_true, decide_eq_true_eq] at hd
    have hs : (match pm_st y.2.2.1 i L S M with | some q => pm_run y.2.2.1 is (pc + pm_ln i.1) q.1 q.2.1 q.2.2 | none => none) = some (pc', L', S', M') := hs
    cases h1 : pm_st y.2.2.1 i L S M with
    | none => rw [h1] at hs; cases hs
    | some q =>
      rw [h1] at hs
      exact pm_stV i hd.1.1 hd.1.2 h1 (ih hd.2 hs)
end PMT
