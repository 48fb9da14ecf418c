set_option maxRecDepth 100000
def tyB (g : pm_s) (u : pm_J) : Prop := gI g ∧ ∀ k : Nat, k < 6 → u.1 (g.2.2.1 + 0) k = ie (tyK (.num k)) ∧ u.1 (g.2.2.1 + 3) k = ie (min 1000000 (tyL (.num k)) : Nat) ∧ u.1 (g.2.2.1 + 4) k = ie (tyM (.num k))
theorem tyB_of {g : pm_s} {u : pm_J} {Y : List Ty} (h : tyC g u Y) : tyB g u := ⟨h.2.2.1, fun k hk => by
  have := h.2.2.2.1 k _ (h.2.2.2.2.2.1 k hk)
  exact ⟨this.1, this.2.1, this.2.2.1⟩⟩
theorem tyB_ag {g : pm_s} {u v : pm_J} (h : tyB g u) (ha : ag (fun c _ => (10 ≤ c ∧ c ≤ 17) ∨ 140 ≤ c) u v) : tyB g v := by
  obtain ⟨h1, h2⟩ := h
  refine ⟨h1, fun k hk => ?_⟩
  have hg := h1.1
  obtain ⟨a1, a2, a3⟩ := h2 k hk
  exact ⟨(ha _ _ (by omega)).1.trans a1, (ha _ _ (by omega)).1.trans a2, (ha _ _ (by omega)).1.trans a3⟩
theorem tyC_6b {g : pm_s} {u v : pm_J} (h : tyB g u) (h7 : v.1 10 7 = ie 6) (h17 : ∀ j, j < 1024 → v.1 17 j = ie (-1)) (hv : ∀ j i, j < 6 → v.1 (g.2.2.1 + j) i = u.1 (g.2.2.1 + j) i) : tyC g v Y6 := by
  obtain ⟨h3, h4⟩ := h
  refine ⟨h7, ⟨by decide, by decide, ?_⟩, h3, fun i t hi => ?_, fun i j t hi hj => ?_, y6_k, fun b hb => ⟨[], h17 b hb, by decide, fun i hi => (by cases hi), fun i t l r hi h6' => ?_⟩⟩
  · obtain ⟨_, _, _, hl⟩ := h3
    show 6 ≤ g.2.2.2; omega
  · obtain ⟨hi6, rfl⟩ := y6_i i t hi
    have := h4 i hi6
    rw [hv 0 i (by omega), hv 3 i (by omega), hv 4 i (by omega)]
    exact ⟨this.1, this.2.1, this.2.2, rfl, hi6⟩
  · obtain ⟨_, rfl⟩ := y6_i i t hi
    obtain ⟨_, h2⟩ := y6_i j _ hj
    injection h2
  · obtain ⟨h1, _⟩ := y6_i i t hi; omega
theorem c_compB {o : Nat → Int} {n : Nat} {g : pm_s} {u : pm_J} (N : Nat) (hN : 100000 ≤ N) (ho : tx_o o n) (h01 : u.1 0 1 = ie n) (h1 : ∀ i, i < n → u.1 1 i = ie (o i)) (h02 : u.1 0 2 = ie 0) (hW : cW u) (hy : tyB g u) (hB : cBJ u) :
    ∃ (g' : pm_s) (v : pm_J), F_BC_compile N g u = some (retS (cmpS o n), g', v) ∧ gL g g' ∧ frC u v ∧ v.1 0 2 = ie 1 ∧ cBJ v ∧ cCp n (cmpS o n) g' v ∧ gdS (cmpS o n) := by
  have hn := ho.1
  have hgI := hy.1
  obtain ⟨⟨b1, b1a, b1b⟩, ⟨b2, b2a, b2b⟩, _, _, hB5⟩ := hB
  obtain ⟨u1, f1, f2, f3, f4⟩ := fill17 g (-1) N 1024 0 N (wi (wi (wi (wi (wi (wi u 0 2 1) 3 0 0) 3 1 (-1)) 4 0 0) 4 1 (-1)) 10 7 6) (by omega) (by omega) (fun j hj => by omega)
  obtain ⟨u2, k1, k2, k3, k4⟩ := fill38 g 0 N 180 0 N (wi (wi u1 18 10 0) 29 9 0) (by omega) (by omega) (fun j hj => by omega)
  have w0 : ∀ c i, ¬ (c = 0 ∧ i = 2) → ¬ (c = 3 ∧ (i = 0 ∨ i = 1)) → ¬ (c = 4 ∧ (i = 0 ∨ i = 1)) → ¬ (c = 10 ∧ i = 7) → c ≠ 17 → ¬ (c = 18 ∧ i = 10) → ¬ (c = 29 ∧ i = 9) → c ≠ 38 → u2.1 c i = u.1 c i := fun c i a1 a2 a3 a4 a5 a6 a7 a8 => by
    rw [k3 c i a8, wi_ne _ _ _ _ _ _ (by omega), wi_ne _ _ _ _ _ _ (by omega), f3 c i a5, wi_ne _ _ _ _ _ _ (by omega), wi_ne _ _ _ _ _ _ (by omega), wi_ne _ _ _ _ _ _ (by omega), wi_ne _ _ _ _ _ _ (by omega), wi_ne _ _ _ _ _ _ (by omega), wi_ne _ _ _ _ _ _ (by omega)]
  have wL : u2.2 = u.2 := by rw [k4]; show u1.2 = _; rw [f4]; rfl
  have u0n : ∀ c i, ¬ (c = 0 ∧ i = 2) → ¬ (c = 3 ∧ (i = 0 ∨ i = 1)) → ¬ (c = 4 ∧ (i = 0 ∨ i = 1)) → ¬ (c = 10 ∧ i = 7) → (wi (wi (wi (wi (wi (wi u 0 2 1) 3 0 0) 3 1 (-1)) 4 0 0) 4 1 (-1)) 10 7 6).1 c i = u.1 c i := fun c i a1 a2 a3 a4 => by
    rw [wi_ne _ _ _ _ _ _ (by omega), wi_ne _ _ _ _ _ _ (by omega), wi_ne _ _ _ _ _ _ (by omega), wi_ne _ _ _ _ _ _ (by omega), wi_ne _ _ _ _ _ _ (by omega), wi_ne _ _ _ _ _ _ (by omega)]
  have e02 : u2.1 0 2 = ie 1 := by
    rw [k3 _ _ (by omega), wi_ne _ _ _ _ _ _ (by omega), wi_ne _ _ _ _ _ _ (by omega), f3 _ _ (by omega), wi_ne _ _ _ _ _ _ (by omega), wi_ne _ _ _ _ _ _ (by omega), wi_ne _ _ _ _ _ _ (by omega), wi_ne _ _ _ _ _ _ (by omega), wi_ne _ _ _ _ _ _ (by omega), wi_at]; rfl
  have e30 : u2.1 3 0 = ie 0 := by
    rw [k3 _ _ (by omega), wi_ne _ _ _ _ _ _ (by omega), wi_ne _ _ _ _ _ _ (by omega), f3 _ _ (by omega), wi_ne _ _ _ _ _ _ (by omega), wi_ne _ _ _ _ _ _ (by omega), wi_ne _ _ _ _ _ _ (by omega), wi_ne _ _ _ _ _ _ (by omega), wi_at]; rfl
  have e40 : u2.1 4 0 = ie 0 := by
    rw [k3 _ _ (by omega), wi_ne _ _ _ _ _ _ (by omega), wi_ne _ _ _ _ _ _ (by omega), f3 _ _ (by omega), wi_ne _ _ _ _ _ _ (by omega), wi_ne _ _ _ _ _ _ (by omega), wi_at]; rfl
  have e18 : u2.1 18 10 = ie 0 := by
    rw [k3 _ _ (by omega), wi_ne _ _ _ _ _ _ (by omega), wi_at]; rfl
  have e29 : u2.1 29 9 = ie 0 := by
    rw [k3 _ _ (by omega), wi_at]; rfl
  have hyc : tyC g u2 Y6 := by
    refine tyC_6b hy ?_ (fun j hj => ?_) (fun j i hj => ?_)
    · rw [k3 _ _ (by omega), wi_ne _ _ _ _ _ _ (by omega), wi_ne _ _ _ _ _ _ (by omega), f3 _ _ (by omega), wi_at]; rfl
    · rw [k3 _ _ (by omega), wi_ne _ _ _ _ _ _ (by omega), wi_ne _ _ _ _ _ _ (by omega), f2 j hj]; rfl
    · have := gI_c hgI j hj
      exact w0 _ _ (by omega) (by omega) (by omega) (by omega) (by omega) (by omega) (by omega) (by omega)
  have hcw : cW u2 := by unfold cW; rw [wL]; exact hW
  have hst : F_BC_compile N g u = pm_S g ((F_Tokens_scan_1 N (ie n) g u2).bind fun q11 => (F_Parser_readProgram N g q11).bind fun q12 => if sh_Tb q12.2.1 = true then pm_S q12.2.1 ((F_Fault_isTold_4 q12.2.1 q12.2.2).bind fun q15 => if q15 = 0 then (F_Checker_checkAll N q12.2.1 q12.2.2).bind fun q17 => if sh_Tb q17.2.1 = true then pm_S q17.2.1 (K_BC_compile_101 N q17.2.1 q17.2.2) else none else (F_Fault_where_4 q12.2.1 q12.2.2).bind fun q20 => (F_Fault_tell_3 5 q20 q12.2.1 q12.2.2).bind fun q21 => (F_Checker_checkAll N q12.2.1 q21).bind fun q22 => if sh_Tb q22.2.1 = true then pm_S q22.2.1 (K_BC_compile_101 N q22.2.1 q22.2.2) else none) else none) := by
    have f1' : K_Arrays_fill_0_17_5 N g N (-1) 0 (Nat.toInt32 1024) (wi (wi (wi (wi (wi (wi u 0 2 1) 3 0 0) 3 1 (-1)) 4 0 0) 4 1 (-1)) 10 7 6) = some u1 := f1
    have k1' : K_Arrays_fill_0_38_5 N g N 0 0 (Nat.toInt32 180) (wi (wi u1 18 10 0) 29 9 0) = some u2 := k1
    have e01 : u2.1 0 1 = ie n := (w0 _ _ (by omega) (by omega) (by omega) (by omega) (by omega) (by omega) (by omega) (by omega)).trans h01
    unfold F_BC_compile F_Fault_clear_3 F_Fault_clear_4 F_Types_clear F_Arrays_fill_0_17 F_Tree_clear F_Table_clear F_Arrays_fill_0_38
    rw [h02, if_pos (show ie 0 = 0 from rfl)]
    simp only [Option.bind_some]
    rw [f1']
    simp only [Option.bind_some]
    rw [k1']
    simp only [Option.bind_some]
    rw [e01]
  have fr2 : frC u u2 := fun c i hc => ⟨w0 c i (by unfold cSCp at hc; omega) (by unfold cSCp at hc; omega) (by unfold cSCp at hc; omega) (by unfold cSCp at hc; omega) (by unfold cSCp at hc; omega) (by unfold cSCp at hc; omega) (by unfold cSCp at hc; omega) (by unfold cSCp at hc; omega), by rw [wL]⟩
  obtain ⟨u3, s1, s2, s3, s4⟩ := c_scan N g u2 ho (by omega) (fun i hi => (w0 _ _ (by omega) (by omega) (by omega) (by omega) (by omega) (by omega) (by omega) (by omega)).trans (h1 i hi)) e30 hcw
  have cst : ∀ c i, ¬ (c = 3 ∨ c = 5 ∨ c = 6 ∨ c = 7 ∨ c = 8) → u3.1 c i = u2.1 c i ∧ u3.2 c i = u2.2 c i := fun c i hc => s2 c i (by
    unfold cS_t
    rw [nbf (show c ≠ 3 by omega), nbf (show c ≠ 5 by omega), nbf (show c ≠ 6 by omega), nbf (show c ≠ 7 by omega), nbf (show c ≠ 8 by omega)]; rfl)
  have fr3 : frC u u3 := frC_t fr2 (fun c i hc => cst c i (by unfold cSCp at hc; omega))
  have hy3 : tyC g u3 Y6 := tyC_fr hyc (fun c i hc => (cst c i (fun hh => by rw [cSy_no (by omega)] at hc; cases hc)).1)
  rw [hst, s1, Option.bind_some]
  have told : ∀ (T : List Tok) (n' : Nat) (q : Nat × Nat) (g' : pm_s) (v : pm_J), cFl T n' q v → gL g g' → (if sh_Tb g' = true then pm_S g' ((F_Fault_isTold_4 g' v).bind fun q15 => if q15 = 0 then (F_Checker_checkAll N g' v).bind fun q17 => if sh_Tb q17.2.1 = true then pm_S q17.2.1 (K_BC_compile_101 N q17.2.1 q17.2.2) else none else (F_Fault_where_4 g' v).bind fun q20 => (F_Fault_tell_3 5 q20 g' v).bind fun q21 => (F_Checker_checkAll N g' q21).bind fun q22 => if sh_Tb q22.2.1 = true then pm_S q22.2.1 (K_BC_compile_101 N q22.2.1 q22.2.2) else none) else none) = some (- ie (q.1 : Nat), g', v) := by
    intro T n' q g' v hf hl
    have hca : F_Checker_checkAll N g' v = some ((), g', v) := by
      unfold F_Checker_checkAll
      rw [k_4f (D := []) N hf N (by omega), pmS_some g' g' _ _ (Nat.le_refl _) (Nat.le_refl _)]
    have h101 : K_BC_compile_101 N g' v = some (- ie (q.1 : Nat), g', v) := by
      unfold K_BC_compile_101 F_Fault_what_3
      rw [f_told hf g', Option.bind_some, if_neg (show ¬ ((1 : Int32) = 0) by decide), Option.bind_some, hf.1]
    unfold F_Fault_where_4
    simp only [Option.bind_some, f_tell hf, hca, if_pos (gI_Tb hl.1), h101]
    unfold F_Fault_isTold_4
    by_cases h40 : v.1 4 0 = 0
    · rw [if_pos h40, Option.bind_some, if_pos rfl, pmS_some g' g' _ _ (Nat.le_refl _) (Nat.le_refl _), pmS_some g' g' _ _ (Nat.le_refl _) (Nat.le_refl _)]
    · rw [if_neg h40, Option.bind_some, if_neg (show ¬ ((1 : Int32) = 0) by decide), pmS_some g' g' _ _ (Nat.le_refl _) (Nat.le_refl _), pmS_some g' g' _ _ (Nat.le_refl _) (Nat.le_refl _)]
  cases hsc : scS o n 3001 0 [] with
  | inl p =>
    have hres : cmpS o n = .inl (1, p) := by unfold cmpS; rw [hsc]
    rw [hres]
    rw [hsc] at s4
    have hf : cFl [] p (1, 0) (wi u3 39 11 0) := ⟨by rw [wi_ne _ _ _ _ _ _ (by omega)]; exact s4.1, by show 1 ≤ 1; omega, by show 1 ≤ 7; omega, by rw [wi_ne _ _ _ _ _ _ (by omega)]; exact s4.2⟩
    have hrp : F_Parser_readProgram N g u3 = some ((), g, wi u3 39 11 0) := by
      unfold F_Parser_readProgram
      obtain ⟨M, rfl⟩ : ∃ M, N = M + 1 := ⟨N - 1, by omega⟩
      rw [K_Parser_readProgram_7]
      unfold F_Tokens_size
      rw [Option.bind_some, f_kind hf g, Option.bind_some, if_pos rfl]
      have : (if (wi u3 39 11 0).1 5 5 ≤ 0 then some ((), g, wi u3 39 11 0) else some ((), g, wi u3 39 11 0)) = some ((), g, wi u3 39 11 0) := by split <;> rfl
      rw [this, pmS_some g g _ _ (Nat.le_refl _) (Nat.le_refl _)]
    rw [hrp, Option.bind_some]
    show ∃ g' v, pm_S g (if sh_Tb g = true then _ else _) = _ ∧ _
    rw [told [] p (1, 0) g (wi u3 39 11 0) hf (gL_refl hgI), pmS_some g g _ _ (Nat.le_refl _) (Nat.le_refl _)]
    refine ⟨g, _, rfl, gL_refl hgI, frC_t fr3 (fun c i hc => ⟨wi_ne _ _ _ _ _ _ (by unfold cSCp at hc; omega), rfl⟩), ?_, ?_, ⟨hf.1, by show 1 ≤ 1; omega, by show 1 ≤ 7; omega, hf.2.2.2, Y6, tyC_fr hy3 (fun c i hc => wi_ne _ _ _ _ _ _ (fun hh => by rw [hh.1, cSy_no (by omega)] at hc; cases hc))⟩, by show 1 ≤ 1; omega, by show 1 ≤ 7; omega⟩
    · rw [wi_ne _ _ _ _ _ _ (by omega), (cst _ _ (by omega)).1]; exact e02
    · have q : ∀ c i, 10 < c → ¬ (c = 39 ∧ i = 11) → (wi u3 39 11 0).1 c i = u2.1 c i := fun c i h1 h2 => (wi_ne _ _ _ _ _ _ h2).trans (cst _ _ (by omega)).1
      have q2 : ∀ c i, 10 < c → c ≠ 17 → ¬ (c = 18 ∧ i = 10) → ¬ (c = 29 ∧ i = 9) → c ≠ 38 → u2.1 c i = u.1 c i := fun c i h1 h2 h3 h4 h5 => w0 _ _ (by omega) (by omega) (by omega) (by omega) h2 h3 h4 h5
      exact ⟨⟨b1, b1a, by rw [q _ _ (by omega) (by omega), q2 _ _ (by omega) (by omega) (by omega) (by omega) (by omega)]; exact b1b⟩, ⟨b2, b2a, by rw [q _ _ (by omega) (by omega), q2 _ _ (by omega) (by omega) (by omega) (by omega) (by omega)]; exact b2b⟩, ⟨0, by omega, by rw [q _ _ (by omega) (by omega)]; exact e18⟩, ⟨0, by omega, by rw [q _ _ (by omega) (by omega)]; exact e29⟩, fun d hd => by rw [q _ _ (by omega) (by omega), q2 _ _ (by omega) (by omega) (by omega) (by omega) (by omega)]; exact hB5 d hd⟩
  | inr T =>
    rw [hsc] at s4
    have hok := scS_ok o n 3001 0 [] T (fun t ht => (by cases ht)) hsc
    have hG := tkG_of hok
    have hT9 := s4.1.2.1
    have q2 : ∀ c i, 10 < c → c ≠ 17 → ¬ (c = 18 ∧ i = 10) → ¬ (c = 29 ∧ i = 9) → c ≠ 38 → u2.1 c i = u.1 c i := fun c i h1 h2 h3 h4 h5 => w0 _ _ (by omega) (by omega) (by omega) (by omega) h2 h3 h4 h5
    have q : ∀ c i, ¬ (c = 3 ∨ c = 5 ∨ c = 6 ∨ c = 7 ∨ c = 8) → ¬ (c = 39 ∧ i = 11) → (wi u3 39 11 (ie 0)).1 c i = u2.1 c i := fun c i h1 h2 => (wi_ne _ _ _ _ _ _ h2).trans (cst _ _ h1).1
    have q3 : ∀ c i, ¬ (c = 39 ∧ i = 11) → (wi u3 39 11 (ie 0)).1 c i = u3.1 c i := fun c i h2 => wi_ne _ _ _ _ _ _ h2
    have hcQ : cQ T n [] 0 tr0 g (wi u3 39 11 (ie 0)) Y6 := by
      refine ⟨⟨(q3 _ _ (by omega)).trans s4.2, ⟨(q3 _ _ (by omega)).trans s4.1.1, hT9, fun i t hi => ?_⟩, (q3 _ _ (by omega)).trans s3, wi_at _ _ _ _⟩, tyC_fr hy3 (fun c i hc => q3 c i (fun hh => by rw [hh.1, cSy_no (by omega)] at hc; cases hc)), ⟨(q _ _ (by omega) (by omega)).trans e18, by show 0 ≤ 1800; omega, fun i hi => by (have : i < 0 := hi); omega⟩, ?_, ⟨(q _ _ (by omega) (by omega)).trans e29, by show 0 ≤ 30; omega⟩, fun i x hi => (by cases hi), fun i _ hi => (q _ _ (by omega) (by omega)).trans (k2 i hi), (q _ _ (by omega) (by omega)).trans e40⟩
      · obtain ⟨z1, z2, z3⟩ := s4.1.2.2 i t hi
        exact ⟨(q3 _ _ (by omega)).trans z1, (q3 _ _ (by omega)).trans z2, z3⟩
      · exact ⟨⟨b1, b1a, by rw [q _ _ (by omega) (by omega), q2 _ _ (by omega) (by omega) (by omega) (by omega) (by omega)]; exact b1b⟩, ⟨b2, b2a, by rw [q _ _ (by omega) (by omega), q2 _ _ (by omega) (by omega) (by omega) (by omega) (by omega)]; exact b2b⟩, ⟨0, by omega, by rw [q _ _ (by omega) (by omega)]; exact e18⟩, ⟨0, by omega, by rw [q _ _ (by omega) (by omega)]; exact e29⟩, fun d hd => by rw [q _ _ (by omega) (by omega), q2 _ _ (by omega) (by omega) (by omega) (by omega) (by omega)]; exact hB5 d hd, ⟨T.length, hT9, (q3 _ _ (by omega)).trans s4.1.1⟩⟩
    obtain ⟨g1, v1, p1, p2, p3, p4⟩ := c_prog N hN hG hcQ (by decide)
    rw [p1, Option.bind_some]
    show ∃ g' v, pm_S g (if sh_Tb g1 = true then _ else _) = _ ∧ _
    have fr4 : frC u v1 := frC_t fr3 (frC_Q p2)
    have e02v : v1.1 0 2 = ie 1 := by
      rw [(p2 0 2 (by unfold cS_Q cS_T; rw [csy_no (by omega)]; rfl)).1, (cst _ _ (by omega)).1]; exact e02
    have cBJ_of : ∀ w : pm_J, cBI w → cBJ w := fun w h => ⟨h.1, h.2.1, h.2.2.1, h.2.2.2.1, h.2.2.2.2.1⟩
    have hr1 : cmpS o n = match pProg T 31 [] 0 tr0 with
      | .error q => .inl (q.1, tkP T n q.2)
      | .ok q => match clash T [] q.1 with
        | some w => .inl (5, tkP T n w)
        | none => match ckA T q.1 q.2 q.1 cs0 with
          | .error f => .inl (f.1, tkP T n f.2)
          | .ok c => .inr (T, q.1, q.2, c) := by unfold cmpS; rw [hsc]; rfl
    cases hp : pProg T 31 [] 0 tr0 with
    | error q =>
      have hres : cmpS o n = .inl (q.1, tkP T n q.2) := by rw [hr1, hp]
      rw [hres]
      rw [hp] at p4
      obtain ⟨hfl, hbi, Y', hY'⟩ := p4
      rw [told T n q g1 v1 hfl p3, pmS_some g g1 _ _ p3.2.1 p3.2.2.1]
      exact ⟨g1, v1, rfl, p3, fr4, e02v, cBJ_of v1 hbi, ⟨hfl.1, hfl.2.1, hfl.2.2.1, hfl.2.2.2, Y', hY'⟩, hfl.2.1, hfl.2.2.1⟩
    | ok pd =>
      rw [hp] at p4
      obtain ⟨Z, a', hQ, hZ⟩ := p4
      obtain ⟨hpW, hkT⟩ := w_all hp
      have hcl := hQ.2.2.2.2.2.2.2
      have hZ' : (Y6 ++ Z).length ≤ 1000 := by rw [List.length_append]; have : Y6.length = 6 := rfl; omega
      cases hcc : clash T [] pd.1 with
      | some w =>
        have hres : cmpS o n = .inl (5, tkP T n w) := by rw [hr1, hp]; show (match clash T [] pd.1 with | some w => _ | none => _) = _; rw [hcc]
        rw [hres]
        rw [hcc] at hcl
        obtain ⟨t1, t2, t3, t4⟩ := ck_tell (T := T) (n := n) hQ.1.1 hQ.2.1 5 w (by omega)
        have t1' : F_Fault_tell_3 5 (ie (tkP T n w : Nat)) g1 v1 = _ := t1
        have hca : F_Checker_checkAll N g1 (wi (wi v1 3 0 (ie ((5 : Nat) : Int))) 3 1 (ie (tkP T n w : Nat))) = some ((), g1, wi (wi v1 3 0 (ie ((5 : Nat) : Int))) 3 1 (ie (tkP T n w : Nat))) := by
          unfold F_Checker_checkAll
          rw [k_4f (D := []) N t2 N (by omega), pmS_some g1 g1 _ _ (Nat.le_refl _) (Nat.le_refl _)]
        have h101 : K_BC_compile_101 N g1 (wi (wi v1 3 0 (ie ((5 : Nat) : Int))) 3 1 (ie (tkP T n w : Nat))) = some (- ie ((5 : Nat) : Int), g1, wi (wi v1 3 0 (ie ((5 : Nat) : Int))) 3 1 (ie (tkP T n w : Nat))) := by
          unfold K_BC_compile_101 F_Fault_what_3
          rw [f_told t2 g1, Option.bind_some, if_neg (show ¬ ((1 : Int32) = 0) by decide), Option.bind_some, t2.1]
        unfold F_Fault_isTold_4 F_Fault_where_4
        rw [if_pos (gI_Tb p3.1), hcl.1, if_neg (show ¬ (ie 5 = 0) by decide), Option.bind_some, if_neg (show ¬ ((1 : Int32) = 0) by decide), Option.bind_some, hcl.2, t1', Option.bind_some, hca, Option.bind_some, if_pos (gI_Tb p3.1), h101, pmS_some g1 g1 _ _ (Nat.le_refl _) (Nat.le_refl _), pmS_some g1 g1 _ _ (Nat.le_refl _) (Nat.le_refl _), pmS_some g g1 _ _ p3.2.1 p3.2.2.1]
        have hb : ∀ c i, c ≠ 3 → (wi (wi v1 3 0 (ie ((5 : Nat) : Int))) 3 1 (ie (tkP T n w : Nat))).1 c i = v1.1 c i := fun c i hc => by rw [wi_ne _ _ _ _ _ _ (by omega), wi_ne _ _ _ _ _ _ (by omega)]
        exact ⟨g1, _, rfl, p3, frC_t fr4 (fun c i hc => t4 c i (by unfold cSCp at hc; unfold cSKp; omega)), (hb _ _ (by omega)).trans e02v, cBJ_of _ (cBI_cong hQ.2.2.2.1 (hb _ _ (by omega)) (hb _ _ (by omega)) (hb _ _ (by omega)) (hb _ _ (by omega)) (fun d => hb _ _ (by omega)) (hb _ _ (by omega))), ⟨t2.1, by show 1 ≤ 5; omega, by show 5 ≤ 7; omega, t2.2.2.2, _, t3⟩, by show 1 ≤ 5; omega, by show 5 ≤ 7; omega⟩
      | none =>
        rw [hcc] at hcl
        have hcl' : v1.1 4 0 = ie 0 := hcl
        obtain ⟨g2, v2, m1, m2, m3, m4⟩ := k_check N hN hQ hpW hcc (by omega) hZ'
        have hb : ∀ c i, ¬ cSKp c i → ¬ (c = 43 ∧ i = 4) → c ≠ 38 → v2.1 c i = v1.1 c i := fun c i h1 h2 h3 => (m2 c i h1 h2 h3).1
        have hbi := cBI_cong (v := v2) hQ.2.2.2.1 (hb _ _ (by unfold cSKp; omega) (by omega) (by omega)) (hb _ _ (by unfold cSKp; omega) (by omega) (by omega)) (hb _ _ (by unfold cSKp; omega) (by omega) (by omega)) (hb _ _ (by unfold cSKp; omega) (by omega) (by omega)) (fun d => hb _ _ (by unfold cSKp; omega) (by omega) (by omega)) (hb _ _ (by unfold cSKp; omega) (by omega) (by omega))
        have fin : ∀ r : Int32, K_BC_compile_101 N g2 v2 = some (r, g2, v2) → pm_S g (if sh_Tb g1 = true then pm_S g1 ((F_Fault_isTold_4 g1 v1).bind fun q15 => if q15 = 0 then (F_Checker_checkAll N g1 v1).bind fun q17 => if sh_Tb q17.2.1 = true then pm_S q17.2.1 (K_BC_compile_101 N q17.2.1 q17.2.2) else none else (F_Fault_where_4 g1 v1).bind fun q20 => (F_Fault_tell_3 5 q20 g1 v1).bind fun q21 => (F_Checker_checkAll N g1 q21).bind fun q22 => if sh_Tb q22.2.1 = true then pm_S q22.2.1 (K_BC_compile_101 N q22.2.1 q22.2.2) else none) else none) = some (r, g2, v2) := by
          intro r hr
          have hl2 := gL_trans p3 m3
          unfold F_Fault_isTold_4
          rw [if_pos (gI_Tb p3.1), hcl', if_pos (show ie 0 = 0 from rfl), Option.bind_some, if_pos rfl, m1, Option.bind_some, if_pos (gI_Tb m3.1), hr, pmS_some g2 g2 _ _ (Nat.le_refl _) (Nat.le_refl _), pmS_some g1 g2 _ _ m3.2.1 m3.2.2.1, pmS_some g g2 _ _ hl2.2.1 hl2.2.2.1]
        have fr5 : frC u v2 := frC_t fr4 (frC_W m2)
        have e02w : v2.1 0 2 = ie 1 := (hb _ _ (by unfold cSKp; omega) (by omega) (by omega)).trans e02v
        have hr2 : cmpS o n = match ckA T pd.1 pd.2 pd.1 cs0 with
          | .error f => .inl (f.1, tkP T n f.2)
          | .ok c => .inr (T, pd.1, pd.2, c) := by rw [hr1, hp]; show (match clash T [] pd.1 with | some w => _ | none => _) = _; rw [hcc]
        cases hA : ckA T pd.1 pd.2 pd.1 cs0 with
        | error f =>
          have hres : cmpS o n = .inl (f.1, tkP T n f.2) := by rw [hr2, hA]
          rw [hres]
          rw [hA] at m4
          obtain ⟨hfl, Y', hY'⟩ := m4
          refine ⟨g2, v2, fin _ ?_, gL_trans p3 m3, fr5, e02w, cBJ_of v2 hbi, ⟨hfl.1, hfl.2.1, hfl.2.2.1, hfl.2.2.2, Y', hY'⟩, hfl.2.1, hfl.2.2.1⟩
          unfold K_BC_compile_101 F_Fault_what_3
          rw [f_told hfl g2, Option.bind_some, if_neg (show ¬ ((1 : Int32) = 0) by decide), Option.bind_some, hfl.1]; rfl
        | ok c =>
          have hres : cmpS o n = .inr (T, pd.1, pd.2, c) := by rw [hr2, hA]
          rw [hres]
          rw [hA] at m4
          obtain ⟨Y', hF, i0, ok, hY'⟩ := m4
          refine ⟨g2, v2, fin _ ?_, gL_trans p3 m3, fr5, e02w, cBJ_of v2 hbi, ⟨Y', hF, hY'⟩, hpW, pW_let hpW hcc, by show 2 * kT pd.2 ≤ 900; omega, i0, ok⟩
          unfold K_BC_compile_101 F_Fault_isTold_3 F_Table_size
          rw [hF.1, if_pos (show ie 0 = 0 from rfl), Option.bind_some, if_pos rfl, Option.bind_some, hF.2.2.2.1.1]; rfl
