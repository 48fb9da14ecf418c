set_option maxRecDepth 100000
theorem i_nat (x : Int32) (h : ¬ x < 0) : ∃ k : Nat, x = ie k ∧ k < 2147483648 := by
  refine ⟨x.toInt.toNat, ?_, ?_⟩
  · have h0 : 0 ≤ x.toInt := by
      have : ¬ (x.toInt < 0) := fun hh => h (Int32.lt_iff_toInt_lt.mpr (by simpa using hh))
      omega
    rw [show ((x.toInt.toNat : Nat) : Int) = x.toInt by omega, ie_of]
  · have := ie_gt x; omega
theorem i_lt {x : Int32} {n : Nat} (hn : n < 2147483648) (h0 : ¬ x < 0) (h : ¬ (ie (n : Int) ≤ x)) : ∃ k : Nat, x = ie k ∧ k < n := by
  obtain ⟨k, rfl, hk⟩ := i_nat x h0
  refine ⟨k, rfl, ?_⟩
  rw [ie_le _ _ (by omega) (by omega) (by omega) (by omega)] at h
  omega
theorem okn (x n : Nat) (hx : x < n) (hn : n < 2147483648) : pm_ok (ie (x : Int)) n = true := (ie_ok x n (by omega) (by omega)).mpr (by omega)
theorem ntn (x : Nat) (hx : x < 2147483648) : (ie (x : Int)).toNatClampNeg = x := by rw [ie_nat _ (by omega) (by omega)]; omega
theorem iadd1 (x : Nat) : ie (x : Int) + 1 = ie ((x + 1 : Nat) : Int) := by rw [show (1 : Int32) = ie 1 from rfl, ie_add]; rfl
theorem nlt0 (x : Nat) (hx : x < 2147483648) : ¬ (ie (x : Int) < 0) := by rw [show (0 : Int32) = ie 0 from rfl, ie_lt _ _ (by omega) (by omega) (by omega) (by omega)]; omega
theorem inle (a b : Nat) (ha : a < 2147483648) (hb : b < 2147483648) : (ie (a : Int) ≤ ie (b : Int)) ↔ a ≤ b := by rw [ie_le _ _ (by omega) (by omega) (by omega) (by omega)]; omega
theorem inlt (a b : Nat) (ha : a < 2147483648) (hb : b < 2147483648) : (ie (a : Int) < ie (b : Int)) ↔ a < b := by rw [ie_lt _ _ (by omega) (by omega) (by omega) (by omega)]; omega
theorem ineq (a b : Nat) (ha : a < 2147483648) (hb : b < 2147483648) : (ie (a : Int) = ie (b : Int)) ↔ a = b := by rw [ie_eq _ _ (by omega) (by omega) (by omega) (by omega)]; omega
def cBI (u : pm_J) : Prop := (∃ b : Nat, b ≤ 200 ∧ u.1 39 10 = ie b) ∧ (∃ b : Nat, b ≤ 24 ∧ u.1 39 8 = ie b) ∧ (∃ b : Nat, b ≤ 1800 ∧ u.1 18 10 = ie b) ∧ (∃ b : Nat, b ≤ 30 ∧ u.1 29 9 = ie b) ∧
  (∀ d : Nat, d < 30 → ∃ b : Nat, b ≤ 24 ∧ u.1 35 d = ie b) ∧ (∃ b : Nat, b ≤ 900 ∧ u.1 5 5 = ie b)
theorem cBI_cong {u v : pm_J} (h : cBI u) (h1 : v.1 39 10 = u.1 39 10) (h2 : v.1 39 8 = u.1 39 8) (h3 : v.1 18 10 = u.1 18 10) (h4 : v.1 29 9 = u.1 29 9) (h5 : ∀ d : Nat, v.1 35 d = u.1 35 d) (h6 : v.1 5 5 = u.1 5 5) : cBI v := by
  obtain ⟨a, b, c, d, x, f⟩ := h
  exact ⟨by rw [h1]; exact a, by rw [h2]; exact b, by rw [h3]; exact c, by rw [h4]; exact d, fun k hk => by rw [h5]; exact x k hk, by rw [h6]; exact f⟩
def cFl (T : List Tok) (n : Nat) (q : Nat × Nat) (u : pm_J) : Prop := u.1 3 0 = ie q.1 ∧ 1 ≤ q.1 ∧ q.1 ≤ 7 ∧ u.1 3 1 = ie (tkP T n q.2)
def fl (T : List Tok) (n : Nat) (q : Nat × Nat) (g : pm_s) (u : pm_J) : Prop := cFl T n q u ∧ cBI u ∧ ∃ Y, tyC g u Y
theorem cFl_told {T : List Tok} {n : Nat} {q : Nat × Nat} {u : pm_J} (h : cFl T n q u) : ¬ (u.1 3 0 = 0) := by
  rw [h.1]; exact fun hh => by have := (ineq q.1 0 (by have := h.2.2.1; omega) (by omega)).mp hh; have := h.2.1; omega
theorem f_tell {T : List Tok} {n : Nat} {q : Nat × Nat} {u : pm_J} (h : cFl T n q u) (a b : Int32) (g : pm_s) : F_Fault_tell_3 a b g u = some u := by
  unfold F_Fault_tell_3; rw [if_neg (cFl_told h)]
theorem f_told {T : List Tok} {n : Nat} {q : Nat × Nat} {u : pm_J} (h : cFl T n q u) (g : pm_s) : F_Fault_isTold_3 g u = some 1 := by
  unfold F_Fault_isTold_3; rw [if_neg (cFl_told h)]
theorem f_kind {T : List Tok} {n : Nat} {q : Nat × Nat} {u : pm_J} (h : cFl T n q u) (g : pm_s) : F_Parser_kind g u = some 0 := by
  unfold F_Parser_kind; rw [f_told h g]; rfl
theorem s_tokp {u : pm_J} (h : cBI u) (x : Int32) (g : pm_s) : ∃ p, F_Tokens_placeOf x g u = some p := by
  obtain ⟨b, hb, hc⟩ := h.2.2.2.2.2
  unfold F_Tokens_placeOf
  rw [hc]
  by_cases h0 : x < 0
  · rw [if_pos h0]; exact ⟨_, rfl⟩
  · rw [if_neg h0]
    by_cases h1 : ie (b : Int) ≤ x
    · rw [if_pos h1]; exact ⟨_, rfl⟩
    · rw [if_neg h1]
      obtain ⟨k, rfl, hk⟩ := i_lt (by omega) h0 h1
      rw [if_pos (okn k 900 (by omega) (by omega))]; exact ⟨_, rfl⟩
theorem s_tokv {u : pm_J} (h : cBI u) (x : Int32) (g : pm_s) : ∃ p, F_Tokens_value x g u = some p := by
  obtain ⟨b, hb, hc⟩ := h.2.2.2.2.2
  unfold F_Tokens_value
  rw [hc]
  by_cases h0 : x < 0
  · rw [if_pos h0]; exact ⟨_, rfl⟩
  · rw [if_neg h0]
    by_cases h1 : ie (b : Int) ≤ x
    · rw [if_pos h1]; exact ⟨_, rfl⟩
    · rw [if_neg h1]
      obtain ⟨k, rfl, hk⟩ := i_lt (by omega) h0 h1
      rw [if_pos (okn k 900 (by omega) (by omega))]; exact ⟨_, rfl⟩
theorem s_here {u : pm_J} (h : cBI u) (g : pm_s) : ∃ p, F_Parser_here g u = some p := by
  obtain ⟨p, hp⟩ := s_tokp h (u.1 39 11) g
  exact ⟨p, by unfold F_Parser_here; rw [hp]; rfl⟩
theorem f_expect {T : List Tok} {n : Nat} {q : Nat × Nat} {u : pm_J} (h : cFl T n q u) (hb : cBI u) (k : Int32) (hk : k ≠ 0) (g : pm_s) : F_Parser_expect k g u = some u := by
  unfold F_Parser_expect
  obtain ⟨p, hp⟩ := s_here hb g
  rw [f_kind h g, Option.bind_some, if_neg (fun hh => hk hh.symm), hp, Option.bind_some, f_tell h, Option.bind_some]
theorem f_local {T : List Tok} {n : Nat} {q : Nat × Nat} {u : pm_J} (h : cFl T n q u) (hb : cBI u) (N : Nat) (g : pm_s) : F_Parser_readLocal N g u = some (-1, u) := by
  unfold F_Parser_readLocal K_Parser_readLocal_36
  rw [f_kind h g, Option.bind_some, if_neg (show ¬ ((0 : Int32) = 1) by decide), f_expect h hb 1 (by decide) g, Option.bind_some, f_told h g]; rfl
theorem s_make {g : pm_s} {u : pm_J} {Y : List Ty} (N : Nat) (hN : 100000 ≤ N) (h : tyC g u Y) (f : Bool) (x y : Int32) :
    ∃ (z : Int32) (g' : pm_s) (v : pm_J) (Z : List Ty), F_Types_make N (ie (tyF f : Nat)) x y g u = some (z, g', v) ∧ tyC g' v (Y ++ Z) ∧ fr cS_y u v ∧ gL g g' := by
  have hh := h
  obtain ⟨h1, h2, h3, h4, h5, h6, h7⟩ := hh
  have triv : F_Types_make N (ie (tyF f : Nat)) x y g u = some (-1, g, u) → ∃ (z : Int32) (g' : pm_s) (v : pm_J) (Z : List Ty), F_Types_make N (ie (tyF f : Nat)) x y g u = some (z, g', v) ∧ tyC g' v (Y ++ Z) ∧ fr cS_y u v ∧ gL g g' :=
    fun hh => ⟨-1, g, u, [], hh, by rw [List.append_nil]; exact h, fr_refl _ _, gL_refl h3⟩
  by_cases a0 : x < 0
  · apply triv; unfold F_Types_make; rw [if_pos a0, pmS_some g g _ _ (Nat.le_refl _) (Nat.le_refl _)]
  by_cases a1 : ie (Y.length : Int) ≤ x
  · apply triv; unfold F_Types_make; rw [h1, if_neg a0, if_pos a1, pmS_some g g _ _ (Nat.le_refl _) (Nat.le_refl _)]
  by_cases b0 : y < 0
  · apply triv; unfold F_Types_make; rw [h1, if_neg a0, if_neg a1, if_pos b0, pmS_some g g _ _ (Nat.le_refl _) (Nat.le_refl _)]
  by_cases b1 : y < ie (Y.length : Int)
  · obtain ⟨l, rfl, hl⟩ := i_lt (by omega) a0 a1
    obtain ⟨r, rfl, hr⟩ := i_lt (n := Y.length) (by omega) b0 (by rw [Int32.le_iff_toInt_le]; rw [Int32.lt_iff_toInt_lt] at b1; omega)
    by_cases hY : Y.length < 65536
    · obtain ⟨z, g', v, Z, c1, c2, c3, c4, c5, c6⟩ := c_make N hN h f Y[l] Y[r] l r (List.getElem?_eq_getElem hl) (List.getElem?_eq_getElem hr) hY
      exact ⟨_, g', v, Z, c1, c2, c5, c6⟩
    · have hl' := List.getElem?_eq_getElem hl
      have hr' := List.getElem?_eq_getElem hr
      have hf4 := tyF_le f
      have hcl : ie (l : Int) * 31 + ie (r : Int) * 17 + ie (tyF f : Nat) &&& 1023 = ie (((l * 31 + r * 17 + tyF f) % 1024 : Nat) : Int) := by
        rw [show (31 : Int32) = ie 31 from rfl, show (17 : Int32) = ie 17 from rfl, ie_mul, ie_mul, ie_add, ie_add, show ((l : Int) * 31 + (r : Int) * 17 + (tyF f : Nat)) = ((l * 31 + r * 17 + tyF f : Nat) : Int) by omega, show (1023 : Int32) = ie ((1023 : Nat) : Int) from rfl, ie_and]
        rw [show (1023 : Nat) = 2 ^ 10 - 1 from rfl, Nat.and_two_pow_sub_one_eq_mod]
      have hrun : F_Types_make N (ie (tyF f : Nat)) (ie l) (ie r) g u = pm_S g (K_Types_make_55 N N (ie (tyF f : Nat)) (ie l) (ie r) (ie (((l * 31 + r * 17 + tyF f) % 1024 : Nat) : Int)) (u.1 17 ((l * 31 + r * 17 + tyF f) % 1024)) (ie ((0 : Nat) : Int)) g u) := by
        unfold F_Types_make
        rw [hcl, h1]
        rw [if_neg a0, if_neg a1, if_neg b0, if_pos b1, if_pos (okn _ 1024 (by omega) (by omega)), ntn _ (by omega)]; rfl
      obtain ⟨L, l1, l2, l3, l4⟩ := h7 ((l * 31 + r * 17 + tyF f) % 1024) (by omega)
      rcases c_find N h f _ _ l r ((l * 31 + r * 17 + tyF f) % 1024) hl' hr' L _ 0 N l1 l3 (by omega) (by omega) with ⟨i, i1, i2, i3⟩ | ⟨i1, i2⟩
      · refine ⟨ie i, g, u, [], ?_, by rw [List.append_nil]; exact h, fr_refl _ _, gL_refl h3⟩
        rw [hrun, i3, pmS_some g g _ _ (Nat.le_refl _) (Nat.le_refl _)]
      · apply triv
        rw [hrun, i2]
        unfold K_Types_make_129
        rw [h1, if_neg (show ¬ (ie (Y.length : Int) < 65536) by simp (disch := omega) only [ie_lit, Int.cast_ofNat_Int, ie_add, ie_sub, ie_mul, ie_neg, ie_lt, ie_le, ie_eq, ie_nat, ie_ok, ib_z, ib_e, ib_1, lge_lt, lge_ge, lge_eq, lge_le, lge_gt]; omega), pmS_some g g _ _ (Nat.le_refl _) (Nat.le_refl _)]
  · apply triv; unfold F_Types_make; rw [h1, if_neg a0, if_neg a1, if_neg b0, if_neg b1, pmS_some g g _ _ (Nat.le_refl _) (Nat.le_refl _)]
