set_option maxRecDepth 100000
theorem je_div10 (a : Int) (h : 0 ≤ a) (h2 : a < 9223372036854775808) : je a / 10 = je (a / 10) := by
  have h10 : (10 : Int64).toInt = 10 := by decide
  rw [← Int64.toInt_inj, Int64.toInt_div, je_toInt a (by omega) h2, h10, Int.tdiv_eq_ediv_of_nonneg h, je_toInt (a / 10) (by omega) (by omega)]
  exact Int.bmod_eq_of_le (by omega) (by omega)
theorem nv_nn (o : Nat → Int) (a k : Nat) (h : ∀ i, i < k → oD (o (a + i)) = true) : 0 ≤ nv (sl o a k) := by
  induction k with
  | zero => exact Int.le_refl 0
  | succ k ih =>
    rw [sl_nv]
    have h1 := ih (fun i hi => h i (by omega))
    have h2 := oD_rg (h k (by omega))
    omega
theorem c_num {o : Nat → Int} {n : Nat} {u : pm_J} (N : Nat) (g : pm_s) (ho : tx_o o n) (hu : cTx o n u) (a k : Nat) (hk : k = rl oD o 3001 a) (ha : a < n) (m j f : Nat) (y : Int64) (x : Int32) (hm : j + m = k) (hf : m < f)
    (hy : (x = ie 0 ∧ y = je (nv (sl o a j)) ∧ nv (sl o a j) ≤ 9223372036854775807) ∨ (x = ie 1 ∧ 9223372036854775807 < nv (sl o a j))) :
    ∃ y' x', K_Tokens_scanNumber_1_8 N g f (ie a) y x (ie ((a : Int) + j)) u = K_Tokens_scanNumber_1_86 N g (ie a) y' x' (ie ((a : Int) + k)) u ∧
      ((x' = ie 0 ∧ y' = je (nv (sl o a k)) ∧ nv (sl o a k) ≤ 9223372036854775807) ∨ (x' = ie 1 ∧ 9223372036854775807 < nv (sl o a k))) := by
  have hn := ho.1
  have hp : ∀ i, n ≤ i → oD (o i) = false := fun i hi => by rw [ho.2.1 i hi]; decide
  have hk2 : a + k ≤ n := by rw [hk]; exact rl_le oD o n 3001 a hp (by omega)
  induction m generalizing j f y x with
  | zero =>
    obtain ⟨f, rfl⟩ : ∃ f', f = f' + 1 := ⟨f - 1, by omega⟩
    have hj : j = k := by omega
    subst hj
    refine ⟨y, x, ?_, hy⟩
    rw [K_Tokens_scanNumber_1_8, hu.1]
    simp (disch := omega) only [ie_lit, Int.cast_ofNat_Int, ie_add, ie_sub, ie_mul, ie_neg, ie_lt, ie_le, ie_eq, ie_nat, ie_ok, ib_z, ib_e, ib_1, lge_lt, lge_ge, lge_eq, lge_le, lge_gt]
    by_cases h : n ≤ a + j
    · rw [if_pos (by omega)]
    · have he : oD (o (a + j)) = false := by rw [hk]; exact rl_end oD o n 3001 a hp (by omega)
      rw [if_neg (by omega), show ((a : Int) + j) = ((a + j : Nat) : Int) by omega, c_octet g ho hu _ (by omega), Option.bind_some, c_isD _ g u (tx_rg ho _).1 (tx_rg ho _).2, Option.bind_some, he]
      rfl
  | succ m ih =>
    obtain ⟨f, rfl⟩ : ∃ f', f = f' + 1 := ⟨f - 1, by omega⟩
    have he : oD (o (a + j)) = true := rl_all oD o 3001 a j (by omega)
    have h9 := oD_rg he
    have h0 := nv_nn o a j (fun i hi => rl_all oD o 3001 a i (by omega))
    have hsl := sl_nv o a j
    rw [K_Tokens_scanNumber_1_8, hu.1]
    simp (disch := omega) only [ie_lit, Int.cast_ofNat_Int, ie_add, ie_sub, ie_mul, ie_neg, ie_lt, ie_le, ie_eq, ie_nat, ie_ok, ib_z, ib_e, ib_1, lge_lt, lge_ge, lge_eq, lge_le, lge_gt]
    rw [if_neg (by omega), show ((a : Int) + j) = ((a + j : Nat) : Int) by omega, c_octet g ho hu _ (by omega), Option.bind_some, c_isD _ g u (tx_rg ho _).1 (tx_rg ho _).2, Option.bind_some, he, Option.bind_some, if_neg (by decide)]
    simp (disch := omega) only [ie_lit, Int.cast_ofNat_Int, ie_add, ie_sub, ie_mul, ie_neg, ie_lt, ie_le, ie_eq, ie_nat, ie_ok, ib_z, ib_e, ib_1, lge_lt, lge_ge, lge_eq, lge_le, lge_gt]
    simp only [K_Tokens_scanNumber_1_68]
    simp (disch := omega) only [ie_lit, Int.cast_ofNat_Int, ie_add, ie_sub, ie_mul, ie_neg, ie_lt, ie_le, ie_eq, ie_nat, ie_ok, ib_z, ib_e, ib_1, lge_lt, lge_ge, lge_eq, lge_le, lge_gt]
    rw [show ((a + j : Nat) : Int) + 1 = (a : Int) + (j + 1 : Nat) by omega, ie_je (o (a + j) - 48) (by omega) (by omega)]
    rw [show (9223372036854775807 : Int64) = je 9223372036854775807 from rfl, je_sub, je_div10 _ (by omega) (by omega)]
    rcases hy with ⟨hx, hy, hle⟩ | ⟨hx, hgt⟩
    · rw [hx, if_pos rfl, hy]
      simp (disch := omega) only [je_lt]
      by_cases hc : (9223372036854775807 - (o (a + j) - 48)) / 10 < nv (sl o a j)
      · rw [if_neg (by omega)]
        refine ih (j + 1) f _ (ie 1) (by omega) (by omega) (Or.inr ⟨rfl, ?_⟩)
        rw [hsl]; omega
      · rw [if_pos (by omega)]
        refine ih (j + 1) f _ (ie 0) (by omega) (by omega) (Or.inl ⟨rfl, ?_, ?_⟩)
        · rw [hsl, show (10 : Int64) = je 10 from rfl, je_mul, je_add]
        · rw [hsl]; omega
    · rw [hx, if_neg (by decide)]
      refine ih (j + 1) f _ (ie 1) (by omega) (by omega) (Or.inr ⟨rfl, ?_⟩)
      rw [hsl]; omega
theorem dg_rg {x : Int} (h : oN x = true) : 1 ≤ dg x ∧ dg x ≤ 36 := by
  unfold oN oL oD at h; unfold dg oD
  simp only [Bool.or_eq_true, Bool.and_eq_true, decide_eq_true_eq] at h ⊢
  split <;> omega
theorem dg_inj {x y : Int} (h : oN x = true) (h2 : oN y = true) (h3 : dg x = dg y) : x = y := by
  unfold oN oL oD at h h2; unfold dg oD at h3
  simp only [Bool.or_eq_true, Bool.and_eq_true, decide_eq_true_eq] at h h2 h3
  split at h3 <;> split at h3 <;> omega
theorem c_with (v : Int64) (x : Int) (g : pm_s) (u : pm_J) (h : oN x = true) (h1 : -1 ≤ x) (h2 : x ≤ 255) : F_Tokens_withOctet v (ie x) g u = some (v * 37 + je (dg x)) := by
  unfold F_Tokens_withOctet
  rw [c_isD x g u h1 h2]
  simp only [Option.bind_some, ib_z]
  have := dg_rg h
  unfold dg at this ⊢
  by_cases h3 : oD x = true
  · rw [if_neg (by simpa using h3), if_pos h3]
    rw [if_pos h3] at this
    simp (disch := omega) only [ie_lit, Int.cast_ofNat_Int, ie_add, ie_sub, ie_mul, ie_neg, ie_lt, ie_le, ie_eq, ie_nat, ie_ok, ib_z, ib_e, ib_1, lge_lt, lge_ge, lge_eq, lge_le, lge_gt, ie_je]
  · rw [if_pos (by simpa using h3), if_neg h3]
    rw [if_neg h3] at this
    simp (disch := omega) only [ie_lit, Int.cast_ofNat_Int, ie_add, ie_sub, ie_mul, ie_neg, ie_lt, ie_le, ie_eq, ie_nat, ie_ok, ib_z, ib_e, ib_1, lge_lt, lge_ge, lge_eq, lge_le, lge_gt, ie_je]
theorem c_name {o : Nat → Int} {n : Nat} {u : pm_J} (N : Nat) (g : pm_s) (ho : tx_o o n) (hu : cTx o n u) (a k : Nat) (hk : k = rl oN o 3001 a) (ha : a < n) (m j f : Nat) (y : Int64) (hm : j + m = k) (hf : m < f)
    (hy : j ≤ 10 → y = je (pk (sl o a j))) :
    ∃ y', K_Tokens_scanName_1_5 N g f (ie a) y (ie ((a : Int) + j)) u = K_Tokens_scanName_1_67 N g (ie a) y' (ie ((a : Int) + k)) u ∧ (k ≤ 10 → y' = je (pk (sl o a k))) := by
  have hn := ho.1
  have hp : ∀ i, n ≤ i → oN (o i) = false := fun i hi => by rw [ho.2.1 i hi]; decide
  have hk2 : a + k ≤ n := by rw [hk]; exact rl_le oN o n 3001 a hp (by omega)
  induction m generalizing j f y with
  | zero =>
    obtain ⟨f, rfl⟩ : ∃ f', f = f' + 1 := ⟨f - 1, by omega⟩
    have hj : j = k := by omega
    subst hj
    refine ⟨y, ?_, hy⟩
    rw [K_Tokens_scanName_1_5, hu.1]
    simp (disch := omega) only [ie_lit, Int.cast_ofNat_Int, ie_add, ie_sub, ie_mul, ie_neg, ie_lt, ie_le, ie_eq, ie_nat, ie_ok, ib_z, ib_e, ib_1, lge_lt, lge_ge, lge_eq, lge_le, lge_gt]
    by_cases h : n ≤ a + j
    · rw [if_pos (by omega)]
    · have he : oN (o (a + j)) = false := by rw [hk]; exact rl_end oN o n 3001 a hp (by omega)
      have he2 : oL (o (a + j)) = false ∧ oD (o (a + j)) = false := by unfold oN at he; simpa using he
      rw [if_neg (by omega), show ((a : Int) + j) = ((a + j : Nat) : Int) by omega, c_octet g ho hu _ (by omega), Option.bind_some, c_isL _ g u (tx_rg ho _).1 (tx_rg ho _).2, Option.bind_some, he2.1]
      simp only [ib_e, ib_z, if_true, Option.bind_some, c_isD _ g u (tx_rg ho _).1 (tx_rg ho _).2, he2.2]
  | succ m ih =>
    obtain ⟨f, rfl⟩ : ∃ f', f = f' + 1 := ⟨f - 1, by omega⟩
    have he : oN (o (a + j)) = true := rl_all oN o 3001 a j (by omega)
    have hst : ∃ y', K_Tokens_scanName_1_40 N g (K_Tokens_scanName_1_5 N g f) (ie a) y (ie ((a + j : Nat) : Int)) u = K_Tokens_scanName_1_5 N g f (ie a) y' (ie ((a : Int) + (j + 1 : Nat))) u ∧ (j + 1 ≤ 10 → y' = je (pk (sl o a (j + 1)))) := by
      unfold K_Tokens_scanName_1_40
      simp (disch := omega) only [ie_lit, Int.cast_ofNat_Int, ie_add, ie_sub, ie_mul, ie_neg, ie_lt, ie_le, ie_eq, ie_nat, ie_ok, ib_z, ib_e, ib_1, lge_lt, lge_ge, lge_eq, lge_le, lge_gt]
      by_cases h10 : 10 ≤ j
      · refine ⟨y, ?_, fun h => absurd h (by omega)⟩
        rw [if_pos (by omega), show ((a + j : Nat) : Int) + 1 = (a : Int) + (j + 1 : Nat) by omega]
      · refine ⟨_, ?_, fun _ => rfl⟩
        rw [if_neg (by omega), c_octet g ho hu _ (by omega), Option.bind_some, c_with _ _ g u he (tx_rg ho _).1 (tx_rg ho _).2, Option.bind_some, hy (by omega), sl_pk, show ((a + j : Nat) : Int) + 1 = (a : Int) + (j + 1 : Nat) by omega,
          show (37 : Int64) = je 37 from rfl, je_mul, je_add]
    obtain ⟨y1, h1, h2⟩ := hst
    obtain ⟨y2, h3, h4⟩ := ih (j + 1) f y1 (by omega) (by omega) h2
    refine ⟨y2, ?_, h4⟩
    rw [← h3, ← h1, K_Tokens_scanName_1_5, hu.1]
    simp (disch := omega) only [ie_lit, Int.cast_ofNat_Int, ie_add, ie_sub, ie_mul, ie_neg, ie_lt, ie_le, ie_eq, ie_nat, ie_ok, ib_z, ib_e, ib_1, lge_lt, lge_ge, lge_eq, lge_le, lge_gt]
    rw [if_neg (by omega), show ((a : Int) + j) = ((a + j : Nat) : Int) by omega, c_octet g ho hu _ (by omega), Option.bind_some, c_isL _ g u (tx_rg ho _).1 (tx_rg ho _).2, Option.bind_some]
    simp only [ib_e, ib_z, Option.bind_some, c_isD _ g u (tx_rg ho _).1 (tx_rg ho _).2]
    by_cases hl : oL (o (a + j)) = true
    · rw [if_neg (by simpa using hl)]
    · rw [if_pos (by simpa using hl), if_neg]
      unfold oN at he
      simp only [hl, Bool.false_or, Bool.or_eq_true, false_or] at he
      simpa using he

theorem pk_app (l : List Int) (x : Int) : pk (l ++ [x]) = pk l * 37 + dg x := by unfold pk; rw [List.foldl_append]; rfl
theorem pk_rgn (k : Nat) : ∀ l : List Int, l.length = k → (∀ x ∈ l, oN x = true) → 0 ≤ pk l ∧ pk l < 37 ^ k := by
  induction k with
  | zero => intro l hl _; rw [List.length_eq_zero_iff] at hl; rw [hl]; decide
  | succ k ih =>
    intro l hl h
    rcases List.eq_nil_or_concat l with rfl | ⟨l', x, rfl⟩
    · simp at hl
    · have e1 : l'.concat x = l' ++ [x] := by simp
      rw [e1] at hl h ⊢
      have ih' := ih l' (by simpa using hl) (fun y hy => h y (by simp [hy]))
      have hd := dg_rg (h x (by simp))
      rw [pk_app, Int.pow_succ]
      omega
theorem pk_rg (l : List Int) (h : ∀ x ∈ l, oN x = true) : 0 ≤ pk l ∧ pk l < 37 ^ l.length := pk_rgn l.length l rfl h
theorem pk_injn (k : Nat) : ∀ l m : List Int, l.length = k → (∀ x ∈ l, oN x = true) → (∀ x ∈ m, oN x = true) → pk l = pk m → l = m := by
  induction k with
  | zero =>
    intro l m hl h h2 he
    rw [List.length_eq_zero_iff] at hl; subst hl
    rcases List.eq_nil_or_concat m with rfl | ⟨m', y, rfl⟩
    · rfl
    · exfalso
      have e1 : m'.concat y = m' ++ [y] := by simp
      rw [e1] at he h2
      rw [pk_app, show pk ([] : List Int) = 0 from rfl] at he
      have := dg_rg (h2 y (by simp)); have := (pk_rg m' (fun z hz => h2 z (by simp [hz]))).1
      omega
  | succ k ih =>
    intro l m hl h h2 he
    rcases List.eq_nil_or_concat l with rfl | ⟨l', x, rfl⟩
    · simp at hl
    rcases List.eq_nil_or_concat m with rfl | ⟨m', y, rfl⟩
    · exfalso
      have e1 : l'.concat x = l' ++ [x] := by simp
      rw [e1] at he h
      rw [pk_app, show pk ([] : List Int) = 0 from rfl] at he
      have := dg_rg (h x (by simp)); have := (pk_rg l' (fun z hz => h z (by simp [hz]))).1
      omega
    · have e1 : l'.concat x = l' ++ [x] := by simp
      have e2 : m'.concat y = m' ++ [y] := by simp
      rw [e1] at he h hl ⊢
      rw [e2] at he h2 ⊢
      rw [pk_app, pk_app] at he
      have a1 := dg_rg (h x (by simp)); have a2 := dg_rg (h2 y (by simp))
      have hxy : dg x = dg y := by omega
      rw [dg_inj (h x (by simp)) (h2 y (by simp)) hxy, ih l' m' (by simpa using hl) (fun z hz => h z (by simp [hz])) (fun z hz => h2 z (by simp [hz])) (by omega)]
theorem pk_inj (l m : List Int) (h : ∀ x ∈ l, oN x = true) (h2 : ∀ x ∈ m, oN x = true) (he : pk l = pk m) : l = m := pk_injn l.length l m rfl h h2 he
theorem sl_len (o : Nat → Int) (a k : Nat) : (sl o a k).length = k := by
  induction k with
  | zero => rfl
  | succ k ih => rw [sl, List.length_append, ih]; rfl
theorem sl_all (p : Int → Bool) (o : Nat → Int) (a k : Nat) (h : ∀ i, i < k → p (o (a + i)) = true) : ∀ x ∈ sl o a k, p x = true := by
  induction k with
  | zero => intro x hx; cases hx
  | succ k ih =>
    intro x hx
    rw [sl, List.mem_append] at hx
    rcases hx with hx | hx
    · exact ih (fun i hi => h i (by omega)) x hx
    · rw [List.mem_singleton] at hx; rw [hx]; exact h k (by omega)
theorem pk_63 (l : List Int) (h : ∀ x ∈ l, oN x = true) (hl : l.length ≤ 10) : 0 ≤ pk l ∧ pk l < 4808584372417849 + 1 := by
  have h1 := pk_rg l h
  have h2 : (37 : Int) ^ l.length ≤ 37 ^ 10 := by
    have : ∀ k : Nat, k ≤ 10 → (37 : Int) ^ k ≤ 37 ^ 10 := by decide
    exact this _ hl
  have h3 : (37 : Int) ^ 10 = 4808584372417849 := by decide
  omega
def cW (u : pm_J) : Prop := u.2 9 0 = 628896 ∧ u.2 9 1 = 306555143 ∧ u.2 9 2 = 16633 ∧ u.2 9 3 = 347 ∧ u.2 9 4 = 339 ∧ u.2 9 5 = 1024211 ∧ u.2 9 6 = 270401 ∧ u.2 9 7 = 236 ∧ u.2 9 8 = 8937 ∧ u.2 9 9 = 26533
theorem c_kon1 (N : Nat) (g : pm_s) (u : pm_J) (f i : Nat) (l : List Int) (w : List Int) (c : Int) (hw : pk w = c) (hwo : ∀ x ∈ w, oN x = true) (hl : ∀ x ∈ l, oN x = true) (h10 : l.length ≤ 10) (hi : i < 10) (hu : u.2 9 i = je c) (hc : 0 ≤ c ∧ c < 9223372036854775807) :
    K_Tokens_kindOfName_2 N g u (f + 1) (je (pk l)) (ie i) = if l = w then some (ie (5 + i)) else K_Tokens_kindOfName_2 N g u f (je (pk l)) (ie ((i + 1 : Nat) : Int)) := by
  rw [K_Tokens_kindOfName_2]
  have := pk_63 l hl h10
  simp (disch := omega) only [ie_lit, Int.cast_ofNat_Int, ie_add, ie_sub, ie_mul, ie_neg, ie_lt, ie_le, ie_eq, ie_nat, ie_ok, ib_z, ib_e, ib_1, lge_lt, lge_ge, lge_eq, lge_le, lge_gt, Int.toNat_natCast, hu, je_eq]
  rw [if_neg (by omega), if_pos (by omega)]
  by_cases h : l = w
  · rw [if_pos h, if_pos (by rw [h, hw])]
  · rw [if_neg h, if_neg (fun hh => h (pk_inj l w hl hwo (by rw [hw]; exact hh.symm)))]; rfl
theorem c_kon (N : Nat) (g : pm_s) (u : pm_J) (l : List Int) (hN : 100 ≤ N) (hl : ∀ x ∈ l, oN x = true) (h10 : l.length ≤ 10) (hu : cW u) : F_Tokens_kindOfName N (je (pk l)) g u = some (ie (wk l)) := by
  obtain ⟨f, rfl⟩ : ∃ f', N = f' + 11 := ⟨N - 11, by omega⟩
  obtain ⟨h0, h1, h2, h3, h4, h5, h6, h7, h8, h9⟩ := hu
  unfold F_Tokens_kindOfName wk
  rw [show (0 : Int32) = ie ((0 : Nat) : Int) from rfl]
  rw [c_kon1 _ g u (f + 10) 0 l [108, 111, 110, 103] 628896 (by decide) (by decide) hl h10 (by omega) h0 (by omega)]
  by_cases a0 : l = [108, 111, 110, 103]
  · rw [if_pos a0, if_pos a0]; rfl
  rw [if_neg a0, if_neg a0]
  rw [c_kon1 _ g u (f + 9) 1 l [100, 111, 117, 98, 108, 101] 306555143 (by decide) (by decide) hl h10 (by omega) h1 (by omega)]
  by_cases a1 : l = [100, 111, 117, 98, 108, 101]
  · rw [if_pos a1, if_pos a1]; rfl
  rw [if_neg a1, if_neg a1]
  rw [c_kon1 _ g u (f + 8) 2 l [108, 101, 116] 16633 (by decide) (by decide) hl h10 (by omega) h2 (by omega)]
  by_cases a2 : l = [108, 101, 116]
  · rw [if_pos a2, if_pos a2]; rfl
  rw [if_neg a2, if_neg a2]
  rw [c_kon1 _ g u (f + 7) 3 l [105, 110] 347 (by decide) (by decide) hl h10 (by omega) h3 (by omega)]
  by_cases a3 : l = [105, 110]
  · rw [if_pos a3, if_pos a3]; rfl
  rw [if_neg a3, if_neg a3]
  rw [c_kon1 _ g u (f + 6) 4 l [105, 102] 339 (by decide) (by decide) hl h10 (by omega) h4 (by omega)]
  by_cases a4 : l = [105, 102]
  · rw [if_pos a4, if_pos a4]; rfl
  rw [if_neg a4, if_neg a4]
  rw [c_kon1 _ g u (f + 5) 5 l [116, 104, 101, 110] 1024211 (by decide) (by decide) hl h10 (by omega) h5 (by omega)]
  by_cases a5 : l = [116, 104, 101, 110]
  · rw [if_pos a5, if_pos a5]; rfl
  rw [if_neg a5, if_neg a5]
  rw [c_kon1 _ g u (f + 4) 6 l [101, 108, 115, 101] 270401 (by decide) (by decide) hl h10 (by omega) h6 (by omega)]
  by_cases a6 : l = [101, 108, 115, 101]
  · rw [if_pos a6, if_pos a6]; rfl
  rw [if_neg a6, if_neg a6]
  rw [c_kon1 _ g u (f + 3) 7 l [102, 110] 236 (by decide) (by decide) hl h10 (by omega) h7 (by omega)]
  by_cases a7 : l = [102, 110]
  · rw [if_pos a7, if_pos a7]; rfl
  rw [if_neg a7, if_neg a7]
  rw [c_kon1 _ g u (f + 2) 8 l [102, 115, 116] 8937 (by decide) (by decide) hl h10 (by omega) h8 (by omega)]
  by_cases a8 : l = [102, 115, 116]
  · rw [if_pos a8, if_pos a8]; rfl
  rw [if_neg a8, if_neg a8]
  rw [c_kon1 _ g u (f + 1) 9 l [115, 110, 100] 26533 (by decide) (by decide) hl h10 (by omega) h9 (by omega)]
  by_cases a9 : l = [115, 110, 100]
  · rw [if_pos a9, if_pos a9]; rfl
  rw [if_neg a9, if_neg a9]
  rw [K_Tokens_kindOfName_2]
  rfl
def cTok (u : pm_J) (T : List Tok) : Prop := u.1 5 5 = ie T.length ∧ T.length ≤ 900 ∧ ∀ i t, T[i]? = some t → u.1 6 i = ie t.1 ∧ u.1 7 i = ie t.2.1 ∧ u.2 8 i = t.2.2.2
def cAdd (u : pm_J) (n k p : Nat) (v : Int64) : pm_J := wi (wj (wi (wi u 6 n (ie k)) 7 n (ie p)) 8 n v) 5 5 (ie (n + 1))
def cTell (u : pm_J) (c p : Int) : pm_J := wi (wi u 3 0 (ie c)) 3 1 (ie p)
theorem c_add (u : pm_J) (g : pm_s) (n k p : Nat) (v : Int64) (h : u.1 5 5 = ie n) (hn : n < 900) : F_Tokens_add (ie k) (ie p) v g u = some (cAdd u n k p v) := by
  unfold F_Tokens_add
  rw [h]
  simp (disch := omega) only [ie_lit, Int.cast_ofNat_Int, ie_add, ie_sub, ie_mul, ie_neg, ie_lt, ie_le, ie_eq, ie_nat, ie_ok, ib_z, ib_e, ib_1, lge_lt, lge_ge, lge_eq, lge_le, lge_gt, Int.toNat_natCast]
  rw [if_neg (by omega), if_pos (by omega), if_pos (by omega), if_pos (by omega)]; rfl
theorem c_tell (u : pm_J) (g : pm_s) (c p : Int) (h : u.1 3 0 = ie 0) : F_Fault_tell_3 (ie c) (ie p) g u = some (cTell u c p) := by
  unfold F_Fault_tell_3; rw [h, if_pos (show ie 0 = 0 from rfl)]; rfl
theorem c_told0 (u : pm_J) (g : pm_s) (h : u.1 3 0 = ie 0) : F_Fault_isTold_3 g u = some (ie 0) := by
  unfold F_Fault_isTold_3; rw [h, if_pos (show ie 0 = 0 from rfl)]; rfl
theorem c_told1 (u : pm_J) (g : pm_s) (h : u.1 3 0 ≠ ie 0) : F_Fault_isTold_3 g u = some (ie 1) := by
  unfold F_Fault_isTold_3; rw [if_neg (show ¬ u.1 3 0 = 0 from h)]; rfl
theorem c_sgn1 {o : Nat → Int} {n : Nat} {u : pm_J} (N : Nat) (g : pm_s) (ho : tx_o o n) (hu : cTx o n u) (f a i m : Nat) (ha : a < 10000) (hi : i < 10) (x : Int) (hx : ks_ch 1 i = ie x) (hx2 : 0 ≤ x ∧ x ≤ 255) (hm : u.1 5 5 = ie m) (hm9 : m < 900) :
    K_Tokens_scanSign_1_36 N g (f + 1) (ie a) (ie i) u = if o a = x then some (ie 1, cAdd u m (15 + i) a 0) else K_Tokens_scanSign_1_36 N g f (ie a) (ie ((i + 1 : Nat) : Int)) u := by
  rw [K_Tokens_scanSign_1_36, c_octet g ho hu a ha]
  have := tx_rg ho a
  simp (disch := omega) only [ie_lit, Int.cast_ofNat_Int, ie_add, ie_sub, ie_mul, ie_neg, ie_lt, ie_le, ie_eq, ie_nat, ie_ok, ib_z, ib_e, ib_1, lge_lt, lge_ge, lge_eq, lge_le, lge_gt, Int.toNat_natCast, hx, Option.bind_some]
  rw [if_neg (by omega), if_pos (by omega)]
  by_cases h : o a = x
  · rw [if_pos h, if_pos h.symm, show ((15 : Int) + i) = ((15 + i : Nat) : Int) by omega, show (0 : Int64) = 0 from rfl, c_add u g m (15 + i) a 0 hm hm9]; rfl
  · rw [if_neg h, if_neg (fun hh => h hh.symm)]; rfl
theorem c_sgn {o : Nat → Int} {n : Nat} {u : pm_J} (N : Nat) (g : pm_s) (ho : tx_o o n) (hu : cTx o n u) (f a m : Nat) (hN : 100 ≤ f) (ha : a < 10000) (hm : u.1 5 5 = ie m) (hm9 : m < 900) (h0 : u.1 3 0 = ie 0) :
    K_Tokens_scanSign_1_36 N g f (ie a) 0 u = if sgn (o a) = 0 then some (ie 1, cTell u 1 a) else some (ie 1, cAdd u m (sgn (o a)) a 0) := by
  obtain ⟨f, rfl⟩ : ∃ f', f = f' + 11 := ⟨f - 11, by omega⟩
  unfold sgn
  rw [show (0 : Int32) = ie ((0 : Nat) : Int) from rfl]
  rw [c_sgn1 N g ho hu (f + 10) a 0 m ha (by omega) 40 rfl (by omega) hm hm9]
  by_cases a0 : o a = 40
  · rw [if_pos a0, if_pos a0]; rfl
  rw [if_neg a0, if_neg a0, c_sgn1 N g ho hu (f + 9) a 1 m ha (by omega) 41 rfl (by omega) hm hm9]
  by_cases a1 : o a = 41
  · rw [if_pos a1, if_pos a1]; rfl
  rw [if_neg a1, if_neg a1, c_sgn1 N g ho hu (f + 8) a 2 m ha (by omega) 58 rfl (by omega) hm hm9]
  by_cases a2 : o a = 58
  · rw [if_pos a2, if_pos a2]; rfl
  rw [if_neg a2, if_neg a2, c_sgn1 N g ho hu (f + 7) a 3 m ha (by omega) 61 rfl (by omega) hm hm9]
  by_cases a3 : o a = 61
  · rw [if_pos a3, if_pos a3]; rfl
  rw [if_neg a3, if_neg a3, c_sgn1 N g ho hu (f + 6) a 4 m ha (by omega) 59 rfl (by omega) hm hm9]
  by_cases a4 : o a = 59
  · rw [if_pos a4, if_pos a4]; rfl
  rw [if_neg a4, if_neg a4, c_sgn1 N g ho hu (f + 5) a 5 m ha (by omega) 44 rfl (by omega) hm hm9]
  by_cases a5 : o a = 44
  · rw [if_pos a5, if_pos a5]; rfl
  rw [if_neg a5, if_neg a5, c_sgn1 N g ho hu (f + 4) a 6 m ha (by omega) 42 rfl (by omega) hm hm9]
  by_cases a6 : o a = 42
  · rw [if_pos a6, if_pos a6]; rfl
  rw [if_neg a6, if_neg a6, c_sgn1 N g ho hu (f + 3) a 7 m ha (by omega) 43 rfl (by omega) hm hm9]
  by_cases a7 : o a = 43
  · rw [if_pos a7, if_pos a7]; rfl
  rw [if_neg a7, if_neg a7, c_sgn1 N g ho hu (f + 2) a 8 m ha (by omega) 45 rfl (by omega) hm hm9]
  by_cases a8 : o a = 45
  · rw [if_pos a8, if_pos a8]; rfl
  rw [if_neg a8, if_neg a8, c_sgn1 N g ho hu (f + 1) a 9 m ha (by omega) 60 rfl (by omega) hm hm9]
  by_cases a9 : o a = 60
  · rw [if_pos a9, if_pos a9]; rfl
  rw [if_neg a9, if_neg a9, if_pos rfl, K_Tokens_scanSign_1_36]
  have e10 : (10 : Int32) ≤ ie ((9 + 1 : Nat) : Int) := by decide
  rw [if_pos e10, show (1 : Int32) = ie 1 from rfl, c_tell u g 1 a h0]; rfl
theorem c_token {o : Nat → Int} {n : Nat} {u : pm_J} (N : Nat) (g : pm_s) (ho : tx_o o n) (hu : cTx o n u) (a m : Nat) (hN : 10000 ≤ N) (ha : a < n) (hm : u.1 5 5 = ie m) (hm9 : m < 900) (h0 : u.1 3 0 = ie 0) (hW : cW u) :
    (∀ t, tokS o a = some t → F_Tokens_scanToken_1 N (ie a) g u = some (ie t.2.1, cAdd u m t.1 a t.2.2)) ∧ (tokS o a = none → ∃ w, F_Tokens_scanToken_1 N (ie a) g u = some (w, cTell u 1 a)) := by
  have hn := ho.1
  have hra := tx_rg ho a
  unfold F_Tokens_scanToken_1 tokS
  rw [c_octet g ho hu a (by omega), Option.bind_some, c_isL _ g u hra.1 hra.2, Option.bind_some]
  by_cases hl : oL (o a) = true
  · rw [if_pos hl, if_neg (show ¬ (ib (oL (o a)) = 0) by rw [hl]; decide)]
    have hpN : ∀ i, n ≤ i → oN (o i) = false := fun i hi => by rw [ho.2.1 i hi]; decide
    have hk := rl_le oN o n 3001 a hpN (by omega)
    obtain ⟨y, h1, h2⟩ := c_name N g ho hu a _ rfl ha (rl oN o 3001 a) 0 N 0 (by omega) (by omega) (fun _ => rfl)
    unfold F_Tokens_scanName_1
    rw [show (ie ((a : Int) + (0 : Nat))) = ie a by simp] at h1
    rw [h1]
    unfold K_Tokens_scanName_1_67
    simp (disch := omega) only [ie_lit, Int.cast_ofNat_Int, ie_add, ie_sub, ie_mul, ie_neg, ie_lt, ie_le, ie_eq, ie_nat, ie_ok, ib_z, ib_e, ib_1, lge_lt, lge_ge, lge_eq, lge_le, lge_gt]
    by_cases h10 : rl oN o 3001 a ≤ 10
    · rw [if_pos h10, if_pos (by omega), h2 h10, c_kon N g u _ (by omega) (sl_all oN o a _ (fun i hi => rl_all oN o 3001 a i hi)) (by rw [sl_len]; exact h10) hW, Option.bind_some, c_add u g m _ a _ hm hm9]
      refine ⟨fun t ht => ?_, fun ht => by cases ht⟩
      cases ht
      simp only [Option.bind_some]
      rw [show ((a : Int) + (rl oN o 3001 a : Nat) - a) = (rl oN o 3001 a : Nat) by omega]
    · rw [if_neg h10, if_neg (by omega), c_tell u g 1 a h0]
      exact ⟨fun t ht => (nomatch ht), fun _ => ⟨_, rfl⟩⟩
  · rw [if_neg hl, if_pos (show ib (oL (o a)) = 0 by simpa [ib_z] using hl), c_isD _ g u hra.1 hra.2, Option.bind_some]
    by_cases hd : oD (o a) = true
    · rw [if_pos hd, if_neg (show ¬ (ib (oD (o a)) = 0) by rw [hd]; decide)]
      have hpN : ∀ i, n ≤ i → oD (o i) = false := fun i hi => by rw [ho.2.1 i hi]; decide
      have hk := rl_le oD o n 3001 a hpN (by omega)
      obtain ⟨y, x, h1, h2⟩ := c_num N g ho hu a _ rfl ha (rl oD o 3001 a) 0 N 0 (ie 0) (by omega) (by omega) (Or.inl ⟨rfl, rfl, show (0 : Int) ≤ 9223372036854775807 by decide⟩)
      unfold F_Tokens_scanNumber_1
      rw [show (ie ((a : Int) + (0 : Nat))) = ie a by simp] at h1
      rw [show (0 : Int32) = ie 0 from rfl, h1]
      unfold K_Tokens_scanNumber_1_86
      rcases h2 with ⟨hx, hy, hle⟩ | ⟨hx, hgt⟩
      · rw [if_pos hle, hx, if_pos (show ie 0 = 0 from rfl), hy, show (2 : Int32) = ie ((2 : Nat) : Int) from rfl, c_add u g m 2 a _ hm hm9]
        refine ⟨fun t ht => ?_, fun ht => by cases ht⟩
        cases ht
        simp only [Option.bind_some]
        rw [ie_sub, show ((a : Int) + (rl oD o 3001 a : Nat) - a) = (rl oD o 3001 a : Nat) by omega]
      · rw [if_neg (by omega), hx, if_neg (by decide), show (1 : Int32) = ie 1 from rfl, c_tell u g 1 a h0]
        exact ⟨fun t ht => (nomatch ht), fun _ => ⟨_, rfl⟩⟩
    · rw [if_neg hd, if_pos (show ib (oD (o a)) = 0 by simpa [ib_z] using hd)]
      simp (disch := omega) only [ie_lit, Int.cast_ofNat_Int, ie_add, ie_sub, ie_mul, ie_neg, ie_lt, ie_le, ie_eq, ie_nat, ie_ok, ib_z, ib_e, ib_1, lge_lt, lge_ge, lge_eq, lge_le, lge_gt]
      by_cases h35 : o a = 35
      · rw [if_pos h35, if_pos h35]
        have hpN : ∀ i, n ≤ i → oH (o i) = false := fun i hi => by rw [ho.2.1 i hi]; decide
        have hk := rl_le oH o n 3001 (a + 1) hpN (by omega)
        have h1 := c_bits N g ho hu a _ rfl ha (rl oH o 3001 (a + 1)) 0 N (by omega) (by omega)
        unfold F_Tokens_scanBits_1
        rw [show (ie ((a : Int) + 1 + (0 : Nat))) = ie a + 1 by rw [show (1 : Int32) = ie 1 from rfl, ie_add]; simp, show hx (sl o (a + 1) 0) = 0 from rfl] at h1
        rw [h1]
        unfold K_Tokens_scanBits_1_51 K_Tokens_scanBits_1_72
        simp (disch := omega) only [ie_lit, Int.cast_ofNat_Int, ie_add, ie_sub, ie_mul, ie_neg, ie_lt, ie_le, ie_eq, ie_nat, ie_ok, ib_z, ib_e, ib_1, lge_lt, lge_ge, lge_eq, lge_le, lge_gt, c_tell u g 1 a h0, Option.bind_some]
        by_cases hlt : rl oH o 3001 (a + 1) < 1
        · rw [if_neg (by omega), if_pos (by omega)]
          exact ⟨fun t ht => (nomatch ht), fun _ => ⟨_, rfl⟩⟩
        · rw [if_neg (show ¬ ((a : Int) + 1 + (rl oH o 3001 (a + 1) : Nat) - a - 1 < 1) by omega)]
          by_cases h16 : rl oH o 3001 (a + 1) ≤ 16
          · rw [if_pos (by omega), if_pos (by omega), show (3 : Int) = ((3 : Nat) : Int) from rfl, c_add u g m 3 a _ hm hm9]
            refine ⟨fun t ht => ?_, fun ht => by cases ht⟩
            cases ht
            simp only [Option.bind_some]
            rw [show ((a : Int) + 1 + (rl oH o 3001 (a + 1) : Nat) - a) = ((rl oH o 3001 (a + 1) + 1 : Nat) : Int) by omega]
          · rw [if_neg (by omega), if_neg (by omega)]
            exact ⟨fun t ht => (nomatch ht), fun _ => ⟨_, rfl⟩⟩
      · rw [if_neg h35, if_neg h35]
        by_cases h39 : o a = 39
        · rw [if_pos h39, if_pos h39]
          have hr1 := tx_rg ho (a + 1)
          unfold F_Tokens_scanLetter_1
          rw [show ie (a : Int) + 1 = ie ((a + 1 : Nat) : Int) by rw [show (1 : Int32) = ie 1 from rfl, ie_add]; rfl, c_octet g ho hu (a + 1) (by omega), Option.bind_some]
          simp (disch := omega) only [ie_lit, Int.cast_ofNat_Int, ie_add, ie_sub, ie_mul, ie_neg, ie_lt, ie_le, ie_eq, ie_nat, ie_ok, ib_z, ib_e, ib_1, lge_lt, lge_ge, lge_eq, lge_le, lge_gt, c_tell u g 1 a h0, Option.bind_some, ie_je]
          by_cases hlo : o (a + 1) - 97 < 0
          · rw [if_pos hlo, if_neg (by omega)]
            exact ⟨fun t ht => (nomatch ht), fun _ => ⟨_, rfl⟩⟩
          · rw [if_neg hlo]
            by_cases hhi : o (a + 1) - 97 < 4
            · rw [if_pos hhi, if_pos (by omega), show (4 : Int) = ((4 : Nat) : Int) from rfl, c_add u g m 4 a _ hm hm9]
              refine ⟨fun t ht => ?_, fun ht => by cases ht⟩
              cases ht
              rfl
            · rw [if_neg hhi, if_neg (by omega)]
              exact ⟨fun t ht => (nomatch ht), fun _ => ⟨_, rfl⟩⟩
        · rw [if_neg h39, if_neg h39]
          have hr1 := tx_rg ho (a + 1)
          unfold F_Tokens_scanSign_1
          rw [show ie (a : Int) + 1 = ie ((a + 1 : Nat) : Int) by rw [show (1 : Int32) = ie 1 from rfl, ie_add]; rfl, c_octet g ho hu (a + 1) (by omega), c_octet g ho hu a (by omega), c_sgn N g ho hu N a m (by omega) (by omega) hm hm9 h0]
          simp only [Option.bind_some]
          have e25 : F_Tokens_add 25 (ie a) 0 g u = some (cAdd u m 25 a 0) := c_add u g m 25 a 0 hm hm9
          rw [e25]
          simp (disch := omega) only [ie_lit, Int.cast_ofNat_Int, ie_add, ie_sub, ie_mul, ie_neg, ie_lt, ie_le, ie_eq, ie_nat, ie_ok, ib_z, ib_e, ib_1, lge_lt, lge_ge, lge_eq, lge_le, lge_gt]
          by_cases h45 : o a = 45
          · rw [if_pos h45]
            by_cases h62 : o (a + 1) = 62
            · rw [if_pos h62, if_pos ⟨h45, h62⟩]
              refine ⟨fun t ht => ?_, fun ht => by cases ht⟩
              cases ht
              rfl
            · rw [if_neg h62, if_neg (by omega)]
              rw [show sgn (o a) = 23 by rw [h45]; rfl]
              refine ⟨fun t ht => ?_, fun ht => by cases ht⟩
              cases ht
              rfl
          · rw [if_neg h45, if_neg (by omega)]
            by_cases hs : sgn (o a) = 0
            · rw [if_pos hs, if_pos hs]
              exact ⟨fun t ht => (nomatch ht), fun _ => ⟨_, rfl⟩⟩
            · rw [if_neg hs, if_neg hs]
              refine ⟨fun t ht => ?_, fun ht => by cases ht⟩
              cases ht
              rfl
theorem ite_le {c : Prop} [Decidable c] {a b k : Nat} (h1 : a ≤ k) (h2 : b ≤ k) : (if c then a else b) ≤ k := by
  by_cases h : c
  · rw [if_pos h]; exact h1
  · rw [if_neg h]; exact h2
theorem ite_ge {c : Prop} [Decidable c] {a b k : Nat} (h1 : k ≤ a) (h2 : k ≤ b) : k ≤ (if c then a else b) := by
  by_cases h : c
  · rw [if_pos h]; exact h1
  · rw [if_neg h]; exact h2
theorem wk_rg (l : List Int) : 1 ≤ wk l ∧ wk l ≤ 25 := by
  unfold wk
  constructor
  · repeat (refine ite_ge (by decide) ?_)
    decide
  · repeat (refine ite_le (by decide) ?_)
    decide
theorem sgn_rg (x : Int) : sgn x ≤ 25 := by
  unfold sgn
  repeat (refine ite_le (by decide) ?_)
  decide
theorem tok_w {o : Nat → Int} {n a : Nat} (ho : tx_o o n) (ha : a < n) (t : Nat × Nat × Int64) (h : tokS o a = some t) : 1 ≤ t.2.1 ∧ (t.2.1 ≤ 3000) ∧ 1 ≤ t.1 ∧ t.1 ≤ 25 := by
  have hn := ho.1
  unfold tokS at h
  by_cases hl : oL (o a) = true
  · rw [if_pos hl] at h
    by_cases h10 : rl oN o 3001 a ≤ 10
    · rw [if_pos h10] at h; cases h
      refine ⟨?_, by show rl oN o 3001 a ≤ 3000; omega, ?_⟩
      · show 1 ≤ rl oN o 3001 a
        rw [rl, if_pos (by unfold oN; rw [hl]; rfl)]; omega
      · exact wk_rg _
    · rw [if_neg h10] at h; cases h
  · rw [if_neg hl] at h
    by_cases hd : oD (o a) = true
    · rw [if_pos hd] at h
      by_cases h10 : nv (sl o a (rl oD o 3001 a)) ≤ 9223372036854775807
      · rw [if_pos h10] at h; cases h
        refine ⟨?_, ?_, Nat.le_of_ble_eq_true rfl, Nat.le_of_ble_eq_true rfl⟩
        · show 1 ≤ rl oD o 3001 a
          rw [rl, if_pos hd]; omega
        · have := rl_le oD o n 3001 a (fun i hi => by rw [ho.2.1 i hi]; decide) (by omega)
          show rl oD o 3001 a ≤ 3000; omega
      · rw [if_neg h10] at h; cases h
    · rw [if_neg hd] at h
      by_cases h35 : o a = 35
      · rw [if_pos h35] at h
        by_cases h16 : 1 ≤ rl oH o 3001 (a + 1) ∧ rl oH o 3001 (a + 1) ≤ 16
        · rw [if_pos h16] at h; cases h
          refine ⟨?_, ?_, Nat.le_of_ble_eq_true rfl, Nat.le_of_ble_eq_true rfl⟩
          · show 1 ≤ rl oH o 3001 (a + 1) + 1; omega
          · show rl oH o 3001 (a + 1) + 1 ≤ 3000; omega
        · rw [if_neg h16] at h; cases h
      · rw [if_neg h35] at h
        by_cases h39 : o a = 39
        · rw [if_pos h39] at h
          by_cases h4 : 97 ≤ o (a + 1) ∧ o (a + 1) ≤ 100
          · rw [if_pos h4] at h; cases h; exact ⟨Nat.le_of_ble_eq_true rfl, Nat.le_of_ble_eq_true rfl, Nat.le_of_ble_eq_true rfl, Nat.le_of_ble_eq_true rfl⟩
          · rw [if_neg h4] at h; cases h
        · rw [if_neg h39] at h
          by_cases h45 : o a = 45 ∧ o (a + 1) = 62
          · rw [if_pos h45] at h; cases h; decide
          · rw [if_neg h45] at h
            by_cases hs : sgn (o a) = 0
            · rw [if_pos hs] at h; cases h
            · rw [if_neg hs] at h; cases h
              refine ⟨Nat.le_of_ble_eq_true rfl, by show 1 ≤ 3000; omega, ?_⟩
              exact ⟨by show 1 ≤ sgn (o a); omega, sgn_rg (o a)⟩
theorem cTx_wi (o : Nat → Int) (n : Nat) (u v : pm_J) (h : cTx o n u) (hf : ∀ i, v.1 1 i = u.1 1 i) (h6 : v.1 5 6 = u.1 5 6) : cTx o n v := ⟨h6.trans h.1, fun i hi => (hf i).trans (h.2 i hi)⟩
theorem c_scanL {o : Nat → Int} {n : Nat} (N : Nat) (g : pm_s) (ho : tx_o o n) (hN : 10000 ≤ N) (m : Nat) : ∀ (f a fs : Nat) (x : Int32) (T : List Tok) (u : pm_J), n ≤ a + m → m < f → m ≤ fs → cTx o n u → cTok u T → u.1 3 0 = ie 0 → cW u → a < 10000 →
    ∃ v, K_Tokens_scan_1_20 N g f x (ie a) u = some v ∧ fr cS_t u v ∧ v.1 5 6 = ie n ∧
      (match scS o n fs a T with
       | .inl p => v.1 3 0 = ie 1 ∧ v.1 3 1 = ie p
       | .inr T' => cTok v T' ∧ v.1 3 0 = ie 0) := by
  have hn := ho.1
  induction m with
  | zero =>
    intro f a fs x T u hm hf hfs hu hT h0 hW ha
    obtain ⟨f, rfl⟩ : ∃ f', f = f' + 1 := ⟨f - 1, by omega⟩
    refine ⟨u, ?_, fr_refl _ u, hu.1, ?_⟩
    · rw [K_Tokens_scan_1_20, hu.1]
      simp (disch := omega) only [ie_lit, Int.cast_ofNat_Int, ie_add, ie_sub, ie_mul, ie_neg, ie_lt, ie_le, ie_eq, ie_nat, ie_ok, ib_z, ib_e, ib_1, lge_lt, lge_ge, lge_eq, lge_le, lge_gt]
      rw [if_pos (by omega)]
    · cases fs with
      | zero => exact ⟨hT, h0⟩
      | succ fs => rw [scS, if_pos (by omega)]; exact ⟨hT, h0⟩
  | succ m ih =>
    intro f a fs x T u hm hf hfs hu hT h0 hW ha
    obtain ⟨f, rfl⟩ : ∃ f', f = f' + 1 := ⟨f - 1, by omega⟩
    obtain ⟨fs, rfl⟩ : ∃ f', fs = f' + 1 := ⟨fs - 1, by omega⟩
    rw [scS]
    by_cases hna : n ≤ a
    · refine ⟨u, ?_, fr_refl _ u, hu.1, ?_⟩
      · rw [K_Tokens_scan_1_20, hu.1]
        simp (disch := omega) only [ie_lit, Int.cast_ofNat_Int, ie_add, ie_sub, ie_mul, ie_neg, ie_lt, ie_le, ie_eq, ie_nat, ie_ok, ib_z, ib_e, ib_1, lge_lt, lge_ge, lge_eq, lge_le, lge_gt]
        rw [if_pos (by omega)]
      · rw [if_pos hna]; exact ⟨hT, h0⟩
    · rw [if_neg hna]
      have hra := tx_rg ho a
      have hstep : K_Tokens_scan_1_20 N g (f + 1) x (ie a) u = if o a = 32 ∨ o a = 10 then K_Tokens_scan_1_20 N g f (ie 1) (ie ((a + 1 : Nat) : Int)) u else if T.length < 900 then (F_Tokens_scanToken_1 N (ie a) g u).bind fun q9 => K_Tokens_scan_1_20 N g f q9.1 ((ie a) + (if 1 < q9.1 then q9.1 else 1)) q9.2 else (some (cTell u 1 a)).bind fun q10 => K_Tokens_scan_1_20 N g f x ((ie a) + (if 1 < x then x else 1)) q10 := by
        rw [K_Tokens_scan_1_20, hu.1, c_told0 u g h0, show (1 : Int32) = ie 1 from rfl, c_tell u g 1 a h0, hT.1]
        simp (disch := omega) only [ie_lit, Int.cast_ofNat_Int, ie_add, ie_sub, ie_mul, ie_neg, ie_lt, ie_le, ie_eq, ie_nat, ie_ok, ib_z, ib_e, ib_1, lge_lt, lge_ge, lge_eq, lge_le, lge_gt, Option.bind_some, Int.toNat_natCast, hu.2 a (by omega)]
        have hT9 := hT.2.1
        simp (disch := omega) only [ie_lit, Int.cast_ofNat_Int, ie_add, ie_sub, ie_mul, ie_neg, ie_lt, ie_le, ie_eq, ie_nat, ie_ok, ib_z, ib_e, ib_1, lge_lt, lge_ge, lge_eq, lge_le, lge_gt, if_true]
        rw [if_neg (by omega), if_pos (by omega)]
        unfold K_Tokens_scan_1_57
        have hr3 : (0 : Int) ≤ a ∧ (a : Int) < 3000 := by omega
        by_cases h32 : o a = 32
        · simp only [if_true, if_false, true_or, or_true, false_or, or_false, and_true, true_and, and_false, false_and, or_self, and_self, not_true_eq_false, not_false_eq_true, reduceIte, h32, show ¬ ((1 : Nat) < 1) by decide, show (1 : Int32) = ie 1 from rfl, ie_add]; rfl
        · by_cases h10 : o a = 10
          · simp only [if_true, if_false, true_or, or_true, false_or, or_false, and_true, true_and, and_false, false_and, or_self, and_self, not_true_eq_false, not_false_eq_true, reduceIte, h32, h10, hr3, show ¬ ((1 : Nat) < 1) by decide, show (1 : Int32) = ie 1 from rfl, ie_add]; rfl
          · by_cases h9 : T.length < 900
            · simp only [if_true, if_false, true_or, or_true, false_or, or_false, and_true, true_and, and_false, false_and, or_self, and_self, not_true_eq_false, not_false_eq_true, reduceIte, h32, h10, hr3, h9, show (T.length : Int) < 900 by omega]
            · simp only [if_true, if_false, true_or, or_true, false_or, or_false, and_true, true_and, and_false, false_and, or_self, and_self, not_true_eq_false, not_false_eq_true, reduceIte, h32, h10, hr3, h9, show ¬ ((T.length : Int) < 900) by omega]
      have hdone : ∀ (x : Int32) (y : Int32), ∃ v, K_Tokens_scan_1_20 N g f x y (cTell u 1 a) = some v ∧ fr cS_t u v ∧ v.1 5 6 = ie n ∧ v.1 3 0 = ie 1 ∧ v.1 3 1 = ie a := by
        intro x y
        obtain ⟨f, rfl⟩ : ∃ f', f = f' + 1 := ⟨f - 1, by omega⟩
        refine ⟨cTell u 1 a, ?_, fr_wi _ _ _ _ _ _ rfl (fr_wi _ _ _ _ _ _ rfl (fr_refl _ _)), ?_, rfl, rfl⟩
        · rw [K_Tokens_scan_1_20, c_told1 _ g (show ie 1 ≠ ie 0 by decide), Option.bind_some, if_neg (show ¬ ie 1 = 0 by decide)]
          split <;> rfl
        · exact hu.1
      rw [hstep]
      by_cases hb : o a = 32 ∨ o a = 10
      · rw [if_pos hb, if_pos hb]
        exact ih f (a + 1) fs _ T u (by omega) (by omega) (by omega) hu hT h0 hW (by omega)
      · rw [if_neg hb, if_neg hb]
        by_cases h9 : T.length < 900
        · rw [if_pos h9, if_neg (by omega)]
          obtain ⟨k1, k2⟩ := c_token N g ho hu a T.length hN (by omega) hT.1 h9 h0 hW
          cases ht : tokS o a with
          | none =>
            obtain ⟨w, hw⟩ := k2 ht
            rw [hw, Option.bind_some]
            obtain ⟨v, h1, h2, h3, h4⟩ := hdone w ((ie a) + (if 1 < w then w else 1))
            exact ⟨v, h1, h2, h3, h4⟩
          | some t =>
            have hw := tok_w ho (by omega) t ht
            rw [k1 t ht, Option.bind_some]
            have hx : (ie (a : Int)) + (if 1 < ie (t.2.1 : Int) then ie (t.2.1 : Int) else 1) = ie ((a + t.2.1 : Nat) : Int) := by
              simp (disch := omega) only [ie_lit, Int.cast_ofNat_Int, ie_add, ie_sub, ie_mul, ie_neg, ie_lt, ie_le, ie_eq, ie_nat, ie_ok, ib_z, ib_e, ib_1, lge_lt, lge_ge, lge_eq, lge_le, lge_gt]
              by_cases h1 : (1 : Int) < t.2.1
              · rw [if_pos h1, ie_add]; rfl
              · rw [if_neg h1, ie_add, show t.2.1 = 1 by omega]; rfl
            rw [hx]
            obtain ⟨v, h1, h2, h3⟩ := ih f (a + t.2.1) fs (ie t.2.1) (T ++ [(t.1, a, t.2.1, t.2.2)]) (cAdd u T.length t.1 a t.2.2) (by omega) (by omega) (by omega)
              (cTx_wi o n u _ hu (fun _ => rfl) rfl)
              (by
                refine ⟨?_, ?_, ?_⟩
                · rw [List.length_append]; rfl
                · rw [List.length_append]; show T.length + 1 ≤ 900; omega
                · intro i t' hi
                  rw [List.getElem?_append] at hi
                  by_cases hiT : i < T.length
                  · rw [if_pos hiT] at hi
                    have := hT.2.2 i t' hi
                    have hne : i ≠ T.length := by omega
                    unfold cAdd
                    simp [wi_1, wi_2, wj_1, wj_2, hne]
                    exact this
                  · rw [if_neg hiT] at hi
                    have hii : i = T.length := by
                      have := (List.getElem?_eq_some_iff.mp hi).1
                      simp at this; omega
                    subst hii
                    simp at hi
                    subst hi
                    unfold cAdd
                    simp [wi_1, wi_2, wj_1, wj_2])
              (by show (cAdd u T.length t.1 a t.2.2).1 3 0 = ie 0; unfold cAdd; simp [wi_1, wj_1, h0])
              (by unfold cW cAdd at *; simpa [wi_2, wj_2] using hW) (by have := tok_w ho (by omega) t ht; omega)
            refine ⟨v, h1, fr_trans ?_ h2, h3⟩
            unfold cAdd
            exact fr_wi _ _ _ _ _ _ rfl (fr_wj _ _ _ _ _ _ rfl (fr_wi _ _ _ _ _ _ rfl (fr_wi _ _ _ _ _ _ rfl (fr_refl _ _))))
        · rw [if_neg h9, if_pos (show 900 ≤ T.length by omega), Option.bind_some]
          obtain ⟨v, h1, h2, h3, h4⟩ := hdone x ((ie a) + (if 1 < x then x else 1))
          exact ⟨v, h1, h2, h3, h4⟩
theorem c_scan {o : Nat → Int} {n : Nat} (N : Nat) (g : pm_s) (u : pm_J) (ho : tx_o o n) (hN : 10000 ≤ N) (h1 : ∀ i, i < n → u.1 1 i = ie (o i)) (h0 : u.1 3 0 = ie 0) (hW : cW u) :
    ∃ v, F_Tokens_scan_1 N (ie n) g u = some v ∧ fr cS_t u v ∧ v.1 5 6 = ie n ∧
      (match scS o n 3001 0 [] with
       | .inl p => v.1 3 0 = ie 1 ∧ v.1 3 1 = ie p
       | .inr T' => cTok v T' ∧ v.1 3 0 = ie 0) := by
  have hn := ho.1
  unfold F_Tokens_scan_1
  have e1 : (if (Nat.toInt32 3000) < ie n then (Nat.toInt32 3000) else ie n) = ie n := by
    rw [show (Nat.toInt32 3000) = ie 3000 from rfl]
    simp (disch := omega) only [ie_lit, Int.cast_ofNat_Int, ie_add, ie_sub, ie_mul, ie_neg, ie_lt, ie_le, ie_eq, ie_nat, ie_ok, ib_z, ib_e, ib_1, lge_lt, lge_ge, lge_eq, lge_le, lge_gt]
    rw [if_neg (by omega)]
  rw [e1]
  obtain ⟨v, a1, a2, a3⟩ := c_scanL N g ho hN 3000 N 0 3001 1 [] (wi (wi u 5 5 0) 5 6 (ie n)) (by omega) (by omega) (by omega) ⟨rfl, h1⟩ ⟨rfl, by simp, by simp⟩ h0 hW (by omega)
  exact ⟨v, a1, fr_trans (fr_wi _ _ _ _ _ _ rfl (fr_wi _ _ _ _ _ _ rfl (fr_refl _ _))) a2, a3⟩
