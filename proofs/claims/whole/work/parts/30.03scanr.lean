set_option maxRecDepth 100000
def rTx (o : Nat → Int) (n : Nat) (u : pm_J) : Prop := u.1 64 1 = ie n ∧ ∀ i, i < n → u.1 65 i = ie (o i)
def rkl : List Nat := [26, 1, 12, 13, 14, 2, 3, 4, 5, 6, 7, 8, 9, 10, 11, 15, 16, 17, 18, 19, 21, 22, 23, 24, 25, 20]
def rk (k : Nat) : Nat := rkl.getD k 0
theorem r_octet {o : Nat → Int} {n : Nat} {u : pm_J} (g : pm_s) (ho : tx_o o n) (hu : rTx o n u) (a : Nat) (ha : a < 10000) : F_Md_octet (ie a) g u = some (ie (o a)) := by
  have hn := ho.1
  unfold F_Md_octet
  rw [hu.1]
  simp (disch := omega) only [ie_lit, Int.cast_ofNat_Int, ie_add, ie_sub, ie_mul, ie_neg, ie_lt, ie_le, ie_eq, ie_nat, ie_ok, ib_z, ib_e, ib_1, lge_lt, lge_ge, lge_eq, lge_le, lge_gt]
  by_cases h : n ≤ a
  · rw [if_pos (by omega), ho.2.1 a h]
  · rw [if_neg (by omega), if_pos (by omega), Int.toNat_natCast, hu.2 a (by omega)]
theorem r_isL (x : Int) (g : pm_s) (u : pm_J) (h : -1 ≤ x) (h2 : x ≤ 255) : F_Md_isLetter (ie x) g u = some (ib (oL x)) := c_isL x g u h h2
theorem r_isD (x : Int) (g : pm_s) (u : pm_J) (h : -1 ≤ x) (h2 : x ≤ 255) : F_Md_isDigit (ie x) g u = some (ib (oD x)) := c_isD x g u h h2
theorem r_isH (x : Int) (g : pm_s) (u : pm_J) (h : -1 ≤ x) (h2 : x ≤ 255) : F_Md_isHex (ie x) g u = some (ib (oH x)) := by
  unfold F_Md_isHex
  rw [r_isD x g u h h2, Option.bind_some]
  unfold oH
  by_cases h3 : oD x = true
  · rw [h3]; rfl
  · have h4 : oD x = false := by simpa using h3
    rw [h4, if_pos (show ib false = 0 from rfl), Bool.false_or]
    simp (disch := omega) only [ie_lit, Int.cast_ofNat_Int, ie_add, ie_sub, ie_mul, ie_neg, ie_lt, ie_le, ie_eq, ie_nat, ie_ok, ib_z, ib_e, ib_1, lge_lt, lge_ge, lge_eq, lge_le, lge_gt]
    by_cases h5 : x < 97
    · simp only [if_true, if_false, true_or, or_true, false_or, or_false, and_true, true_and, and_false, false_and, or_self, and_self, not_true_eq_false, not_false_eq_true, reduceIte, h5]; rw [show decide (97 ≤ x) = false by simpa using h5]; rfl
    · rw [show decide (97 ≤ x) = true by simp; omega]
      by_cases h6 : 102 < x
      · simp only [if_true, if_false, true_or, or_true, false_or, or_false, and_true, true_and, and_false, false_and, or_self, and_self, not_true_eq_false, not_false_eq_true, reduceIte, h5, h6]; rw [show decide (x ≤ 102) = false by simpa using h6]; rfl
      · simp only [if_true, if_false, true_or, or_true, false_or, or_false, and_true, true_and, and_false, false_and, or_self, and_self, not_true_eq_false, not_false_eq_true, reduceIte, h5, h6]; rw [show decide (x ≤ 102) = true by simp; omega]; rfl
theorem r_sp {o : Nat → Int} {n : Nat} {u : pm_J} (N : Nat) (g : pm_s) (ho : tx_o o n) (hu : rTx o n u) (pu_W : Int64) (w : List Int) (a : Nat) (ha : a < 5000) (h6 : w.length ≤ 6)
    (hw : ∀ i, i < w.length → ((pu_W >>> ((8 * ie i).toInt64 &&& 63)) &&& 255).toInt32 = ie (w.getD i 0) ∧ 0 ≤ w.getD i 0 ∧ w.getD i 0 ≤ 255) (m : Nat) : ∀ (f j : Nat) (b : Bool), j + m = w.length → m < f →
    K_Md_spells_38 N g u f (ie a) (ie w.length) pu_W (ib b) (ie j) = some (ib (b && decide (∀ i, i < w.length → j ≤ i → o (a + i) = w.getD i 0))) := by
  induction m with
  | zero =>
    intro f j b hj hf
    obtain ⟨f, rfl⟩ : ∃ f', f = f' + 1 := ⟨f - 1, by omega⟩
    rw [K_Md_spells_38]
    simp only [ib_ok, if_true]
    rw [if_pos (show ie (w.length : Int) ≤ ie (j : Int) by simp (disch := omega) only [ie_lit, Int.cast_ofNat_Int, ie_add, ie_sub, ie_mul, ie_neg, ie_lt, ie_le, ie_eq, ie_nat, ie_ok, ib_z, ib_e, ib_1, lge_lt, lge_ge, lge_eq, lge_le, lge_gt]; omega)]
    have : (decide (∀ i, i < w.length → j ≤ i → o (a + i) = w.getD i 0)) = true := by
      rw [decide_eq_true_eq]; intro i h2 h1; omega
    rw [this, Bool.and_true]
  | succ m ih =>
    intro f j b hj hf
    obtain ⟨f, rfl⟩ : ∃ f', f = f' + 1 := ⟨f - 1, by omega⟩
    rw [K_Md_spells_38]
    simp only [ib_ok, if_true, ib_z]
    rw [if_neg (show ¬ ie (w.length : Int) ≤ ie (j : Int) by simp (disch := omega) only [ie_lit, Int.cast_ofNat_Int, ie_add, ie_sub, ie_mul, ie_neg, ie_lt, ie_le, ie_eq, ie_nat, ie_ok, ib_z, ib_e, ib_1, lge_lt, lge_ge, lge_eq, lge_le, lge_gt]; omega)]
    cases b with
    | false => rfl
    | true =>
      rw [if_neg (by decide), Bool.true_and, ie_add, show (a : Int) + j = ((a + j : Nat) : Int) by omega, r_octet g ho hu _ (by omega), Option.bind_some, (hw j (by omega)).1]
      have hr := tx_rg ho (a + j)
      have hr2 := (hw j (by omega)).2
      have hs : ie (j : Int) + 1 = ie ((j + 1 : Nat) : Int) := by rw [show (1 : Int32) = ie 1 from rfl, ie_add]; rfl
      rw [hs]
      simp (disch := omega) only [ie_lit, Int.cast_ofNat_Int, ie_add, ie_sub, ie_mul, ie_neg, ie_lt, ie_le, ie_eq, ie_nat, ie_ok, ib_z, ib_e, ib_1, lge_lt, lge_ge, lge_eq, lge_le, lge_gt]
      by_cases hc : o (a + j) = w.getD j 0
      · rw [if_pos hc, show (ie 1) = ib true from rfl, ih f (j + 1) true (by omega) (by omega), Bool.true_and]
        congr 2
        rw [decide_eq_decide]
        constructor
        · intro h i h2 h1
          by_cases hij : i = j
          · rw [hij]; exact hc
          · exact h i h2 (by omega)
        · intro h i h2 h1; exact h i h2 (by omega)
      · rw [if_neg hc, show (ie 0) = ib false from rfl, ih f (j + 1) false (by omega) (by omega), Bool.false_and]
        congr 2
        symm; rw [decide_eq_false_iff_not]
        intro h; exact hc (h j (by omega) (by omega))
theorem sl_get (o : Nat → Int) (a k i : Nat) (h : i < k) : (sl o a k).getD i 0 = o (a + i) := by
  induction k with
  | zero => omega
  | succ k ih =>
    rw [sl, List.getD_eq_getElem?_getD, List.getElem?_append, sl_len]
    by_cases hi : i < k
    · rw [if_pos hi, ← List.getD_eq_getElem?_getD, ih hi]
    · rw [if_neg hi, show i - k = 0 by omega, show i = k by omega]; rfl
theorem sl_iff (o : Nat → Int) (a : Nat) (w : List Int) : sl o a w.length = w ↔ ∀ i, i < w.length → 0 ≤ i → o (a + i) = w.getD i 0 := by
  constructor
  · intro h i hi _
    rw [← sl_get o a w.length i hi, h]
  · intro h
    apply List.ext_getElem
    · rw [sl_len]
    · intro i h1 h2
      have := h i h2 (by omega)
      rw [← sl_get o a w.length i h2] at this
      simpa [List.getD_eq_getElem?_getD, List.getElem?_eq_getElem, h1, h2] using this
theorem r_spells {o : Nat → Int} {n : Nat} {u : pm_J} (N : Nat) (g : pm_s) (ho : tx_o o n) (hu : rTx o n u) (pu_W : Int64) (w : List Int) (a k : Nat) (hN : 100 ≤ N) (ha : a < 5000) (hk : 1 ≤ k) (hk6 : k ≤ 6) (h6 : w.length ≤ 6)
    (hw : ∀ i, i < w.length → ((pu_W >>> ((8 * ie i).toInt64 &&& 63)) &&& 255).toInt32 = ie (w.getD i 0) ∧ 0 ≤ w.getD i 0 ∧ w.getD i 0 ≤ 255)
    (hc : ∀ k : Nat, k < 7 → 1 ≤ k → (decide (lg_cmp (pu_W >>> ((8 * (ie k - 1)).toInt64 &&& 63)) 0 ≤ 0) || decide (0 ≤ lg_cmp (pu_W >>> ((8 * (ie k - 1)).toInt64 &&& 63)) 256)) = !decide (k = w.length)) :
    F_Md_spells N (ie a) (ie k) pu_W g u = some (ib (decide (sl o a k = w))) := by
  have hck := hc k (by omega) hk
  unfold F_Md_spells
  by_cases hkw : k = w.length
  · subst hkw
    rw [decide_eq_true (rfl : w.length = w.length), Bool.not_true, Bool.or_eq_false_iff, decide_eq_false_iff_not, decide_eq_false_iff_not] at hck
    rw [if_neg hck.1, if_neg hck.2]
    have := r_sp N g ho hu pu_W w a ha h6 hw w.length N 0 true (by omega) (by omega)
    rw [show (1 : Int32) = ib true from rfl, show (0 : Int32) = ie ((0 : Nat) : Int) from rfl, this, Bool.true_and]
    congr 2
    rw [decide_eq_decide]
    exact (sl_iff o a w).symm
  · rw [decide_eq_false hkw, Bool.not_false, Bool.or_eq_true, decide_eq_true_eq, decide_eq_true_eq] at hck
    have h0 : K_Md_spells_38 N g u N (ie a) (ie k) pu_W 0 0 = some (ib false) := by
      obtain ⟨f, rfl⟩ : ∃ f', N = f' + 1 := ⟨N - 1, by omega⟩
      rw [K_Md_spells_38]
      split <;> rfl
    have hf : decide (sl o a k = w) = false := by
      rw [decide_eq_false_iff_not]; intro h; apply hkw; rw [← h, sl_len]
    rw [hf]
    by_cases h1 : lg_cmp (pu_W >>> ((8 * (ie k - 1)).toInt64 &&& 63)) 0 ≤ 0
    · rw [if_pos h1]; exact h0
    · rw [if_neg h1, if_pos (hck.resolve_left h1)]; exact h0
theorem r_w0 {o : Nat → Int} {n : Nat} {u : pm_J} (N : Nat) (g : pm_s) (ho : tx_o o n) (hu : rTx o n u) (a k : Nat) (hN : 100 ≤ N) (ha : a < 5000) (hk : 1 ≤ k) (hk6 : k ≤ 6) : F_Md_spells N (ie a) (ie k) 1735290732 g u = some (ib (decide (sl o a k = [108, 111, 110, 103]))) :=
  r_spells N g ho hu 1735290732 [108, 111, 110, 103] a k hN ha hk hk6 (by decide) (by decide) (by decide)
theorem r_w1 {o : Nat → Int} {n : Nat} {u : pm_J} (N : Nat) (g : pm_s) (ho : tx_o o n) (hu : rTx o n u) (a k : Nat) (hN : 100 ≤ N) (ha : a < 5000) (hk : 1 ≤ k) (hk6 : k ≤ 6) : F_Md_spells N (ie a) (ie k) 111516182736740 g u = some (ib (decide (sl o a k = [100, 111, 117, 98, 108, 101]))) :=
  r_spells N g ho hu 111516182736740 [100, 111, 117, 98, 108, 101] a k hN ha hk hk6 (by decide) (by decide) (by decide)
theorem r_w2 {o : Nat → Int} {n : Nat} {u : pm_J} (N : Nat) (g : pm_s) (ho : tx_o o n) (hu : rTx o n u) (a k : Nat) (hN : 100 ≤ N) (ha : a < 5000) (hk : 1 ≤ k) (hk6 : k ≤ 6) : F_Md_spells N (ie a) (ie k) 7628140 g u = some (ib (decide (sl o a k = [108, 101, 116]))) :=
  r_spells N g ho hu 7628140 [108, 101, 116] a k hN ha hk hk6 (by decide) (by decide) (by decide)
theorem r_w3 {o : Nat → Int} {n : Nat} {u : pm_J} (N : Nat) (g : pm_s) (ho : tx_o o n) (hu : rTx o n u) (a k : Nat) (hN : 100 ≤ N) (ha : a < 5000) (hk : 1 ≤ k) (hk6 : k ≤ 6) : F_Md_spells N (ie a) (ie k) 28265 g u = some (ib (decide (sl o a k = [105, 110]))) :=
  r_spells N g ho hu 28265 [105, 110] a k hN ha hk hk6 (by decide) (by decide) (by decide)
theorem r_w4 {o : Nat → Int} {n : Nat} {u : pm_J} (N : Nat) (g : pm_s) (ho : tx_o o n) (hu : rTx o n u) (a k : Nat) (hN : 100 ≤ N) (ha : a < 5000) (hk : 1 ≤ k) (hk6 : k ≤ 6) : F_Md_spells N (ie a) (ie k) 26217 g u = some (ib (decide (sl o a k = [105, 102]))) :=
  r_spells N g ho hu 26217 [105, 102] a k hN ha hk hk6 (by decide) (by decide) (by decide)
theorem r_w5 {o : Nat → Int} {n : Nat} {u : pm_J} (N : Nat) (g : pm_s) (ho : tx_o o n) (hu : rTx o n u) (a k : Nat) (hN : 100 ≤ N) (ha : a < 5000) (hk : 1 ≤ k) (hk6 : k ≤ 6) : F_Md_spells N (ie a) (ie k) 1852139636 g u = some (ib (decide (sl o a k = [116, 104, 101, 110]))) :=
  r_spells N g ho hu 1852139636 [116, 104, 101, 110] a k hN ha hk hk6 (by decide) (by decide) (by decide)
theorem r_w6 {o : Nat → Int} {n : Nat} {u : pm_J} (N : Nat) (g : pm_s) (ho : tx_o o n) (hu : rTx o n u) (a k : Nat) (hN : 100 ≤ N) (ha : a < 5000) (hk : 1 ≤ k) (hk6 : k ≤ 6) : F_Md_spells N (ie a) (ie k) 1702063205 g u = some (ib (decide (sl o a k = [101, 108, 115, 101]))) :=
  r_spells N g ho hu 1702063205 [101, 108, 115, 101] a k hN ha hk hk6 (by decide) (by decide) (by decide)
theorem r_w7 {o : Nat → Int} {n : Nat} {u : pm_J} (N : Nat) (g : pm_s) (ho : tx_o o n) (hu : rTx o n u) (a k : Nat) (hN : 100 ≤ N) (ha : a < 5000) (hk : 1 ≤ k) (hk6 : k ≤ 6) : F_Md_spells N (ie a) (ie k) 28262 g u = some (ib (decide (sl o a k = [102, 110]))) :=
  r_spells N g ho hu 28262 [102, 110] a k hN ha hk hk6 (by decide) (by decide) (by decide)
theorem r_w8 {o : Nat → Int} {n : Nat} {u : pm_J} (N : Nat) (g : pm_s) (ho : tx_o o n) (hu : rTx o n u) (a k : Nat) (hN : 100 ≤ N) (ha : a < 5000) (hk : 1 ≤ k) (hk6 : k ≤ 6) : F_Md_spells N (ie a) (ie k) 7631718 g u = some (ib (decide (sl o a k = [102, 115, 116]))) :=
  r_spells N g ho hu 7631718 [102, 115, 116] a k hN ha hk hk6 (by decide) (by decide) (by decide)
theorem r_w9 {o : Nat → Int} {n : Nat} {u : pm_J} (N : Nat) (g : pm_s) (ho : tx_o o n) (hu : rTx o n u) (a k : Nat) (hN : 100 ≤ N) (ha : a < 5000) (hk : 1 ≤ k) (hk6 : k ≤ 6) : F_Md_spells N (ie a) (ie k) 6581875 g u = some (ib (decide (sl o a k = [115, 110, 100]))) :=
  r_spells N g ho hu 6581875 [115, 110, 100] a k hN ha hk hk6 (by decide) (by decide) (by decide)
theorem r_word {o : Nat → Int} {n : Nat} {u : pm_J} (N : Nat) (g : pm_s) (ho : tx_o o n) (hu : rTx o n u) (a k : Nat) (hN : 100 ≤ N) (ha : a < 5000) (hk : 1 ≤ k) (hk10 : k ≤ 10) : F_Md_wordAt N (ie a) (ie k) g u = some (ie (rk (wk (sl o a k)))) := by
  unfold F_Md_wordAt
  by_cases h6 : k ≤ 6
  · rw [if_pos (show ie (k : Int) ≤ 6 by simp (disch := omega) only [ie_lit, Int.cast_ofNat_Int, ie_add, ie_sub, ie_mul, ie_neg, ie_lt, ie_le, ie_eq, ie_nat, ie_ok, ib_z, ib_e, ib_1, lge_lt, lge_ge, lge_eq, lge_le, lge_gt]; omega)]
    rw [r_w0 N g ho hu a k hN ha hk h6, Option.bind_some]
    by_cases a0 : sl o a k = [108, 111, 110, 103]
    · rw [a0]; rfl
    rw [if_pos (show ib (decide (sl o a k = [108, 111, 110, 103])) = 0 by rw [decide_eq_false a0]; rfl)]
    rw [r_w1 N g ho hu a k hN ha hk h6, Option.bind_some]
    by_cases a1 : sl o a k = [100, 111, 117, 98, 108, 101]
    · rw [a1]; rfl
    rw [if_pos (show ib (decide (sl o a k = [100, 111, 117, 98, 108, 101])) = 0 by rw [decide_eq_false a1]; rfl)]
    rw [r_w2 N g ho hu a k hN ha hk h6, Option.bind_some]
    by_cases a2 : sl o a k = [108, 101, 116]
    · rw [a2]; rfl
    rw [if_pos (show ib (decide (sl o a k = [108, 101, 116])) = 0 by rw [decide_eq_false a2]; rfl)]
    rw [r_w3 N g ho hu a k hN ha hk h6, Option.bind_some]
    by_cases a3 : sl o a k = [105, 110]
    · rw [a3]; rfl
    rw [if_pos (show ib (decide (sl o a k = [105, 110])) = 0 by rw [decide_eq_false a3]; rfl)]
    rw [r_w4 N g ho hu a k hN ha hk h6, Option.bind_some]
    by_cases a4 : sl o a k = [105, 102]
    · rw [a4]; rfl
    rw [if_pos (show ib (decide (sl o a k = [105, 102])) = 0 by rw [decide_eq_false a4]; rfl)]
    rw [r_w5 N g ho hu a k hN ha hk h6, Option.bind_some]
    by_cases a5 : sl o a k = [116, 104, 101, 110]
    · rw [a5]; rfl
    rw [if_pos (show ib (decide (sl o a k = [116, 104, 101, 110])) = 0 by rw [decide_eq_false a5]; rfl)]
    rw [r_w6 N g ho hu a k hN ha hk h6, Option.bind_some]
    by_cases a6 : sl o a k = [101, 108, 115, 101]
    · rw [a6]; rfl
    rw [if_pos (show ib (decide (sl o a k = [101, 108, 115, 101])) = 0 by rw [decide_eq_false a6]; rfl)]
    rw [r_w7 N g ho hu a k hN ha hk h6, Option.bind_some]
    by_cases a7 : sl o a k = [102, 110]
    · rw [a7]; rfl
    rw [if_pos (show ib (decide (sl o a k = [102, 110])) = 0 by rw [decide_eq_false a7]; rfl)]
    rw [r_w8 N g ho hu a k hN ha hk h6, Option.bind_some]
    by_cases a8 : sl o a k = [102, 115, 116]
    · rw [a8]; rfl
    rw [if_pos (show ib (decide (sl o a k = [102, 115, 116])) = 0 by rw [decide_eq_false a8]; rfl)]
    rw [r_w9 N g ho hu a k hN ha hk h6, Option.bind_some]
    by_cases a9 : sl o a k = [115, 110, 100]
    · rw [a9]; rfl
    rw [if_pos (show ib (decide (sl o a k = [115, 110, 100])) = 0 by rw [decide_eq_false a9]; rfl)]
    unfold wk
    rw [if_neg a0, if_neg a1, if_neg a2, if_neg a3, if_neg a4, if_neg a5, if_neg a6, if_neg a7, if_neg a8, if_neg a9]; rfl
  · rw [if_neg (show ¬ (ie (k : Int) ≤ 6) by simp (disch := omega) only [ie_lit, Int.cast_ofNat_Int, ie_add, ie_sub, ie_mul, ie_neg, ie_lt, ie_le, ie_eq, ie_nat, ie_ok, ib_z, ib_e, ib_1, lge_lt, lge_ge, lge_eq, lge_le, lge_gt]; omega)]
    have hl : (sl o a k).length = k := sl_len o a k
    have hne : ∀ w : List Int, w.length ≤ 6 → sl o a k ≠ w := by intro w hw he; rw [he] at hl; omega
    unfold wk
    rw [if_neg (hne _ (by decide)), if_neg (hne _ (by decide)), if_neg (hne _ (by decide)), if_neg (hne _ (by decide)), if_neg (hne _ (by decide)), if_neg (hne _ (by decide)), if_neg (hne _ (by decide)), if_neg (hne _ (by decide)), if_neg (hne _ (by decide)), if_neg (hne _ (by decide))]; rfl
def rEnd (u : pm_J) (t : Int) (v : Int64) : pm_J := wj (wi u 64 45 (ie t)) 64 46 v
theorem pj_ext {u v : pm_J} (h1 : ∀ x y, u.1 x y = v.1 x y) (h2 : ∀ x y, u.2 x y = v.2 x y) : u = v := by
  obtain ⟨a, b⟩ := u; obtain ⟨c, d⟩ := v
  have e1 : a = c := by funext x y; exact h1 x y
  have e2 : b = d := by funext x y; exact h2 x y
  rw [e1, e2]
theorem wi_wi (u : pm_J) (a k : Nat) (v w : Int32) : wi (wi u a k v) a k w = wi u a k w := by
  apply pj_ext
  · intro x y; rw [wi_1, wi_1, wi_1]; by_cases h : x = a ∧ y = k
    · rw [if_pos h, if_pos h]
    · rw [if_neg h, if_neg h, if_neg h]
  · intro x y; rfl
theorem wj_wj (u : pm_J) (a k : Nat) (v w : Int64) : wj (wj u a k v) a k w = wj u a k w := by
  apply pj_ext
  · intro x y; rfl
  · intro x y; rw [wj_2, wj_2, wj_2]; by_cases h : x = a ∧ y = k
    · rw [if_pos h, if_pos h]
    · rw [if_neg h, if_neg h, if_neg h]
theorem wi_wj (u : pm_J) (a k b l : Nat) (v : Int32) (w : Int64) : wi (wj u b l w) a k v = wj (wi u a k v) b l w := rfl
theorem rEnd_wi (u : pm_J) (t t2 : Int) (v : Int64) : wi (rEnd u t v) 64 45 (ie t2) = rEnd u t2 v := by
  unfold rEnd; rw [wi_wj, wi_wi]
theorem rEnd_wj (u : pm_J) (t : Int) (v w : Int64) : wj (rEnd u t v) 64 46 w = rEnd u t w := by
  unfold rEnd; rw [wj_wj]
theorem rEnd_1 (u : pm_J) (t : Int) (v : Int64) : (rEnd u t v).1 64 45 = ie t := rfl
theorem rEnd_2 (u : pm_J) (t : Int) (v : Int64) : (rEnd u t v).2 64 46 = v := rfl
theorem rEnd_tx {o : Nat → Int} {n : Nat} {u : pm_J} (t : Int) (v : Int64) (hu : rTx o n u) : rTx o n (rEnd u t v) := ⟨hu.1, hu.2⟩
theorem r_bits {o : Nat → Int} {n : Nat} {u : pm_J} (N : Nat) (g : pm_s) (ho : tx_o o n) (hu : rTx o n u) (a k : Nat) (hk : k = rl oH o 3001 (a + 1)) (ha : a < n) (m : Nat) : ∀ (j f : Nat), j + m = k → m < f →
    K_Md_tokenAt_231 N g f (ie a) (rEnd u ((a : Int) + 1 + j) (hx (sl o (a + 1) j))) = some (if 1 ≤ k ∧ k ≤ 16 then ie 13 else ie (-1), rEnd u ((a : Int) + 1 + k) (hx (sl o (a + 1) k))) := by
  have hn := ho.1
  have hp : ∀ i, n ≤ i → oH (o i) = false := fun i hi => by rw [ho.2.1 i hi]; decide
  have hk2 : a + 1 + k ≤ n := by rw [hk]; exact rl_le oH o n 3001 (a + 1) hp (by omega)
  induction m with
  | zero =>
    intro j f hm hf
    obtain ⟨f, rfl⟩ : ∃ f', f = f' + 1 := ⟨f - 1, by omega⟩
    have hj : j = k := by omega
    subst hj
    have he : oH (o (a + 1 + j)) = false := by rw [hk]; exact rl_end oH o n 3001 (a + 1) hp (by omega)
    rw [K_Md_tokenAt_231, rEnd_1, show ((a : Int) + 1 + j) = ((a + 1 + j : Nat) : Int) by omega, r_octet g ho (rEnd_tx _ _ hu) _ (by omega), Option.bind_some, r_isH _ g _ (tx_rg ho _).1 (tx_rg ho _).2, Option.bind_some, he, if_pos (show ib false = 0 from rfl)]
    simp (disch := omega) only [ie_lit, Int.cast_ofNat_Int, ie_add, ie_sub, ie_mul, ie_neg, ie_lt, ie_le, ie_eq, ie_nat, ie_ok, ib_z, ib_e, ib_1, lge_lt, lge_ge, lge_eq, lge_le, lge_gt]
    by_cases h1 : 1 ≤ j
    · by_cases h2 : j ≤ 16
      · simp only [if_true, if_false, true_or, or_true, false_or, or_false, and_true, true_and, and_false, false_and, or_self, and_self, not_true_eq_false, not_false_eq_true, reduceIte, h1, h2, show ¬ (((a + 1 + j : Nat) : Int) - a ≤ 1) by omega, show ¬ (17 < ((a + 1 + j : Nat) : Int) - a) by omega]
      · simp only [if_true, if_false, true_or, or_true, false_or, or_false, and_true, true_and, and_false, false_and, or_self, and_self, not_true_eq_false, not_false_eq_true, reduceIte, h1, h2, show ¬ (((a + 1 + j : Nat) : Int) - a ≤ 1) by omega, show (17 < ((a + 1 + j : Nat) : Int) - a) by omega]
    · simp only [if_true, if_false, true_or, or_true, false_or, or_false, and_true, true_and, and_false, false_and, or_self, and_self, not_true_eq_false, not_false_eq_true, reduceIte, h1, show (((a + 1 + j : Nat) : Int) - a ≤ 1) by omega]
  | succ m ih =>
    intro j f hm hf
    obtain ⟨f, rfl⟩ : ∃ f', f = f' + 1 := ⟨f - 1, by omega⟩
    have he : oH (o (a + 1 + j)) = true := rl_all oH o 3001 (a + 1) j (by omega)
    have h15 := oH_rg he
    have hra := tx_rg ho (a + 1 + j)
    rw [K_Md_tokenAt_231, rEnd_1, show ((a : Int) + 1 + j) = ((a + 1 + j : Nat) : Int) by omega, r_octet g ho (rEnd_tx _ _ hu) _ (by omega), Option.bind_some, r_isH _ g _ (tx_rg ho _).1 (tx_rg ho _).2, Option.bind_some, he, if_neg (show ¬ ib true = 0 by decide), Option.bind_some]
    unfold K_Md_tokenAt_278
    simp only [rEnd_1, rEnd_2, show ((4 : Int32).toInt64 &&& 63) = 4 from rfl]
    have hv : ∀ w : Int, w = hd (o (a + 1 + j)) → (hx (sl o (a + 1) j) <<< 4) ||| (ie w).toInt64 = hx (sl o (a + 1) (j + 1)) := by
      intro w hw; rw [sl_hx, hw, ie_je _ (by omega) (by omega)]
    have hs : ie ((a + 1 + j : Nat) : Int) + 1 = ie ((a : Int) + 1 + (j + 1 : Nat)) := by
      rw [show (1 : Int32) = ie 1 from rfl, ie_add]; congr 1
    rw [hs]
    simp (disch := omega) only [ie_lit, Int.cast_ofNat_Int, ie_add, ie_sub, ie_mul, ie_neg, ie_lt, ie_le, ie_eq, ie_nat, ie_ok, ib_z, ib_e, ib_1, lge_lt, lge_ge, lge_eq, lge_le, lge_gt]
    unfold oH oD at he
    simp only [Bool.or_eq_true, Bool.and_eq_true, decide_eq_true_eq] at he
    by_cases h58 : 58 ≤ o (a + 1 + j)
    · rw [if_pos h58, hv (o (a + 1 + j) - 87) (by unfold hd oD; rw [if_neg (by simp; omega)]; omega), rEnd_wj, rEnd_wi]
      exact ih (j + 1) f (by omega) (by omega)
    · rw [if_neg h58, hv (o (a + 1 + j) - 48) (by unfold hd oD; rw [if_pos (by simp; omega)]), rEnd_wj, rEnd_wi]
      exact ih (j + 1) f (by omega) (by omega)
theorem r_num {o : Nat → Int} {n : Nat} {u : pm_J} (N : Nat) (g : pm_s) (ho : tx_o o n) (hu : rTx o n u) (a k : Nat) (hk : k = rl oD o 3001 a) (ha : a < n) (m : Nat) : ∀ (j f : Nat) (b : Bool) (y : Int64), j + m = k → m < f →
    ((b = true ∧ y = je (nv (sl o a j)) ∧ nv (sl o a j) ≤ 9223372036854775807) ∨ (b = false ∧ 9223372036854775807 < nv (sl o a j))) →
    ∃ y', K_Md_tokenAt_100 N g f (ib b) (rEnd u ((a : Int) + j) y) = some (if nv (sl o a k) ≤ 9223372036854775807 then ie 12 else ie (-1), rEnd u ((a : Int) + k) y') ∧ (nv (sl o a k) ≤ 9223372036854775807 → y' = je (nv (sl o a k))) := by
  have hn := ho.1
  have hp : ∀ i, n ≤ i → oD (o i) = false := fun i hi => by rw [ho.2.1 i hi]; decide
  have hk2 : a + k ≤ n := by rw [hk]; exact rl_le oD o n 3001 a hp (by omega)
  induction m with
  | zero =>
    intro j f b y hm hf hy
    obtain ⟨f, rfl⟩ : ∃ f', f = f' + 1 := ⟨f - 1, by omega⟩
    have hj : j = k := by omega
    subst hj
    have he : oD (o (a + j)) = false := by rw [hk]; exact rl_end oD o n 3001 a hp (by omega)
    refine ⟨y, ?_, ?_⟩
    · rw [K_Md_tokenAt_100, rEnd_1, show ((a : Int) + j) = ((a + j : Nat) : Int) by omega, r_octet g ho (rEnd_tx _ _ hu) _ (by omega), Option.bind_some, r_isD _ g _ (tx_rg ho _).1 (tx_rg ho _).2, Option.bind_some, he, if_pos (show ib false = 0 from rfl)]
      simp only [ib_z]
      rcases hy with ⟨hb, _, hle⟩ | ⟨hb, hgt⟩
      · rw [if_neg (by rw [hb]; decide), if_pos hle]; rfl
      · rw [if_pos hb, if_neg (by omega)]; rfl
    · intro hle
      rcases hy with ⟨hb, hy, _⟩ | ⟨hb, hgt⟩
      · exact hy
      · omega
  | succ m ih =>
    intro j f b y hm hf hy
    obtain ⟨f, rfl⟩ : ∃ f', f = f' + 1 := ⟨f - 1, by omega⟩
    have he : oD (o (a + j)) = true := rl_all oD o 3001 a j (by omega)
    have h9 := oD_rg he
    have h0 := nv_nn o a j (fun i hi => rl_all oD o 3001 a i (by omega))
    have hsl := sl_nv o a j
    have hs : ie ((a + j : Nat) : Int) + 1 = ie ((a : Int) + (j + 1 : Nat)) := by
      rw [show (1 : Int32) = ie 1 from rfl, ie_add]; congr 1
    have hsub : ie (o (a + j)) - 48 = ie (o (a + j) - 48) := by rw [show (48 : Int32) = ie 48 from rfl, ie_sub]
    rw [K_Md_tokenAt_100, rEnd_1, show ((a : Int) + j) = ((a + j : Nat) : Int) by omega, r_octet g ho (rEnd_tx _ _ hu) _ (by omega), Option.bind_some, r_isD _ g _ (tx_rg ho _).1 (tx_rg ho _).2, Option.bind_some, he, if_neg (show ¬ ib true = 0 by decide), Option.bind_some]
    simp only [rEnd_2, hsub]
    have hst : ∀ c : Bool, K_Md_tokenAt_162 N g (K_Md_tokenAt_100 N g f) (ie (o (a + j) - 48)) (ib c) (ib b) (rEnd u ((a + j : Nat) : Int) y) = K_Md_tokenAt_100 N g f (ib (b && c)) (rEnd u ((a : Int) + (j + 1 : Nat)) (if (b && c) = true then 10 * y + je (o (a + j) - 48) else y)) := by
      intro c
      have hbc : (ib b &&& ib c) = ib (b && c) := by cases b <;> cases c <;> rfl
      unfold K_Md_tokenAt_162
      rw [hbc, rEnd_1, rEnd_2, hs, rEnd_wj, rEnd_wi, rEnd_wj, rEnd_wi, ie_je _ (by omega) (by omega)]
      cases hh : (b && c) <;> rfl
    rw [show (1 : Int32) = ib true from rfl, show (0 : Int32) = ib false from rfl, hst true, hst false]
    rw [show (7 : Int32) = ie 7 from rfl, show ib false = ie 0 from rfl]
    simp only [lge_lt, lge_eq]
    have h7 : (ie 7 < ie (o (a + j) - 48)) ↔ (7 < o (a + j) - 48) := by simp (disch := omega) only [ie_lit, Int.cast_ofNat_Int, ie_add, ie_sub, ie_mul, ie_neg, ie_lt, ie_le, ie_eq, ie_nat, ie_ok, ib_z, ib_e, ib_1, lge_lt, lge_ge, lge_eq, lge_le, lge_gt]
    simp only [h7]
    rcases hy with ⟨hb, hy, hle⟩ | ⟨hb, hgt⟩
    · subst hb
      simp only [Bool.true_and]
      rw [hy, show (922337203685477580 : Int64) = je 922337203685477580 from rfl]
      simp (disch := omega) only [je_lt, je_eq]
      have good : nv (sl o a j) * 10 + (o (a + j) - 48) ≤ 9223372036854775807 → ∃ y', K_Md_tokenAt_100 N g f (ib true) (rEnd u ((a : Int) + (j + 1 : Nat)) (if true = true then 10 * je (nv (sl o a j)) + je (o (a + j) - 48) else je (nv (sl o a j)))) = some (if nv (sl o a k) ≤ 9223372036854775807 then ie 12 else ie (-1), rEnd u ((a : Int) + k) y') ∧ (nv (sl o a k) ≤ 9223372036854775807 → y' = je (nv (sl o a k))) := by
        intro hgd
        refine ih (j + 1) f true _ (by omega) (by omega) (Or.inl ⟨rfl, ?_, by rw [hsl]; exact hgd⟩)
        rw [if_pos rfl, hsl, show (10 : Int64) = je 10 from rfl, je_mul, je_add]
        congr 1; omega
      have bad : ¬ nv (sl o a j) * 10 + (o (a + j) - 48) ≤ 9223372036854775807 → ∃ y', K_Md_tokenAt_100 N g f (ib false) (rEnd u ((a : Int) + (j + 1 : Nat)) (if false = true then 10 * je (nv (sl o a j)) + je (o (a + j) - 48) else je (nv (sl o a j)))) = some (if nv (sl o a k) ≤ 9223372036854775807 then ie 12 else ie (-1), rEnd u ((a : Int) + k) y') ∧ (nv (sl o a k) ≤ 9223372036854775807 → y' = je (nv (sl o a k))) := by
        intro hgd
        exact ih (j + 1) f false _ (by omega) (by omega) (Or.inr ⟨rfl, by rw [hsl]; omega⟩)
      by_cases c1 : nv (sl o a j) < 922337203685477580
      · rw [if_pos c1]; exact good (by omega)
      · rw [if_neg c1]
        by_cases c2 : nv (sl o a j) = 922337203685477580
        · rw [if_pos c2]
          by_cases c3 : 7 < o (a + j) - 48
          · rw [if_pos c3]; exact bad (by omega)
          · rw [if_neg c3]; exact good (by omega)
        · rw [if_neg c2]; exact bad (by omega)
    · subst hb
      simp only [Bool.false_and]
      have bad : ∃ y', K_Md_tokenAt_100 N g f (ib false) (rEnd u ((a : Int) + (j + 1 : Nat)) (if false = true then 10 * y + je (o (a + j) - 48) else y)) = some (if nv (sl o a k) ≤ 9223372036854775807 then ie 12 else ie (-1), rEnd u ((a : Int) + k) y') ∧ (nv (sl o a k) ≤ 9223372036854775807 → y' = je (nv (sl o a k))) :=
        ih (j + 1) f false _ (by omega) (by omega) (Or.inr ⟨rfl, by rw [hsl]; omega⟩)
      by_cases c1 : y < 922337203685477580
      · rw [if_pos c1]; exact bad
      · rw [if_neg c1]
        by_cases c2 : y = 922337203685477580
        · rw [if_pos c2]
          by_cases c3 : 7 < o (a + j) - 48
          · rw [if_pos c3]; exact bad
          · rw [if_neg c3]; exact bad
        · rw [if_neg c2]; exact bad
theorem r_name {o : Nat → Int} {n : Nat} {u : pm_J} (N : Nat) (g : pm_s) (hN : 100 ≤ N) (ho : tx_o o n) (hu : rTx o n u) (a k : Nat) (hk : k = rl oN o 3001 a) (hk1 : 1 ≤ k) (ha : a < n) (m : Nat) : ∀ (j f : Nat), j + m = k → m < f →
    K_Md_tokenAt_23 N g f (ie a) (rEnd u ((a : Int) + j) 0) = some (if k ≤ 10 then ie (rk (wk (sl o a k))) else ie (-1), rEnd u ((a : Int) + k) 0) := by
  have hn := ho.1
  have hp : ∀ i, n ≤ i → oN (o i) = false := fun i hi => by rw [ho.2.1 i hi]; decide
  have hk2 : a + k ≤ n := by rw [hk]; exact rl_le oN o n 3001 a hp (by omega)
  induction m with
  | zero =>
    intro j f hm hf
    obtain ⟨f, rfl⟩ : ∃ f', f = f' + 1 := ⟨f - 1, by omega⟩
    have hj : j = k := by omega
    subst hj
    have he : oN (o (a + j)) = false := by rw [hk]; exact rl_end oN o n 3001 a hp (by omega)
    have he2 : oL (o (a + j)) = false ∧ oD (o (a + j)) = false := by unfold oN at he; simpa using he
    rw [K_Md_tokenAt_23, rEnd_1, show ((a : Int) + j) = ((a + j : Nat) : Int) by omega, r_octet g ho (rEnd_tx _ _ hu) _ (by omega), Option.bind_some, r_isL _ g _ (tx_rg ho _).1 (tx_rg ho _).2, Option.bind_some, he2.1, if_pos (show ib false = 0 from rfl), Option.bind_some, r_isD _ g _ (tx_rg ho _).1 (tx_rg ho _).2, Option.bind_some, he2.2, if_pos (show ib false = 0 from rfl), ie_sub, show ((a + j : Nat) : Int) - a = (j : Nat) by omega]
    have h10 : (ie (j : Int) ≤ 10) ↔ j ≤ 10 := by simp (disch := omega) only [ie_lit, Int.cast_ofNat_Int, ie_add, ie_sub, ie_mul, ie_neg, ie_lt, ie_le, ie_eq, ie_nat, ie_ok, ib_z, ib_e, ib_1, lge_lt, lge_ge, lge_eq, lge_le, lge_gt]; omega
    by_cases h : j ≤ 10
    · rw [if_pos (h10.mpr h), if_pos h, r_word N g ho (rEnd_tx _ _ hu) a j hN (by omega) hk1 h]; rfl
    · rw [if_neg (fun hh => h (h10.mp hh)), if_neg h]; rfl
  | succ m ih =>
    intro j f hm hf
    obtain ⟨f, rfl⟩ : ∃ f', f = f' + 1 := ⟨f - 1, by omega⟩
    have he : oN (o (a + j)) = true := rl_all oN o 3001 a j (by omega)
    have hs : ie ((a + j : Nat) : Int) + 1 = ie ((a : Int) + (j + 1 : Nat)) := by
      rw [show (1 : Int32) = ie 1 from rfl, ie_add]; congr 1
    rw [K_Md_tokenAt_23, rEnd_1, show ((a : Int) + j) = ((a + j : Nat) : Int) by omega, r_octet g ho (rEnd_tx _ _ hu) _ (by omega), Option.bind_some, r_isL _ g _ (tx_rg ho _).1 (tx_rg ho _).2, Option.bind_some, hs, rEnd_wi, ih (j + 1) f (by omega) (by omega), Option.bind_some, r_isD _ g _ (tx_rg ho _).1 (tx_rg ho _).2, Option.bind_some]
    simp only [ib_z]
    by_cases hl : oL (o (a + j)) = true
    · rw [if_neg (by rw [hl]; decide)]
    · rw [if_pos (by simpa using hl), if_neg]
      unfold oN at he
      simp only [hl, Bool.or_eq_true, false_or] at he
      rw [he.resolve_left (by decide)]; decide
theorem ite_P {c : Prop} [Decidable c] {a b : Nat} {P : Nat → Prop} (h1 : P a) (h2 : P b) : P (if c then a else b) := by
  by_cases h : c
  · rw [if_pos h]; exact h1
  · rw [if_neg h]; exact h2
def rV (k : Nat) (v : Int64) : Int64 := if k = 2 ∨ k = 3 ∨ k = 4 then v else 0
theorem wk_v (l : List Int) : wk l = 1 ∨ (5 ≤ wk l ∧ wk l ≤ 14) := by
  unfold wk
  repeat (refine ite_P (P := fun x => x = 1 ∨ (5 ≤ x ∧ x ≤ 14)) (Or.inr (by decide)) ?_)
  exact Or.inl rfl
theorem r_token {o : Nat → Int} {n : Nat} {u : pm_J} (N : Nat) (g : pm_s) (ho : tx_o o n) (hu : rTx o n u) (a : Nat) (hN : 10000 ≤ N) (ha : a < n) :
    (∀ t, tokS o a = some t → F_Md_tokenAt N (ie a) g u = some (ie (rk t.1), rEnd u ((a + t.2.1 : Nat) : Int) (rV t.1 t.2.2))) ∧ (tokS o a = none → ∃ w v, F_Md_tokenAt N (ie a) g u = some (ie (-1), rEnd u w v)) := by
  have hn := ho.1
  have hra := tx_rg ho a
  have hE : wj (wi u 64 45 (ie a)) 64 46 0 = rEnd u a 0 := rfl
  unfold F_Md_tokenAt tokS
  rw [r_octet g ho hu a (by omega), Option.bind_some, hE, r_isL _ g _ hra.1 hra.2, Option.bind_some]
  by_cases hl : oL (o a) = true
  · rw [if_pos hl, if_neg (show ¬ (ib (oL (o a)) = 0) by rw [hl]; decide)]
    have hpN : ∀ i, n ≤ i → oN (o i) = false := fun i hi => by rw [ho.2.1 i hi]; decide
    have hk := rl_le oN o n 3001 a hpN (by omega)
    have hk1 : 1 ≤ rl oN o 3001 a := by rw [rl, if_pos (by unfold oN; rw [hl]; rfl)]; omega
    have h1 := r_name N g (by omega) ho hu a _ rfl hk1 ha (rl oN o 3001 a) 0 N (by omega) (by omega)
    rw [show ((a : Int) + (0 : Nat)) = a by omega] at h1
    rw [h1]
    by_cases h10 : rl oN o 3001 a ≤ 10
    · rw [if_pos h10, if_pos h10]
      refine ⟨fun t ht => ?_, fun ht => by cases ht⟩
      cases ht
      have hv : rV (wk (sl o a (rl oN o 3001 a))) (je (pk (sl o a (rl oN o 3001 a)))) = 0 := by
        unfold rV; have := wk_v (sl o a (rl oN o 3001 a)); rw [if_neg (by omega)]
      show _ = some (ie (rk (wk (sl o a (rl oN o 3001 a)))), rEnd u ((a + rl oN o 3001 a : Nat) : Int) (rV (wk (sl o a (rl oN o 3001 a))) (je (pk (sl o a (rl oN o 3001 a))))))
      rw [hv, show ((a + rl oN o 3001 a : Nat) : Int) = (a : Int) + (rl oN o 3001 a : Nat) by omega]
    · rw [if_neg h10, if_neg h10]
      exact ⟨fun t ht => (nomatch ht), fun _ => ⟨_, _, rfl⟩⟩
  · rw [if_neg hl, if_pos (show ib (oL (o a)) = 0 by simpa [ib_z] using hl), r_isD _ g _ hra.1 hra.2, Option.bind_some]
    by_cases hd : oD (o a) = true
    · rw [if_pos hd, if_neg (show ¬ (ib (oD (o a)) = 0) by rw [hd]; decide)]
      have hpN : ∀ i, n ≤ i → oD (o i) = false := fun i hi => by rw [ho.2.1 i hi]; decide
      have hk := rl_le oD o n 3001 a hpN (by omega)
      obtain ⟨y, h1, h2⟩ := r_num N g ho hu a _ rfl ha (rl oD o 3001 a) 0 N true 0 (by omega) (by omega) (Or.inl ⟨rfl, rfl, show (0 : Int) ≤ 9223372036854775807 by decide⟩)
      rw [show ((a : Int) + (0 : Nat)) = a by omega, show ib true = 1 from rfl] at h1
      rw [h1]
      by_cases hle : nv (sl o a (rl oD o 3001 a)) ≤ 9223372036854775807
      · rw [if_pos hle, if_pos hle, h2 hle]
        refine ⟨fun t ht => ?_, fun ht => by cases ht⟩
        cases ht
        show _ = some (ie (rk 2), rEnd u ((a + rl oD o 3001 a : Nat) : Int) (rV 2 (je (nv (sl o a (rl oD o 3001 a))))))
        rw [show ((a + rl oD o 3001 a : Nat) : Int) = (a : Int) + (rl oD o 3001 a : Nat) by omega]; rfl
      · rw [if_neg hle, if_neg hle]
        exact ⟨fun t ht => (nomatch ht), fun _ => ⟨_, _, rfl⟩⟩
    · rw [if_neg hd, if_pos (show ib (oD (o a)) = 0 by simpa [ib_z] using hd)]
      simp (disch := omega) only [ie_lit, Int.cast_ofNat_Int, ie_add, ie_sub, ie_mul, ie_neg, ie_lt, ie_le, ie_eq, ie_nat, ie_ok, ib_z, ib_e, ib_1, lge_lt, lge_ge, lge_eq, lge_le, lge_gt]
      by_cases h35 : o a = 35
      · rw [if_pos h35, if_pos h35]
        have hpN : ∀ i, n ≤ i → oH (o i) = false := fun i hi => by rw [ho.2.1 i hi]; decide
        have hk := rl_le oH o n 3001 (a + 1) hpN (by omega)
        have h1 := r_bits N g ho hu a _ rfl ha (rl oH o 3001 (a + 1)) 0 N (by omega) (by omega)
        rw [show ((a : Int) + 1 + (0 : Nat)) = (a : Int) + 1 by omega, show hx (sl o (a + 1) 0) = 0 from rfl] at h1
        rw [rEnd_wi, h1]
        by_cases h16 : 1 ≤ rl oH o 3001 (a + 1) ∧ rl oH o 3001 (a + 1) ≤ 16
        · rw [if_pos h16, if_pos h16]
          refine ⟨fun t ht => ?_, fun ht => by cases ht⟩
          cases ht
          show _ = some (ie (rk 3), rEnd u ((a + (rl oH o 3001 (a + 1) + 1) : Nat) : Int) (rV 3 (hx (sl o (a + 1) (rl oH o 3001 (a + 1))))))
          rw [show ((a + (rl oH o 3001 (a + 1) + 1) : Nat) : Int) = (a : Int) + 1 + (rl oH o 3001 (a + 1) : Nat) by omega]; rfl
        · rw [if_neg h16, if_neg h16]
          exact ⟨fun t ht => (nomatch ht), fun _ => ⟨_, _, rfl⟩⟩
      · rw [if_neg h35, if_neg h35]
        by_cases h39 : o a = 39
        · rw [if_pos h39, if_pos h39]
          have hr1 := tx_rg ho (a + 1)
          rw [rEnd_wi, show ((a : Int) + 1) = ((a + 1 : Nat) : Int) by omega, r_octet g ho (rEnd_tx _ _ hu) (a + 1) (by omega), Option.bind_some]
          simp (disch := omega) only [ie_lit, Int.cast_ofNat_Int, ie_add, ie_sub, ie_mul, ie_neg, ie_lt, ie_le, ie_eq, ie_nat, ie_ok, ib_z, ib_e, ib_1, lge_lt, lge_ge, lge_eq, lge_le, lge_gt, ie_je, rEnd_wj]
          by_cases hlo : o (a + 1) < 97
          · rw [if_pos hlo, if_neg (by omega)]
            exact ⟨fun t ht => (nomatch ht), fun _ => ⟨_, _, rfl⟩⟩
          · rw [if_neg hlo]
            by_cases hhi : 100 < o (a + 1)
            · rw [if_pos hhi, if_neg (by omega)]
              exact ⟨fun t ht => (nomatch ht), fun _ => ⟨_, _, rfl⟩⟩
            · rw [if_neg hhi, if_pos (by omega)]
              refine ⟨fun t ht => ?_, fun ht => by cases ht⟩
              cases ht
              rfl
        · rw [if_neg h39, if_neg h39]
          have hr1 := tx_rg ho (a + 1)
          unfold F_Md_signAt
          rw [show ie (a : Int) + 1 = ie ((a + 1 : Nat) : Int) by rw [show (1 : Int32) = ie 1 from rfl, ie_add]; rfl, r_octet g ho (rEnd_tx _ _ hu) (a + 1) (by omega), r_octet g ho (rEnd_tx _ _ hu) a (by omega)]
          simp only [Option.bind_some, rEnd_wi]
          have cs : o a = 40 ∨ o a = 41 ∨ o a = 42 ∨ o a = 43 ∨ o a = 44 ∨ o a = 45 ∨ o a = 58 ∨ o a = 59 ∨ o a = 60 ∨ o a = 61 ∨ (o a ≠ 40 ∧ o a ≠ 41 ∧ o a ≠ 42 ∧ o a ≠ 43 ∧ o a ≠ 44 ∧ o a ≠ 45 ∧ o a ≠ 58 ∧ o a ≠ 59 ∧ o a ≠ 60 ∧ o a ≠ 61) := by omega
          rcases cs with h | h | h | h | h | h | h | h | h | h | h
          · rw [h]; exact ⟨fun t ht => by cases ht; rfl, fun ht => (nomatch ht)⟩
          · rw [h]; exact ⟨fun t ht => by cases ht; rfl, fun ht => (nomatch ht)⟩
          · rw [h]; exact ⟨fun t ht => by cases ht; rfl, fun ht => (nomatch ht)⟩
          · rw [h]; exact ⟨fun t ht => by cases ht; rfl, fun ht => (nomatch ht)⟩
          · rw [h]; exact ⟨fun t ht => by cases ht; rfl, fun ht => (nomatch ht)⟩
          · rw [h]
            by_cases h62 : o (a + 1) = 62
            · rw [h62]; exact ⟨fun t ht => by cases ht; rfl, fun ht => (nomatch ht)⟩
            · rw [if_neg (show ¬ ((45 : Int) = 45 ∧ o (a + 1) = 62) from fun hh => h62 hh.2), if_neg (show ¬ (ie (o (a + 1)) = 62) by simp (disch := omega) only [ie_lit, Int.cast_ofNat_Int, ie_add, ie_sub, ie_mul, ie_neg, ie_lt, ie_le, ie_eq, ie_nat, ie_ok, ib_z, ib_e, ib_1, lge_lt, lge_ge, lge_eq, lge_le, lge_gt]; exact h62)]
              exact ⟨fun t ht => by cases ht; rfl, fun ht => (nomatch ht)⟩
          · rw [h]; exact ⟨fun t ht => by cases ht; rfl, fun ht => (nomatch ht)⟩
          · rw [h]; exact ⟨fun t ht => by cases ht; rfl, fun ht => (nomatch ht)⟩
          · rw [h]; exact ⟨fun t ht => by cases ht; rfl, fun ht => (nomatch ht)⟩
          · rw [h]; exact ⟨fun t ht => by cases ht; rfl, fun ht => (nomatch ht)⟩
          · obtain ⟨h0, h1, h2, h3, h4, h5, h6, h7, h8, h9⟩ := h
            unfold sgn
            have hk : ∀ k : Int, 0 ≤ k → k ≤ 255 → o a ≠ k → ¬ (ie (o a) = ie k) := by
              intro k k0 k1 hne; simp (disch := omega) only [ie_lit, Int.cast_ofNat_Int, ie_add, ie_sub, ie_mul, ie_neg, ie_lt, ie_le, ie_eq, ie_nat, ie_ok, ib_z, ib_e, ib_1, lge_lt, lge_ge, lge_eq, lge_le, lge_gt]; exact hne
            have g0 : ¬ (ie (o a) = 40) := hk 40 (by omega) (by omega) h0
            have g1 : ¬ (ie (o a) = 41) := hk 41 (by omega) (by omega) h1
            have g2 : ¬ (ie (o a) = 42) := hk 42 (by omega) (by omega) h2
            have g3 : ¬ (ie (o a) = 43) := hk 43 (by omega) (by omega) h3
            have g4 : ¬ (ie (o a) = 44) := hk 44 (by omega) (by omega) h4
            have g5 : ¬ (ie (o a) = 45) := hk 45 (by omega) (by omega) h5
            have g6 : ¬ (ie (o a) = 58) := hk 58 (by omega) (by omega) h6
            have g7 : ¬ (ie (o a) = 59) := hk 59 (by omega) (by omega) h7
            have g8 : ¬ (ie (o a) = 60) := hk 60 (by omega) (by omega) h8
            have g9 : ¬ (ie (o a) = 61) := hk 61 (by omega) (by omega) h9
            simp only [if_true, if_false, true_or, or_true, false_or, or_false, and_true, true_and, and_false, false_and, or_self, and_self, not_true_eq_false, not_false_eq_true, reduceIte, h0, h1, h2, h3, h4, h5, h6, h7, h8, h9, g0, g1, g2, g3, g4, g5, g6, g7, g8, g9, Option.bind_some]
            exact ⟨fun t ht => (nomatch ht), fun _ => ⟨_, _, rfl⟩⟩
def rS_t : Nat → Nat → Bool := fun c i => (Nat.beq c 64 && (Nat.beq i 4 || Nat.beq i 5 || Nat.beq i 10 || Nat.beq i 45 || Nat.beq i 46)) || Nat.beq c 66 || Nat.beq c 67 || Nat.beq c 68 || Nat.beq c 69
def rTok (u : pm_J) (T : List Tok) : Prop := u.1 64 10 = ie T.length ∧ T.length ≤ 900 ∧ ∀ i t, T[i]? = some t → u.1 66 i = ie (rk t.1) ∧ u.1 67 i = ie t.2.1 ∧ u.1 68 i = ie t.2.2.1 ∧ u.2 69 i = rV t.1 t.2.2.2
def rFail (u : pm_J) (c p : Int) : pm_J := wi (wi u 64 4 (ie c)) 64 5 (ie p)
theorem r_fails (u : pm_J) (g : pm_s) (c p : Int) (h : u.1 64 4 = ie 0) : F_Md_fails (ie c) (ie p) g u = some (ib false, rFail u c p) := by
  unfold F_Md_fails; rw [h, if_pos (show ie 0 = 0 from rfl)]; rfl
theorem fr_rEnd (S : Nat → Nat → Bool) (u v : pm_J) (t : Int) (x : Int64) (h : S 64 45 = true) (h2 : S 64 46 = true) (hv : fr S u v) : fr S u (rEnd v t x) := by
  unfold rEnd; exact fr_wj _ _ _ _ _ _ h2 (fr_wi _ _ _ _ _ _ h hv)
theorem rk_pos (k : Nat) : ie (rk k) ≠ ie (-1) := by
  by_cases h : k < 26
  · have : ∀ k, k < 26 → ie (rk k) ≠ ie (-1) := by decide
    exact this k h
  · have : rk k = 0 := by unfold rk; rw [List.getD_eq_getElem?_getD, List.getElem?_eq_none (by show 26 ≤ k; omega)]; rfl
    rw [this]; decide
def rAdd (u : pm_J) (n k p w : Nat) (v : Int64) : pm_J := wi (wj (wi (wi (wi u 66 n (ie k)) 67 n (ie p)) 68 n (ie w)) 69 n v) 64 10 (ie (n + 1))
theorem r_scanL {o : Nat → Int} {n : Nat} (N : Nat) (g : pm_s) (p5 : Int32) (ho : tx_o o n) (hN : 10000 ≤ N) (m : Nat) : ∀ (f a fs : Nat) (T : List Tok) (u : pm_J), n ≤ a + m → m < f → m ≤ fs → rTx o n u → rTok u T → u.1 64 4 = ie 0 → u.1 64 5 = p5 → a < 10000 →
    ∃ v, (match scS o n fs a T with
       | .inl p => K_Md_scan_7 N g f (ie a) u = some (ib false, v) ∧ v.1 64 4 = ie 1 ∧ v.1 64 5 = ie p
       | .inr T' => K_Md_scan_7 N g f (ie a) u = some (ib true, v) ∧ rTok v T' ∧ v.1 66 T'.length = ie 26 ∧ v.1 67 T'.length = ie n ∧ v.1 64 4 = ie 0 ∧ v.1 64 5 = p5) ∧ fr rS_t u v := by
  have hn := ho.1
  have hend : ∀ (f a fs : Nat) (T : List Tok) (u : pm_J), n ≤ a → a < 10000 → rTx o n u → rTok u T → u.1 64 4 = ie 0 → u.1 64 5 = p5 → ∃ v, (match scS o n fs a T with
       | .inl p => K_Md_scan_7 N g (f + 1) (ie a) u = some (ib false, v) ∧ v.1 64 4 = ie 1 ∧ v.1 64 5 = ie p
       | .inr T' => K_Md_scan_7 N g (f + 1) (ie a) u = some (ib true, v) ∧ rTok v T' ∧ v.1 66 T'.length = ie 26 ∧ v.1 67 T'.length = ie n ∧ v.1 64 4 = ie 0 ∧ v.1 64 5 = p5) ∧ fr rS_t u v := by
    intro f a fs T u hna ha hu hT h0 h5
    have hs : scS o n fs a T = .inr T := by
      cases fs with
      | zero => rfl
      | succ fs => rw [scS, if_pos hna]
    rw [hs]
    have hT9 := hT.2.1
    refine ⟨wi (wi u 66 T.length (ie 26)) 67 T.length (ie n), ⟨?_, ⟨hT.1, hT9, ?_⟩, ?_, ?_, h0, h5⟩, fr_wi _ _ _ _ _ _ rfl (fr_wi _ _ _ _ _ _ rfl (fr_refl _ _))⟩
    · rw [K_Md_scan_7, hu.1, hT.1]
      simp (disch := omega) only [ie_lit, Int.cast_ofNat_Int, ie_add, ie_sub, ie_mul, ie_neg, ie_lt, ie_le, ie_eq, ie_nat, ie_ok, ib_z, ib_e, ib_1, lge_lt, lge_ge, lge_eq, lge_le, lge_gt, Int.toNat_natCast]
      rw [if_pos (by omega), if_pos (by omega), if_pos (by omega)]; rfl
    · intro i t hi
      have := hT.2.2 i t hi
      have hlt := (List.getElem?_eq_some_iff.mp hi).1
      have hne : i ≠ T.length := by omega
      simp [wi_1, wi_2, hne]; exact this
    · simp [wi_1]
    · simp [wi_1]
  induction m with
  | zero =>
    intro f a fs T u hm hf hfs hu hT h0 h5 ha
    obtain ⟨f, rfl⟩ : ∃ f', f = f' + 1 := ⟨f - 1, by omega⟩
    exact hend f a fs T u (by omega) ha hu hT h0 h5
  | succ m ih =>
    intro f a fs T u hm hf hfs hu hT h0 h5 ha
    obtain ⟨f, rfl⟩ : ∃ f', f = f' + 1 := ⟨f - 1, by omega⟩
    by_cases hna : n ≤ a
    · exact hend f a fs T u hna ha hu hT h0 h5
    obtain ⟨fs, rfl⟩ : ∃ f', fs = f' + 1 := ⟨fs - 1, by omega⟩
    have hT9 := hT.2.1
    have hra := tx_rg ho a
    have hkk : ∀ k : Int, 0 ≤ k → k ≤ 255 → ((ie (o a) = ie k) ↔ o a = k) := by intro k k0 k1; simp (disch := omega) only [ie_lit, Int.cast_ofNat_Int, ie_add, ie_sub, ie_mul, ie_neg, ie_lt, ie_le, ie_eq, ie_nat, ie_ok, ib_z, ib_e, ib_1, lge_lt, lge_ge, lge_eq, lge_le, lge_gt]
    have k32 : (ie (o a) = 32) ↔ o a = 32 := hkk 32 (by omega) (by omega)
    have k10 : (ie (o a) = 10) ↔ o a = 10 := hkk 10 (by omega) (by omega)
    have hs1 : ie (a : Int) + 1 = ie ((a + 1 : Nat) : Int) := by rw [show (1 : Int32) = ie 1 from rfl, ie_add]; rfl
    rw [scS, if_neg hna, K_Md_scan_7, hu.1, if_neg (show ¬ (ie (n : Int) ≤ ie (a : Int)) by simp (disch := omega) only [ie_lit, Int.cast_ofNat_Int, ie_add, ie_sub, ie_mul, ie_neg, ie_lt, ie_le, ie_eq, ie_nat, ie_ok, ib_z, ib_e, ib_1, lge_lt, lge_ge, lge_eq, lge_le, lge_gt]; omega), r_octet g ho hu a (by omega), Option.bind_some, Option.bind_some, hs1]
    simp only [k32, k10]
    by_cases h32 : o a = 32
    · simp only [if_true, if_false, true_or, or_true, false_or, or_false, and_true, true_and, and_false, false_and, or_self, and_self, not_true_eq_false, not_false_eq_true, reduceIte, h32]
      exact ih f (a + 1) fs T u (by omega) (by omega) (by omega) hu hT h0 h5 (by omega)
    · by_cases h10 : o a = 10
      · simp only [if_true, if_false, true_or, or_true, false_or, or_false, and_true, true_and, and_false, false_and, or_self, and_self, not_true_eq_false, not_false_eq_true, reduceIte, h32, h10]
        exact ih f (a + 1) fs T u (by omega) (by omega) (by omega) hu hT h0 h5 (by omega)
      · simp only [if_true, if_false, true_or, or_true, false_or, or_false, and_true, true_and, and_false, false_and, or_self, and_self, not_true_eq_false, not_false_eq_true, reduceIte, h32, h10]
        obtain ⟨k1, k2⟩ := r_token N g ho hu a hN (by omega)
        have hfl : ∀ (w : Int) (v : Int64), F_Md_fails 1 (ie a) g (rEnd u w v) = some (ib false, rFail (rEnd u w v) 1 a) := fun w v => r_fails (rEnd u w v) g 1 a h0
        have hfr : ∀ (w : Int) (v : Int64), fr rS_t u (rFail (rEnd u w v) 1 a) := fun w v => fr_wi _ _ _ _ _ _ rfl (fr_wi _ _ _ _ _ _ rfl (fr_rEnd _ _ _ _ _ rfl rfl (fr_refl _ _)))
        cases ht : tokS o a with
        | none =>
          obtain ⟨w, v, hw⟩ := k2 ht
          rw [hw, Option.bind_some]
          refine ⟨rFail (rEnd u w v) 1 a, ?_, hfr w v⟩
          simp only [show (ie (-1) = -1) ↔ True from ⟨fun _ => trivial, fun _ => rfl⟩, if_true, hfl w v, Option.bind_some, ib_ok]
          by_cases h9 : 900 ≤ T.length
          · simp only [if_true, if_false, true_or, or_true, false_or, or_false, and_true, true_and, and_false, false_and, or_self, and_self, not_true_eq_false, not_false_eq_true, reduceIte, h9]; exact ⟨rfl, rfl⟩
          · simp only [if_true, if_false, true_or, or_true, false_or, or_false, and_true, true_and, and_false, false_and, or_self, and_self, not_true_eq_false, not_false_eq_true, reduceIte, h9]; exact ⟨rfl, rfl⟩
        | some t =>
          have hw := tok_w ho (by omega) t ht
          rw [k1 t ht, Option.bind_some]
          have hne : ¬ (ie (rk t.1) = -1) := rk_pos t.1
          have h10e : (rEnd u ((a + t.2.1 : Nat) : Int) (rV t.1 t.2.2)).1 64 10 = ie T.length := hT.1
          have h9e : (ie (T.length : Int) = 900) ↔ T.length = 900 := by simp (disch := omega) only [ie_lit, Int.cast_ofNat_Int, ie_add, ie_sub, ie_mul, ie_neg, ie_lt, ie_le, ie_eq, ie_nat, ie_ok, ib_z, ib_e, ib_1, lge_lt, lge_ge, lge_eq, lge_le, lge_gt]; omega
          simp only [hne, if_false, h10e, h9e, hfl, Option.bind_some, ib_ok, if_true]
          by_cases h9 : T.length = 900
          · rw [if_pos h9, if_pos (by omega)]
            exact ⟨_, ⟨rfl, rfl, rfl⟩, hfr _ _⟩
          · rw [if_neg h9, if_neg (show ¬ 900 ≤ T.length by omega)]
            rw [rEnd_1, rEnd_2]
            simp (disch := omega) only [ie_ok, ie_nat, Int.toNat_natCast]
            have hr : (0 : Int) ≤ (T.length : Int) ∧ (T.length : Int) < (902 : Nat) := by omega
            simp only [hr, and_self, if_true]
            have hx : wi (wj (wi (wi (wi (rEnd u ((a + t.2.1 : Nat) : Int) (rV t.1 t.2.2)) 66 T.length (ie (rk t.1))) 67 T.length (ie a)) 68 T.length (ie ((a + t.2.1 : Nat) : Int) - ie a)) 69 T.length (rV t.1 t.2.2)) 64 10 (ie (T.length : Int) + 1) = rAdd (rEnd u ((a + t.2.1 : Nat) : Int) (rV t.1 t.2.2)) T.length (rk t.1) a t.2.1 (rV t.1 t.2.2) := by
              unfold rAdd
              rw [ie_sub, show ((a + t.2.1 : Nat) : Int) - a = (t.2.1 : Nat) by omega, show (1 : Int32) = ie 1 from rfl, ie_add]
            rw [hx]
            obtain ⟨v, h1, h2⟩ := ih f (a + t.2.1) fs (T ++ [(t.1, a, t.2.1, t.2.2)]) (rAdd (rEnd u ((a + t.2.1 : Nat) : Int) (rV t.1 t.2.2)) T.length (rk t.1) a t.2.1 (rV t.1 t.2.2)) (by omega) (by omega) (by omega)
              ⟨hu.1, hu.2⟩
              (by
                refine ⟨?_, ?_, ?_⟩
                · rw [List.length_append]; rfl
                · rw [List.length_append]; show T.length + 1 ≤ 900; omega
                · intro i t' hi
                  rw [List.getElem?_append] at hi
                  by_cases hiT : i < T.length
                  · rw [if_pos hiT] at hi
                    have := hT.2.2 i t' hi
                    have hne : i ≠ T.length := by omega
                    unfold rAdd rEnd
                    simp [wi_1, wi_2, wj_1, wj_2, hne]
                    exact this
                  · rw [if_neg hiT] at hi
                    have hii : i = T.length := by
                      have := (List.getElem?_eq_some_iff.mp hi).1
                      simp at this; omega
                    subst hii
                    simp at hi
                    subst hi
                    unfold rAdd
                    simp [wi_1, wi_2, wj_1, wj_2])
              (by show (rAdd _ _ _ _ _ _).1 64 4 = ie 0; unfold rAdd rEnd; simp [wi_1, wj_1, h0]) (by show (rAdd _ _ _ _ _ _).1 64 5 = p5; unfold rAdd rEnd; simp [wi_1, wj_1, h5]) (by omega)
            refine ⟨v, h1, fr_trans ?_ h2⟩
            unfold rAdd
            exact fr_wi _ _ _ _ _ _ rfl (fr_wj _ _ _ _ _ _ rfl (fr_wi _ _ _ _ _ _ rfl (fr_wi _ _ _ _ _ _ rfl (fr_wi _ _ _ _ _ _ rfl (fr_rEnd _ _ _ _ _ rfl rfl (fr_refl _ _))))))
theorem r_scan {o : Nat → Int} {n : Nat} (N : Nat) (g : pm_s) (u : pm_J) (ho : tx_o o n) (hN : 10000 ≤ N) (hu : rTx o n u) (h0 : u.1 64 4 = ie 0) :
    ∃ v, (match scS o n 3001 0 [] with
       | .inl p => F_Md_scan N g u = some (ib false, v) ∧ v.1 64 4 = ie 1 ∧ v.1 64 5 = ie p
       | .inr T' => F_Md_scan N g u = some (ib true, v) ∧ rTok v T' ∧ v.1 66 T'.length = ie 26 ∧ v.1 67 T'.length = ie n ∧ v.1 64 4 = ie 0 ∧ v.1 64 5 = u.1 64 5) ∧ fr rS_t u v := by
  have hn := ho.1
  unfold F_Md_scan
  obtain ⟨v, a1, a2⟩ := r_scanL N g (u.1 64 5) ho hN 3000 N 0 3001 [] (wi u 64 10 0) (by omega) (by omega) (by omega) ⟨hu.1, hu.2⟩ ⟨rfl, by simp, by simp⟩ h0 rfl (by omega)
  exact ⟨v, a1, fr_trans (fr_wi _ _ _ _ _ _ rfl (fr_refl _ _)) a2⟩
