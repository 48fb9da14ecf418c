set_option maxRecDepth 100000
def tx_o (o : Nat → Int) (n : Nat) : Prop := n ≤ 3000 ∧ (∀ i, n ≤ i → o i = -1) ∧ (∀ i, i < n → 0 ≤ o i ∧ o i ≤ 255)
theorem tx_rg {o : Nat → Int} {n : Nat} (h : tx_o o n) (i : Nat) : -1 ≤ o i ∧ o i ≤ 255 := by
  by_cases hi : i < n
  · have := h.2.2 i hi; omega
  · have := h.2.1 i (by omega); omega
def oL (x : Int) : Bool := decide (97 ≤ x) && decide (x ≤ 122)
def oD (x : Int) : Bool := decide (48 ≤ x) && decide (x ≤ 57)
def oN (x : Int) : Bool := oL x || oD x
def oH (x : Int) : Bool := oD x || (decide (97 ≤ x) && decide (x ≤ 102))
def rl (p : Int → Bool) (o : Nat → Int) : Nat → Nat → Nat
  | 0, _ => 0
  | f + 1, a => if p (o a) = true then 1 + rl p o f (a + 1) else 0
theorem rl_all (p : Int → Bool) (o : Nat → Int) (f a i : Nat) (h : i < rl p o f a) : p (o (a + i)) = true := by
  induction f generalizing a i with
  | zero => simp [rl] at h
  | succ f ih =>
    rw [rl] at h
    by_cases hp : p (o a) = true
    · rw [if_pos hp] at h
      cases i with
      | zero => exact hp
      | succ i => have := ih (a + 1) i (by omega); rwa [show a + 1 + i = a + (i + 1) by omega] at this
    · rw [if_neg hp] at h; omega
theorem rl_end (p : Int → Bool) (o : Nat → Int) (n f a : Nat) (hn : ∀ i, n ≤ i → p (o i) = false) (hf : n ≤ a + f) : p (o (a + rl p o f a)) = false := by
  induction f generalizing a with
  | zero => exact hn _ (by omega)
  | succ f ih =>
    rw [rl]
    by_cases hp : p (o a) = true
    · rw [if_pos hp, show a + (1 + rl p o f (a + 1)) = a + 1 + rl p o f (a + 1) by omega]; exact ih (a + 1) (by omega)
    · rw [if_neg hp]; simpa using hp
theorem rl_le (p : Int → Bool) (o : Nat → Int) (n f a : Nat) (hn : ∀ i, n ≤ i → p (o i) = false) (h : a ≤ n) : a + rl p o f a ≤ n := by
  apply Decidable.byContradiction
  intro h2
  have h3 := rl_all p o f a (n - a) (by omega)
  rw [show a + (n - a) = n by omega, hn n (by omega)] at h3
  exact absurd h3 (by decide)
def sl (o : Nat → Int) (a : Nat) : Nat → List Int
  | 0 => []
  | k + 1 => sl o a k ++ [o (a + k)]
def dg (x : Int) : Int := if oD x = true then x - 48 + 27 else x - 97 + 1
def pk (l : List Int) : Int := l.foldl (fun v x => v * 37 + dg x) 0
def nv (l : List Int) : Int := l.foldl (fun v x => v * 10 + (x - 48)) 0
def hd (x : Int) : Int := if oD x = true then x - 48 else x - 97 + 10
def hx (l : List Int) : Int64 := l.foldl (fun v x => (v <<< 4) ||| je (hd x)) 0
def wk (l : List Int) : Nat := if l = [108, 111, 110, 103] then 5 else if l = [100, 111, 117, 98, 108, 101] then 6 else if l = [108, 101, 116] then 7 else if l = [105, 110] then 8 else if l = [105, 102] then 9 else if l = [116, 104, 101, 110] then 10 else if l = [101, 108, 115, 101] then 11 else if l = [102, 110] then 12 else if l = [102, 115, 116] then 13 else if l = [115, 110, 100] then 14 else 1
def sgn (x : Int) : Nat := if x = 40 then 15 else if x = 41 then 16 else if x = 58 then 17 else if x = 61 then 18 else if x = 59 then 19 else if x = 44 then 20 else if x = 42 then 21 else if x = 43 then 22 else if x = 45 then 23 else if x = 60 then 24 else 0
def tokS (o : Nat → Int) (a : Nat) : Option (Nat × Nat × Int64) :=
  if oL (o a) = true then (if rl oN o 3001 a ≤ 10 then some (wk (sl o a (rl oN o 3001 a)), rl oN o 3001 a, je (pk (sl o a (rl oN o 3001 a)))) else none)
  else if oD (o a) = true then (if nv (sl o a (rl oD o 3001 a)) ≤ 9223372036854775807 then some (2, rl oD o 3001 a, je (nv (sl o a (rl oD o 3001 a)))) else none)
  else if o a = 35 then (if 1 ≤ rl oH o 3001 (a + 1) ∧ rl oH o 3001 (a + 1) ≤ 16 then some (3, rl oH o 3001 (a + 1) + 1, hx (sl o (a + 1) (rl oH o 3001 (a + 1)))) else none)
  else if o a = 39 then (if 97 ≤ o (a + 1) ∧ o (a + 1) ≤ 100 then some (4, 2, je (o (a + 1) - 97)) else none)
  else if o a = 45 ∧ o (a + 1) = 62 then some (25, 2, 0)
  else if sgn (o a) = 0 then none else some (sgn (o a), 1, 0)
abbrev Tok : Type := Nat × Nat × Nat × Int64
def scS (o : Nat → Int) (n : Nat) : Nat → Nat → List Tok → Sum Nat (List Tok)
  | 0, _, acc => .inr acc
  | f + 1, a, acc => if n ≤ a then .inr acc else if o a = 32 ∨ o a = 10 then scS o n f (a + 1) acc else if 900 ≤ acc.length then .inl a else
    match tokS o a with
    | none => .inl a
    | some t => scS o n f (a + t.2.1) (acc ++ [(t.1, a, t.2.1, t.2.2)])
def fr (S : Nat → Nat → Bool) (u v : pm_J) : Prop := ∀ c i, S c i = false → v.1 c i = u.1 c i ∧ v.2 c i = u.2 c i
theorem fr_refl (S : Nat → Nat → Bool) (u : pm_J) : fr S u u := fun _ _ _ => ⟨rfl, rfl⟩
theorem fr_trans {S : Nat → Nat → Bool} {u v w : pm_J} (h1 : fr S u v) (h2 : fr S v w) : fr S u w := fun c i hs => ⟨(h2 c i hs).1.trans (h1 c i hs).1, (h2 c i hs).2.trans (h1 c i hs).2⟩
theorem fr_sub {S T : Nat → Nat → Bool} {u v : pm_J} (h1 : fr S u v) (h : ∀ c i, T c i = false → S c i = false) : fr T u v := fun c i hs => h1 c i (h c i hs)
theorem fr_wi (S : Nat → Nat → Bool) (u v : pm_J) (a k : Nat) (x : Int32) (h : S a k = true) (hv : fr S u v) : fr S u (wi v a k x) := by
  intro c i hs
  have : ¬ (c = a ∧ i = k) := by intro hh; rw [hh.1, hh.2, h] at hs; cases hs
  refine ⟨?_, (hv c i hs).2⟩
  rw [wi_1, if_neg this]; exact (hv c i hs).1
theorem fr_wj (S : Nat → Nat → Bool) (u v : pm_J) (a k : Nat) (x : Int64) (h : S a k = true) (hv : fr S u v) : fr S u (wj v a k x) := by
  intro c i hs
  have : ¬ (c = a ∧ i = k) := by intro hh; rw [hh.1, hh.2, h] at hs; cases hs
  refine ⟨(hv c i hs).1, ?_⟩
  rw [wj_2, if_neg this]; exact (hv c i hs).2
def cS_f : Nat → Nat → Bool := fun c _ => Nat.beq c 3
def cS_t : Nat → Nat → Bool := fun c _ => Nat.beq c 3 || Nat.beq c 5 || Nat.beq c 6 || Nat.beq c 7 || Nat.beq c 8
def cTx (o : Nat → Int) (n : Nat) (u : pm_J) : Prop := u.1 5 6 = ie n ∧ ∀ i, i < n → u.1 1 i = ie (o i)
theorem c_octet {o : Nat → Int} {n : Nat} {u : pm_J} (g : pm_s) (ho : tx_o o n) (hu : cTx o n u) (a : Nat) (ha : a < 10000) : F_Tokens_octetAt_1 (ie a) g u = some (ie (o a)) := by
  have hn := ho.1
  unfold F_Tokens_octetAt_1
  have h3 : (Nat.toInt32 3000) = ie 3000 := rfl
  rw [h3, hu.1]
  simp (disch := omega) only [ie_lit, Int.cast_ofNat_Int, ie_add, ie_sub, ie_mul, ie_neg, ie_lt, ie_le, ie_eq, ie_nat, ie_ok, ib_z, ib_e, ib_1, lge_lt, lge_ge, lge_eq, lge_le, lge_gt]
  rw [if_neg (by omega)]
  by_cases h : n ≤ a
  · rw [if_pos (by omega), ho.2.1 a h]
  · rw [if_neg (by omega), if_neg (by omega), if_pos (by omega), Int.toNat_natCast, hu.2 a (by omega)]
theorem c_isL (x : Int) (g : pm_s) (u : pm_J) (h : -1 ≤ x) (h2 : x ≤ 255) : F_Tokens_isLetter (ie x) g u = some (ib (oL x)) := by
  unfold F_Tokens_isLetter ib
  simp (disch := omega) only [ie_lit, Int.cast_ofNat_Int, ie_add, ie_sub, ie_mul, ie_neg, ie_lt, ie_le, ie_eq, ie_nat, ie_ok, ib_z, ib_e, ib_1, lge_lt, lge_ge, lge_eq, lge_le, lge_gt, oL, Bool.and_eq_true, decide_eq_true_eq]
  by_cases h3 : x < 97
  · rw [if_pos h3, if_neg (by omega)]
  · rw [if_neg h3]
    by_cases h4 : 122 < x
    · rw [if_pos h4, if_neg (by omega)]
    · rw [if_neg h4, if_pos (by omega)]
theorem c_isD (x : Int) (g : pm_s) (u : pm_J) (h : -1 ≤ x) (h2 : x ≤ 255) : F_Tokens_isDigit (ie x) g u = some (ib (oD x)) := by
  unfold F_Tokens_isDigit ib
  simp (disch := omega) only [ie_lit, Int.cast_ofNat_Int, ie_add, ie_sub, ie_mul, ie_neg, ie_lt, ie_le, ie_eq, ie_nat, ie_ok, ib_z, ib_e, ib_1, lge_lt, lge_ge, lge_eq, lge_le, lge_gt, oD, Bool.and_eq_true, decide_eq_true_eq]
  by_cases h3 : x < 48
  · rw [if_pos h3, if_neg (by omega)]
  · rw [if_neg h3]
    by_cases h4 : 57 < x
    · rw [if_pos h4, if_neg (by omega)]
    · rw [if_neg h4, if_pos (by omega)]
theorem c_hexD (x : Int) (g : pm_s) (u : pm_J) (h : -1 ≤ x) (h2 : x ≤ 255) : F_Tokens_hexDigit (ie x) g u = some (ie (if oH x = true then hd x else -1)) := by
  unfold F_Tokens_hexDigit
  rw [c_isD x g u h h2]
  simp only [Option.bind_some, ib_z]
  by_cases h3 : oD x = true
  · rw [if_neg (by simpa using h3)]
    have : oH x = true := by unfold oH; rw [h3]; rfl
    rw [if_pos this, hd, if_pos h3]
    simp (disch := omega) only [ie_lit, Int.cast_ofNat_Int, ie_add, ie_sub, ie_mul, ie_neg, ie_lt, ie_le, ie_eq, ie_nat, ie_ok, ib_z, ib_e, ib_1, lge_lt, lge_ge, lge_eq, lge_le, lge_gt]
  · rw [if_pos (by simpa using h3)]
    simp (disch := omega) only [ie_lit, Int.cast_ofNat_Int, ie_add, ie_sub, ie_mul, ie_neg, ie_lt, ie_le, ie_eq, ie_nat, ie_ok, ib_z, ib_e, ib_1, lge_lt, lge_ge, lge_eq, lge_le, lge_gt]
    unfold oH hd
    rw [if_neg h3]
    simp only [h3, Bool.or_eq_true, Bool.and_eq_true, decide_eq_true_eq, false_or, Bool.false_or]
    by_cases h4 : x < 97
    · rw [if_pos h4, if_neg (by omega)]
    · rw [if_neg h4]
      by_cases h5 : 102 < x
      · rw [if_pos h5, if_neg (by omega)]
      · rw [if_neg h5, if_pos (by omega)]
theorem oH_rg {x : Int} (h : oH x = true) : 0 ≤ hd x ∧ hd x ≤ 15 := by
  unfold oH oD at h; unfold hd oD
  simp only [Bool.or_eq_true, Bool.and_eq_true, decide_eq_true_eq] at h ⊢
  split <;> omega
theorem oD_rg {x : Int} (h : oD x = true) : 48 ≤ x ∧ x ≤ 57 := by
  unfold oD at h; simpa only [Bool.and_eq_true, decide_eq_true_eq] using h
theorem oL_rg {x : Int} (h : oL x = true) : 97 ≤ x ∧ x ≤ 122 := by
  unfold oL at h; simpa only [Bool.and_eq_true, decide_eq_true_eq] using h
theorem sl_hx (o : Nat → Int) (a k : Nat) : hx (sl o a (k + 1)) = (hx (sl o a k) <<< 4) ||| je (hd (o (a + k))) := by
  unfold hx; rw [sl, List.foldl_append]; rfl
theorem sl_pk (o : Nat → Int) (a k : Nat) : pk (sl o a (k + 1)) = pk (sl o a k) * 37 + dg (o (a + k)) := by
  unfold pk; rw [sl, List.foldl_append]; rfl
theorem sl_nv (o : Nat → Int) (a k : Nat) : nv (sl o a (k + 1)) = nv (sl o a k) * 10 + (o (a + k) - 48) := by
  unfold nv; rw [sl, List.foldl_append]; rfl
theorem c_bits {o : Nat → Int} {n : Nat} {u : pm_J} (N : Nat) (g : pm_s) (ho : tx_o o n) (hu : cTx o n u) (a k : Nat) (hk : k = rl oH o 3001 (a + 1)) (ha : a < n) (m j f : Nat) (hm : j + m = k) (hf : m < f) :
    K_Tokens_scanBits_1_7 N g f (ie a) (hx (sl o (a + 1) j)) (ie ((a : Int) + 1 + j)) u = K_Tokens_scanBits_1_51 N g (ie a) (hx (sl o (a + 1) k)) (ie ((a : Int) + 1 + k)) u := by
  have hn := ho.1
  have hp : ∀ i, n ≤ i → oH (o i) = false := fun i hi => by rw [ho.2.1 i hi]; decide
  have hk2 : a + 1 + k ≤ n := by rw [hk]; exact rl_le oH o n 3001 (a + 1) hp (by omega)
  induction m generalizing j f with
  | zero =>
    obtain ⟨f, rfl⟩ : ∃ f', f = f' + 1 := ⟨f - 1, by omega⟩
    have hj : j = k := by omega
    subst hj
    rw [K_Tokens_scanBits_1_7, hu.1]
    simp (disch := omega) only [ie_lit, Int.cast_ofNat_Int, ie_add, ie_sub, ie_mul, ie_neg, ie_lt, ie_le, ie_eq, ie_nat, ie_ok, ib_z, ib_e, ib_1, lge_lt, lge_ge, lge_eq, lge_le, lge_gt]
    by_cases h : n ≤ a + 1 + j
    · rw [if_pos (by omega)]
    · have he : oH (o (a + 1 + j)) = false := by rw [hk]; exact rl_end oH o n 3001 (a + 1) hp (by omega)
      rw [if_neg (by omega), show ((a : Int) + 1 + j) = ((a + 1 + j : Nat) : Int) by omega, c_octet g ho hu _ (by omega), Option.bind_some, c_hexD _ g u (tx_rg ho _).1 (tx_rg ho _).2, Option.bind_some, he]
      rfl
  | succ m ih =>
    obtain ⟨f, rfl⟩ : ∃ f', f = f' + 1 := ⟨f - 1, by omega⟩
    have he : oH (o (a + 1 + j)) = true := rl_all oH o 3001 (a + 1) j (by omega)
    have h15 := oH_rg he
    rw [K_Tokens_scanBits_1_7, hu.1]
    simp (disch := omega) only [ie_lit, Int.cast_ofNat_Int, ie_add, ie_sub, ie_mul, ie_neg, ie_lt, ie_le, ie_eq, ie_nat, ie_ok, ib_z, ib_e, ib_1, lge_lt, lge_ge, lge_eq, lge_le, lge_gt]
    rw [if_neg (by omega), show ((a : Int) + 1 + j) = ((a + 1 + j : Nat) : Int) by omega, c_octet g ho hu _ (by omega), Option.bind_some, c_hexD _ g u (tx_rg ho _).1 (tx_rg ho _).2, Option.bind_some, if_pos he]
    simp (disch := omega) only [ie_lit, Int.cast_ofNat_Int, ie_add, ie_sub, ie_mul, ie_neg, ie_lt, ie_le, ie_eq, ie_nat, ie_ok, ib_z, ib_e, ib_1, lge_lt, lge_ge, lge_eq, lge_le, lge_gt]
    rw [if_neg (by omega)]
    simp only [Option.bind_some, c_hexD _ g u (tx_rg ho _).1 (tx_rg ho _).2, if_pos he]
    simp only [ie_je _ (show -2147483648 ≤ hd (o (a + 1 + j)) by omega) (show hd (o (a + 1 + j)) < 2147483648 by omega), ie_je 4 (by omega) (by omega), show (je 4 &&& 63) = 4 from rfl]
    have := ih (j + 1) f (by omega) (by omega)
    rw [sl_hx] at this
    rw [show ((a + 1 + j : Nat) : Int) + 1 = (a : Int) + 1 + (j + 1 : Nat) by omega]
    exact this
