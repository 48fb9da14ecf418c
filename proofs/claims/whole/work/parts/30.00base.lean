set_option maxRecDepth 100000
def ie (x : Int) : Int32 := Int32.ofInt x
def je (x : Int) : Int64 := Int64.ofInt x
theorem ie_lit (n : Nat) : (@OfNat.ofNat Int32 n _) = ie (n : Int) := by
  show Int32.ofNat n = Int32.ofInt n
  exact (Int32.ofInt_eq_ofNat).symm
theorem ie_add (a b : Int) : ie a + ie b = ie (a + b) := (Int32.ofInt_add a b).symm
theorem ie_sub (a b : Int) : ie a - ie b = ie (a - b) := (Int32.ofInt_sub a b).symm
theorem ie_mul (a b : Int) : ie a * ie b = ie (a * b) := (Int32.ofInt_mul a b).symm
theorem ie_neg (a : Int) : - ie a = ie (-a) := (Int32.ofInt_neg a).symm
theorem ie_toInt (a : Int) (h : -2147483648 ≤ a) (h2 : a < 2147483648) : (ie a).toInt = a := by
  rw [ie, Int32.toInt_ofInt]
  exact Int.bmod_eq_of_le (by simp [Int32.size]; omega) (by simp [Int32.size]; omega)
theorem ie_lt (a b : Int) (h : -2147483648 ≤ a) (h2 : a < 2147483648) (h3 : -2147483648 ≤ b) (h4 : b < 2147483648) : ie a < ie b ↔ a < b := by
  rw [Int32.lt_iff_toInt_lt, ie_toInt a h h2, ie_toInt b h3 h4]
theorem ie_le (a b : Int) (h : -2147483648 ≤ a) (h2 : a < 2147483648) (h3 : -2147483648 ≤ b) (h4 : b < 2147483648) : ie a ≤ ie b ↔ a ≤ b := by
  rw [Int32.le_iff_toInt_le, ie_toInt a h h2, ie_toInt b h3 h4]
theorem ie_eq (a b : Int) (h : -2147483648 ≤ a) (h2 : a < 2147483648) (h3 : -2147483648 ≤ b) (h4 : b < 2147483648) : ie a = ie b ↔ a = b := by
  rw [← Int32.toInt_inj, ie_toInt a h h2, ie_toInt b h3 h4]
theorem ie_nat (a : Int) (h : -2147483648 ≤ a) (h2 : a < 2147483648) : (ie a).toNatClampNeg = a.toNat := by
  rw [Int32.toNatClampNeg, ie_toInt a h h2]
theorem ie_ok (a : Int) (n : Nat) (h : -2147483648 ≤ a) (h2 : a < 2147483648) : (pm_ok (ie a) n = true) ↔ (0 ≤ a ∧ a < n) := by
  have h0 : (0 : Int32) = ie 0 := ie_lit 0
  rw [pm_ok, ie_nat a h h2, h0]
  simp only [ie_lt a 0 h h2 (by omega) (by omega), Bool.not_eq_true', Bool.or_eq_false_iff, decide_eq_false_iff_not]
  omega
theorem ie_of (x : Int32) : ie x.toInt = x := Int32.ofInt_toInt x
theorem ie_ge (x : Int32) : -2147483648 ≤ x.toInt := by have := Int32.le_toInt x; simpa using this
theorem ie_gt (x : Int32) : x.toInt < 2147483648 := by have := Int32.toInt_lt x; simpa using this
theorem je_lit (n : Nat) : (@OfNat.ofNat Int64 n _) = je (n : Int) := by
  show Int64.ofNat n = Int64.ofInt n
  exact (Int64.ofInt_eq_ofNat).symm
theorem je_add (a b : Int) : je a + je b = je (a + b) := (Int64.ofInt_add a b).symm
theorem je_sub (a b : Int) : je a - je b = je (a - b) := (Int64.ofInt_sub a b).symm
theorem je_mul (a b : Int) : je a * je b = je (a * b) := (Int64.ofInt_mul a b).symm
theorem je_neg (a : Int) : - je a = je (-a) := (Int64.ofInt_neg a).symm
theorem je_toInt (a : Int) (h : -9223372036854775808 ≤ a) (h2 : a < 9223372036854775808) : (je a).toInt = a := by
  rw [je, Int64.toInt_ofInt]
  exact Int.bmod_eq_of_le (by simp [Int64.size]; omega) (by simp [Int64.size]; omega)
theorem je_eq (a b : Int) (h : -9223372036854775808 ≤ a) (h2 : a < 9223372036854775808) (h3 : -9223372036854775808 ≤ b) (h4 : b < 9223372036854775808) : je a = je b ↔ a = b := by
  rw [← Int64.toInt_inj, je_toInt a h h2, je_toInt b h3 h4]
theorem je_lt (a b : Int) (h : -9223372036854775808 ≤ a) (h2 : a < 9223372036854775808) (h3 : -9223372036854775808 ≤ b) (h4 : b < 9223372036854775808) : je a < je b ↔ a < b := by
  rw [Int64.lt_iff_toInt_lt, je_toInt a h h2, je_toInt b h3 h4]
theorem ie_je (a : Int) (h : -2147483648 ≤ a) (h2 : a < 2147483648) : (ie a).toInt64 = je a := by
  rw [← Int64.toInt_inj, Int32.toInt_toInt64, ie_toInt a h h2, je_toInt a (by omega) (by omega)]
theorem je_ie (a : Int) (h : -9223372036854775808 ≤ a) (h2 : a < 9223372036854775808) : (je a).toInt32 = ie a := by
  rw [← Int32.toInt_inj, Int64.toInt_toInt32, je_toInt a h h2, ie, Int32.toInt_ofInt]
theorem je_of (x : Int64) : je x.toInt = x := Int64.ofInt_toInt x
theorem lg_lt0 (a b : Int64) : (lg_cmp a b < 0) ↔ a < b := by
  unfold lg_cmp
  by_cases h : a > b
  · rw [if_pos h]; constructor
    · intro h1; exact absurd h1 (by decide)
    · intro h1; exact absurd (Int64.lt_iff_toInt_lt.mp h1) (by have := Int64.lt_iff_toInt_lt.mp h; omega)
  · rw [if_neg h]
    by_cases h1 : a = b
    · rw [if_pos h1, h1]; constructor
      · intro h2; exact absurd h2 (by decide)
      · intro h2; exact absurd (Int64.lt_iff_toInt_lt.mp h2) (by omega)
    · rw [if_neg h1]; constructor
      · intro _; rw [Int64.lt_iff_toInt_lt]; have a1 : ¬ b.toInt < a.toInt := fun hh => h (Int64.lt_iff_toInt_lt.mpr hh); have a2 : a.toInt ≠ b.toInt := fun hh => h1 (Int64.toInt_inj.mp hh); omega
      · intro _; decide
theorem lg_ge0 (a b : Int64) : (0 ≤ lg_cmp a b) ↔ ¬ a < b := by
  rw [← lg_lt0 a b, Int32.le_iff_toInt_le, Int32.lt_iff_toInt_lt]; omega
theorem lg_eq0 (a b : Int64) : (lg_cmp a b = 0) ↔ a = b := by
  unfold lg_cmp
  by_cases h : a > b
  · rw [if_pos h]; constructor
    · intro h1; exact absurd h1 (by decide)
    · intro h1; subst h1; exact absurd (Int64.lt_iff_toInt_lt.mp h) (by omega)
  · rw [if_neg h]
    by_cases h1 : a = b
    · rw [if_pos h1]; exact ⟨fun _ => h1, fun _ => rfl⟩
    · rw [if_neg h1]; exact ⟨fun h2 => absurd h2 (by decide), fun h2 => absurd h2 h1⟩
theorem lg_le0 (a b : Int64) : (lg_cmp a b ≤ 0) ↔ ¬ b < a := by
  unfold lg_cmp
  by_cases h : a > b
  · rw [if_pos h]; exact ⟨fun h1 => absurd h1 (by decide), fun h1 => absurd h h1⟩
  · rw [if_neg h]; refine ⟨fun _ => h, fun _ => ?_⟩
    by_cases h1 : a = b
    · rw [if_pos h1]; decide
    · rw [if_neg h1]; decide
theorem lg_gt0 (a b : Int64) : (0 < lg_cmp a b) ↔ b < a := by
  have := lg_le0 a b; rw [Int32.le_iff_toInt_le] at this; rw [Int32.lt_iff_toInt_lt]
  constructor
  · intro h; apply Decidable.byContradiction; intro h2; have := this.mpr h2; omega
  · intro h; apply Decidable.byContradiction; intro h2; exact this.mp (by omega) h
theorem wi_1 (u : pm_J) (a k : Nat) (v : Int32) (x y : Nat) : (wi u a k v).1 x y = if x = a ∧ y = k then v else u.1 x y := rfl
theorem wi_2 (u : pm_J) (a k : Nat) (v : Int32) : (wi u a k v).2 = u.2 := rfl
theorem wj_1 (u : pm_J) (a k : Nat) (v : Int64) : (wj u a k v).1 = u.1 := rfl
theorem wj_2 (u : pm_J) (a k : Nat) (v : Int64) (x y : Nat) : (wj u a k v).2 x y = if x = a ∧ y = k then v else u.2 x y := rfl
def zw {α : Type} (o : Option α) (Q : α → Prop) : Prop := ∃ a, o = some a ∧ Q a
theorem zw_some {α : Type} (a : α) (Q : α → Prop) : zw (some a) Q ↔ Q a := by
  constructor
  · intro h; obtain ⟨b, h1, q⟩ := h; cases h1; exact q
  · intro q; exact ⟨a, rfl, q⟩
theorem zw_bind {α β : Type} (o : Option α) (f : α → Option β) (Q : β → Prop) : zw (o.bind f) Q ↔ zw o (fun a => zw (f a) Q) := by
  cases o with
  | none => simp [zw]
  | some a => simp [zw]
theorem zw_mono {α : Type} {o : Option α} {P Q : α → Prop} (h : zw o P) (hq : ∀ a, P a → Q a) : zw o Q := by
  obtain ⟨a, h1, h2⟩ := h; exact ⟨a, h1, hq a h2⟩
theorem zw_seq {α β : Type} {o : Option α} {f : α → Option β} {P : α → Prop} {Q : β → Prop} (h : zw o P) (hq : ∀ a, P a → zw (f a) Q) : zw (o.bind f) Q :=
  (zw_bind o f Q).mpr (zw_mono h hq)
theorem zw_eq {α : Type} {o : Option α} {a : α} {Q : α → Prop} (h : o = some a) (q : Q a) : zw o Q := ⟨a, h, q⟩
theorem zw_ite {α : Type} {c : Prop} [Decidable c] {a b : Option α} {Q : α → Prop} (h1 : c → zw a Q) (h2 : ¬ c → zw b Q) : zw (if c then a else b) Q := by
  by_cases h : c
  · rw [if_pos h]; exact h1 h
  · rw [if_neg h]; exact h2 h
def pu_upd {α : Type} (f : Nat → α) (k : Nat) (v : α) : Nat → α := fun i => if i = k then v else f i
theorem upd_same {α : Type} (f : Nat → α) (k : Nat) (v : α) : pu_upd f k v k = v := if_pos rfl
theorem upd_ne {α : Type} (f : Nat → α) (k : Nat) (v : α) (i : Nat) (h : i ≠ k) : pu_upd f k v i = f i := if_neg h
def ib (b : Bool) : Int32 := if b = true then 1 else 0
theorem ib_z (b : Bool) : (ib b = 0) ↔ b = false := by cases b <;> decide
theorem ib_e (b : Bool) : (ib b = ie 0) ↔ b = false := by cases b <;> decide
theorem ib_1 (b : Bool) : (ib b = ie 1) ↔ b = true := by cases b <;> decide
theorem ib_t : ib true = ie 1 := rfl
theorem ib_f : ib false = ie 0 := rfl
theorem ib_ok (b : Bool) : ((ib b == 0 || ib b == 1) = true) ↔ True := by cases b <;> decide
theorem ib_ok2 (b : Bool) : ((ib b == ie 0 || ib b == ie 1) = true) ↔ True := by cases b <;> decide
theorem lge_lt (a b : Int64) : (lg_cmp a b < ie 0) ↔ a < b := lg_lt0 a b
theorem lge_ge (a b : Int64) : (ie 0 ≤ lg_cmp a b) ↔ ¬ a < b := lg_ge0 a b
theorem lge_eq (a b : Int64) : (lg_cmp a b = ie 0) ↔ a = b := lg_eq0 a b
theorem lge_le (a b : Int64) : (lg_cmp a b ≤ ie 0) ↔ ¬ b < a := lg_le0 a b
theorem lge_gt (a b : Int64) : (ie 0 < lg_cmp a b) ↔ b < a := lg_gt0 a b
