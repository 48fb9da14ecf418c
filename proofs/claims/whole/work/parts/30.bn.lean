set_option maxRecDepth 100000
theorem sh_am : ∀ j : Fin 31, (((BitVec.ofNat 32 j.1) &&& 31#32) % 32#32).toNat = j.1 ∧ (((BitVec.ofNat 32 j.1) &&& 31#32).smod 32#32).toNat = j.1 := by decide
theorem shC (a j : Nat) (ha : a < 2147483648) (hj : j ≤ 30) : ((ie (a : Nat)).toUInt32 >>> ((ie (j : Nat)).toUInt32 &&& Int32.toUInt32 31)).toInt32 = ie ((a / 2 ^ j : Nat) : Int) := by
  apply Int32.toBitVec_inj.mp
  show (BitVec.ofInt 32 (a : Nat)) >>> (((BitVec.ofInt 32 (j : Nat)) &&& 31#32) % 32#32).toNat = BitVec.ofInt 32 ((a / 2 ^ j : Nat) : Int)
  rw [BitVec.ofInt_natCast, BitVec.ofInt_natCast, BitVec.ofInt_natCast, (sh_am ⟨j, by omega⟩).1]
  apply BitVec.eq_of_toNat_eq
  have hle : a / 2 ^ j ≤ a := Nat.div_le_self _ _
  rw [BitVec.toNat_ushiftRight, BitVec.toNat_ofNat, BitVec.toNat_ofNat, Nat.mod_eq_of_lt (show a < 2 ^ 32 by omega), Nat.mod_eq_of_lt (show a / 2 ^ j < 2 ^ 32 by omega), Nat.shiftRight_eq_div_pow]
theorem shR (a j : Nat) (ha : a < 2147483648) (hj : j ≤ 30) : (ie (a : Nat)) >>> (ie (j : Nat) &&& 31) = ie ((a / 2 ^ j : Nat) : Int) := by
  apply Int32.toBitVec_inj.mp
  show (BitVec.ofInt 32 (a : Nat)).sshiftRight (((BitVec.ofInt 32 (j : Nat)) &&& 31#32).smod 32#32).toNat = BitVec.ofInt 32 ((a / 2 ^ j : Nat) : Int)
  rw [BitVec.ofInt_natCast, BitVec.ofInt_natCast, BitVec.ofInt_natCast, (sh_am ⟨j, by omega⟩).2]
  have hm : (BitVec.ofNat 32 a).msb = false := by
    rw [BitVec.msb_eq_false_iff_two_mul_lt, BitVec.toNat_ofNat, Nat.mod_eq_of_lt (show a < 2 ^ 32 by omega)]; omega
  rw [BitVec.sshiftRight_eq_of_msb_false hm]
  apply BitVec.eq_of_toNat_eq
  have hle : a / 2 ^ j ≤ a := Nat.div_le_self _ _
  rw [BitVec.toNat_ushiftRight, BitVec.toNat_ofNat, BitVec.toNat_ofNat, Nat.mod_eq_of_lt (show a < 2 ^ 32 by omega), Nat.mod_eq_of_lt (show a / 2 ^ j < 2 ^ 32 by omega), Nat.shiftRight_eq_div_pow]
theorem an1 (a : Nat) (ha : a < 2147483648) : ie (a : Nat) &&& 1 = ie ((a % 2 : Nat) : Int) := by
  apply Int32.toBitVec_inj.mp
  show (BitVec.ofInt 32 (a : Nat)) &&& 1#32 = BitVec.ofInt 32 ((a % 2 : Nat) : Int)
  rw [BitVec.ofInt_natCast, BitVec.ofInt_natCast]
  apply BitVec.eq_of_toNat_eq
  rw [BitVec.toNat_and, BitVec.toNat_ofNat, BitVec.toNat_ofNat, BitVec.toNat_ofNat, Nat.mod_eq_of_lt (show a < 2 ^ 32 by omega), Nat.mod_eq_of_lt (show a % 2 < 2 ^ 32 by omega)]
  exact Nat.and_one_is_mod a
theorem bitC (a j : Nat) (ha : a < 2147483648) (hj : j ≤ 30) : ((((ie (a : Nat)).toUInt32 >>> ((ie (j : Nat)).toUInt32 &&& Int32.toUInt32 31)).toInt32) &&& 1 = 0) ↔ a / 2 ^ j % 2 = 0 := by
  have hle : a / 2 ^ j ≤ a := Nat.div_le_self _ _
  rw [shC a j ha hj, an1 _ (by omega)]
  exact ⟨fun h => (ineq _ 0 (by omega) (by omega)).mp h, fun h => by rw [h]; rfl⟩
theorem bitR (a j : Nat) (ha : a < 2147483648) (hj : j ≤ 30) : (((ie (a : Nat)) >>> (ie (j : Nat) &&& 31)) &&& 1 = 1) ↔ a / 2 ^ j % 2 = 1 := by
  have hle : a / 2 ^ j ≤ a := Nat.div_le_self _ _
  rw [shR a j ha hj, an1 _ (by omega)]
  exact ⟨fun h => (ineq _ 1 (by omega) (by omega)).mp h, fun h => by rw [h]; rfl⟩
/-! how many bits a place has -/
theorem lz_61 (N : Nat) (g : pm_s) (u : pm_J) (x s : Nat) (h1 : 1 ≤ x) (h2 : x < 16) (hs : s ≤ 28) : ∃ L, L ≤ 3 ∧ 2 ^ L ≤ x ∧ x < 2 ^ (L + 1) ∧ K_Integer_numberOfLeadingZeros_61 N g u (ie (x : Nat)) (ie (31 - (s : Int))) = some (ie (31 - ((s + L : Nat) : Int))) := by
  unfold K_Integer_numberOfLeadingZeros_61
  by_cases e : x < 4
  · have hc : ((ie (x : Nat)).toUInt32 >>> ((1 : Int32).toUInt32 &&& Int32.toUInt32 31)).toInt32 = ie ((x / 2 ^ 1 : Nat) : Int) := shC x 1 (by omega) (by omega)
    rw [if_pos (show ie (x : Nat) < (4 : Int32) from (inlt x 4 (by omega) (by omega)).mpr e), hc, ie_sub]
    refine ⟨x / 2, by omega, ?_, ?_, ?_⟩
    · rcases (show x = 1 ∨ x = 2 ∨ x = 3 by omega) with rfl | rfl | rfl <;> decide
    · rcases (show x = 1 ∨ x = 2 ∨ x = 3 by omega) with rfl | rfl | rfl <;> decide
    · congr 2
      have : x / 2 ^ 1 = x / 2 := rfl
      rw [this]; omega
  · have hc : ((ie (x : Nat)).toUInt32 >>> ((2 : Int32).toUInt32 &&& Int32.toUInt32 31)).toInt32 = ie ((x / 2 ^ 2 : Nat) : Int) := shC x 2 (by omega) (by omega)
    have hle : x / 2 ^ 2 ≤ x := Nat.div_le_self _ _
    have hc2 : ((ie ((x / 2 ^ 2 : Nat) : Int)).toUInt32 >>> ((1 : Int32).toUInt32 &&& Int32.toUInt32 31)).toInt32 = ie ((x / 2 ^ 2 / 2 ^ 1 : Nat) : Int) := shC (x / 2 ^ 2) 1 (by omega) (by omega)
    rw [if_neg (show ¬ (ie (x : Nat) < (4 : Int32)) from fun hh => e ((inlt x 4 (by omega) (by omega)).mp hh)), hc, hc2, show (-2 : Int32) = ie (-2) from rfl, ie_add, ie_sub]
    refine ⟨2 + x / 8, by omega, ?_, ?_, ?_⟩
    · rcases (show x / 8 = 0 ∨ x / 8 = 1 by omega) with h | h <;> rw [h] <;> omega
    · rcases (show x / 8 = 0 ∨ x / 8 = 1 by omega) with h | h <;> rw [h] <;> omega
    · congr 2
      have : x / 2 ^ 2 / 2 ^ 1 = x / 8 := by rw [Nat.div_div_eq_div_mul]
      rw [this]; omega
theorem lz_33 (N : Nat) (g : pm_s) (u : pm_J) (x s : Nat) (h1 : 1 ≤ x) (h2 : x < 65536) (hs : s ≤ 16) : ∃ L, L ≤ 15 ∧ 2 ^ L ≤ x ∧ x < 2 ^ (L + 1) ∧ K_Integer_numberOfLeadingZeros_33 N g u (ie (x : Nat)) (ie (31 - (s : Int))) = some (ie (31 - ((s + L : Nat) : Int))) := by
  unfold K_Integer_numberOfLeadingZeros_33
  by_cases e : x < 256
  · rw [if_pos (show ie (x : Nat) < (256 : Int32) from (inlt x 256 (by omega) (by omega)).mpr e)]
    by_cases e2 : x < 16
    · rw [if_pos (show ie (x : Nat) < (16 : Int32) from (inlt x 16 (by omega) (by omega)).mpr e2)]
      obtain ⟨L, l1, l2, l3, l4⟩ := lz_61 N g u x s h1 e2 (by omega)
      exact ⟨L, by omega, l2, l3, l4⟩
    · rw [if_neg (show ¬ (ie (x : Nat) < (16 : Int32)) from fun hh => e2 ((inlt x 16 (by omega) (by omega)).mp hh))]
      have hc : ((ie (x : Nat)).toUInt32 >>> ((4 : Int32).toUInt32 &&& Int32.toUInt32 31)).toInt32 = ie ((x / 2 ^ 4 : Nat) : Int) := shC x 4 (by omega) (by omega)
      obtain ⟨L, l1, l2, l3, l4⟩ := lz_61 N g u (x / 2 ^ 4) (s + 4) (by omega) (by omega) (by omega)
      rw [hc, show (-4 : Int32) = ie (-4) from rfl, ie_add, show (31 - (s : Int) + -4) = 31 - ((s + 4 : Nat) : Int) by omega, l4]
      refine ⟨L + 4, by omega, ?_, ?_, by congr 2; omega⟩
      · rcases (show L = 0 ∨ L = 1 ∨ L = 2 ∨ L = 3 by omega) with rfl | rfl | rfl | rfl <;> omega
      · rcases (show L = 0 ∨ L = 1 ∨ L = 2 ∨ L = 3 by omega) with rfl | rfl | rfl | rfl <;> omega
  · rw [if_neg (show ¬ (ie (x : Nat) < (256 : Int32)) from fun hh => e ((inlt x 256 (by omega) (by omega)).mp hh))]
    have hc : ((ie (x : Nat)).toUInt32 >>> ((8 : Int32).toUInt32 &&& Int32.toUInt32 31)).toInt32 = ie ((x / 2 ^ 8 : Nat) : Int) := shC x 8 (by omega) (by omega)
    rw [hc]
    by_cases e2 : x / 2 ^ 8 < 16
    · rw [if_pos (show ie ((x / 2 ^ 8 : Nat) : Int) < (16 : Int32) from (inlt _ 16 (by omega) (by omega)).mpr e2)]
      obtain ⟨L, l1, l2, l3, l4⟩ := lz_61 N g u (x / 2 ^ 8) (s + 8) (by omega) (by omega) (by omega)
      rw [show (-8 : Int32) = ie (-8) from rfl, ie_add, show (31 - (s : Int) + -8) = 31 - ((s + 8 : Nat) : Int) by omega, l4]
      refine ⟨L + 8, by omega, ?_, ?_, by congr 2; omega⟩
      · rcases (show L = 0 ∨ L = 1 ∨ L = 2 ∨ L = 3 by omega) with rfl | rfl | rfl | rfl <;> omega
      · rcases (show L = 0 ∨ L = 1 ∨ L = 2 ∨ L = 3 by omega) with rfl | rfl | rfl | rfl <;> omega
    · rw [if_neg (show ¬ (ie ((x / 2 ^ 8 : Nat) : Int) < (16 : Int32)) from fun hh => e2 ((inlt _ 16 (by omega) (by omega)).mp hh))]
      have hc2 : ((ie ((x / 2 ^ 8 : Nat) : Int)).toUInt32 >>> ((4 : Int32).toUInt32 &&& Int32.toUInt32 31)).toInt32 = ie ((x / 2 ^ 8 / 2 ^ 4 : Nat) : Int) := shC (x / 2 ^ 8) 4 (by omega) (by omega)
      obtain ⟨L, l1, l2, l3, l4⟩ := lz_61 N g u (x / 2 ^ 8 / 2 ^ 4) (s + 12) (by omega) (by omega) (by omega)
      rw [hc2, show (-8 : Int32) = ie (-8) from rfl, show (-4 : Int32) = ie (-4) from rfl, ie_add, ie_add, show (31 - (s : Int) + -8 + -4) = 31 - ((s + 12 : Nat) : Int) by omega, l4]
      refine ⟨L + 12, by omega, ?_, ?_, by congr 2; omega⟩
      · rcases (show L = 0 ∨ L = 1 ∨ L = 2 ∨ L = 3 by omega) with rfl | rfl | rfl | rfl <;> omega
      · rcases (show L = 0 ∨ L = 1 ∨ L = 2 ∨ L = 3 by omega) with rfl | rfl | rfl | rfl <;> omega
theorem c_len (N : Nat) (g : pm_s) (u : pm_J) (a : Nat) (h1 : 1 ≤ a) (h2 : a < 2147483648) : ∃ L, L ≤ 30 ∧ 2 ^ L ≤ a ∧ a < 2 ^ (L + 1) ∧ F_Machine_lengthOf N (ie (a : Nat)) g u = some (ie (L : Nat)) := by
  unfold F_Machine_lengthOf F_Integer_numberOfLeadingZeros
  rw [if_pos (show (0 : Int32) < ie (a : Nat) from (inlt 0 a (by omega) (by omega)).mpr (by omega))]
  by_cases e : a < 65536
  · rw [if_pos (show ie (a : Nat) < (65536 : Int32) from (inlt a 65536 (by omega) (by omega)).mpr e)]
    obtain ⟨L, l1, l2, l3, l4⟩ := lz_33 N g u a 0 h1 e (by omega)
    have l4' : K_Integer_numberOfLeadingZeros_33 N g u (ie (a : Nat)) 31 = some (ie (31 - ((0 + L : Nat) : Int))) := l4
    refine ⟨L, by omega, l2, l3, ?_⟩
    rw [l4', Option.bind_some, show (31 : Int32) = ie 31 from rfl, ie_sub]
    congr 2; omega
  · rw [if_neg (show ¬ (ie (a : Nat) < (65536 : Int32)) from fun hh => e ((inlt a 65536 (by omega) (by omega)).mp hh))]
    have hc : ((ie (a : Nat)).toUInt32 >>> ((16 : Int32).toUInt32 &&& Int32.toUInt32 31)).toInt32 = ie ((a / 2 ^ 16 : Nat) : Int) := shC a 16 (by omega) (by omega)
    obtain ⟨L, l1, l2, l3, l4⟩ := lz_33 N g u (a / 2 ^ 16) 16 (by omega) (by omega) (by omega)
    have l4' : K_Integer_numberOfLeadingZeros_33 N g u (ie ((a / 2 ^ 16 : Nat) : Int)) (31 + (-16)) = some (ie (31 - ((16 + L : Nat) : Int))) := l4
    have hL : L ≤ 14 := by
      by_cases eL : L ≤ 14
      · exact eL
      · exfalso
        have : L = 15 := by omega
        subst this; omega
    refine ⟨L + 16, by omega, ?_, ?_, ?_⟩
    · rw [Nat.pow_add]; exact Nat.le_trans (Nat.mul_le_mul_right (2 ^ 16) l2) (Nat.div_mul_le_self a (2 ^ 16))
    · rw [show L + 16 + 1 = (L + 1) + 16 by omega, Nat.pow_add]
      exact (Nat.div_lt_iff_lt_mul (by decide)).mp l3
    · rw [hc, l4', Option.bind_some, show (31 : Int32) = ie 31 from rfl, ie_sub]
      congr 2; omega
