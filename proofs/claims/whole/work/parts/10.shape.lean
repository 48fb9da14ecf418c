/-! the memory when both objects stand: 140 cells; what changes of its shape: cells, slots, where the six rows of TYPES begin, how long they are -/
abbrev pm_s : Type := Nat × Nat × Nat × Nat
abbrev pm_J : Type := (Nat → Nat → Int32) × (Nat → Nat → Int64)
def sh_k (a : Nat) : Nat := (cond (Nat.blt a 70) (cond (Nat.blt a 35) (cond (Nat.blt a 17) (cond (Nat.blt a 8) (cond (Nat.blt a 4) (cond (Nat.blt a 2) (cond (Nat.blt a 1) 0 100) (cond (Nat.blt a 3) 101 3)) (cond (Nat.blt a 6) (cond (Nat.blt a 5) 3 9) 100)) (cond (Nat.blt a 12) (cond (Nat.blt a 10) 101 (cond (Nat.blt a 11) 11 100)) 100)) (cond (Nat.blt a 26) (cond (Nat.blt a 21) (cond (Nat.blt a 19) (cond (Nat.blt a 18) 100 10) 100) 100) (cond (Nat.blt a 30) (cond (Nat.blt a 28) (cond (Nat.blt a 27) 101 102) (cond (Nat.blt a 29) 100 8)) (cond (Nat.blt a 32) (cond (Nat.blt a 31) 101 100) 100)))) (cond (Nat.blt a 52) (cond (Nat.blt a 43) (cond (Nat.blt a 39) 100 (cond (Nat.blt a 41) (cond (Nat.blt a 40) 7 101) 100)) (cond (Nat.blt a 47) (cond (Nat.blt a 45) (cond (Nat.blt a 44) 2 6) (cond (Nat.blt a 46) 5 100)) (cond (Nat.blt a 49) 101 (cond (Nat.blt a 50) 100 (cond (Nat.blt a 51) 100 101))))) (cond (Nat.blt a 61) (cond (Nat.blt a 56) (cond (Nat.blt a 54) (cond (Nat.blt a 53) 1 100) (cond (Nat.blt a 55) 100 101)) (cond (Nat.blt a 58) (cond (Nat.blt a 57) 101 4) 100)) (cond (Nat.blt a 65) (cond (Nat.blt a 63) 100 (cond (Nat.blt a 64) 101 12)) (cond (Nat.blt a 67) 100 (cond (Nat.blt a 68) 100 (cond (Nat.blt a 69) 100 101))))))) (cond (Nat.blt a 105) (cond (Nat.blt a 87) (cond (Nat.blt a 78) (cond (Nat.blt a 74) (cond (Nat.blt a 72) (cond (Nat.blt a 71) 102 100) 100) 100) 100) (cond (Nat.blt a 96) (cond (Nat.blt a 91) (cond (Nat.blt a 89) 100 (cond (Nat.blt a 90) 102 100)) 100) (cond (Nat.blt a 100) 100 (cond (Nat.blt a 102) 100 (cond (Nat.blt a 103) 102 100))))) (cond (Nat.blt a 122) (cond (Nat.blt a 113) (cond (Nat.blt a 109) 100 (cond (Nat.blt a 111) 100 (cond (Nat.blt a 112) 100 102))) (cond (Nat.blt a 117) (cond (Nat.blt a 115) (cond (Nat.blt a 114) 100 101) (cond (Nat.blt a 116) 102 100)) (cond (Nat.blt a 119) 100 (cond (Nat.blt a 120) 100 (cond (Nat.blt a 121) 101 100))))) (cond (Nat.blt a 131) (cond (Nat.blt a 126) (cond (Nat.blt a 124) (cond (Nat.blt a 123) 101 102) 100) (cond (Nat.blt a 128) 100 (cond (Nat.blt a 129) 101 (cond (Nat.blt a 130) 100 101)))) (cond (Nat.blt a 135) (cond (Nat.blt a 133) (cond (Nat.blt a 132) 101 100) 100) (cond (Nat.blt a 137) (cond (Nat.blt a 136) 100 101) (cond (Nat.blt a 138) 100 101)))))))
def sh_l (a : Nat) : Nat := (cond (Nat.blt a 70) (cond (Nat.blt a 35) (cond (Nat.blt a 17) (cond (Nat.blt a 8) (cond (Nat.blt a 4) (cond (Nat.blt a 2) (cond (Nat.blt a 1) 0 3000) (cond (Nat.blt a 3) 6 0)) (cond (Nat.blt a 6) 0 900)) (cond (Nat.blt a 12) (cond (Nat.blt a 10) (cond (Nat.blt a 9) 900 10) (cond (Nat.blt a 11) 0 2048)) 2048)) (cond (Nat.blt a 26) (cond (Nat.blt a 21) (cond (Nat.blt a 19) (cond (Nat.blt a 18) 1024 0) 1800) 1800) (cond (Nat.blt a 30) (cond (Nat.blt a 28) 1800 (cond (Nat.blt a 29) 7200 0)) 30))) (cond (Nat.blt a 52) (cond (Nat.blt a 43) (cond (Nat.blt a 39) (cond (Nat.blt a 37) (cond (Nat.blt a 36) 30 720) (cond (Nat.blt a 38) 720 180)) (cond (Nat.blt a 41) (cond (Nat.blt a 40) 0 24) (cond (Nat.blt a 42) 24 200))) (cond (Nat.blt a 47) (cond (Nat.blt a 45) 0 (cond (Nat.blt a 46) 0 4000)) (cond (Nat.blt a 49) 4000 (cond (Nat.blt a 50) 4000 (cond (Nat.blt a 51) 6 60000))))) (cond (Nat.blt a 61) (cond (Nat.blt a 56) (cond (Nat.blt a 54) (cond (Nat.blt a 53) 0 1000) 1000) (cond (Nat.blt a 58) (cond (Nat.blt a 57) 1000 0) 150)) (cond (Nat.blt a 65) (cond (Nat.blt a 63) 150 (cond (Nat.blt a 64) 900 0)) (cond (Nat.blt a 67) (cond (Nat.blt a 66) 3000 902) 902))))) (cond (Nat.blt a 105) (cond (Nat.blt a 87) (cond (Nat.blt a 78) (cond (Nat.blt a 74) 100000 (cond (Nat.blt a 76) 100000 (cond (Nat.blt a 77) 8192 2400))) 2400) (cond (Nat.blt a 96) (cond (Nat.blt a 91) (cond (Nat.blt a 89) 2400 (cond (Nat.blt a 90) 2400 9600)) 30) (cond (Nat.blt a 100) (cond (Nat.blt a 98) 30 180) (cond (Nat.blt a 102) (cond (Nat.blt a 101) 720 100000) (cond (Nat.blt a 103) 100000 400))))) (cond (Nat.blt a 122) (cond (Nat.blt a 113) (cond (Nat.blt a 109) (cond (Nat.blt a 107) 6000 (cond (Nat.blt a 108) 6000 2400)) (cond (Nat.blt a 111) (cond (Nat.blt a 110) 900 64) (cond (Nat.blt a 112) 64 2400))) (cond (Nat.blt a 117) (cond (Nat.blt a 115) 60000 4000) 4000)) (cond (Nat.blt a 131) (cond (Nat.blt a 126) (cond (Nat.blt a 124) (cond (Nat.blt a 123) 4000 150) 150) (cond (Nat.blt a 128) 150 (cond (Nat.blt a 129) 150 1000))) (cond (Nat.blt a 135) (cond (Nat.blt a 133) (cond (Nat.blt a 132) 6 9000) 9000) (cond (Nat.blt a 137) 9000 (cond (Nat.blt a 138) 9000 (cond (Nat.blt a 139) 9000 1))))))))
def sh_r (t a k : Nat) : Option Nat := (cond (Nat.beq a 0) (cond (Nat.blt k 7) (cond (Nat.blt k 3) (cond (Nat.blt k 1) (some 1) none) (cond (Nat.blt k 5) (cond (Nat.blt k 4) (some 2) none) (cond (Nat.blt k 6) (some 3) (some 4)))) (cond (Nat.blt k 11) (cond (Nat.blt k 9) (cond (Nat.blt k 8) (some 5) (some 10)) (cond (Nat.blt k 10) (some 18) (some 29))) (cond (Nat.blt k 13) (cond (Nat.blt k 12) (some 39) (some 43)) (cond (Nat.blt k 14) (some 44) none)))) (cond (Nat.beq a 3) none (cond (Nat.beq a 4) none (cond (Nat.beq a 5) (cond (Nat.blt k 4) (cond (Nat.blt k 2) (cond (Nat.blt k 1) (some 3) (some 6)) (cond (Nat.blt k 3) (some 7) (some 8))) (cond (Nat.blt k 6) (cond (Nat.blt k 5) (some 9) none) none)) (cond (Nat.beq a 10) (cond (Nat.blt k 4) (cond (Nat.blt k 2) (cond (Nat.blt k 1) (some (t + 0)) (some (t + 1))) (cond (Nat.blt k 3) (some (t + 2)) (some (t + 3)))) (cond (Nat.blt k 6) (cond (Nat.blt k 5) (some (t + 4)) (some (t + 5))) (cond (Nat.blt k 7) (some 17) none))) (cond (Nat.beq a 18) (cond (Nat.blt k 6) (cond (Nat.blt k 3) (cond (Nat.blt k 1) (some 19) (cond (Nat.blt k 2) (some 20) (some 21))) (cond (Nat.blt k 4) (some 22) (cond (Nat.blt k 5) (some 23) (some 24)))) (cond (Nat.blt k 9) (cond (Nat.blt k 7) (some 25) (cond (Nat.blt k 8) (some 26) (some 27))) (cond (Nat.blt k 10) (some 28) none))) (cond (Nat.beq a 29) (cond (Nat.blt k 5) (cond (Nat.blt k 2) (cond (Nat.blt k 1) (some 30) (some 31)) (cond (Nat.blt k 3) (some 32) (cond (Nat.blt k 4) (some 33) (some 34)))) (cond (Nat.blt k 8) (cond (Nat.blt k 6) (some 35) (cond (Nat.blt k 7) (some 36) (some 37))) (cond (Nat.blt k 9) (some 38) none))) (cond (Nat.beq a 39) (cond (Nat.blt k 8) (cond (Nat.blt k 4) (cond (Nat.blt k 2) (cond (Nat.blt k 1) (some 5) (some 10)) (cond (Nat.blt k 3) (some 18) (some 29))) (cond (Nat.blt k 6) (cond (Nat.blt k 5) (some 3) (some 4)) (cond (Nat.blt k 7) (some 40) (some 41)))) (cond (Nat.blt k 12) (cond (Nat.blt k 10) (cond (Nat.blt k 9) none (some 42)) none) none)) (cond (Nat.beq a 43) (cond (Nat.blt k 3) (cond (Nat.blt k 1) (some 10) (cond (Nat.blt k 2) (some 18) (some 29))) (cond (Nat.blt k 4) (some 3) none)) (cond (Nat.beq a 44) (cond (Nat.blt k 9) (cond (Nat.blt k 4) (cond (Nat.blt k 2) (cond (Nat.blt k 1) (some 10) (some 18)) (cond (Nat.blt k 3) (some 29) (some 45))) (cond (Nat.blt k 6) (cond (Nat.blt k 5) (some 52) (some 57)) none)) none) (cond (Nat.beq a 45) (cond (Nat.blt k 5) (cond (Nat.blt k 2) (cond (Nat.blt k 1) (some 46) (some 47)) (cond (Nat.blt k 3) (some 48) (cond (Nat.blt k 4) (some 49) (some 50)))) (cond (Nat.blt k 8) (cond (Nat.blt k 6) none (cond (Nat.blt k 7) none (some 51))) none)) (cond (Nat.beq a 52) (cond (Nat.blt k 5) (cond (Nat.blt k 2) (cond (Nat.blt k 1) (some 10) (some 18)) (cond (Nat.blt k 3) (some 45) (cond (Nat.blt k 4) (some 53) (some 54)))) (cond (Nat.blt k 7) (cond (Nat.blt k 6) (some 55) none) (cond (Nat.blt k 8) (some 56) none))) (cond (Nat.beq a 57) (cond (Nat.blt k 4) (cond (Nat.blt k 2) (cond (Nat.blt k 1) (some 58) (some 59)) (cond (Nat.blt k 3) (some 60) (some 61))) (cond (Nat.blt k 6) (cond (Nat.blt k 5) (some 62) (some 63)) none)) (cond (Nat.beq a 64) (cond (Nat.blt k 60) (cond (Nat.blt k 30) (cond (Nat.blt k 15) (cond (Nat.blt k 7) (cond (Nat.blt k 3) (cond (Nat.blt k 1) (some 65) none) (cond (Nat.blt k 5) none (cond (Nat.blt k 6) none (some 66)))) (cond (Nat.blt k 11) (cond (Nat.blt k 9) (cond (Nat.blt k 8) (some 67) (some 68)) (cond (Nat.blt k 10) (some 69) none)) (cond (Nat.blt k 13) (cond (Nat.blt k 12) (some 70) (some 71)) (cond (Nat.blt k 14) (some 72) (some 73))))) (cond (Nat.blt k 22) (cond (Nat.blt k 18) (cond (Nat.blt k 16) (some 74) (cond (Nat.blt k 17) (some 75) (some 76))) (cond (Nat.blt k 20) (cond (Nat.blt k 19) none (some 77)) (cond (Nat.blt k 21) (some 78) (some 79)))) (cond (Nat.blt k 26) (cond (Nat.blt k 24) (cond (Nat.blt k 23) (some 80) (some 81)) (cond (Nat.blt k 25) (some 82) (some 83))) (cond (Nat.blt k 28) (cond (Nat.blt k 27) (some 84) (some 85)) (cond (Nat.blt k 29) (some 86) (some 87)))))) (cond (Nat.blt k 45) (cond (Nat.blt k 37) (cond (Nat.blt k 33) (cond (Nat.blt k 31) (some 88) (cond (Nat.blt k 32) (some 89) (some 90))) (cond (Nat.blt k 35) (cond (Nat.blt k 34) none (some 91)) (cond (Nat.blt k 36) (some 92) (some 93)))) (cond (Nat.blt k 41) (cond (Nat.blt k 39) (cond (Nat.blt k 38) (some 94) (some 95)) (cond (Nat.blt k 40) (some 96) (some 97))) (cond (Nat.blt k 43) (cond (Nat.blt k 42) (some 98) (some 99)) (cond (Nat.blt k 44) (some 100) none)))) (cond (Nat.blt k 52) (cond (Nat.blt k 48) (cond (Nat.blt k 46) none (cond (Nat.blt k 47) none (some 101))) (cond (Nat.blt k 50) (cond (Nat.blt k 49) (some 102) (some 103)) (cond (Nat.blt k 51) (some 104) none))) (cond (Nat.blt k 56) (cond (Nat.blt k 54) (cond (Nat.blt k 53) none (some 105)) (cond (Nat.blt k 55) (some 106) (some 107))) (cond (Nat.blt k 58) (cond (Nat.blt k 57) none (some 108)) (cond (Nat.blt k 59) none (some 109))))))) (cond (Nat.blt k 90) (cond (Nat.blt k 75) (cond (Nat.blt k 67) (cond (Nat.blt k 63) none (cond (Nat.blt k 65) none (cond (Nat.blt k 66) (some 110) (some 111)))) (cond (Nat.blt k 71) (cond (Nat.blt k 69) (cond (Nat.blt k 68) none (some 112)) (cond (Nat.blt k 70) none (some 113))) (cond (Nat.blt k 73) (cond (Nat.blt k 72) (some 114) none) (cond (Nat.blt k 74) (some 115) (some 116))))) (cond (Nat.blt k 82) (cond (Nat.blt k 78) (cond (Nat.blt k 76) (some 117) (cond (Nat.blt k 77) (some 118) (some 119))) (cond (Nat.blt k 80) (cond (Nat.blt k 79) (some 120) (some 121)) (cond (Nat.blt k 81) (some 122) none))) (cond (Nat.blt k 86) (cond (Nat.blt k 84) (cond (Nat.blt k 83) (some 123) (some 124)) (cond (Nat.blt k 85) (some 125) (some 126))) (cond (Nat.blt k 88) (cond (Nat.blt k 87) (some 127) (some 128)) none)))) (cond (Nat.blt k 105) (cond (Nat.blt k 97) (cond (Nat.blt k 93) (cond (Nat.blt k 91) (some 129) (cond (Nat.blt k 92) (some 130) none)) none) none) (cond (Nat.blt k 112) (cond (Nat.blt k 108) (cond (Nat.blt k 106) none (cond (Nat.blt k 107) (some 131) none)) (cond (Nat.blt k 110) none (cond (Nat.blt k 111) (some 132) (some 133)))) (cond (Nat.blt k 116) (cond (Nat.blt k 114) (cond (Nat.blt k 113) (some 134) (some 135)) (cond (Nat.blt k 115) (some 136) none)) (cond (Nat.blt k 118) (cond (Nat.blt k 117) (some 137) (some 138)) none)))))) none))))))))))))))
def sh_Z (q : pm_s) : pm_Z := (q.1, q.2.1, fun a => cond (Nat.blt a 140) (sh_k a) (cond (Nat.ble q.2.2.1 a && Nat.blt a (q.2.2.1 + 6)) 100 999), fun a => cond (Nat.blt a 140) (sh_l a) q.2.2.2, fun a k => sh_r q.2.2.1 a k)
def sm (q : pm_s) (u : pm_J) : pm_M := (sh_Z q, u)
def sh_T (q : pm_s) : Prop := (q.2.2.1 = 11 ∧ q.2.2.2 = 2048) ∨ 140 ≤ q.2.2.1
def wi (u : pm_J) (a k : Nat) (v : Int32) : pm_J := (fun x y => if x = a ∧ y = k then v else u.1 x y, u.2)
def wj (u : pm_J) (a k : Nat) (v : Int64) : pm_J := (u.1, fun x y => if x = a ∧ y = k then v else u.2 x y)
def pm_ok (i : Int32) (n : Nat) : Bool := !(decide (i < 0) || decide (n ≤ i.toNatClampNeg))
theorem pm_ok_in {i : Int32} {n : Nat} (h : pm_ok i n = true) : vp_in i n := by
  unfold pm_ok at h
  simp only [Bool.not_eq_true', Bool.or_eq_false_iff, decide_eq_false_iff_not] at h
  exact fun q => q.elim h.1 h.2
theorem pm_in_ok {i : Int32} {n : Nat} (h : vp_in i n) : pm_ok i n = true := by
  unfold pm_ok
  simp only [Bool.not_eq_true', Bool.or_eq_false_iff, decide_eq_false_iff_not]
  exact ⟨fun q => h (Or.inl q), fun q => h (Or.inr q)⟩
theorem pm_ifs {c : Prop} [Decidable c] {α : Type} {A : Option α} {x : α} (h : (if c then A else none) = some x) : c ∧ A = some x := by
  by_cases hc : c
  · rw [if_pos hc] at h; exact ⟨hc, h⟩
  · rw [if_neg hc] at h; cases h
theorem pm_bd {α β : Type} {A : Option α} {f : α → Option β} {x : β} (h : A.bind f = some x) : ∃ q, A = some q ∧ f q = some x := by
  cases A with
  | none => cases h
  | some q => exact ⟨q, rfl, h⟩
theorem sh_tk {q : pm_s} {u : pm_J} (h : sh_T q) {k : Nat} (hk : k < 6) : (sm q u).1.2.2.1 (q.2.2.1 + k) = 100 := by
  obtain ⟨n, z, t, r⟩ := q
  show cond (Nat.blt (t + k) 140) (sh_k (t + k)) (cond (Nat.ble t (t + k) && Nat.blt (t + k) (t + 6)) 100 999) = 100
  rcases h with ⟨h1, -⟩ | h1
  · have h1 : t = 11 := h1
    subst h1
    have : k = 0 ∨ k = 1 ∨ k = 2 ∨ k = 3 ∨ k = 4 ∨ k = 5 := by omega
    rcases this with rfl | rfl | rfl | rfl | rfl | rfl <;> rfl
  · have h1 : 140 ≤ t := h1
    have e1 : Nat.blt (t + k) 140 = false := by
      cases h9 : Nat.blt (t + k) 140 with
      | false => rfl
      | true => exact absurd (Nat.le_of_ble_eq_true h9) (by omega)
    have e2 : Nat.ble t (t + k) = true := Nat.ble_eq_true_of_le (Nat.le_add_right _ _)
    have e3 : Nat.blt (t + k) (t + 6) = true := Nat.ble_eq_true_of_le (by omega)
    rw [e1, e2, e3]
    rfl
theorem sh_tl {q : pm_s} {u : pm_J} (h : sh_T q) {k : Nat} (hk : k < 6) : (sm q u).1.2.2.2.1 (q.2.2.1 + k) = q.2.2.2 := by
  obtain ⟨n, z, t, r⟩ := q
  show cond (Nat.blt (t + k) 140) (sh_l (t + k)) r = r
  rcases h with ⟨h1, h2⟩ | h1
  · have h1 : t = 11 := h1
    have h2 : r = 2048 := h2
    subst h1; subst h2
    have : k = 0 ∨ k = 1 ∨ k = 2 ∨ k = 3 ∨ k = 4 ∨ k = 5 := by omega
    rcases this with rfl | rfl | rfl | rfl | rfl | rfl <;> rfl
  · have h1 : 140 ≤ t := h1
    have e1 : Nat.blt (t + k) 140 = false := by
      cases h9 : Nat.blt (t + k) 140 with
      | false => rfl
      | true => exact absurd (Nat.le_of_ble_eq_true h9) (by omega)
    rw [e1]
    rfl

section PML
variable {x : pm_c} {y : pm_m} {h0 : Nat} {D : pm_D} {b : pm_b} {Q : State → Prop} {pc : Nat} {L L' : List (Nat × Value)} {S : List Value} {M : pm_M}
/-- fewer locals, in another order -/
theorem pm_loc (ks : List Nat) (h : lv_pick L ks = L') (kk : pm_V x y h0 D b Q pc L' S M) : pm_V x y h0 D b Q pc L S M := by
  obtain ⟨p, l, e, R, s, m, args, below, meth, c⟩ := x
  intro X H locs ls hR hF hlo hL hn hz
  refine kk X H locs ls hR hF hlo (lv_sub hL ks ?_) hn hz
  subst h
  unfold lv_pick
  rw [List.map_filterMap]
  congr 1
  funext k
  rw [List.getElem?_map]
theorem pm_idiv {u v : Int32} (hd : decode y.2.1 pc = .ok (.idiv, 1)) (hne : ¬ v = 0) (kk : pm_V x y h0 D b Q (pc + 1) L (.int (u / v) :: S) M) : pm_V x y h0 D b Q pc L (.int v :: .int u :: S) M := by
  obtain ⟨p, l, e, R, s, m, args, below, meth, c⟩ := x
  intro X H locs ls hR hF hlo hL hn hz
  exact lv_idiv X.1 X.2.1 hd hne (kk X H locs ls hR hF hlo hL hn hz)
theorem pm_irem {u v : Int32} (hd : decode y.2.1 pc = .ok (.irem, 1)) (hne : ¬ v = 0) (kk : pm_V x y h0 D b Q (pc + 1) L (.int (u - u / v * v) :: S) M) : pm_V x y h0 D b Q pc L (.int v :: .int u :: S) M := by
  obtain ⟨p, l, e, R, s, m, args, below, meth, c⟩ := x
  intro X H locs ls hR hF hlo hL hn hz
  exact lv_irem X.1 X.2.1 hd hne (kk X H locs ls hR hF hlo hL hn hz)
theorem pm_ldiv {u v : Int64} (hd : decode y.2.1 pc = .ok (.ldiv, 1)) (hne : ¬ v = 0) (kk : pm_V x y h0 D b Q (pc + 1) L (.long (u / v) :: S) M) : pm_V x y h0 D b Q pc L (.long v :: .long u :: S) M := by
  obtain ⟨p, l, e, R, s, m, args, below, meth, c⟩ := x
  intro X H locs ls hR hF hlo hL hn hz
  exact lv_ldiv X.1 X.2.1 hd hne (kk X H locs ls hR hF hlo hL hn hz)
end PML
def pm_sw : List (Int32 × Nat) → Nat → Int32 → Nat
  | [], d, _ => d
  | q :: ps, d, u => if u = q.1 then q.2 else pm_sw ps d u
theorem pm_sw_pos {k u : Int32} {t d : Nat} {ps : List (Int32 × Nat)} (h : u = k) : pm_sw ((k, t) :: ps) d u = t := if_pos h
theorem pm_sw_neg {k u : Int32} {t d : Nat} {ps : List (Int32 × Nat)} (h : ¬ u = k) : pm_sw ((k, t) :: ps) d u = pm_sw ps d u := if_neg h
theorem pm_sw_out {u : Int32} {d : Nat} {ps : List (Int32 × Nat)} (h : ∀ q ∈ ps, ¬ u = q.1) : pm_sw ps d u = d := by
  induction ps with
  | nil => rfl
  | cons q ps ih => exact (if_neg (h q List.mem_cons_self)).trans (ih fun z hz => h z (List.mem_cons_of_mem _ hz))
def pm_tck (pc : Nat) (dflt lo hi : Int) (offs : Array Int) (ps : List (Int32 × Nat)) (d : Nat) : Bool :=
  (List.range (hi - lo + 1).toNat).all (fun j => match offs[j]? with | some o => decide ((pc : Int) + o = ((pm_sw ps d (Int32.ofInt (lo + j)) : Nat) : Int)) | none => false) && decide ((pc : Int) + dflt = (d : Int)) && ps.all (fun q => decide (lo ≤ q.1.toInt) && decide (q.1.toInt ≤ hi))
section PMSW
variable {x : pm_c} {y : pm_m} {h0 : Nat} {D : pm_D} {b : pm_b} {Q : State → Prop} {pc : Nat} {L : List (Nat × Value)} {S : List Value} {M : pm_M}
theorem pm_pc {pc' : Nat} (h : pc = pc') (kk : pm_V x y h0 D b Q pc' L S M) : pm_V x y h0 D b Q pc L S M := h ▸ kk
theorem pm_tsw {dflt lo hi : Int} {offs : Array Int} {len : Nat} {u : Int32} (ps : List (Int32 × Nat)) (d : Nat) (hd : decode y.2.1 pc = .ok (.tableswitch dflt lo hi offs, len)) (hc : pm_tck pc dflt lo hi offs ps d = true) (kk : pm_V x y h0 D b Q (pm_sw ps d u) L S M) : pm_V x y h0 D b Q pc L (.int u :: S) M := by
  unfold pm_tck at hc
  simp only [Bool.and_eq_true, List.all_eq_true, decide_eq_true_eq, List.mem_range] at hc
  obtain ⟨⟨h1, h2⟩, h3⟩ := hc
  by_cases hr : u.toInt < lo ∨ hi < u.toInt
  · have e : pm_sw ps d u = d := pm_sw_out fun q hq e => by
      have h4 := h3 q hq
      rw [← e] at h4
      omega
    rw [e] at kk
    exact pm_tout d hd hr h2 kk
  · have l1 : ¬ u.toInt < lo := fun q => hr (Or.inl q)
    have l2 : ¬ hi < u.toInt := fun q => hr (Or.inr q)
    have h4 := h1 (u.toInt - lo).toNat (by omega)
    have e1 : lo + ((u.toInt - lo).toNat : Int) = u.toInt := by omega
    rw [e1, Int32.ofInt_toInt] at h4
    cases ho : offs[(u.toInt - lo).toNat]? with
    | none => rw [ho] at h4; cases h4
    | some o =>
      rw [ho] at h4
      exact pm_tin _ hd l1 l2 ho (of_decide_eq_true h4) kk
def pm_lck (pc : Nat) (dflt : Int) (prs : List (Int × Int)) (ps : List (Int32 × Nat)) (d : Nat) : Bool :=
  decide (prs.length = ps.length) && (prs.zip ps).all (fun q => decide (q.1.1 = q.2.1.toInt) && decide ((pc : Int) + q.1.2 = (q.2.2 : Int))) && decide ((pc : Int) + dflt = (d : Int))
theorem pm_loff {pc : Nat} {dflt : Int} {u : Int32} {d : Nat} : ∀ (prs : List (Int × Int)) (ps : List (Int32 × Nat)), pm_lck pc dflt prs ps d = true → (pc : Int) + Op.lookupswitch.offset prs dflt u.toInt = ((pm_sw ps d u : Nat) : Int) := by
  intro prs
  induction prs with
  | nil =>
    intro ps h
    cases ps with
    | nil => simp [pm_lck] at h; simpa [Op.lookupswitch.offset, pm_sw] using h
    | cons q ps => simp [pm_lck] at h
  | cons r prs ih =>
    intro ps h
    cases ps with
    | nil => simp [pm_lck] at h
    | cons q ps =>
      simp only [pm_lck, List.length_cons, List.zip_cons_cons, List.all_cons, Bool.and_eq_true, decide_eq_true_eq] at h
      obtain ⟨⟨h1, ⟨h2, h3⟩, h4⟩, h5⟩ := h
      have ih' := ih ps (by simp only [pm_lck, Bool.and_eq_true, decide_eq_true_eq]; exact ⟨⟨by omega, h4⟩, h5⟩)
      by_cases hu : u = q.1
      · have e1 : r.1 = u.toInt := by rw [hu]; exact h2
        simp only [pm_sw, if_pos hu]
        simp [Op.lookupswitch.offset, e1] at ih' ⊢
        exact h3
      · have e1 : ¬ r.1 = u.toInt := fun z => hu (Int32.toInt_inj.mp (z.symm.trans h2))
        simp only [pm_sw, if_neg hu]
        simp [Op.lookupswitch.offset, e1] at ih' ⊢
        exact ih'
theorem pm_lsw {dflt : Int} {prs : Array (Int × Int)} {len : Nat} {u : Int32} (ps : List (Int32 × Nat)) (d : Nat) (hd : decode y.2.1 pc = .ok (.lookupswitch dflt prs, len)) (hs : (prs.toList.zip (prs.toList.drop 1)).all (fun (a, next) => a.1 < next.1) = true) (hc : pm_lck pc dflt prs.toList ps d = true) (kk : pm_V x y h0 D b Q (pm_sw ps d u) L S M) : pm_V x y h0 D b Q pc L (.int u :: S) M :=
  pm_look _ hd hs rfl (pm_loff _ ps hc) kk
end PMSW
section PMMA
variable {x : pm_c} {y : pm_m} {h0 : Nat} {D : pm_D} {b : pm_b} {Q : State → Prop} {pc : Nat} {L : List (Nat × Value)} {S : List Value} {M : pm_M}
theorem pm_cmax : Cond.code Lib.Math.max.name Lib.Math.max.code 2 (some .int) ∈ pm_tbl := (show m_Math_max.2.1 = Lib.Math.max.code from by decide +kernel) ▸ k_Math_max.1.2.1
theorem pm_cmin : Cond.code Lib.Math.min.name Lib.Math.min.code 2 (some .int) ∈ pm_tbl := (show m_Math_min.2.1 = Lib.Math.min.code from by decide +kernel) ▸ k_Math_min.1.2.1
theorem pm_max {idx : Nat} {u v : Int32} (hd : decode y.2.1 pc = .ok (.invokestatic idx, 3)) (hl : Cond.methodLink y.1.cls idx Lib.Math.max.name ∈ pm_tbl) (hfr : 1 ≤ b.2.2.2.2) (hS : (S.map fun v => v.category).sum ≤ 8) (hn1 : M.1.1 ≤ b.2.2.1) (hz1 : M.1.2.1 ≤ b.2.2.2.1) (kk : pm_V x y h0 D b Q (pc + 3) L (.int (if u < v then v else u) :: S) M) : pm_V x y h0 D b Q pc L (.int v :: .int u :: S) M := by
  obtain ⟨p, l, e, R, s, m, args, below, meth, c⟩ := x
  intro X H locs ls hR hF hlo hL hn hz
  obtain ⟨X1, X2, X3, X4, X5, X6, X7, X8, X9, X10, X11, X12, X13⟩ := id X
  have h9 := pm_cat h0 hS
  exact va_mmax X1 X2 (X3.trans hL.1.symm) X4 (X5 _ hl) (X5 _ k_Math_max.2) (X5 _ k_Math_max.1.1) (X5 _ pm_cmax) (by omega) (by omega) (by omega) (by omega) hd (kk X H locs ls hR hF hlo hL hn hz)
theorem pm_min {idx : Nat} {u v : Int32} (hd : decode y.2.1 pc = .ok (.invokestatic idx, 3)) (hl : Cond.methodLink y.1.cls idx Lib.Math.min.name ∈ pm_tbl) (hfr : 1 ≤ b.2.2.2.2) (hS : (S.map fun v => v.category).sum ≤ 8) (hn1 : M.1.1 ≤ b.2.2.1) (hz1 : M.1.2.1 ≤ b.2.2.2.1) (kk : pm_V x y h0 D b Q (pc + 3) L (.int (if v < u then v else u) :: S) M) : pm_V x y h0 D b Q pc L (.int v :: .int u :: S) M := by
  obtain ⟨p, l, e, R, s, m, args, below, meth, c⟩ := x
  intro X H locs ls hR hF hlo hL hn hz
  obtain ⟨X1, X2, X3, X4, X5, X6, X7, X8, X9, X10, X11, X12, X13⟩ := id X
  have h9 := pm_cat h0 hS
  exact va_mmin X1 X2 (X3.trans hL.1.symm) X4 (X5 _ hl) (X5 _ k_Math_min.2) (X5 _ k_Math_min.1.1) (X5 _ pm_cmin) (by omega) (by omega) (by omega) (by omega) hd (kk X H locs ls hR hF hlo hL hn hz)
theorem pm_ldcw {idx : Nat} {v : Int32} (hd : decode y.2.1 pc = .ok (.ldc_w idx, 3)) (hc : (idx, v) ∈ pm_ctab y.1.cls) (kk : pm_V x y h0 D b Q (pc + 3) L (.int v :: S) M) : pm_V x y h0 D b Q pc L S M := by
  obtain ⟨p, l, e, R, s, m, args, below, meth, c⟩ := x
  intro X H locs ls hR hF hlo hL hn hz
  exact lv_ldcw X.1 X.2.1 X.2.2.2.1 (X.2.2.2.2.1 _ (pm_ctab_s hc)) hd (kk X H locs ls hR hF hlo hL hn hz)
end PMMA
