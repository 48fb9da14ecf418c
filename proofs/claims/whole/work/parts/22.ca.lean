/-! the constructors: cells by their numbers, as they are made -/
def cm (n z : Nat) (r : Nat → Nat → Option Nat) (u : pm_J) : pm_M := ((n, z, fun a => cond (Nat.blt a n) (sh_k a) 999, sh_l, r), u)
theorem pm_cl130 {i : Nat} {r : vw_C} (h : pm_cl[i]? = some r) : r.2.2 ≤ 130 := by
  have h1 : pm_cl.all (fun r => Nat.ble r.2.2 130) = true := by decide +kernel
  exact Nat.le_of_ble_eq_true (List.all_eq_true.mp h1 r (List.mem_of_getElem? h))
/-- what is asked of an object and of an array apart -/
theorem pm_at.kept3 {U : State} {h0 : Nat} {D : pm_D} {M M' : pm_M} {H : Heap} {c : Nat} (h : pm_at U h0 D M H c) (hk : M'.1.2.2.1 c = M.1.2.2.1 c) (hl : 100 ≤ M.1.2.2.1 c → M'.1.2.2.2.1 c = M.1.2.2.2.1 c) (hr : M.1.2.2.1 c < 100 → ∀ k, k < 130 → M'.1.2.2.2.2 c k = M.1.2.2.2.2 c k) (hi : ∀ k, M'.2.1 c k = M.2.1 c k) (hj : ∀ k, M'.2.2 c k = M.2.2 c k) : pm_at U h0 D M' H c := by
  have e2 : ∀ t, pm_ev M' t c = pm_ev M t c := fun t => funext fun j => by simp only [pm_ev, hi, hj]
  unfold pm_at
  rw [hk]
  refine ⟨fun h1 => ?_, fun h1 => ?_⟩
  · obtain ⟨r, h2, h3⟩ := h.1 h1
    exact ⟨r, h2, h3.to (fun k hk9 => by simp only [pm_fv, hr h1 k (Nat.lt_of_lt_of_le hk9 (pm_cl130 h2)), hi, hj])⟩
  · obtain ⟨cA, h2, h3⟩ := h.2 h1
    exact ⟨cA, h2, by rw [h3, e2, hl h1]⟩
theorem cm_na {n z kd N : Nat} {r : Nat → Nat → Option Nat} {u : pm_J} {U : State} {h0 : Nat} {D : pm_D} {H : Heap} (hk : sh_k n = kd) (hl : 100 ≤ kd → sh_l n = N) (hr : ∀ k, r n k = none) (hi : ∀ k, u.1 n k = 0) (hj : ∀ k, u.2 n k = 0) (h : pm_R U h0 D (pm_na (cm n z r u) kd N) H) : pm_R U h0 D (cm (n + 1) (z + N) r u) H := by
  refine ⟨h.1, fun a ha => ?_, h.2.2⟩
  have ek : (pm_na (cm n z r u) kd N).1.2.2.1 a = (cm (n + 1) (z + N) r u).1.2.2.1 a := by
    show (if a = n then kd else cond (Nat.blt a n) (sh_k a) 999) = cond (Nat.blt a (n + 1)) (sh_k a) 999
    by_cases e : a = n
    · subst e
      have : Nat.blt a (a + 1) = true := Nat.ble_eq_true_of_le (Nat.le_refl _)
      rw [if_pos rfl, this, ← hk]; rfl
    · rw [if_neg e]
      by_cases e2 : a < n
      · have h1 : Nat.blt a n = true := Nat.ble_eq_true_of_le e2
        have h2 : Nat.blt a (n + 1) = true := Nat.ble_eq_true_of_le (by omega)
        rw [h1, h2]
      · have h1 : Nat.blt a n = false := by
          cases h9 : Nat.blt a n with
          | false => rfl
          | true => exact absurd (Nat.le_of_ble_eq_true h9) e2
        have h2 : Nat.blt a (n + 1) = false := by
          cases h9 : Nat.blt a (n + 1) with
          | false => rfl
          | true => exact absurd (Nat.le_of_ble_eq_true h9) (by omega)
        rw [h1, h2]
  obtain ⟨h1, h2⟩ := h.2.1 a (by rw [ek]; exact ha)
  refine ⟨h1, h2.kept3 ek.symm (fun h100 => ?_) (fun _ k _ => ?_) (fun k => ?_) (fun k => ?_)⟩
  · show sh_l a = if a = n then N else sh_l a
    by_cases e : a = n
    · subst e
      rw [if_pos rfl]
      refine hl ?_
      have h9 : (pm_na (cm a z r u) kd N).1.2.2.1 a = kd := by show (if a = a then kd else _) = kd; rw [if_pos rfl]
      rw [h9] at h100
      exact h100
    · rw [if_neg e]
  · show r a k = if a = n then none else r a k
    by_cases e : a = n
    · subst e; rw [if_pos rfl]; exact hr k
    · rw [if_neg e]
  · show u.1 a k = if a = n then 0 else u.1 a k
    by_cases e : a = n
    · subst e; rw [if_pos rfl]; exact hi k
    · rw [if_neg e]
  · show u.2 a k = if a = n then 0 else u.2 a k
    by_cases e : a = n
    · subst e; rw [if_pos rfl]; exact hj k
    · rw [if_neg e]
def rf_0 : Nat → Nat → Option Nat := fun _ _ => none
def ua_0 : pm_J := (fun _ _ => 0, fun _ _ => 0)
def rf_1 : Nat → Nat → Option Nat := fun x y => if x = 0 ∧ y = 0 then some 1 else rf_0 x y
def rf_2 : Nat → Nat → Option Nat := fun x y => if x = 0 ∧ y = 3 then some 2 else rf_1 x y
def rf_3 : Nat → Nat → Option Nat := fun x y => if x = 0 ∧ y = 5 then some 3 else rf_2 x y
def rf_4 : Nat → Nat → Option Nat := fun x y => if x = 0 ∧ y = 6 then some 4 else rf_3 x y
def rf_5 : Nat → Nat → Option Nat := fun x y => if x = 5 ∧ y = 0 then some 3 else rf_4 x y
def rf_6 : Nat → Nat → Option Nat := fun x y => if x = 5 ∧ y = 1 then some 6 else rf_5 x y
def rf_7 : Nat → Nat → Option Nat := fun x y => if x = 5 ∧ y = 2 then some 7 else rf_6 x y
def rf_8 : Nat → Nat → Option Nat := fun x y => if x = 5 ∧ y = 3 then some 8 else rf_7 x y
def rf_9 : Nat → Nat → Option Nat := fun x y => if x = 5 ∧ y = 4 then some 9 else rf_8 x y
def ua_1 : pm_J := wj ua_0 9 0 628896
def ua_2 : pm_J := wj ua_1 9 1 306555143
def ua_3 : pm_J := wj ua_2 9 2 16633
def ua_4 : pm_J := wj ua_3 9 3 347
def ua_5 : pm_J := wj ua_4 9 4 339
def ua_6 : pm_J := wj ua_5 9 5 1024211
def ua_7 : pm_J := wj ua_6 9 6 270401
def ua_8 : pm_J := wj ua_7 9 7 236
def ua_9 : pm_J := wj ua_8 9 8 8937
def ua_10 : pm_J := wj ua_9 9 9 26533
def rf_10 : Nat → Nat → Option Nat := fun x y => if x = 0 ∧ y = 7 then some 5 else rf_9 x y
def rf_11 : Nat → Nat → Option Nat := fun x y => if x = 10 ∧ y = 0 then some 11 else rf_10 x y
def rf_12 : Nat → Nat → Option Nat := fun x y => if x = 10 ∧ y = 1 then some 12 else rf_11 x y
def rf_13 : Nat → Nat → Option Nat := fun x y => if x = 10 ∧ y = 2 then some 13 else rf_12 x y
def rf_14 : Nat → Nat → Option Nat := fun x y => if x = 10 ∧ y = 3 then some 14 else rf_13 x y
def rf_15 : Nat → Nat → Option Nat := fun x y => if x = 10 ∧ y = 4 then some 15 else rf_14 x y
def rf_16 : Nat → Nat → Option Nat := fun x y => if x = 10 ∧ y = 5 then some 16 else rf_15 x y
def rf_17 : Nat → Nat → Option Nat := fun x y => if x = 10 ∧ y = 6 then some 17 else rf_16 x y
def ua_11 : pm_J := wi ua_10 11 0 0
def ua_12 : pm_J := wi ua_11 14 0 1
def ua_13 : pm_J := wi ua_12 15 0 0
def ua_14 : pm_J := wi ua_13 12 0 (-1)
def ua_15 : pm_J := wi ua_14 13 0 (-1)
def ua_16 : pm_J := wi ua_15 11 1 1
def ua_17 : pm_J := wi ua_16 14 1 1
def ua_18 : pm_J := wi ua_17 15 1 0
def ua_19 : pm_J := wi ua_18 12 1 (-1)
def ua_20 : pm_J := wi ua_19 13 1 (-1)
def ua_21 : pm_J := wi ua_20 11 2 2
def ua_22 : pm_J := wi ua_21 14 2 1
def ua_23 : pm_J := wi ua_22 15 2 1
def ua_24 : pm_J := wi ua_23 12 2 (-1)
def ua_25 : pm_J := wi ua_24 13 2 (-1)
def ua_26 : pm_J := wi ua_25 11 3 2
def ua_27 : pm_J := wi ua_26 14 3 1
def ua_28 : pm_J := wi ua_27 15 3 2
def ua_29 : pm_J := wi ua_28 12 3 (-1)
def ua_30 : pm_J := wi ua_29 13 3 (-1)
def ua_31 : pm_J := wi ua_30 11 4 2
def ua_32 : pm_J := wi ua_31 14 4 1
def ua_33 : pm_J := wi ua_32 15 4 4
def ua_34 : pm_J := wi ua_33 12 4 (-1)
def ua_35 : pm_J := wi ua_34 13 4 (-1)
def ua_36 : pm_J := wi ua_35 11 5 2
def ua_37 : pm_J := wi ua_36 14 5 1
def ua_38 : pm_J := wi ua_37 15 5 8
def ua_39 : pm_J := wi ua_38 12 5 (-1)
def ua_40 : pm_J := wi ua_39 13 5 (-1)
def rf_18 : Nat → Nat → Option Nat := fun x y => if x = 0 ∧ y = 8 then some 10 else rf_17 x y
def rf_19 : Nat → Nat → Option Nat := fun x y => if x = 18 ∧ y = 0 then some 19 else rf_18 x y
def rf_20 : Nat → Nat → Option Nat := fun x y => if x = 18 ∧ y = 1 then some 20 else rf_19 x y
def rf_21 : Nat → Nat → Option Nat := fun x y => if x = 18 ∧ y = 2 then some 21 else rf_20 x y
def rf_22 : Nat → Nat → Option Nat := fun x y => if x = 18 ∧ y = 3 then some 22 else rf_21 x y
def rf_23 : Nat → Nat → Option Nat := fun x y => if x = 18 ∧ y = 4 then some 23 else rf_22 x y
def rf_24 : Nat → Nat → Option Nat := fun x y => if x = 18 ∧ y = 5 then some 24 else rf_23 x y
def rf_25 : Nat → Nat → Option Nat := fun x y => if x = 18 ∧ y = 6 then some 25 else rf_24 x y
def rf_26 : Nat → Nat → Option Nat := fun x y => if x = 18 ∧ y = 7 then some 26 else rf_25 x y
def rf_27 : Nat → Nat → Option Nat := fun x y => if x = 18 ∧ y = 8 then some 27 else rf_26 x y
def rf_28 : Nat → Nat → Option Nat := fun x y => if x = 18 ∧ y = 9 then some 28 else rf_27 x y
def rf_29 : Nat → Nat → Option Nat := fun x y => if x = 0 ∧ y = 9 then some 18 else rf_28 x y
def rf_30 : Nat → Nat → Option Nat := fun x y => if x = 29 ∧ y = 0 then some 30 else rf_29 x y
def rf_31 : Nat → Nat → Option Nat := fun x y => if x = 29 ∧ y = 1 then some 31 else rf_30 x y
def rf_32 : Nat → Nat → Option Nat := fun x y => if x = 29 ∧ y = 2 then some 32 else rf_31 x y
def rf_33 : Nat → Nat → Option Nat := fun x y => if x = 29 ∧ y = 3 then some 33 else rf_32 x y
def rf_34 : Nat → Nat → Option Nat := fun x y => if x = 29 ∧ y = 4 then some 34 else rf_33 x y
def rf_35 : Nat → Nat → Option Nat := fun x y => if x = 29 ∧ y = 5 then some 35 else rf_34 x y
def rf_36 : Nat → Nat → Option Nat := fun x y => if x = 29 ∧ y = 6 then some 36 else rf_35 x y
def rf_37 : Nat → Nat → Option Nat := fun x y => if x = 29 ∧ y = 7 then some 37 else rf_36 x y
def rf_38 : Nat → Nat → Option Nat := fun x y => if x = 29 ∧ y = 8 then some 38 else rf_37 x y
def rf_39 : Nat → Nat → Option Nat := fun x y => if x = 0 ∧ y = 10 then some 29 else rf_38 x y
def rf_40 : Nat → Nat → Option Nat := fun x y => if x = 39 ∧ y = 0 then some 5 else rf_39 x y
def rf_41 : Nat → Nat → Option Nat := fun x y => if x = 39 ∧ y = 1 then some 10 else rf_40 x y
def rf_42 : Nat → Nat → Option Nat := fun x y => if x = 39 ∧ y = 2 then some 18 else rf_41 x y
def rf_43 : Nat → Nat → Option Nat := fun x y => if x = 39 ∧ y = 3 then some 29 else rf_42 x y
def rf_44 : Nat → Nat → Option Nat := fun x y => if x = 39 ∧ y = 4 then some 3 else rf_43 x y
def rf_45 : Nat → Nat → Option Nat := fun x y => if x = 39 ∧ y = 5 then some 4 else rf_44 x y
def rf_46 : Nat → Nat → Option Nat := fun x y => if x = 39 ∧ y = 6 then some 40 else rf_45 x y
def rf_47 : Nat → Nat → Option Nat := fun x y => if x = 39 ∧ y = 7 then some 41 else rf_46 x y
def rf_48 : Nat → Nat → Option Nat := fun x y => if x = 39 ∧ y = 9 then some 42 else rf_47 x y
def rf_49 : Nat → Nat → Option Nat := fun x y => if x = 0 ∧ y = 11 then some 39 else rf_48 x y
def rf_50 : Nat → Nat → Option Nat := fun x y => if x = 43 ∧ y = 0 then some 10 else rf_49 x y
def rf_51 : Nat → Nat → Option Nat := fun x y => if x = 43 ∧ y = 1 then some 18 else rf_50 x y
def rf_52 : Nat → Nat → Option Nat := fun x y => if x = 43 ∧ y = 2 then some 29 else rf_51 x y
def rf_53 : Nat → Nat → Option Nat := fun x y => if x = 43 ∧ y = 3 then some 3 else rf_52 x y
def rf_54 : Nat → Nat → Option Nat := fun x y => if x = 0 ∧ y = 12 then some 43 else rf_53 x y
def rf_55 : Nat → Nat → Option Nat := fun x y => if x = 44 ∧ y = 0 then some 10 else rf_54 x y
def rf_56 : Nat → Nat → Option Nat := fun x y => if x = 44 ∧ y = 1 then some 18 else rf_55 x y
def rf_57 : Nat → Nat → Option Nat := fun x y => if x = 44 ∧ y = 2 then some 29 else rf_56 x y
def rf_58 : Nat → Nat → Option Nat := fun x y => if x = 45 ∧ y = 0 then some 46 else rf_57 x y
def rf_59 : Nat → Nat → Option Nat := fun x y => if x = 45 ∧ y = 1 then some 47 else rf_58 x y
def rf_60 : Nat → Nat → Option Nat := fun x y => if x = 45 ∧ y = 2 then some 48 else rf_59 x y
def rf_61 : Nat → Nat → Option Nat := fun x y => if x = 45 ∧ y = 3 then some 49 else rf_60 x y
def rf_62 : Nat → Nat → Option Nat := fun x y => if x = 45 ∧ y = 4 then some 50 else rf_61 x y
def rf_63 : Nat → Nat → Option Nat := fun x y => if x = 45 ∧ y = 7 then some 51 else rf_62 x y
def rf_64 : Nat → Nat → Option Nat := fun x y => if x = 44 ∧ y = 3 then some 45 else rf_63 x y
def rf_65 : Nat → Nat → Option Nat := fun x y => if x = 52 ∧ y = 0 then some 10 else rf_64 x y
def rf_66 : Nat → Nat → Option Nat := fun x y => if x = 52 ∧ y = 1 then some 18 else rf_65 x y
def rf_67 : Nat → Nat → Option Nat := fun x y => if x = 52 ∧ y = 2 then some 45 else rf_66 x y
def rf_68 : Nat → Nat → Option Nat := fun x y => if x = 52 ∧ y = 3 then some 53 else rf_67 x y
def rf_69 : Nat → Nat → Option Nat := fun x y => if x = 52 ∧ y = 4 then some 54 else rf_68 x y
def rf_70 : Nat → Nat → Option Nat := fun x y => if x = 52 ∧ y = 5 then some 55 else rf_69 x y
def rf_71 : Nat → Nat → Option Nat := fun x y => if x = 52 ∧ y = 7 then some 56 else rf_70 x y
def rf_72 : Nat → Nat → Option Nat := fun x y => if x = 44 ∧ y = 4 then some 52 else rf_71 x y
def rf_73 : Nat → Nat → Option Nat := fun x y => if x = 57 ∧ y = 0 then some 58 else rf_72 x y
def rf_74 : Nat → Nat → Option Nat := fun x y => if x = 57 ∧ y = 1 then some 59 else rf_73 x y
def rf_75 : Nat → Nat → Option Nat := fun x y => if x = 57 ∧ y = 2 then some 60 else rf_74 x y
def rf_76 : Nat → Nat → Option Nat := fun x y => if x = 57 ∧ y = 3 then some 61 else rf_75 x y
def rf_77 : Nat → Nat → Option Nat := fun x y => if x = 57 ∧ y = 4 then some 62 else rf_76 x y
def rf_78 : Nat → Nat → Option Nat := fun x y => if x = 57 ∧ y = 5 then some 63 else rf_77 x y
def rf_79 : Nat → Nat → Option Nat := fun x y => if x = 44 ∧ y = 5 then some 57 else rf_78 x y
def rf_80 : Nat → Nat → Option Nat := fun x y => if x = 0 ∧ y = 13 then some 44 else rf_79 x y
def rf_81 : Nat → Nat → Option Nat := fun x y => if x = 64 ∧ y = 0 then some 65 else rf_80 x y
def ua_41 : pm_J := wi ua_40 64 5 (-1)
def rf_82 : Nat → Nat → Option Nat := fun x y => if x = 64 ∧ y = 6 then some 66 else rf_81 x y
def rf_83 : Nat → Nat → Option Nat := fun x y => if x = 64 ∧ y = 7 then some 67 else rf_82 x y
def rf_84 : Nat → Nat → Option Nat := fun x y => if x = 64 ∧ y = 8 then some 68 else rf_83 x y
def rf_85 : Nat → Nat → Option Nat := fun x y => if x = 64 ∧ y = 9 then some 69 else rf_84 x y
def rf_86 : Nat → Nat → Option Nat := fun x y => if x = 64 ∧ y = 11 then some 70 else rf_85 x y
def rf_87 : Nat → Nat → Option Nat := fun x y => if x = 64 ∧ y = 12 then some 71 else rf_86 x y
def rf_88 : Nat → Nat → Option Nat := fun x y => if x = 64 ∧ y = 13 then some 72 else rf_87 x y
def rf_89 : Nat → Nat → Option Nat := fun x y => if x = 64 ∧ y = 14 then some 73 else rf_88 x y
def rf_90 : Nat → Nat → Option Nat := fun x y => if x = 64 ∧ y = 15 then some 74 else rf_89 x y
def rf_91 : Nat → Nat → Option Nat := fun x y => if x = 64 ∧ y = 16 then some 75 else rf_90 x y
def rf_92 : Nat → Nat → Option Nat := fun x y => if x = 64 ∧ y = 17 then some 76 else rf_91 x y
def rf_93 : Nat → Nat → Option Nat := fun x y => if x = 64 ∧ y = 19 then some 77 else rf_92 x y
def rf_94 : Nat → Nat → Option Nat := fun x y => if x = 64 ∧ y = 20 then some 78 else rf_93 x y
def rf_95 : Nat → Nat → Option Nat := fun x y => if x = 64 ∧ y = 21 then some 79 else rf_94 x y
def rf_96 : Nat → Nat → Option Nat := fun x y => if x = 64 ∧ y = 22 then some 80 else rf_95 x y
def rf_97 : Nat → Nat → Option Nat := fun x y => if x = 64 ∧ y = 23 then some 81 else rf_96 x y
def rf_98 : Nat → Nat → Option Nat := fun x y => if x = 64 ∧ y = 24 then some 82 else rf_97 x y
def rf_99 : Nat → Nat → Option Nat := fun x y => if x = 64 ∧ y = 25 then some 83 else rf_98 x y
def rf_100 : Nat → Nat → Option Nat := fun x y => if x = 64 ∧ y = 26 then some 84 else rf_99 x y
def rf_101 : Nat → Nat → Option Nat := fun x y => if x = 64 ∧ y = 27 then some 85 else rf_100 x y
def rf_102 : Nat → Nat → Option Nat := fun x y => if x = 64 ∧ y = 28 then some 86 else rf_101 x y
def rf_103 : Nat → Nat → Option Nat := fun x y => if x = 64 ∧ y = 29 then some 87 else rf_102 x y
def rf_104 : Nat → Nat → Option Nat := fun x y => if x = 64 ∧ y = 30 then some 88 else rf_103 x y
def rf_105 : Nat → Nat → Option Nat := fun x y => if x = 64 ∧ y = 31 then some 89 else rf_104 x y
def rf_106 : Nat → Nat → Option Nat := fun x y => if x = 64 ∧ y = 32 then some 90 else rf_105 x y
def rf_107 : Nat → Nat → Option Nat := fun x y => if x = 64 ∧ y = 34 then some 91 else rf_106 x y
def rf_108 : Nat → Nat → Option Nat := fun x y => if x = 64 ∧ y = 35 then some 92 else rf_107 x y
def rf_109 : Nat → Nat → Option Nat := fun x y => if x = 64 ∧ y = 36 then some 93 else rf_108 x y
def rf_110 : Nat → Nat → Option Nat := fun x y => if x = 64 ∧ y = 37 then some 94 else rf_109 x y
def rf_111 : Nat → Nat → Option Nat := fun x y => if x = 64 ∧ y = 38 then some 95 else rf_110 x y
def rf_112 : Nat → Nat → Option Nat := fun x y => if x = 64 ∧ y = 39 then some 96 else rf_111 x y
def rf_113 : Nat → Nat → Option Nat := fun x y => if x = 64 ∧ y = 40 then some 97 else rf_112 x y
def rf_114 : Nat → Nat → Option Nat := fun x y => if x = 64 ∧ y = 41 then some 98 else rf_113 x y
def rf_115 : Nat → Nat → Option Nat := fun x y => if x = 64 ∧ y = 42 then some 99 else rf_114 x y
def rf_116 : Nat → Nat → Option Nat := fun x y => if x = 64 ∧ y = 43 then some 100 else rf_115 x y
def rf_117 : Nat → Nat → Option Nat := fun x y => if x = 64 ∧ y = 47 then some 101 else rf_116 x y
def rf_118 : Nat → Nat → Option Nat := fun x y => if x = 64 ∧ y = 48 then some 102 else rf_117 x y
def rf_119 : Nat → Nat → Option Nat := fun x y => if x = 64 ∧ y = 49 then some 103 else rf_118 x y
def rf_120 : Nat → Nat → Option Nat := fun x y => if x = 64 ∧ y = 50 then some 104 else rf_119 x y
def rf_121 : Nat → Nat → Option Nat := fun x y => if x = 64 ∧ y = 53 then some 105 else rf_120 x y
def rf_122 : Nat → Nat → Option Nat := fun x y => if x = 64 ∧ y = 54 then some 106 else rf_121 x y
def rf_123 : Nat → Nat → Option Nat := fun x y => if x = 64 ∧ y = 55 then some 107 else rf_122 x y
def rf_124 : Nat → Nat → Option Nat := fun x y => if x = 64 ∧ y = 57 then some 108 else rf_123 x y
def rf_125 : Nat → Nat → Option Nat := fun x y => if x = 64 ∧ y = 59 then some 109 else rf_124 x y
def rf_126 : Nat → Nat → Option Nat := fun x y => if x = 64 ∧ y = 65 then some 110 else rf_125 x y
def rf_127 : Nat → Nat → Option Nat := fun x y => if x = 64 ∧ y = 66 then some 111 else rf_126 x y
def rf_128 : Nat → Nat → Option Nat := fun x y => if x = 64 ∧ y = 68 then some 112 else rf_127 x y
def rf_129 : Nat → Nat → Option Nat := fun x y => if x = 64 ∧ y = 70 then some 113 else rf_128 x y
def rf_130 : Nat → Nat → Option Nat := fun x y => if x = 64 ∧ y = 71 then some 114 else rf_129 x y
def rf_131 : Nat → Nat → Option Nat := fun x y => if x = 64 ∧ y = 73 then some 115 else rf_130 x y
def rf_132 : Nat → Nat → Option Nat := fun x y => if x = 64 ∧ y = 74 then some 116 else rf_131 x y
def rf_133 : Nat → Nat → Option Nat := fun x y => if x = 64 ∧ y = 75 then some 117 else rf_132 x y
def rf_134 : Nat → Nat → Option Nat := fun x y => if x = 64 ∧ y = 76 then some 118 else rf_133 x y
def rf_135 : Nat → Nat → Option Nat := fun x y => if x = 64 ∧ y = 77 then some 119 else rf_134 x y
def rf_136 : Nat → Nat → Option Nat := fun x y => if x = 64 ∧ y = 78 then some 120 else rf_135 x y
def rf_137 : Nat → Nat → Option Nat := fun x y => if x = 64 ∧ y = 79 then some 121 else rf_136 x y
def rf_138 : Nat → Nat → Option Nat := fun x y => if x = 64 ∧ y = 80 then some 122 else rf_137 x y
def rf_139 : Nat → Nat → Option Nat := fun x y => if x = 64 ∧ y = 82 then some 123 else rf_138 x y
def rf_140 : Nat → Nat → Option Nat := fun x y => if x = 64 ∧ y = 83 then some 124 else rf_139 x y
def rf_141 : Nat → Nat → Option Nat := fun x y => if x = 64 ∧ y = 84 then some 125 else rf_140 x y
def rf_142 : Nat → Nat → Option Nat := fun x y => if x = 64 ∧ y = 85 then some 126 else rf_141 x y
def rf_143 : Nat → Nat → Option Nat := fun x y => if x = 64 ∧ y = 86 then some 127 else rf_142 x y
def rf_144 : Nat → Nat → Option Nat := fun x y => if x = 64 ∧ y = 87 then some 128 else rf_143 x y
def rf_145 : Nat → Nat → Option Nat := fun x y => if x = 64 ∧ y = 90 then some 129 else rf_144 x y
def rf_146 : Nat → Nat → Option Nat := fun x y => if x = 64 ∧ y = 91 then some 130 else rf_145 x y
def rf_147 : Nat → Nat → Option Nat := fun x y => if x = 64 ∧ y = 106 then some 131 else rf_146 x y
def rf_148 : Nat → Nat → Option Nat := fun x y => if x = 64 ∧ y = 110 then some 132 else rf_147 x y
def rf_149 : Nat → Nat → Option Nat := fun x y => if x = 64 ∧ y = 111 then some 133 else rf_148 x y
def rf_150 : Nat → Nat → Option Nat := fun x y => if x = 64 ∧ y = 112 then some 134 else rf_149 x y
def rf_151 : Nat → Nat → Option Nat := fun x y => if x = 64 ∧ y = 113 then some 135 else rf_150 x y
def rf_152 : Nat → Nat → Option Nat := fun x y => if x = 64 ∧ y = 114 then some 136 else rf_151 x y
def rf_153 : Nat → Nat → Option Nat := fun x y => if x = 64 ∧ y = 116 then some 137 else rf_152 x y
def rf_154 : Nat → Nat → Option Nat := fun x y => if x = 64 ∧ y = 117 then some 138 else rf_153 x y
def ua_42 : pm_J := wi ua_41 64 18 6
def ua_43 : pm_J := wi ua_42 73 0 0
def ua_44 : pm_J := wi ua_43 74 0 1
def ua_45 : pm_J := wi ua_44 73 1 0
def ua_46 : pm_J := wi ua_45 74 1 1
def ua_47 : pm_J := wi ua_46 73 2 1
def ua_48 : pm_J := wi ua_47 74 2 1
def ua_49 : pm_J := wi ua_48 73 3 2
def ua_50 : pm_J := wi ua_49 74 3 1
def ua_51 : pm_J := wi ua_50 73 4 4
def ua_52 : pm_J := wi ua_51 74 4 1
def ua_53 : pm_J := wi ua_52 73 5 8
def ua_54 : pm_J := wi ua_53 74 5 1
set_option maxHeartbeats 4000000 in
set_option maxRecDepth 100000 in
theorem cM_Tokens_isDigit (l : Launch) (h0 : Nat) (D : pm_D) {g : pm_s} {u : pm_J} {M : pm_M} {a1 : Int32} {out : Int32} (h : F_Tokens_isDigit a1 g u = some out) : pm_C l h0 D m_Tokens_isDigit (0) [.int a1] (M) (some (.int out)) (M) := by
  unfold F_Tokens_isDigit at h
  refine pm_met (by decide +kernel) (Nat.le_of_ble_eq_true rfl) (Nat.le_refl _) (Nat.le_refl _) ?_
  intro p e R s m args below meth c
  refine pm_blk (pc' := 3) (L' := [(0, .int a1)]) (S' := [.int 48, .int a1]) (M' := M) [pm_o (.iload_n 0), pm_oi (.bipush 48) 48] (by decide +kernel) rfl ?_
  refine pm_ic_lt (off := 13) 16 (by decide +kernel) (by decide) (fun hc1 => ?_) (fun hc1 => ?_)
  · rw [if_pos hc1] at h
    refine pm_blk (pc' := 17) (L' := [(0, .int a1)]) (S' := [.int 0]) (M' := M) [pm_oi (.iconst 0) 0] (by decide +kernel) rfl ?_
    have h9 := Option.some.inj h
    subst h9
    exact pm_retz rfl (by decide +kernel) rfl rfl rfl rfl
  · rw [if_neg hc1] at h
    refine pm_blk (pc' := 9) (L' := [(0, .int a1)]) (S' := [.int 57, .int a1]) (M' := M) [pm_o (.iload_n 0), pm_oi (.bipush 57) 57] (by decide +kernel) rfl ?_
    refine pm_ic_gt (off := 7) 16 (by decide +kernel) (by decide) (fun hc2 => ?_) (fun hc2 => ?_)
    · rw [if_pos hc2] at h
      refine pm_blk (pc' := 17) (L' := [(0, .int a1)]) (S' := [.int 0]) (M' := M) [pm_oi (.iconst 0) 0] (by decide +kernel) rfl ?_
      have h9 := Option.some.inj h
      subst h9
      exact pm_retz rfl (by decide +kernel) rfl rfl rfl rfl
    · rw [if_neg hc2] at h
      refine pm_blk (pc' := 13) (L' := [(0, .int a1)]) (S' := [.int 1]) (M' := M) [pm_oi (.iconst 1) 1] (by decide +kernel) rfl ?_
      refine pm_goto (off := 4) 17 (by decide +kernel) (by decide) ?_
      have h9 := Option.some.inj h
      subst h9
      exact pm_retz rfl (by decide +kernel) rfl rfl rfl rfl
set_option maxHeartbeats 4000000 in
set_option maxRecDepth 100000 in
theorem cM_Tokens_withOctet (l : Launch) (h0 : Nat) (D : pm_D) {g : pm_s} {u : pm_J} {M : pm_M} {a1 : Int64} {a2 : Int32} {out : Int64} (h : F_Tokens_withOctet a1 a2 g u = some out) : pm_C l h0 D m_Tokens_withOctet (1) [.long a1, .int a2] (M) (some (.long out)) (M) := by
  unfold F_Tokens_withOctet at h
  refine pm_met (by decide +kernel) (Nat.le_of_ble_eq_true rfl) (Nat.le_refl _) (Nat.le_refl _) ?_
  intro p e R s m args below meth c
  refine pm_blk (pc' := 1) (L' := [(0, .long a1), (2, .int a2)]) (S' := [.int a2]) (M' := M) [pm_o (.iload_n 2)] (by decide +kernel) rfl ?_
  obtain ⟨q1, hq1, h⟩ := pm_bd h
  refine pm_cS (idx := 84) m_Tokens_isDigit (cM_Tokens_isDigit l h0 D hq1) (As := [.int a2]) (S0 := []) rfl (by decide +kernel) k_Tokens_isDigit l_Tokens_84 (Nat.le_of_ble_eq_true rfl) (Nat.le_of_ble_eq_true rfl) (Nat.le_refl _) (Nat.le_refl _) ?_
  refine pm_blk (pc' := 4) (L' := [(0, .long a1), (2, .int a2)]) (S' := [.int q1]) (M' := M) [] (by decide +kernel) rfl ?_
  refine pm_if_eq (off := 13) 17 (by decide +kernel) (by decide) (fun hc2 => ?_) (fun hc2 => ?_)
  · rw [if_pos hc2] at h
    refine pm_blk (pc' := 32) (L' := [(3, .int ((a2 - 97) + 1)), (0, .long a1), (2, .int a2)]) (S' := [.long ((a1 * 37) + (((a2 - 97) + 1).toInt64))]) (M' := M) [pm_o (.iload_n 2), pm_oi (.bipush 97) 97, pm_o .isub, pm_oi (.iconst 1) 1, pm_o .iadd, pm_o (.istore_n 3), pm_o (.lload_n 0), pm_ol (.ldc2_w 119) 37, pm_o .lmul, pm_o (.iload_n 3), pm_o .i2l, pm_o .ladd] (by decide +kernel) rfl ?_
    have h9 := Option.some.inj h
    subst h9
    exact pm_retl rfl (by decide +kernel) rfl rfl rfl
  · rw [if_neg hc2] at h
    refine pm_blk (pc' := 14) (L' := [(0, .long a1), (2, .int a2)]) (S' := [.int ((a2 - 48) + 27)]) (M' := M) [pm_o (.iload_n 2), pm_oi (.bipush 48) 48, pm_o .isub, pm_oi (.bipush 27) 27, pm_o .iadd] (by decide +kernel) rfl ?_
    refine pm_goto (off := 9) 23 (by decide +kernel) (by decide) ?_
    refine pm_blk (pc' := 32) (L' := [(3, .int ((a2 - 48) + 27)), (0, .long a1), (2, .int a2)]) (S' := [.long ((a1 * 37) + (((a2 - 48) + 27).toInt64))]) (M' := M) [pm_o (.istore_n 3), pm_o (.lload_n 0), pm_ol (.ldc2_w 119) 37, pm_o .lmul, pm_o (.iload_n 3), pm_o .i2l, pm_o .ladd] (by decide +kernel) rfl ?_
    have h9 := Option.some.inj h
    subst h9
    exact pm_retl rfl (by decide +kernel) rfl rfl rfl
def cmN (u : pm_J) : pm_M := cm 139 1225793 rf_154 u
set_option maxHeartbeats 4000000 in
set_option maxRecDepth 100000 in
theorem wN_Md_noTypes_8 (l : Launch) (h0 : Nat) (D : pm_D) {g : pm_s} {N : Nat} {u0 : pm_J} {out : pm_J} {p : Program} {e : Env} {R : Room} {s : State} {m : MethodId} {args : Array Value} {below : List Frame} {meth : Method} {c : Code} : ∀ (n : Nat) (x1 : Int32) (u : pm_J), K_Md_noTypes_8 N g n x1 u = some out → pm_V (p, l, e, R, s, m, args, below, meth, c) m_Md_noTypes h0 D (139, 1225793, 139, 1225793, 0) (pm_E (p, l, e, R, s, m, args, below, meth, c) h0 D (cmN u0) none (cmN out)) 8 [(0, .ref 64), (1, .int x1)] [] (cmN u) := by
  intro n
  induction n with
  | zero => intro x1 u h; cases h
  | succ n ih =>
    intro x1 u h
    rw [K_Md_noTypes_8] at h
    refine pm_blk (pc' := 12) (L' := [(0, .ref 64), (1, .int x1)]) (S' := [.int 8192, .int x1]) (M' := cmN u) [pm_o (.iload_n 1), pm_oi (.sipush 8192) 8192] (by decide +kernel) rfl ?_
    refine pm_ic_ge (off := 16) 28 (by decide +kernel) (by decide) (fun hc1 => ?_) (fun hc1 => ?_)
    · rw [if_pos hc1] at h
      have h9 := Option.some.inj h
      subst h9
      exact pm_retv rfl (by decide +kernel) rfl rfl
    · rw [if_neg hc1] at h
      refine pm_blk (pc' := 21) (L' := [(0, .ref 64), (1, .int x1)]) (S' := [.int (-1), .int x1, .ref 76]) (M' := cmN u) [pm_o (.aload_n 0), pm_of (.getfield 50) 12 17 2, pm_o (.iload_n 1), pm_oi (.iconst (-1)) (-1)] (by decide +kernel) rfl ?_
      obtain ⟨ho2, h⟩ := pm_ifs h
      refine pm_iast (by decide +kernel) rfl  (pm_ok_in ho2) ?_
      refine pm_blk (pc' := 25) (L' := [(1, .int (x1 + 1)), (0, .ref 64)]) (S' := []) (M' := cmN (wi u 76 x1.toNatClampNeg (-1))) [pm_oi (.iinc 1 1) 1] (by decide +kernel) rfl ?_
      refine pm_goto (off := -17) 8 (by decide +kernel) (by decide) ?_
      refine pm_loc [1, 0] rfl ?_
      exact ih (x1 + 1) (wi u 76 x1.toNatClampNeg (-1)) h
set_option maxHeartbeats 4000000 in
set_option maxRecDepth 100000 in
theorem cN_Md_noTypes (l : Launch) (h0 : Nat) (D : pm_D) {g : pm_s} {u : pm_J} {N : Nat} {out : pm_J} (h : F_Md_noTypes N g u = some out) : pm_C l h0 D m_Md_noTypes (0) [.ref 64] (cmN u) none (cmN out) := by
  unfold F_Md_noTypes at h
  refine pm_met (by decide +kernel) (Nat.le_of_ble_eq_true rfl) (Nat.le_refl _) (Nat.le_refl _) ?_
  intro p e R s m args below meth c
  refine pm_blk (pc' := 8) (L' := [(1, .int 0), (0, .ref 64)]) (S' := []) (M' := cmN (wi u 64 18 6)) [pm_o (.aload_n 0), pm_oi (.bipush 6) 6, pm_of (.putfield 240) 12 18 0, pm_oi (.iconst 0) 0, pm_o (.istore_n 1)] (by decide +kernel) rfl ?_
  refine pm_loc [1, 0] rfl ?_
  exact wN_Md_noTypes_8 l h0 D N 0 (wi u 64 18 6) h
set_option maxHeartbeats 4000000 in
set_option maxRecDepth 100000 in
theorem ci_Fault_init (l : Launch) (h0 : Nat) (D : pm_D) : pm_C l h0 D m_Fault_init 1 [.ref 3] (cm 4 3022 rf_2 ua_0) none (cm 4 3022 rf_2 ua_0) := by
  refine pm_met (by decide +kernel) (Nat.le_of_ble_eq_true rfl) (Nat.le_of_ble_eq_true rfl) (Nat.le_of_ble_eq_true rfl) ?_
  intro p e R s m args below meth c
  refine pm_blk (pc' := 1) (L' := [(0, .ref 3)]) (S' := [.ref 3]) (M' := cm 4 3022 rf_2 ua_0) [pm_o (.aload_n 0)] (by decide +kernel) rfl ?_
  refine pm_obj (idx := 3) (by decide +kernel) (pm_c1 45 rfl rfl) (pm_c1 38 rfl rfl) (pm_c1 39 rfl rfl) (Nat.le_of_ble_eq_true rfl) (Nat.le_of_ble_eq_true rfl) ?_
  refine pm_blk (pc' := 4) (L' := [(0, .ref 3)]) (S' := []) (M' := cm 4 3022 rf_2 ua_0) [] (by decide +kernel) rfl ?_
  exact pm_retv rfl (by decide +kernel) rfl rfl
set_option maxHeartbeats 4000000 in
set_option maxRecDepth 100000 in
theorem ci_Fault_init_2 (l : Launch) (h0 : Nat) (D : pm_D) : pm_C l h0 D m_Fault_init 1 [.ref 4] (cm 5 3024 rf_3 ua_0) none (cm 5 3024 rf_3 ua_0) := by
  refine pm_met (by decide +kernel) (Nat.le_of_ble_eq_true rfl) (Nat.le_of_ble_eq_true rfl) (Nat.le_of_ble_eq_true rfl) ?_
  intro p e R s m args below meth c
  refine pm_blk (pc' := 1) (L' := [(0, .ref 4)]) (S' := [.ref 4]) (M' := cm 5 3024 rf_3 ua_0) [pm_o (.aload_n 0)] (by decide +kernel) rfl ?_
  refine pm_obj (idx := 3) (by decide +kernel) (pm_c1 45 rfl rfl) (pm_c1 38 rfl rfl) (pm_c1 39 rfl rfl) (Nat.le_of_ble_eq_true rfl) (Nat.le_of_ble_eq_true rfl) ?_
  refine pm_blk (pc' := 4) (L' := [(0, .ref 4)]) (S' := []) (M' := cm 5 3024 rf_3 ua_0) [] (by decide +kernel) rfl ?_
  exact pm_retv rfl (by decide +kernel) rfl rfl
set_option maxHeartbeats 4000000 in
set_option maxRecDepth 100000 in
theorem tk_Tokens_init_0 (l : Launch) (h0 : Nat) (D : pm_D) {p : Program} {e : Env} {R : Room} {s : State} {m : MethodId} {args : Array Value} {below : List Frame} {meth : Method} {c : Code} {Q : State → Prop} (kk : pm_V (p, l, e, R, s, m, args, below, meth, c) m_Tokens_init h0 D (6, 3031, 10, 5741, 4) Q 51 [(5, .int 1), (3, .long 12), (2, .int 0), (0, .ref 5), (1, .ref 3)] [] (cm 10 5741 rf_9 ua_0)) : pm_V (p, l, e, R, s, m, args, below, meth, c) m_Tokens_init h0 D (6, 3031, 10, 5741, 4) Q 51 [(5, .int 0), (3, .long 0), (2, .int 0), (0, .ref 5), (1, .ref 3)] [] (cm 10 5741 rf_9 ua_0) := by
  refine pm_blk (pc' := 53) (L' := [(5, .int 0), (3, .long 0), (2, .int 0), (0, .ref 5), (1, .ref 3)]) (S' := [.int 0]) (M' := cm 10 5741 rf_9 ua_0) [pm_o (.iload 5)] (by decide +kernel) rfl ?_
  refine pm_ldcx (idx := 29) (fun s h => h.1.2.1) (by decide +kernel) ?_
  refine pm_blk (pc' := 55) (L' := [(5, .int 0), (3, .long 0), (2, .int 0), (0, .ref 5), (1, .ref 3)]) (S' := [.retAddr (D.2.1 0), .int 0]) (M' := cm 10 5741 rf_9 ua_0) [] (by decide +kernel) rfl ?_
  refine pm_cVx (idx := 31) mJ_length (i := 0) (by decide) (cJ_length l h0 D (by decide)) (As := []) (S0 := [.int 0]) rfl (by decide +kernel) kJ_length (pm_c1 63 rfl rfl) (pm_c1 64 rfl rfl) rfl l_Tokens_31 (Nat.le_of_ble_eq_true rfl) (Nat.le_of_ble_eq_true rfl) (Nat.le_of_ble_eq_true rfl) (Nat.le_of_ble_eq_true rfl) ?_
  refine pm_blk (pc' := 58) (L' := [(5, .int 0), (3, .long 0), (2, .int 0), (0, .ref 5), (1, .ref 3)]) (S' := [.int 43, .int 0]) (M' := cm 10 5741 rf_9 ua_0) [] (by decide +kernel) rfl ?_
  refine pm_ic_ge (off := 54) 112 (by decide +kernel) (by decide) (fun hc => ?_) (fun hc => ?_)
  · exact absurd hc (by decide +kernel)
  refine pm_blk (pc' := 64) (L' := [(5, .int 0), (3, .long 0), (2, .int 0), (0, .ref 5), (1, .ref 3)]) (S' := [.int 10, .int 0]) (M' := cm 10 5741 rf_9 ua_0) [pm_o (.iload_n 2), pm_oi (.bipush 10) 10] (by decide +kernel) rfl ?_
  refine pm_ic_ge (off := 48) 112 (by decide +kernel) (by decide) (fun hc => ?_) (fun hc => ?_)
  · exact absurd hc (by decide +kernel)
  refine pm_ldcx (idx := 29) (fun s h => h.1.2.1) (by decide +kernel) ?_
  refine pm_blk (pc' := 71) (L' := [(5, .int 0), (3, .long 0), (2, .int 0), (0, .ref 5), (1, .ref 3)]) (S' := [.int 0, .retAddr (D.2.1 0)]) (M' := cm 10 5741 rf_9 ua_0) [pm_o (.iload 5)] (by decide +kernel) rfl ?_
  refine pm_cVx (idx := 37) mJ_charAt (i := 0) (by decide) (cJ_char l h0 D (by decide) rfl (by decide +kernel)) (As := [.int 0]) (S0 := []) rfl (by decide +kernel) kJ_charAt (pm_c1 73 rfl rfl) (pm_c1 74 rfl rfl) rfl l_Tokens_37 (Nat.le_of_ble_eq_true rfl) (Nat.le_of_ble_eq_true rfl) (Nat.le_of_ble_eq_true rfl) (Nat.le_of_ble_eq_true rfl) ?_
  refine pm_blk (pc' := 76) (L' := [(5, .int 0), (3, .long 0), (2, .int 0), (0, .ref 5), (1, .ref 3)]) (S' := [.int 32, .int 108]) (M' := cm 10 5741 rf_9 ua_0) [pm_oi (.bipush 32) 32] (by decide +kernel) rfl ?_
  refine pm_ic_ne (off := 18) 94 (by decide +kernel) (by decide) (fun hc => ?_) (fun hc => ?_)
  rotate_left
  · exact absurd hc (by decide +kernel)
  refine pm_blk (pc' := 95) (L' := [(5, .int 0), (3, .long 0), (2, .int 0), (0, .ref 5), (1, .ref 3)]) (S' := [.long 0]) (M' := cm 10 5741 rf_9 ua_0) [pm_o (.lload_n 3)] (by decide +kernel) rfl ?_
  refine pm_ldcx (idx := 29) (fun s h => h.1.2.1) (by decide +kernel) ?_
  refine pm_blk (pc' := 99) (L' := [(5, .int 0), (3, .long 0), (2, .int 0), (0, .ref 5), (1, .ref 3)]) (S' := [.int 0, .retAddr (D.2.1 0), .long 0]) (M' := cm 10 5741 rf_9 ua_0) [pm_o (.iload 5)] (by decide +kernel) rfl ?_
  refine pm_cVx (idx := 37) mJ_charAt (i := 0) (by decide) (cJ_char l h0 D (by decide) rfl (by decide +kernel)) (As := [.int 0]) (S0 := [.long 0]) rfl (by decide +kernel) kJ_charAt (pm_c1 73 rfl rfl) (pm_c1 74 rfl rfl) rfl l_Tokens_37 (Nat.le_of_ble_eq_true rfl) (Nat.le_of_ble_eq_true rfl) (Nat.le_of_ble_eq_true rfl) (Nat.le_of_ble_eq_true rfl) ?_
  refine pm_blk (pc' := 102) (L' := [(5, .int 0), (3, .long 0), (2, .int 0), (0, .ref 5), (1, .ref 3)]) (S' := [.int 108, .long 0]) (M' := cm 10 5741 rf_9 ua_0) [] (by decide +kernel) rfl ?_
  refine pm_cS (idx := 41) m_Tokens_withOctet (cM_Tokens_withOctet l h0 D (g := (0, 0, 0, 0)) (u := ua_0) (a1 := 0) (a2 := 108) (out := 12) (by decide +kernel)) (As := [.long 0, .int 108]) (S0 := []) rfl (by decide +kernel) k_Tokens_withOctet l_Tokens_41 (Nat.le_of_ble_eq_true rfl) (Nat.le_of_ble_eq_true rfl) (Nat.le_of_ble_eq_true rfl) (Nat.le_of_ble_eq_true rfl) ?_
  refine pm_blk (pc' := 109) (L' := [(5, .int 1), (3, .long 12), (2, .int 0), (0, .ref 5), (1, .ref 3)]) (S' := []) (M' := cm 10 5741 rf_9 ua_0) [pm_o (.lstore_n 3), pm_oi (.iinc 5 1) 1] (by decide +kernel) rfl ?_
  refine pm_goto (off := -58) 51 (by decide +kernel) (by decide) ?_
  exact kk
set_option maxHeartbeats 4000000 in
set_option maxRecDepth 100000 in
theorem tk_Tokens_init_1 (l : Launch) (h0 : Nat) (D : pm_D) {p : Program} {e : Env} {R : Room} {s : State} {m : MethodId} {args : Array Value} {below : List Frame} {meth : Method} {c : Code} {Q : State → Prop} (kk : pm_V (p, l, e, R, s, m, args, below, meth, c) m_Tokens_init h0 D (6, 3031, 10, 5741, 4) Q 51 [(5, .int 2), (3, .long 459), (2, .int 0), (0, .ref 5), (1, .ref 3)] [] (cm 10 5741 rf_9 ua_0)) : pm_V (p, l, e, R, s, m, args, below, meth, c) m_Tokens_init h0 D (6, 3031, 10, 5741, 4) Q 51 [(5, .int 1), (3, .long 12), (2, .int 0), (0, .ref 5), (1, .ref 3)] [] (cm 10 5741 rf_9 ua_0) := by
  refine pm_blk (pc' := 53) (L' := [(5, .int 1), (3, .long 12), (2, .int 0), (0, .ref 5), (1, .ref 3)]) (S' := [.int 1]) (M' := cm 10 5741 rf_9 ua_0) [pm_o (.iload 5)] (by decide +kernel) rfl ?_
  refine pm_ldcx (idx := 29) (fun s h => h.1.2.1) (by decide +kernel) ?_
  refine pm_blk (pc' := 55) (L' := [(5, .int 1), (3, .long 12), (2, .int 0), (0, .ref 5), (1, .ref 3)]) (S' := [.retAddr (D.2.1 0), .int 1]) (M' := cm 10 5741 rf_9 ua_0) [] (by decide +kernel) rfl ?_
  refine pm_cVx (idx := 31) mJ_length (i := 0) (by decide) (cJ_length l h0 D (by decide)) (As := []) (S0 := [.int 1]) rfl (by decide +kernel) kJ_length (pm_c1 63 rfl rfl) (pm_c1 64 rfl rfl) rfl l_Tokens_31 (Nat.le_of_ble_eq_true rfl) (Nat.le_of_ble_eq_true rfl) (Nat.le_of_ble_eq_true rfl) (Nat.le_of_ble_eq_true rfl) ?_
  refine pm_blk (pc' := 58) (L' := [(5, .int 1), (3, .long 12), (2, .int 0), (0, .ref 5), (1, .ref 3)]) (S' := [.int 43, .int 1]) (M' := cm 10 5741 rf_9 ua_0) [] (by decide +kernel) rfl ?_
  refine pm_ic_ge (off := 54) 112 (by decide +kernel) (by decide) (fun hc => ?_) (fun hc => ?_)
  · exact absurd hc (by decide +kernel)
  refine pm_blk (pc' := 64) (L' := [(5, .int 1), (3, .long 12), (2, .int 0), (0, .ref 5), (1, .ref 3)]) (S' := [.int 10, .int 0]) (M' := cm 10 5741 rf_9 ua_0) [pm_o (.iload_n 2), pm_oi (.bipush 10) 10] (by decide +kernel) rfl ?_
  refine pm_ic_ge (off := 48) 112 (by decide +kernel) (by decide) (fun hc => ?_) (fun hc => ?_)
  · exact absurd hc (by decide +kernel)
  refine pm_ldcx (idx := 29) (fun s h => h.1.2.1) (by decide +kernel) ?_
  refine pm_blk (pc' := 71) (L' := [(5, .int 1), (3, .long 12), (2, .int 0), (0, .ref 5), (1, .ref 3)]) (S' := [.int 1, .retAddr (D.2.1 0)]) (M' := cm 10 5741 rf_9 ua_0) [pm_o (.iload 5)] (by decide +kernel) rfl ?_
  refine pm_cVx (idx := 37) mJ_charAt (i := 0) (by decide) (cJ_char l h0 D (by decide) rfl (by decide +kernel)) (As := [.int 1]) (S0 := []) rfl (by decide +kernel) kJ_charAt (pm_c1 73 rfl rfl) (pm_c1 74 rfl rfl) rfl l_Tokens_37 (Nat.le_of_ble_eq_true rfl) (Nat.le_of_ble_eq_true rfl) (Nat.le_of_ble_eq_true rfl) (Nat.le_of_ble_eq_true rfl) ?_
  refine pm_blk (pc' := 76) (L' := [(5, .int 1), (3, .long 12), (2, .int 0), (0, .ref 5), (1, .ref 3)]) (S' := [.int 32, .int 111]) (M' := cm 10 5741 rf_9 ua_0) [pm_oi (.bipush 32) 32] (by decide +kernel) rfl ?_
  refine pm_ic_ne (off := 18) 94 (by decide +kernel) (by decide) (fun hc => ?_) (fun hc => ?_)
  rotate_left
  · exact absurd hc (by decide +kernel)
  refine pm_blk (pc' := 95) (L' := [(5, .int 1), (3, .long 12), (2, .int 0), (0, .ref 5), (1, .ref 3)]) (S' := [.long 12]) (M' := cm 10 5741 rf_9 ua_0) [pm_o (.lload_n 3)] (by decide +kernel) rfl ?_
  refine pm_ldcx (idx := 29) (fun s h => h.1.2.1) (by decide +kernel) ?_
  refine pm_blk (pc' := 99) (L' := [(5, .int 1), (3, .long 12), (2, .int 0), (0, .ref 5), (1, .ref 3)]) (S' := [.int 1, .retAddr (D.2.1 0), .long 12]) (M' := cm 10 5741 rf_9 ua_0) [pm_o (.iload 5)] (by decide +kernel) rfl ?_
  refine pm_cVx (idx := 37) mJ_charAt (i := 0) (by decide) (cJ_char l h0 D (by decide) rfl (by decide +kernel)) (As := [.int 1]) (S0 := [.long 12]) rfl (by decide +kernel) kJ_charAt (pm_c1 73 rfl rfl) (pm_c1 74 rfl rfl) rfl l_Tokens_37 (Nat.le_of_ble_eq_true rfl) (Nat.le_of_ble_eq_true rfl) (Nat.le_of_ble_eq_true rfl) (Nat.le_of_ble_eq_true rfl) ?_
  refine pm_blk (pc' := 102) (L' := [(5, .int 1), (3, .long 12), (2, .int 0), (0, .ref 5), (1, .ref 3)]) (S' := [.int 111, .long 12]) (M' := cm 10 5741 rf_9 ua_0) [] (by decide +kernel) rfl ?_
  refine pm_cS (idx := 41) m_Tokens_withOctet (cM_Tokens_withOctet l h0 D (g := (0, 0, 0, 0)) (u := ua_0) (a1 := 12) (a2 := 111) (out := 459) (by decide +kernel)) (As := [.long 12, .int 111]) (S0 := []) rfl (by decide +kernel) k_Tokens_withOctet l_Tokens_41 (Nat.le_of_ble_eq_true rfl) (Nat.le_of_ble_eq_true rfl) (Nat.le_of_ble_eq_true rfl) (Nat.le_of_ble_eq_true rfl) ?_
  refine pm_blk (pc' := 109) (L' := [(5, .int 2), (3, .long 459), (2, .int 0), (0, .ref 5), (1, .ref 3)]) (S' := []) (M' := cm 10 5741 rf_9 ua_0) [pm_o (.lstore_n 3), pm_oi (.iinc 5 1) 1] (by decide +kernel) rfl ?_
  refine pm_goto (off := -58) 51 (by decide +kernel) (by decide) ?_
  exact kk
set_option maxHeartbeats 4000000 in
set_option maxRecDepth 100000 in
theorem tk_Tokens_init_2 (l : Launch) (h0 : Nat) (D : pm_D) {p : Program} {e : Env} {R : Room} {s : State} {m : MethodId} {args : Array Value} {below : List Frame} {meth : Method} {c : Code} {Q : State → Prop} (kk : pm_V (p, l, e, R, s, m, args, below, meth, c) m_Tokens_init h0 D (6, 3031, 10, 5741, 4) Q 51 [(5, .int 3), (3, .long 16997), (2, .int 0), (0, .ref 5), (1, .ref 3)] [] (cm 10 5741 rf_9 ua_0)) : pm_V (p, l, e, R, s, m, args, below, meth, c) m_Tokens_init h0 D (6, 3031, 10, 5741, 4) Q 51 [(5, .int 2), (3, .long 459), (2, .int 0), (0, .ref 5), (1, .ref 3)] [] (cm 10 5741 rf_9 ua_0) := by
  refine pm_blk (pc' := 53) (L' := [(5, .int 2), (3, .long 459), (2, .int 0), (0, .ref 5), (1, .ref 3)]) (S' := [.int 2]) (M' := cm 10 5741 rf_9 ua_0) [pm_o (.iload 5)] (by decide +kernel) rfl ?_
  refine pm_ldcx (idx := 29) (fun s h => h.1.2.1) (by decide +kernel) ?_
  refine pm_blk (pc' := 55) (L' := [(5, .int 2), (3, .long 459), (2, .int 0), (0, .ref 5), (1, .ref 3)]) (S' := [.retAddr (D.2.1 0), .int 2]) (M' := cm 10 5741 rf_9 ua_0) [] (by decide +kernel) rfl ?_
  refine pm_cVx (idx := 31) mJ_length (i := 0) (by decide) (cJ_length l h0 D (by decide)) (As := []) (S0 := [.int 2]) rfl (by decide +kernel) kJ_length (pm_c1 63 rfl rfl) (pm_c1 64 rfl rfl) rfl l_Tokens_31 (Nat.le_of_ble_eq_true rfl) (Nat.le_of_ble_eq_true rfl) (Nat.le_of_ble_eq_true rfl) (Nat.le_of_ble_eq_true rfl) ?_
  refine pm_blk (pc' := 58) (L' := [(5, .int 2), (3, .long 459), (2, .int 0), (0, .ref 5), (1, .ref 3)]) (S' := [.int 43, .int 2]) (M' := cm 10 5741 rf_9 ua_0) [] (by decide +kernel) rfl ?_
  refine pm_ic_ge (off := 54) 112 (by decide +kernel) (by decide) (fun hc => ?_) (fun hc => ?_)
  · exact absurd hc (by decide +kernel)
  refine pm_blk (pc' := 64) (L' := [(5, .int 2), (3, .long 459), (2, .int 0), (0, .ref 5), (1, .ref 3)]) (S' := [.int 10, .int 0]) (M' := cm 10 5741 rf_9 ua_0) [pm_o (.iload_n 2), pm_oi (.bipush 10) 10] (by decide +kernel) rfl ?_
  refine pm_ic_ge (off := 48) 112 (by decide +kernel) (by decide) (fun hc => ?_) (fun hc => ?_)
  · exact absurd hc (by decide +kernel)
  refine pm_ldcx (idx := 29) (fun s h => h.1.2.1) (by decide +kernel) ?_
  refine pm_blk (pc' := 71) (L' := [(5, .int 2), (3, .long 459), (2, .int 0), (0, .ref 5), (1, .ref 3)]) (S' := [.int 2, .retAddr (D.2.1 0)]) (M' := cm 10 5741 rf_9 ua_0) [pm_o (.iload 5)] (by decide +kernel) rfl ?_
  refine pm_cVx (idx := 37) mJ_charAt (i := 0) (by decide) (cJ_char l h0 D (by decide) rfl (by decide +kernel)) (As := [.int 2]) (S0 := []) rfl (by decide +kernel) kJ_charAt (pm_c1 73 rfl rfl) (pm_c1 74 rfl rfl) rfl l_Tokens_37 (Nat.le_of_ble_eq_true rfl) (Nat.le_of_ble_eq_true rfl) (Nat.le_of_ble_eq_true rfl) (Nat.le_of_ble_eq_true rfl) ?_
  refine pm_blk (pc' := 76) (L' := [(5, .int 2), (3, .long 459), (2, .int 0), (0, .ref 5), (1, .ref 3)]) (S' := [.int 32, .int 110]) (M' := cm 10 5741 rf_9 ua_0) [pm_oi (.bipush 32) 32] (by decide +kernel) rfl ?_
  refine pm_ic_ne (off := 18) 94 (by decide +kernel) (by decide) (fun hc => ?_) (fun hc => ?_)
  rotate_left
  · exact absurd hc (by decide +kernel)
  refine pm_blk (pc' := 95) (L' := [(5, .int 2), (3, .long 459), (2, .int 0), (0, .ref 5), (1, .ref 3)]) (S' := [.long 459]) (M' := cm 10 5741 rf_9 ua_0) [pm_o (.lload_n 3)] (by decide +kernel) rfl ?_
  refine pm_ldcx (idx := 29) (fun s h => h.1.2.1) (by decide +kernel) ?_
  refine pm_blk (pc' := 99) (L' := [(5, .int 2), (3, .long 459), (2, .int 0), (0, .ref 5), (1, .ref 3)]) (S' := [.int 2, .retAddr (D.2.1 0), .long 459]) (M' := cm 10 5741 rf_9 ua_0) [pm_o (.iload 5)] (by decide +kernel) rfl ?_
  refine pm_cVx (idx := 37) mJ_charAt (i := 0) (by decide) (cJ_char l h0 D (by decide) rfl (by decide +kernel)) (As := [.int 2]) (S0 := [.long 459]) rfl (by decide +kernel) kJ_charAt (pm_c1 73 rfl rfl) (pm_c1 74 rfl rfl) rfl l_Tokens_37 (Nat.le_of_ble_eq_true rfl) (Nat.le_of_ble_eq_true rfl) (Nat.le_of_ble_eq_true rfl) (Nat.le_of_ble_eq_true rfl) ?_
  refine pm_blk (pc' := 102) (L' := [(5, .int 2), (3, .long 459), (2, .int 0), (0, .ref 5), (1, .ref 3)]) (S' := [.int 110, .long 459]) (M' := cm 10 5741 rf_9 ua_0) [] (by decide +kernel) rfl ?_
  refine pm_cS (idx := 41) m_Tokens_withOctet (cM_Tokens_withOctet l h0 D (g := (0, 0, 0, 0)) (u := ua_0) (a1 := 459) (a2 := 110) (out := 16997) (by decide +kernel)) (As := [.long 459, .int 110]) (S0 := []) rfl (by decide +kernel) k_Tokens_withOctet l_Tokens_41 (Nat.le_of_ble_eq_true rfl) (Nat.le_of_ble_eq_true rfl) (Nat.le_of_ble_eq_true rfl) (Nat.le_of_ble_eq_true rfl) ?_
  refine pm_blk (pc' := 109) (L' := [(5, .int 3), (3, .long 16997), (2, .int 0), (0, .ref 5), (1, .ref 3)]) (S' := []) (M' := cm 10 5741 rf_9 ua_0) [pm_o (.lstore_n 3), pm_oi (.iinc 5 1) 1] (by decide +kernel) rfl ?_
  refine pm_goto (off := -58) 51 (by decide +kernel) (by decide) ?_
  exact kk
set_option maxHeartbeats 4000000 in
set_option maxRecDepth 100000 in
theorem tk_Tokens_init_3 (l : Launch) (h0 : Nat) (D : pm_D) {p : Program} {e : Env} {R : Room} {s : State} {m : MethodId} {args : Array Value} {below : List Frame} {meth : Method} {c : Code} {Q : State → Prop} (kk : pm_V (p, l, e, R, s, m, args, below, meth, c) m_Tokens_init h0 D (6, 3031, 10, 5741, 4) Q 51 [(5, .int 4), (3, .long 628896), (2, .int 0), (0, .ref 5), (1, .ref 3)] [] (cm 10 5741 rf_9 ua_0)) : pm_V (p, l, e, R, s, m, args, below, meth, c) m_Tokens_init h0 D (6, 3031, 10, 5741, 4) Q 51 [(5, .int 3), (3, .long 16997), (2, .int 0), (0, .ref 5), (1, .ref 3)] [] (cm 10 5741 rf_9 ua_0) := by
  refine pm_blk (pc' := 53) (L' := [(5, .int 3), (3, .long 16997), (2, .int 0), (0, .ref 5), (1, .ref 3)]) (S' := [.int 3]) (M' := cm 10 5741 rf_9 ua_0) [pm_o (.iload 5)] (by decide +kernel) rfl ?_
  refine pm_ldcx (idx := 29) (fun s h => h.1.2.1) (by decide +kernel) ?_
  refine pm_blk (pc' := 55) (L' := [(5, .int 3), (3, .long 16997), (2, .int 0), (0, .ref 5), (1, .ref 3)]) (S' := [.retAddr (D.2.1 0), .int 3]) (M' := cm 10 5741 rf_9 ua_0) [] (by decide +kernel) rfl ?_
  refine pm_cVx (idx := 31) mJ_length (i := 0) (by decide) (cJ_length l h0 D (by decide)) (As := []) (S0 := [.int 3]) rfl (by decide +kernel) kJ_length (pm_c1 63 rfl rfl) (pm_c1 64 rfl rfl) rfl l_Tokens_31 (Nat.le_of_ble_eq_true rfl) (Nat.le_of_ble_eq_true rfl) (Nat.le_of_ble_eq_true rfl) (Nat.le_of_ble_eq_true rfl) ?_
  refine pm_blk (pc' := 58) (L' := [(5, .int 3), (3, .long 16997), (2, .int 0), (0, .ref 5), (1, .ref 3)]) (S' := [.int 43, .int 3]) (M' := cm 10 5741 rf_9 ua_0) [] (by decide +kernel) rfl ?_
  refine pm_ic_ge (off := 54) 112 (by decide +kernel) (by decide) (fun hc => ?_) (fun hc => ?_)
  · exact absurd hc (by decide +kernel)
  refine pm_blk (pc' := 64) (L' := [(5, .int 3), (3, .long 16997), (2, .int 0), (0, .ref 5), (1, .ref 3)]) (S' := [.int 10, .int 0]) (M' := cm 10 5741 rf_9 ua_0) [pm_o (.iload_n 2), pm_oi (.bipush 10) 10] (by decide +kernel) rfl ?_
  refine pm_ic_ge (off := 48) 112 (by decide +kernel) (by decide) (fun hc => ?_) (fun hc => ?_)
  · exact absurd hc (by decide +kernel)
  refine pm_ldcx (idx := 29) (fun s h => h.1.2.1) (by decide +kernel) ?_
  refine pm_blk (pc' := 71) (L' := [(5, .int 3), (3, .long 16997), (2, .int 0), (0, .ref 5), (1, .ref 3)]) (S' := [.int 3, .retAddr (D.2.1 0)]) (M' := cm 10 5741 rf_9 ua_0) [pm_o (.iload 5)] (by decide +kernel) rfl ?_
  refine pm_cVx (idx := 37) mJ_charAt (i := 0) (by decide) (cJ_char l h0 D (by decide) rfl (by decide +kernel)) (As := [.int 3]) (S0 := []) rfl (by decide +kernel) kJ_charAt (pm_c1 73 rfl rfl) (pm_c1 74 rfl rfl) rfl l_Tokens_37 (Nat.le_of_ble_eq_true rfl) (Nat.le_of_ble_eq_true rfl) (Nat.le_of_ble_eq_true rfl) (Nat.le_of_ble_eq_true rfl) ?_
  refine pm_blk (pc' := 76) (L' := [(5, .int 3), (3, .long 16997), (2, .int 0), (0, .ref 5), (1, .ref 3)]) (S' := [.int 32, .int 103]) (M' := cm 10 5741 rf_9 ua_0) [pm_oi (.bipush 32) 32] (by decide +kernel) rfl ?_
  refine pm_ic_ne (off := 18) 94 (by decide +kernel) (by decide) (fun hc => ?_) (fun hc => ?_)
  rotate_left
  · exact absurd hc (by decide +kernel)
  refine pm_blk (pc' := 95) (L' := [(5, .int 3), (3, .long 16997), (2, .int 0), (0, .ref 5), (1, .ref 3)]) (S' := [.long 16997]) (M' := cm 10 5741 rf_9 ua_0) [pm_o (.lload_n 3)] (by decide +kernel) rfl ?_
  refine pm_ldcx (idx := 29) (fun s h => h.1.2.1) (by decide +kernel) ?_
  refine pm_blk (pc' := 99) (L' := [(5, .int 3), (3, .long 16997), (2, .int 0), (0, .ref 5), (1, .ref 3)]) (S' := [.int 3, .retAddr (D.2.1 0), .long 16997]) (M' := cm 10 5741 rf_9 ua_0) [pm_o (.iload 5)] (by decide +kernel) rfl ?_
  refine pm_cVx (idx := 37) mJ_charAt (i := 0) (by decide) (cJ_char l h0 D (by decide) rfl (by decide +kernel)) (As := [.int 3]) (S0 := [.long 16997]) rfl (by decide +kernel) kJ_charAt (pm_c1 73 rfl rfl) (pm_c1 74 rfl rfl) rfl l_Tokens_37 (Nat.le_of_ble_eq_true rfl) (Nat.le_of_ble_eq_true rfl) (Nat.le_of_ble_eq_true rfl) (Nat.le_of_ble_eq_true rfl) ?_
  refine pm_blk (pc' := 102) (L' := [(5, .int 3), (3, .long 16997), (2, .int 0), (0, .ref 5), (1, .ref 3)]) (S' := [.int 103, .long 16997]) (M' := cm 10 5741 rf_9 ua_0) [] (by decide +kernel) rfl ?_
  refine pm_cS (idx := 41) m_Tokens_withOctet (cM_Tokens_withOctet l h0 D (g := (0, 0, 0, 0)) (u := ua_0) (a1 := 16997) (a2 := 103) (out := 628896) (by decide +kernel)) (As := [.long 16997, .int 103]) (S0 := []) rfl (by decide +kernel) k_Tokens_withOctet l_Tokens_41 (Nat.le_of_ble_eq_true rfl) (Nat.le_of_ble_eq_true rfl) (Nat.le_of_ble_eq_true rfl) (Nat.le_of_ble_eq_true rfl) ?_
  refine pm_blk (pc' := 109) (L' := [(5, .int 4), (3, .long 628896), (2, .int 0), (0, .ref 5), (1, .ref 3)]) (S' := []) (M' := cm 10 5741 rf_9 ua_0) [pm_o (.lstore_n 3), pm_oi (.iinc 5 1) 1] (by decide +kernel) rfl ?_
  refine pm_goto (off := -58) 51 (by decide +kernel) (by decide) ?_
  exact kk
set_option maxHeartbeats 4000000 in
set_option maxRecDepth 100000 in
theorem tk_Tokens_init_4 (l : Launch) (h0 : Nat) (D : pm_D) {p : Program} {e : Env} {R : Room} {s : State} {m : MethodId} {args : Array Value} {below : List Frame} {meth : Method} {c : Code} {Q : State → Prop} (kk : pm_V (p, l, e, R, s, m, args, below, meth, c) m_Tokens_init h0 D (6, 3031, 10, 5741, 4) Q 51 [(5, .int 5), (3, .long 0), (2, .int 1), (0, .ref 5), (1, .ref 3)] [] (cm 10 5741 rf_9 ua_1)) : pm_V (p, l, e, R, s, m, args, below, meth, c) m_Tokens_init h0 D (6, 3031, 10, 5741, 4) Q 51 [(5, .int 4), (3, .long 628896), (2, .int 0), (0, .ref 5), (1, .ref 3)] [] (cm 10 5741 rf_9 ua_0) := by
  refine pm_blk (pc' := 53) (L' := [(5, .int 4), (3, .long 628896), (2, .int 0), (0, .ref 5), (1, .ref 3)]) (S' := [.int 4]) (M' := cm 10 5741 rf_9 ua_0) [pm_o (.iload 5)] (by decide +kernel) rfl ?_
  refine pm_ldcx (idx := 29) (fun s h => h.1.2.1) (by decide +kernel) ?_
  refine pm_blk (pc' := 55) (L' := [(5, .int 4), (3, .long 628896), (2, .int 0), (0, .ref 5), (1, .ref 3)]) (S' := [.retAddr (D.2.1 0), .int 4]) (M' := cm 10 5741 rf_9 ua_0) [] (by decide +kernel) rfl ?_
  refine pm_cVx (idx := 31) mJ_length (i := 0) (by decide) (cJ_length l h0 D (by decide)) (As := []) (S0 := [.int 4]) rfl (by decide +kernel) kJ_length (pm_c1 63 rfl rfl) (pm_c1 64 rfl rfl) rfl l_Tokens_31 (Nat.le_of_ble_eq_true rfl) (Nat.le_of_ble_eq_true rfl) (Nat.le_of_ble_eq_true rfl) (Nat.le_of_ble_eq_true rfl) ?_
  refine pm_blk (pc' := 58) (L' := [(5, .int 4), (3, .long 628896), (2, .int 0), (0, .ref 5), (1, .ref 3)]) (S' := [.int 43, .int 4]) (M' := cm 10 5741 rf_9 ua_0) [] (by decide +kernel) rfl ?_
  refine pm_ic_ge (off := 54) 112 (by decide +kernel) (by decide) (fun hc => ?_) (fun hc => ?_)
  · exact absurd hc (by decide +kernel)
  refine pm_blk (pc' := 64) (L' := [(5, .int 4), (3, .long 628896), (2, .int 0), (0, .ref 5), (1, .ref 3)]) (S' := [.int 10, .int 0]) (M' := cm 10 5741 rf_9 ua_0) [pm_o (.iload_n 2), pm_oi (.bipush 10) 10] (by decide +kernel) rfl ?_
  refine pm_ic_ge (off := 48) 112 (by decide +kernel) (by decide) (fun hc => ?_) (fun hc => ?_)
  · exact absurd hc (by decide +kernel)
  refine pm_ldcx (idx := 29) (fun s h => h.1.2.1) (by decide +kernel) ?_
  refine pm_blk (pc' := 71) (L' := [(5, .int 4), (3, .long 628896), (2, .int 0), (0, .ref 5), (1, .ref 3)]) (S' := [.int 4, .retAddr (D.2.1 0)]) (M' := cm 10 5741 rf_9 ua_0) [pm_o (.iload 5)] (by decide +kernel) rfl ?_
  refine pm_cVx (idx := 37) mJ_charAt (i := 0) (by decide) (cJ_char l h0 D (by decide) rfl (by decide +kernel)) (As := [.int 4]) (S0 := []) rfl (by decide +kernel) kJ_charAt (pm_c1 73 rfl rfl) (pm_c1 74 rfl rfl) rfl l_Tokens_37 (Nat.le_of_ble_eq_true rfl) (Nat.le_of_ble_eq_true rfl) (Nat.le_of_ble_eq_true rfl) (Nat.le_of_ble_eq_true rfl) ?_
  refine pm_blk (pc' := 76) (L' := [(5, .int 4), (3, .long 628896), (2, .int 0), (0, .ref 5), (1, .ref 3)]) (S' := [.int 32, .int 32]) (M' := cm 10 5741 rf_9 ua_0) [pm_oi (.bipush 32) 32] (by decide +kernel) rfl ?_
  refine pm_ic_ne (off := 18) 94 (by decide +kernel) (by decide) (fun hc => ?_) (fun hc => ?_)
  · exact absurd hc (by decide +kernel)
  refine pm_blk (pc' := 85) (L' := [(5, .int 4), (3, .long 628896), (2, .int 0), (0, .ref 5), (1, .ref 3)]) (S' := [.long 628896, .int 0, .ref 9]) (M' := cm 10 5741 rf_9 ua_0) [pm_o (.aload_n 0), pm_of (.getfield 26) 9 4 2, pm_o (.iload_n 2), pm_o (.lload_n 3)] (by decide +kernel) rfl ?_
  refine pm_last (by decide +kernel) rfl (pm_ok_in (by decide +kernel)) ?_
  refine pm_blk (pc' := 91) (L' := [(3, .long 0), (2, .int 1), (5, .int 4), (0, .ref 5), (1, .ref 3)]) (S' := []) (M' := cm 10 5741 rf_9 ua_1) [pm_oi (.iinc 2 1) 1, pm_ol (.lconst 0) 0, pm_o (.lstore_n 3)] (by decide +kernel) rfl ?_
  refine pm_goto (off := 15) 106 (by decide +kernel) (by decide) ?_
  refine pm_blk (pc' := 109) (L' := [(5, .int 5), (3, .long 0), (2, .int 1), (0, .ref 5), (1, .ref 3)]) (S' := []) (M' := cm 10 5741 rf_9 ua_1) [pm_oi (.iinc 5 1) 1] (by decide +kernel) rfl ?_
  refine pm_goto (off := -58) 51 (by decide +kernel) (by decide) ?_
  exact kk
set_option maxHeartbeats 4000000 in
set_option maxRecDepth 100000 in
theorem tk_Tokens_init_5 (l : Launch) (h0 : Nat) (D : pm_D) {p : Program} {e : Env} {R : Room} {s : State} {m : MethodId} {args : Array Value} {below : List Frame} {meth : Method} {c : Code} {Q : State → Prop} (kk : pm_V (p, l, e, R, s, m, args, below, meth, c) m_Tokens_init h0 D (6, 3031, 10, 5741, 4) Q 51 [(5, .int 6), (3, .long 4), (2, .int 1), (0, .ref 5), (1, .ref 3)] [] (cm 10 5741 rf_9 ua_1)) : pm_V (p, l, e, R, s, m, args, below, meth, c) m_Tokens_init h0 D (6, 3031, 10, 5741, 4) Q 51 [(5, .int 5), (3, .long 0), (2, .int 1), (0, .ref 5), (1, .ref 3)] [] (cm 10 5741 rf_9 ua_1) := by
  refine pm_blk (pc' := 53) (L' := [(5, .int 5), (3, .long 0), (2, .int 1), (0, .ref 5), (1, .ref 3)]) (S' := [.int 5]) (M' := cm 10 5741 rf_9 ua_1) [pm_o (.iload 5)] (by decide +kernel) rfl ?_
  refine pm_ldcx (idx := 29) (fun s h => h.1.2.1) (by decide +kernel) ?_
  refine pm_blk (pc' := 55) (L' := [(5, .int 5), (3, .long 0), (2, .int 1), (0, .ref 5), (1, .ref 3)]) (S' := [.retAddr (D.2.1 0), .int 5]) (M' := cm 10 5741 rf_9 ua_1) [] (by decide +kernel) rfl ?_
  refine pm_cVx (idx := 31) mJ_length (i := 0) (by decide) (cJ_length l h0 D (by decide)) (As := []) (S0 := [.int 5]) rfl (by decide +kernel) kJ_length (pm_c1 63 rfl rfl) (pm_c1 64 rfl rfl) rfl l_Tokens_31 (Nat.le_of_ble_eq_true rfl) (Nat.le_of_ble_eq_true rfl) (Nat.le_of_ble_eq_true rfl) (Nat.le_of_ble_eq_true rfl) ?_
  refine pm_blk (pc' := 58) (L' := [(5, .int 5), (3, .long 0), (2, .int 1), (0, .ref 5), (1, .ref 3)]) (S' := [.int 43, .int 5]) (M' := cm 10 5741 rf_9 ua_1) [] (by decide +kernel) rfl ?_
  refine pm_ic_ge (off := 54) 112 (by decide +kernel) (by decide) (fun hc => ?_) (fun hc => ?_)
  · exact absurd hc (by decide +kernel)
  refine pm_blk (pc' := 64) (L' := [(5, .int 5), (3, .long 0), (2, .int 1), (0, .ref 5), (1, .ref 3)]) (S' := [.int 10, .int 1]) (M' := cm 10 5741 rf_9 ua_1) [pm_o (.iload_n 2), pm_oi (.bipush 10) 10] (by decide +kernel) rfl ?_
  refine pm_ic_ge (off := 48) 112 (by decide +kernel) (by decide) (fun hc => ?_) (fun hc => ?_)
  · exact absurd hc (by decide +kernel)
  refine pm_ldcx (idx := 29) (fun s h => h.1.2.1) (by decide +kernel) ?_
  refine pm_blk (pc' := 71) (L' := [(5, .int 5), (3, .long 0), (2, .int 1), (0, .ref 5), (1, .ref 3)]) (S' := [.int 5, .retAddr (D.2.1 0)]) (M' := cm 10 5741 rf_9 ua_1) [pm_o (.iload 5)] (by decide +kernel) rfl ?_
  refine pm_cVx (idx := 37) mJ_charAt (i := 0) (by decide) (cJ_char l h0 D (by decide) rfl (by decide +kernel)) (As := [.int 5]) (S0 := []) rfl (by decide +kernel) kJ_charAt (pm_c1 73 rfl rfl) (pm_c1 74 rfl rfl) rfl l_Tokens_37 (Nat.le_of_ble_eq_true rfl) (Nat.le_of_ble_eq_true rfl) (Nat.le_of_ble_eq_true rfl) (Nat.le_of_ble_eq_true rfl) ?_
  refine pm_blk (pc' := 76) (L' := [(5, .int 5), (3, .long 0), (2, .int 1), (0, .ref 5), (1, .ref 3)]) (S' := [.int 32, .int 100]) (M' := cm 10 5741 rf_9 ua_1) [pm_oi (.bipush 32) 32] (by decide +kernel) rfl ?_
  refine pm_ic_ne (off := 18) 94 (by decide +kernel) (by decide) (fun hc => ?_) (fun hc => ?_)
  rotate_left
  · exact absurd hc (by decide +kernel)
  refine pm_blk (pc' := 95) (L' := [(5, .int 5), (3, .long 0), (2, .int 1), (0, .ref 5), (1, .ref 3)]) (S' := [.long 0]) (M' := cm 10 5741 rf_9 ua_1) [pm_o (.lload_n 3)] (by decide +kernel) rfl ?_
  refine pm_ldcx (idx := 29) (fun s h => h.1.2.1) (by decide +kernel) ?_
  refine pm_blk (pc' := 99) (L' := [(5, .int 5), (3, .long 0), (2, .int 1), (0, .ref 5), (1, .ref 3)]) (S' := [.int 5, .retAddr (D.2.1 0), .long 0]) (M' := cm 10 5741 rf_9 ua_1) [pm_o (.iload 5)] (by decide +kernel) rfl ?_
  refine pm_cVx (idx := 37) mJ_charAt (i := 0) (by decide) (cJ_char l h0 D (by decide) rfl (by decide +kernel)) (As := [.int 5]) (S0 := [.long 0]) rfl (by decide +kernel) kJ_charAt (pm_c1 73 rfl rfl) (pm_c1 74 rfl rfl) rfl l_Tokens_37 (Nat.le_of_ble_eq_true rfl) (Nat.le_of_ble_eq_true rfl) (Nat.le_of_ble_eq_true rfl) (Nat.le_of_ble_eq_true rfl) ?_
  refine pm_blk (pc' := 102) (L' := [(5, .int 5), (3, .long 0), (2, .int 1), (0, .ref 5), (1, .ref 3)]) (S' := [.int 100, .long 0]) (M' := cm 10 5741 rf_9 ua_1) [] (by decide +kernel) rfl ?_
  refine pm_cS (idx := 41) m_Tokens_withOctet (cM_Tokens_withOctet l h0 D (g := (0, 0, 0, 0)) (u := ua_0) (a1 := 0) (a2 := 100) (out := 4) (by decide +kernel)) (As := [.long 0, .int 100]) (S0 := []) rfl (by decide +kernel) k_Tokens_withOctet l_Tokens_41 (Nat.le_of_ble_eq_true rfl) (Nat.le_of_ble_eq_true rfl) (Nat.le_of_ble_eq_true rfl) (Nat.le_of_ble_eq_true rfl) ?_
  refine pm_blk (pc' := 109) (L' := [(5, .int 6), (3, .long 4), (2, .int 1), (0, .ref 5), (1, .ref 3)]) (S' := []) (M' := cm 10 5741 rf_9 ua_1) [pm_o (.lstore_n 3), pm_oi (.iinc 5 1) 1] (by decide +kernel) rfl ?_
  refine pm_goto (off := -58) 51 (by decide +kernel) (by decide) ?_
  exact kk
set_option maxHeartbeats 4000000 in
set_option maxRecDepth 100000 in
theorem tk_Tokens_init_6 (l : Launch) (h0 : Nat) (D : pm_D) {p : Program} {e : Env} {R : Room} {s : State} {m : MethodId} {args : Array Value} {below : List Frame} {meth : Method} {c : Code} {Q : State → Prop} (kk : pm_V (p, l, e, R, s, m, args, below, meth, c) m_Tokens_init h0 D (6, 3031, 10, 5741, 4) Q 51 [(5, .int 7), (3, .long 163), (2, .int 1), (0, .ref 5), (1, .ref 3)] [] (cm 10 5741 rf_9 ua_1)) : pm_V (p, l, e, R, s, m, args, below, meth, c) m_Tokens_init h0 D (6, 3031, 10, 5741, 4) Q 51 [(5, .int 6), (3, .long 4), (2, .int 1), (0, .ref 5), (1, .ref 3)] [] (cm 10 5741 rf_9 ua_1) := by
  refine pm_blk (pc' := 53) (L' := [(5, .int 6), (3, .long 4), (2, .int 1), (0, .ref 5), (1, .ref 3)]) (S' := [.int 6]) (M' := cm 10 5741 rf_9 ua_1) [pm_o (.iload 5)] (by decide +kernel) rfl ?_
  refine pm_ldcx (idx := 29) (fun s h => h.1.2.1) (by decide +kernel) ?_
  refine pm_blk (pc' := 55) (L' := [(5, .int 6), (3, .long 4), (2, .int 1), (0, .ref 5), (1, .ref 3)]) (S' := [.retAddr (D.2.1 0), .int 6]) (M' := cm 10 5741 rf_9 ua_1) [] (by decide +kernel) rfl ?_
  refine pm_cVx (idx := 31) mJ_length (i := 0) (by decide) (cJ_length l h0 D (by decide)) (As := []) (S0 := [.int 6]) rfl (by decide +kernel) kJ_length (pm_c1 63 rfl rfl) (pm_c1 64 rfl rfl) rfl l_Tokens_31 (Nat.le_of_ble_eq_true rfl) (Nat.le_of_ble_eq_true rfl) (Nat.le_of_ble_eq_true rfl) (Nat.le_of_ble_eq_true rfl) ?_
  refine pm_blk (pc' := 58) (L' := [(5, .int 6), (3, .long 4), (2, .int 1), (0, .ref 5), (1, .ref 3)]) (S' := [.int 43, .int 6]) (M' := cm 10 5741 rf_9 ua_1) [] (by decide +kernel) rfl ?_
  refine pm_ic_ge (off := 54) 112 (by decide +kernel) (by decide) (fun hc => ?_) (fun hc => ?_)
  · exact absurd hc (by decide +kernel)
  refine pm_blk (pc' := 64) (L' := [(5, .int 6), (3, .long 4), (2, .int 1), (0, .ref 5), (1, .ref 3)]) (S' := [.int 10, .int 1]) (M' := cm 10 5741 rf_9 ua_1) [pm_o (.iload_n 2), pm_oi (.bipush 10) 10] (by decide +kernel) rfl ?_
  refine pm_ic_ge (off := 48) 112 (by decide +kernel) (by decide) (fun hc => ?_) (fun hc => ?_)
  · exact absurd hc (by decide +kernel)
  refine pm_ldcx (idx := 29) (fun s h => h.1.2.1) (by decide +kernel) ?_
  refine pm_blk (pc' := 71) (L' := [(5, .int 6), (3, .long 4), (2, .int 1), (0, .ref 5), (1, .ref 3)]) (S' := [.int 6, .retAddr (D.2.1 0)]) (M' := cm 10 5741 rf_9 ua_1) [pm_o (.iload 5)] (by decide +kernel) rfl ?_
  refine pm_cVx (idx := 37) mJ_charAt (i := 0) (by decide) (cJ_char l h0 D (by decide) rfl (by decide +kernel)) (As := [.int 6]) (S0 := []) rfl (by decide +kernel) kJ_charAt (pm_c1 73 rfl rfl) (pm_c1 74 rfl rfl) rfl l_Tokens_37 (Nat.le_of_ble_eq_true rfl) (Nat.le_of_ble_eq_true rfl) (Nat.le_of_ble_eq_true rfl) (Nat.le_of_ble_eq_true rfl) ?_
  refine pm_blk (pc' := 76) (L' := [(5, .int 6), (3, .long 4), (2, .int 1), (0, .ref 5), (1, .ref 3)]) (S' := [.int 32, .int 111]) (M' := cm 10 5741 rf_9 ua_1) [pm_oi (.bipush 32) 32] (by decide +kernel) rfl ?_
  refine pm_ic_ne (off := 18) 94 (by decide +kernel) (by decide) (fun hc => ?_) (fun hc => ?_)
  rotate_left
  · exact absurd hc (by decide +kernel)
  refine pm_blk (pc' := 95) (L' := [(5, .int 6), (3, .long 4), (2, .int 1), (0, .ref 5), (1, .ref 3)]) (S' := [.long 4]) (M' := cm 10 5741 rf_9 ua_1) [pm_o (.lload_n 3)] (by decide +kernel) rfl ?_
  refine pm_ldcx (idx := 29) (fun s h => h.1.2.1) (by decide +kernel) ?_
  refine pm_blk (pc' := 99) (L' := [(5, .int 6), (3, .long 4), (2, .int 1), (0, .ref 5), (1, .ref 3)]) (S' := [.int 6, .retAddr (D.2.1 0), .long 4]) (M' := cm 10 5741 rf_9 ua_1) [pm_o (.iload 5)] (by decide +kernel) rfl ?_
  refine pm_cVx (idx := 37) mJ_charAt (i := 0) (by decide) (cJ_char l h0 D (by decide) rfl (by decide +kernel)) (As := [.int 6]) (S0 := [.long 4]) rfl (by decide +kernel) kJ_charAt (pm_c1 73 rfl rfl) (pm_c1 74 rfl rfl) rfl l_Tokens_37 (Nat.le_of_ble_eq_true rfl) (Nat.le_of_ble_eq_true rfl) (Nat.le_of_ble_eq_true rfl) (Nat.le_of_ble_eq_true rfl) ?_
  refine pm_blk (pc' := 102) (L' := [(5, .int 6), (3, .long 4), (2, .int 1), (0, .ref 5), (1, .ref 3)]) (S' := [.int 111, .long 4]) (M' := cm 10 5741 rf_9 ua_1) [] (by decide +kernel) rfl ?_
  refine pm_cS (idx := 41) m_Tokens_withOctet (cM_Tokens_withOctet l h0 D (g := (0, 0, 0, 0)) (u := ua_0) (a1 := 4) (a2 := 111) (out := 163) (by decide +kernel)) (As := [.long 4, .int 111]) (S0 := []) rfl (by decide +kernel) k_Tokens_withOctet l_Tokens_41 (Nat.le_of_ble_eq_true rfl) (Nat.le_of_ble_eq_true rfl) (Nat.le_of_ble_eq_true rfl) (Nat.le_of_ble_eq_true rfl) ?_
  refine pm_blk (pc' := 109) (L' := [(5, .int 7), (3, .long 163), (2, .int 1), (0, .ref 5), (1, .ref 3)]) (S' := []) (M' := cm 10 5741 rf_9 ua_1) [pm_o (.lstore_n 3), pm_oi (.iinc 5 1) 1] (by decide +kernel) rfl ?_
  refine pm_goto (off := -58) 51 (by decide +kernel) (by decide) ?_
  exact kk
set_option maxHeartbeats 4000000 in
set_option maxRecDepth 100000 in
theorem tk_Tokens_init_7 (l : Launch) (h0 : Nat) (D : pm_D) {p : Program} {e : Env} {R : Room} {s : State} {m : MethodId} {args : Array Value} {below : List Frame} {meth : Method} {c : Code} {Q : State → Prop} (kk : pm_V (p, l, e, R, s, m, args, below, meth, c) m_Tokens_init h0 D (6, 3031, 10, 5741, 4) Q 51 [(5, .int 8), (3, .long 6052), (2, .int 1), (0, .ref 5), (1, .ref 3)] [] (cm 10 5741 rf_9 ua_1)) : pm_V (p, l, e, R, s, m, args, below, meth, c) m_Tokens_init h0 D (6, 3031, 10, 5741, 4) Q 51 [(5, .int 7), (3, .long 163), (2, .int 1), (0, .ref 5), (1, .ref 3)] [] (cm 10 5741 rf_9 ua_1) := by
  refine pm_blk (pc' := 53) (L' := [(5, .int 7), (3, .long 163), (2, .int 1), (0, .ref 5), (1, .ref 3)]) (S' := [.int 7]) (M' := cm 10 5741 rf_9 ua_1) [pm_o (.iload 5)] (by decide +kernel) rfl ?_
  refine pm_ldcx (idx := 29) (fun s h => h.1.2.1) (by decide +kernel) ?_
  refine pm_blk (pc' := 55) (L' := [(5, .int 7), (3, .long 163), (2, .int 1), (0, .ref 5), (1, .ref 3)]) (S' := [.retAddr (D.2.1 0), .int 7]) (M' := cm 10 5741 rf_9 ua_1) [] (by decide +kernel) rfl ?_
  refine pm_cVx (idx := 31) mJ_length (i := 0) (by decide) (cJ_length l h0 D (by decide)) (As := []) (S0 := [.int 7]) rfl (by decide +kernel) kJ_length (pm_c1 63 rfl rfl) (pm_c1 64 rfl rfl) rfl l_Tokens_31 (Nat.le_of_ble_eq_true rfl) (Nat.le_of_ble_eq_true rfl) (Nat.le_of_ble_eq_true rfl) (Nat.le_of_ble_eq_true rfl) ?_
  refine pm_blk (pc' := 58) (L' := [(5, .int 7), (3, .long 163), (2, .int 1), (0, .ref 5), (1, .ref 3)]) (S' := [.int 43, .int 7]) (M' := cm 10 5741 rf_9 ua_1) [] (by decide +kernel) rfl ?_
  refine pm_ic_ge (off := 54) 112 (by decide +kernel) (by decide) (fun hc => ?_) (fun hc => ?_)
  · exact absurd hc (by decide +kernel)
  refine pm_blk (pc' := 64) (L' := [(5, .int 7), (3, .long 163), (2, .int 1), (0, .ref 5), (1, .ref 3)]) (S' := [.int 10, .int 1]) (M' := cm 10 5741 rf_9 ua_1) [pm_o (.iload_n 2), pm_oi (.bipush 10) 10] (by decide +kernel) rfl ?_
  refine pm_ic_ge (off := 48) 112 (by decide +kernel) (by decide) (fun hc => ?_) (fun hc => ?_)
  · exact absurd hc (by decide +kernel)
  refine pm_ldcx (idx := 29) (fun s h => h.1.2.1) (by decide +kernel) ?_
  refine pm_blk (pc' := 71) (L' := [(5, .int 7), (3, .long 163), (2, .int 1), (0, .ref 5), (1, .ref 3)]) (S' := [.int 7, .retAddr (D.2.1 0)]) (M' := cm 10 5741 rf_9 ua_1) [pm_o (.iload 5)] (by decide +kernel) rfl ?_
  refine pm_cVx (idx := 37) mJ_charAt (i := 0) (by decide) (cJ_char l h0 D (by decide) rfl (by decide +kernel)) (As := [.int 7]) (S0 := []) rfl (by decide +kernel) kJ_charAt (pm_c1 73 rfl rfl) (pm_c1 74 rfl rfl) rfl l_Tokens_37 (Nat.le_of_ble_eq_true rfl) (Nat.le_of_ble_eq_true rfl) (Nat.le_of_ble_eq_true rfl) (Nat.le_of_ble_eq_true rfl) ?_
  refine pm_blk (pc' := 76) (L' := [(5, .int 7), (3, .long 163), (2, .int 1), (0, .ref 5), (1, .ref 3)]) (S' := [.int 32, .int 117]) (M' := cm 10 5741 rf_9 ua_1) [pm_oi (.bipush 32) 32] (by decide +kernel) rfl ?_
  refine pm_ic_ne (off := 18) 94 (by decide +kernel) (by decide) (fun hc => ?_) (fun hc => ?_)
  rotate_left
  · exact absurd hc (by decide +kernel)
  refine pm_blk (pc' := 95) (L' := [(5, .int 7), (3, .long 163), (2, .int 1), (0, .ref 5), (1, .ref 3)]) (S' := [.long 163]) (M' := cm 10 5741 rf_9 ua_1) [pm_o (.lload_n 3)] (by decide +kernel) rfl ?_
  refine pm_ldcx (idx := 29) (fun s h => h.1.2.1) (by decide +kernel) ?_
  refine pm_blk (pc' := 99) (L' := [(5, .int 7), (3, .long 163), (2, .int 1), (0, .ref 5), (1, .ref 3)]) (S' := [.int 7, .retAddr (D.2.1 0), .long 163]) (M' := cm 10 5741 rf_9 ua_1) [pm_o (.iload 5)] (by decide +kernel) rfl ?_
  refine pm_cVx (idx := 37) mJ_charAt (i := 0) (by decide) (cJ_char l h0 D (by decide) rfl (by decide +kernel)) (As := [.int 7]) (S0 := [.long 163]) rfl (by decide +kernel) kJ_charAt (pm_c1 73 rfl rfl) (pm_c1 74 rfl rfl) rfl l_Tokens_37 (Nat.le_of_ble_eq_true rfl) (Nat.le_of_ble_eq_true rfl) (Nat.le_of_ble_eq_true rfl) (Nat.le_of_ble_eq_true rfl) ?_
  refine pm_blk (pc' := 102) (L' := [(5, .int 7), (3, .long 163), (2, .int 1), (0, .ref 5), (1, .ref 3)]) (S' := [.int 117, .long 163]) (M' := cm 10 5741 rf_9 ua_1) [] (by decide +kernel) rfl ?_
  refine pm_cS (idx := 41) m_Tokens_withOctet (cM_Tokens_withOctet l h0 D (g := (0, 0, 0, 0)) (u := ua_0) (a1 := 163) (a2 := 117) (out := 6052) (by decide +kernel)) (As := [.long 163, .int 117]) (S0 := []) rfl (by decide +kernel) k_Tokens_withOctet l_Tokens_41 (Nat.le_of_ble_eq_true rfl) (Nat.le_of_ble_eq_true rfl) (Nat.le_of_ble_eq_true rfl) (Nat.le_of_ble_eq_true rfl) ?_
  refine pm_blk (pc' := 109) (L' := [(5, .int 8), (3, .long 6052), (2, .int 1), (0, .ref 5), (1, .ref 3)]) (S' := []) (M' := cm 10 5741 rf_9 ua_1) [pm_o (.lstore_n 3), pm_oi (.iinc 5 1) 1] (by decide +kernel) rfl ?_
  refine pm_goto (off := -58) 51 (by decide +kernel) (by decide) ?_
  exact kk
set_option maxHeartbeats 4000000 in
set_option maxRecDepth 100000 in
theorem tk_Tokens_init_8 (l : Launch) (h0 : Nat) (D : pm_D) {p : Program} {e : Env} {R : Room} {s : State} {m : MethodId} {args : Array Value} {below : List Frame} {meth : Method} {c : Code} {Q : State → Prop} (kk : pm_V (p, l, e, R, s, m, args, below, meth, c) m_Tokens_init h0 D (6, 3031, 10, 5741, 4) Q 51 [(5, .int 9), (3, .long 223926), (2, .int 1), (0, .ref 5), (1, .ref 3)] [] (cm 10 5741 rf_9 ua_1)) : pm_V (p, l, e, R, s, m, args, below, meth, c) m_Tokens_init h0 D (6, 3031, 10, 5741, 4) Q 51 [(5, .int 8), (3, .long 6052), (2, .int 1), (0, .ref 5), (1, .ref 3)] [] (cm 10 5741 rf_9 ua_1) := by
  refine pm_blk (pc' := 53) (L' := [(5, .int 8), (3, .long 6052), (2, .int 1), (0, .ref 5), (1, .ref 3)]) (S' := [.int 8]) (M' := cm 10 5741 rf_9 ua_1) [pm_o (.iload 5)] (by decide +kernel) rfl ?_
  refine pm_ldcx (idx := 29) (fun s h => h.1.2.1) (by decide +kernel) ?_
  refine pm_blk (pc' := 55) (L' := [(5, .int 8), (3, .long 6052), (2, .int 1), (0, .ref 5), (1, .ref 3)]) (S' := [.retAddr (D.2.1 0), .int 8]) (M' := cm 10 5741 rf_9 ua_1) [] (by decide +kernel) rfl ?_
  refine pm_cVx (idx := 31) mJ_length (i := 0) (by decide) (cJ_length l h0 D (by decide)) (As := []) (S0 := [.int 8]) rfl (by decide +kernel) kJ_length (pm_c1 63 rfl rfl) (pm_c1 64 rfl rfl) rfl l_Tokens_31 (Nat.le_of_ble_eq_true rfl) (Nat.le_of_ble_eq_true rfl) (Nat.le_of_ble_eq_true rfl) (Nat.le_of_ble_eq_true rfl) ?_
  refine pm_blk (pc' := 58) (L' := [(5, .int 8), (3, .long 6052), (2, .int 1), (0, .ref 5), (1, .ref 3)]) (S' := [.int 43, .int 8]) (M' := cm 10 5741 rf_9 ua_1) [] (by decide +kernel) rfl ?_
  refine pm_ic_ge (off := 54) 112 (by decide +kernel) (by decide) (fun hc => ?_) (fun hc => ?_)
  · exact absurd hc (by decide +kernel)
  refine pm_blk (pc' := 64) (L' := [(5, .int 8), (3, .long 6052), (2, .int 1), (0, .ref 5), (1, .ref 3)]) (S' := [.int 10, .int 1]) (M' := cm 10 5741 rf_9 ua_1) [pm_o (.iload_n 2), pm_oi (.bipush 10) 10] (by decide +kernel) rfl ?_
  refine pm_ic_ge (off := 48) 112 (by decide +kernel) (by decide) (fun hc => ?_) (fun hc => ?_)
  · exact absurd hc (by decide +kernel)
  refine pm_ldcx (idx := 29) (fun s h => h.1.2.1) (by decide +kernel) ?_
  refine pm_blk (pc' := 71) (L' := [(5, .int 8), (3, .long 6052), (2, .int 1), (0, .ref 5), (1, .ref 3)]) (S' := [.int 8, .retAddr (D.2.1 0)]) (M' := cm 10 5741 rf_9 ua_1) [pm_o (.iload 5)] (by decide +kernel) rfl ?_
  refine pm_cVx (idx := 37) mJ_charAt (i := 0) (by decide) (cJ_char l h0 D (by decide) rfl (by decide +kernel)) (As := [.int 8]) (S0 := []) rfl (by decide +kernel) kJ_charAt (pm_c1 73 rfl rfl) (pm_c1 74 rfl rfl) rfl l_Tokens_37 (Nat.le_of_ble_eq_true rfl) (Nat.le_of_ble_eq_true rfl) (Nat.le_of_ble_eq_true rfl) (Nat.le_of_ble_eq_true rfl) ?_
  refine pm_blk (pc' := 76) (L' := [(5, .int 8), (3, .long 6052), (2, .int 1), (0, .ref 5), (1, .ref 3)]) (S' := [.int 32, .int 98]) (M' := cm 10 5741 rf_9 ua_1) [pm_oi (.bipush 32) 32] (by decide +kernel) rfl ?_
  refine pm_ic_ne (off := 18) 94 (by decide +kernel) (by decide) (fun hc => ?_) (fun hc => ?_)
  rotate_left
  · exact absurd hc (by decide +kernel)
  refine pm_blk (pc' := 95) (L' := [(5, .int 8), (3, .long 6052), (2, .int 1), (0, .ref 5), (1, .ref 3)]) (S' := [.long 6052]) (M' := cm 10 5741 rf_9 ua_1) [pm_o (.lload_n 3)] (by decide +kernel) rfl ?_
  refine pm_ldcx (idx := 29) (fun s h => h.1.2.1) (by decide +kernel) ?_
  refine pm_blk (pc' := 99) (L' := [(5, .int 8), (3, .long 6052), (2, .int 1), (0, .ref 5), (1, .ref 3)]) (S' := [.int 8, .retAddr (D.2.1 0), .long 6052]) (M' := cm 10 5741 rf_9 ua_1) [pm_o (.iload 5)] (by decide +kernel) rfl ?_
  refine pm_cVx (idx := 37) mJ_charAt (i := 0) (by decide) (cJ_char l h0 D (by decide) rfl (by decide +kernel)) (As := [.int 8]) (S0 := [.long 6052]) rfl (by decide +kernel) kJ_charAt (pm_c1 73 rfl rfl) (pm_c1 74 rfl rfl) rfl l_Tokens_37 (Nat.le_of_ble_eq_true rfl) (Nat.le_of_ble_eq_true rfl) (Nat.le_of_ble_eq_true rfl) (Nat.le_of_ble_eq_true rfl) ?_
  refine pm_blk (pc' := 102) (L' := [(5, .int 8), (3, .long 6052), (2, .int 1), (0, .ref 5), (1, .ref 3)]) (S' := [.int 98, .long 6052]) (M' := cm 10 5741 rf_9 ua_1) [] (by decide +kernel) rfl ?_
  refine pm_cS (idx := 41) m_Tokens_withOctet (cM_Tokens_withOctet l h0 D (g := (0, 0, 0, 0)) (u := ua_0) (a1 := 6052) (a2 := 98) (out := 223926) (by decide +kernel)) (As := [.long 6052, .int 98]) (S0 := []) rfl (by decide +kernel) k_Tokens_withOctet l_Tokens_41 (Nat.le_of_ble_eq_true rfl) (Nat.le_of_ble_eq_true rfl) (Nat.le_of_ble_eq_true rfl) (Nat.le_of_ble_eq_true rfl) ?_
  refine pm_blk (pc' := 109) (L' := [(5, .int 9), (3, .long 223926), (2, .int 1), (0, .ref 5), (1, .ref 3)]) (S' := []) (M' := cm 10 5741 rf_9 ua_1) [pm_o (.lstore_n 3), pm_oi (.iinc 5 1) 1] (by decide +kernel) rfl ?_
  refine pm_goto (off := -58) 51 (by decide +kernel) (by decide) ?_
  exact kk
set_option maxHeartbeats 4000000 in
set_option maxRecDepth 100000 in
theorem tk_Tokens_init_9 (l : Launch) (h0 : Nat) (D : pm_D) {p : Program} {e : Env} {R : Room} {s : State} {m : MethodId} {args : Array Value} {below : List Frame} {meth : Method} {c : Code} {Q : State → Prop} (kk : pm_V (p, l, e, R, s, m, args, below, meth, c) m_Tokens_init h0 D (6, 3031, 10, 5741, 4) Q 51 [(5, .int 10), (3, .long 8285274), (2, .int 1), (0, .ref 5), (1, .ref 3)] [] (cm 10 5741 rf_9 ua_1)) : pm_V (p, l, e, R, s, m, args, below, meth, c) m_Tokens_init h0 D (6, 3031, 10, 5741, 4) Q 51 [(5, .int 9), (3, .long 223926), (2, .int 1), (0, .ref 5), (1, .ref 3)] [] (cm 10 5741 rf_9 ua_1) := by
  refine pm_blk (pc' := 53) (L' := [(5, .int 9), (3, .long 223926), (2, .int 1), (0, .ref 5), (1, .ref 3)]) (S' := [.int 9]) (M' := cm 10 5741 rf_9 ua_1) [pm_o (.iload 5)] (by decide +kernel) rfl ?_
  refine pm_ldcx (idx := 29) (fun s h => h.1.2.1) (by decide +kernel) ?_
  refine pm_blk (pc' := 55) (L' := [(5, .int 9), (3, .long 223926), (2, .int 1), (0, .ref 5), (1, .ref 3)]) (S' := [.retAddr (D.2.1 0), .int 9]) (M' := cm 10 5741 rf_9 ua_1) [] (by decide +kernel) rfl ?_
  refine pm_cVx (idx := 31) mJ_length (i := 0) (by decide) (cJ_length l h0 D (by decide)) (As := []) (S0 := [.int 9]) rfl (by decide +kernel) kJ_length (pm_c1 63 rfl rfl) (pm_c1 64 rfl rfl) rfl l_Tokens_31 (Nat.le_of_ble_eq_true rfl) (Nat.le_of_ble_eq_true rfl) (Nat.le_of_ble_eq_true rfl) (Nat.le_of_ble_eq_true rfl) ?_
  refine pm_blk (pc' := 58) (L' := [(5, .int 9), (3, .long 223926), (2, .int 1), (0, .ref 5), (1, .ref 3)]) (S' := [.int 43, .int 9]) (M' := cm 10 5741 rf_9 ua_1) [] (by decide +kernel) rfl ?_
  refine pm_ic_ge (off := 54) 112 (by decide +kernel) (by decide) (fun hc => ?_) (fun hc => ?_)
  · exact absurd hc (by decide +kernel)
  refine pm_blk (pc' := 64) (L' := [(5, .int 9), (3, .long 223926), (2, .int 1), (0, .ref 5), (1, .ref 3)]) (S' := [.int 10, .int 1]) (M' := cm 10 5741 rf_9 ua_1) [pm_o (.iload_n 2), pm_oi (.bipush 10) 10] (by decide +kernel) rfl ?_
  refine pm_ic_ge (off := 48) 112 (by decide +kernel) (by decide) (fun hc => ?_) (fun hc => ?_)
  · exact absurd hc (by decide +kernel)
  refine pm_ldcx (idx := 29) (fun s h => h.1.2.1) (by decide +kernel) ?_
  refine pm_blk (pc' := 71) (L' := [(5, .int 9), (3, .long 223926), (2, .int 1), (0, .ref 5), (1, .ref 3)]) (S' := [.int 9, .retAddr (D.2.1 0)]) (M' := cm 10 5741 rf_9 ua_1) [pm_o (.iload 5)] (by decide +kernel) rfl ?_
  refine pm_cVx (idx := 37) mJ_charAt (i := 0) (by decide) (cJ_char l h0 D (by decide) rfl (by decide +kernel)) (As := [.int 9]) (S0 := []) rfl (by decide +kernel) kJ_charAt (pm_c1 73 rfl rfl) (pm_c1 74 rfl rfl) rfl l_Tokens_37 (Nat.le_of_ble_eq_true rfl) (Nat.le_of_ble_eq_true rfl) (Nat.le_of_ble_eq_true rfl) (Nat.le_of_ble_eq_true rfl) ?_
  refine pm_blk (pc' := 76) (L' := [(5, .int 9), (3, .long 223926), (2, .int 1), (0, .ref 5), (1, .ref 3)]) (S' := [.int 32, .int 108]) (M' := cm 10 5741 rf_9 ua_1) [pm_oi (.bipush 32) 32] (by decide +kernel) rfl ?_
  refine pm_ic_ne (off := 18) 94 (by decide +kernel) (by decide) (fun hc => ?_) (fun hc => ?_)
  rotate_left
  · exact absurd hc (by decide +kernel)
  refine pm_blk (pc' := 95) (L' := [(5, .int 9), (3, .long 223926), (2, .int 1), (0, .ref 5), (1, .ref 3)]) (S' := [.long 223926]) (M' := cm 10 5741 rf_9 ua_1) [pm_o (.lload_n 3)] (by decide +kernel) rfl ?_
  refine pm_ldcx (idx := 29) (fun s h => h.1.2.1) (by decide +kernel) ?_
  refine pm_blk (pc' := 99) (L' := [(5, .int 9), (3, .long 223926), (2, .int 1), (0, .ref 5), (1, .ref 3)]) (S' := [.int 9, .retAddr (D.2.1 0), .long 223926]) (M' := cm 10 5741 rf_9 ua_1) [pm_o (.iload 5)] (by decide +kernel) rfl ?_
  refine pm_cVx (idx := 37) mJ_charAt (i := 0) (by decide) (cJ_char l h0 D (by decide) rfl (by decide +kernel)) (As := [.int 9]) (S0 := [.long 223926]) rfl (by decide +kernel) kJ_charAt (pm_c1 73 rfl rfl) (pm_c1 74 rfl rfl) rfl l_Tokens_37 (Nat.le_of_ble_eq_true rfl) (Nat.le_of_ble_eq_true rfl) (Nat.le_of_ble_eq_true rfl) (Nat.le_of_ble_eq_true rfl) ?_
  refine pm_blk (pc' := 102) (L' := [(5, .int 9), (3, .long 223926), (2, .int 1), (0, .ref 5), (1, .ref 3)]) (S' := [.int 108, .long 223926]) (M' := cm 10 5741 rf_9 ua_1) [] (by decide +kernel) rfl ?_
  refine pm_cS (idx := 41) m_Tokens_withOctet (cM_Tokens_withOctet l h0 D (g := (0, 0, 0, 0)) (u := ua_0) (a1 := 223926) (a2 := 108) (out := 8285274) (by decide +kernel)) (As := [.long 223926, .int 108]) (S0 := []) rfl (by decide +kernel) k_Tokens_withOctet l_Tokens_41 (Nat.le_of_ble_eq_true rfl) (Nat.le_of_ble_eq_true rfl) (Nat.le_of_ble_eq_true rfl) (Nat.le_of_ble_eq_true rfl) ?_
  refine pm_blk (pc' := 109) (L' := [(5, .int 10), (3, .long 8285274), (2, .int 1), (0, .ref 5), (1, .ref 3)]) (S' := []) (M' := cm 10 5741 rf_9 ua_1) [pm_o (.lstore_n 3), pm_oi (.iinc 5 1) 1] (by decide +kernel) rfl ?_
  refine pm_goto (off := -58) 51 (by decide +kernel) (by decide) ?_
  exact kk
set_option maxHeartbeats 4000000 in
set_option maxRecDepth 100000 in
theorem tk_Tokens_init_10 (l : Launch) (h0 : Nat) (D : pm_D) {p : Program} {e : Env} {R : Room} {s : State} {m : MethodId} {args : Array Value} {below : List Frame} {meth : Method} {c : Code} {Q : State → Prop} (kk : pm_V (p, l, e, R, s, m, args, below, meth, c) m_Tokens_init h0 D (6, 3031, 10, 5741, 4) Q 51 [(5, .int 11), (3, .long 306555143), (2, .int 1), (0, .ref 5), (1, .ref 3)] [] (cm 10 5741 rf_9 ua_1)) : pm_V (p, l, e, R, s, m, args, below, meth, c) m_Tokens_init h0 D (6, 3031, 10, 5741, 4) Q 51 [(5, .int 10), (3, .long 8285274), (2, .int 1), (0, .ref 5), (1, .ref 3)] [] (cm 10 5741 rf_9 ua_1) := by
  refine pm_blk (pc' := 53) (L' := [(5, .int 10), (3, .long 8285274), (2, .int 1), (0, .ref 5), (1, .ref 3)]) (S' := [.int 10]) (M' := cm 10 5741 rf_9 ua_1) [pm_o (.iload 5)] (by decide +kernel) rfl ?_
  refine pm_ldcx (idx := 29) (fun s h => h.1.2.1) (by decide +kernel) ?_
  refine pm_blk (pc' := 55) (L' := [(5, .int 10), (3, .long 8285274), (2, .int 1), (0, .ref 5), (1, .ref 3)]) (S' := [.retAddr (D.2.1 0), .int 10]) (M' := cm 10 5741 rf_9 ua_1) [] (by decide +kernel) rfl ?_
  refine pm_cVx (idx := 31) mJ_length (i := 0) (by decide) (cJ_length l h0 D (by decide)) (As := []) (S0 := [.int 10]) rfl (by decide +kernel) kJ_length (pm_c1 63 rfl rfl) (pm_c1 64 rfl rfl) rfl l_Tokens_31 (Nat.le_of_ble_eq_true rfl) (Nat.le_of_ble_eq_true rfl) (Nat.le_of_ble_eq_true rfl) (Nat.le_of_ble_eq_true rfl) ?_
  refine pm_blk (pc' := 58) (L' := [(5, .int 10), (3, .long 8285274), (2, .int 1), (0, .ref 5), (1, .ref 3)]) (S' := [.int 43, .int 10]) (M' := cm 10 5741 rf_9 ua_1) [] (by decide +kernel) rfl ?_
  refine pm_ic_ge (off := 54) 112 (by decide +kernel) (by decide) (fun hc => ?_) (fun hc => ?_)
  · exact absurd hc (by decide +kernel)
  refine pm_blk (pc' := 64) (L' := [(5, .int 10), (3, .long 8285274), (2, .int 1), (0, .ref 5), (1, .ref 3)]) (S' := [.int 10, .int 1]) (M' := cm 10 5741 rf_9 ua_1) [pm_o (.iload_n 2), pm_oi (.bipush 10) 10] (by decide +kernel) rfl ?_
  refine pm_ic_ge (off := 48) 112 (by decide +kernel) (by decide) (fun hc => ?_) (fun hc => ?_)
  · exact absurd hc (by decide +kernel)
  refine pm_ldcx (idx := 29) (fun s h => h.1.2.1) (by decide +kernel) ?_
  refine pm_blk (pc' := 71) (L' := [(5, .int 10), (3, .long 8285274), (2, .int 1), (0, .ref 5), (1, .ref 3)]) (S' := [.int 10, .retAddr (D.2.1 0)]) (M' := cm 10 5741 rf_9 ua_1) [pm_o (.iload 5)] (by decide +kernel) rfl ?_
  refine pm_cVx (idx := 37) mJ_charAt (i := 0) (by decide) (cJ_char l h0 D (by decide) rfl (by decide +kernel)) (As := [.int 10]) (S0 := []) rfl (by decide +kernel) kJ_charAt (pm_c1 73 rfl rfl) (pm_c1 74 rfl rfl) rfl l_Tokens_37 (Nat.le_of_ble_eq_true rfl) (Nat.le_of_ble_eq_true rfl) (Nat.le_of_ble_eq_true rfl) (Nat.le_of_ble_eq_true rfl) ?_
  refine pm_blk (pc' := 76) (L' := [(5, .int 10), (3, .long 8285274), (2, .int 1), (0, .ref 5), (1, .ref 3)]) (S' := [.int 32, .int 101]) (M' := cm 10 5741 rf_9 ua_1) [pm_oi (.bipush 32) 32] (by decide +kernel) rfl ?_
  refine pm_ic_ne (off := 18) 94 (by decide +kernel) (by decide) (fun hc => ?_) (fun hc => ?_)
  rotate_left
  · exact absurd hc (by decide +kernel)
  refine pm_blk (pc' := 95) (L' := [(5, .int 10), (3, .long 8285274), (2, .int 1), (0, .ref 5), (1, .ref 3)]) (S' := [.long 8285274]) (M' := cm 10 5741 rf_9 ua_1) [pm_o (.lload_n 3)] (by decide +kernel) rfl ?_
  refine pm_ldcx (idx := 29) (fun s h => h.1.2.1) (by decide +kernel) ?_
  refine pm_blk (pc' := 99) (L' := [(5, .int 10), (3, .long 8285274), (2, .int 1), (0, .ref 5), (1, .ref 3)]) (S' := [.int 10, .retAddr (D.2.1 0), .long 8285274]) (M' := cm 10 5741 rf_9 ua_1) [pm_o (.iload 5)] (by decide +kernel) rfl ?_
  refine pm_cVx (idx := 37) mJ_charAt (i := 0) (by decide) (cJ_char l h0 D (by decide) rfl (by decide +kernel)) (As := [.int 10]) (S0 := [.long 8285274]) rfl (by decide +kernel) kJ_charAt (pm_c1 73 rfl rfl) (pm_c1 74 rfl rfl) rfl l_Tokens_37 (Nat.le_of_ble_eq_true rfl) (Nat.le_of_ble_eq_true rfl) (Nat.le_of_ble_eq_true rfl) (Nat.le_of_ble_eq_true rfl) ?_
  refine pm_blk (pc' := 102) (L' := [(5, .int 10), (3, .long 8285274), (2, .int 1), (0, .ref 5), (1, .ref 3)]) (S' := [.int 101, .long 8285274]) (M' := cm 10 5741 rf_9 ua_1) [] (by decide +kernel) rfl ?_
  refine pm_cS (idx := 41) m_Tokens_withOctet (cM_Tokens_withOctet l h0 D (g := (0, 0, 0, 0)) (u := ua_0) (a1 := 8285274) (a2 := 101) (out := 306555143) (by decide +kernel)) (As := [.long 8285274, .int 101]) (S0 := []) rfl (by decide +kernel) k_Tokens_withOctet l_Tokens_41 (Nat.le_of_ble_eq_true rfl) (Nat.le_of_ble_eq_true rfl) (Nat.le_of_ble_eq_true rfl) (Nat.le_of_ble_eq_true rfl) ?_
  refine pm_blk (pc' := 109) (L' := [(5, .int 11), (3, .long 306555143), (2, .int 1), (0, .ref 5), (1, .ref 3)]) (S' := []) (M' := cm 10 5741 rf_9 ua_1) [pm_o (.lstore_n 3), pm_oi (.iinc 5 1) 1] (by decide +kernel) rfl ?_
  refine pm_goto (off := -58) 51 (by decide +kernel) (by decide) ?_
  exact kk
set_option maxHeartbeats 4000000 in
set_option maxRecDepth 100000 in
theorem tk_Tokens_init_11 (l : Launch) (h0 : Nat) (D : pm_D) {p : Program} {e : Env} {R : Room} {s : State} {m : MethodId} {args : Array Value} {below : List Frame} {meth : Method} {c : Code} {Q : State → Prop} (kk : pm_V (p, l, e, R, s, m, args, below, meth, c) m_Tokens_init h0 D (6, 3031, 10, 5741, 4) Q 51 [(5, .int 12), (3, .long 0), (2, .int 2), (0, .ref 5), (1, .ref 3)] [] (cm 10 5741 rf_9 ua_2)) : pm_V (p, l, e, R, s, m, args, below, meth, c) m_Tokens_init h0 D (6, 3031, 10, 5741, 4) Q 51 [(5, .int 11), (3, .long 306555143), (2, .int 1), (0, .ref 5), (1, .ref 3)] [] (cm 10 5741 rf_9 ua_1) := by
  refine pm_blk (pc' := 53) (L' := [(5, .int 11), (3, .long 306555143), (2, .int 1), (0, .ref 5), (1, .ref 3)]) (S' := [.int 11]) (M' := cm 10 5741 rf_9 ua_1) [pm_o (.iload 5)] (by decide +kernel) rfl ?_
  refine pm_ldcx (idx := 29) (fun s h => h.1.2.1) (by decide +kernel) ?_
  refine pm_blk (pc' := 55) (L' := [(5, .int 11), (3, .long 306555143), (2, .int 1), (0, .ref 5), (1, .ref 3)]) (S' := [.retAddr (D.2.1 0), .int 11]) (M' := cm 10 5741 rf_9 ua_1) [] (by decide +kernel) rfl ?_
  refine pm_cVx (idx := 31) mJ_length (i := 0) (by decide) (cJ_length l h0 D (by decide)) (As := []) (S0 := [.int 11]) rfl (by decide +kernel) kJ_length (pm_c1 63 rfl rfl) (pm_c1 64 rfl rfl) rfl l_Tokens_31 (Nat.le_of_ble_eq_true rfl) (Nat.le_of_ble_eq_true rfl) (Nat.le_of_ble_eq_true rfl) (Nat.le_of_ble_eq_true rfl) ?_
  refine pm_blk (pc' := 58) (L' := [(5, .int 11), (3, .long 306555143), (2, .int 1), (0, .ref 5), (1, .ref 3)]) (S' := [.int 43, .int 11]) (M' := cm 10 5741 rf_9 ua_1) [] (by decide +kernel) rfl ?_
  refine pm_ic_ge (off := 54) 112 (by decide +kernel) (by decide) (fun hc => ?_) (fun hc => ?_)
  · exact absurd hc (by decide +kernel)
  refine pm_blk (pc' := 64) (L' := [(5, .int 11), (3, .long 306555143), (2, .int 1), (0, .ref 5), (1, .ref 3)]) (S' := [.int 10, .int 1]) (M' := cm 10 5741 rf_9 ua_1) [pm_o (.iload_n 2), pm_oi (.bipush 10) 10] (by decide +kernel) rfl ?_
  refine pm_ic_ge (off := 48) 112 (by decide +kernel) (by decide) (fun hc => ?_) (fun hc => ?_)
  · exact absurd hc (by decide +kernel)
  refine pm_ldcx (idx := 29) (fun s h => h.1.2.1) (by decide +kernel) ?_
  refine pm_blk (pc' := 71) (L' := [(5, .int 11), (3, .long 306555143), (2, .int 1), (0, .ref 5), (1, .ref 3)]) (S' := [.int 11, .retAddr (D.2.1 0)]) (M' := cm 10 5741 rf_9 ua_1) [pm_o (.iload 5)] (by decide +kernel) rfl ?_
  refine pm_cVx (idx := 37) mJ_charAt (i := 0) (by decide) (cJ_char l h0 D (by decide) rfl (by decide +kernel)) (As := [.int 11]) (S0 := []) rfl (by decide +kernel) kJ_charAt (pm_c1 73 rfl rfl) (pm_c1 74 rfl rfl) rfl l_Tokens_37 (Nat.le_of_ble_eq_true rfl) (Nat.le_of_ble_eq_true rfl) (Nat.le_of_ble_eq_true rfl) (Nat.le_of_ble_eq_true rfl) ?_
  refine pm_blk (pc' := 76) (L' := [(5, .int 11), (3, .long 306555143), (2, .int 1), (0, .ref 5), (1, .ref 3)]) (S' := [.int 32, .int 32]) (M' := cm 10 5741 rf_9 ua_1) [pm_oi (.bipush 32) 32] (by decide +kernel) rfl ?_
  refine pm_ic_ne (off := 18) 94 (by decide +kernel) (by decide) (fun hc => ?_) (fun hc => ?_)
  · exact absurd hc (by decide +kernel)
  refine pm_blk (pc' := 85) (L' := [(5, .int 11), (3, .long 306555143), (2, .int 1), (0, .ref 5), (1, .ref 3)]) (S' := [.long 306555143, .int 1, .ref 9]) (M' := cm 10 5741 rf_9 ua_1) [pm_o (.aload_n 0), pm_of (.getfield 26) 9 4 2, pm_o (.iload_n 2), pm_o (.lload_n 3)] (by decide +kernel) rfl ?_
  refine pm_last (by decide +kernel) rfl (pm_ok_in (by decide +kernel)) ?_
  refine pm_blk (pc' := 91) (L' := [(3, .long 0), (2, .int 2), (5, .int 11), (0, .ref 5), (1, .ref 3)]) (S' := []) (M' := cm 10 5741 rf_9 ua_2) [pm_oi (.iinc 2 1) 1, pm_ol (.lconst 0) 0, pm_o (.lstore_n 3)] (by decide +kernel) rfl ?_
  refine pm_goto (off := 15) 106 (by decide +kernel) (by decide) ?_
  refine pm_blk (pc' := 109) (L' := [(5, .int 12), (3, .long 0), (2, .int 2), (0, .ref 5), (1, .ref 3)]) (S' := []) (M' := cm 10 5741 rf_9 ua_2) [pm_oi (.iinc 5 1) 1] (by decide +kernel) rfl ?_
  refine pm_goto (off := -58) 51 (by decide +kernel) (by decide) ?_
  exact kk
set_option maxHeartbeats 4000000 in
set_option maxRecDepth 100000 in
theorem tk_Tokens_init_12 (l : Launch) (h0 : Nat) (D : pm_D) {p : Program} {e : Env} {R : Room} {s : State} {m : MethodId} {args : Array Value} {below : List Frame} {meth : Method} {c : Code} {Q : State → Prop} (kk : pm_V (p, l, e, R, s, m, args, below, meth, c) m_Tokens_init h0 D (6, 3031, 10, 5741, 4) Q 51 [(5, .int 13), (3, .long 12), (2, .int 2), (0, .ref 5), (1, .ref 3)] [] (cm 10 5741 rf_9 ua_2)) : pm_V (p, l, e, R, s, m, args, below, meth, c) m_Tokens_init h0 D (6, 3031, 10, 5741, 4) Q 51 [(5, .int 12), (3, .long 0), (2, .int 2), (0, .ref 5), (1, .ref 3)] [] (cm 10 5741 rf_9 ua_2) := by
  refine pm_blk (pc' := 53) (L' := [(5, .int 12), (3, .long 0), (2, .int 2), (0, .ref 5), (1, .ref 3)]) (S' := [.int 12]) (M' := cm 10 5741 rf_9 ua_2) [pm_o (.iload 5)] (by decide +kernel) rfl ?_
  refine pm_ldcx (idx := 29) (fun s h => h.1.2.1) (by decide +kernel) ?_
  refine pm_blk (pc' := 55) (L' := [(5, .int 12), (3, .long 0), (2, .int 2), (0, .ref 5), (1, .ref 3)]) (S' := [.retAddr (D.2.1 0), .int 12]) (M' := cm 10 5741 rf_9 ua_2) [] (by decide +kernel) rfl ?_
  refine pm_cVx (idx := 31) mJ_length (i := 0) (by decide) (cJ_length l h0 D (by decide)) (As := []) (S0 := [.int 12]) rfl (by decide +kernel) kJ_length (pm_c1 63 rfl rfl) (pm_c1 64 rfl rfl) rfl l_Tokens_31 (Nat.le_of_ble_eq_true rfl) (Nat.le_of_ble_eq_true rfl) (Nat.le_of_ble_eq_true rfl) (Nat.le_of_ble_eq_true rfl) ?_
  refine pm_blk (pc' := 58) (L' := [(5, .int 12), (3, .long 0), (2, .int 2), (0, .ref 5), (1, .ref 3)]) (S' := [.int 43, .int 12]) (M' := cm 10 5741 rf_9 ua_2) [] (by decide +kernel) rfl ?_
  refine pm_ic_ge (off := 54) 112 (by decide +kernel) (by decide) (fun hc => ?_) (fun hc => ?_)
  · exact absurd hc (by decide +kernel)
  refine pm_blk (pc' := 64) (L' := [(5, .int 12), (3, .long 0), (2, .int 2), (0, .ref 5), (1, .ref 3)]) (S' := [.int 10, .int 2]) (M' := cm 10 5741 rf_9 ua_2) [pm_o (.iload_n 2), pm_oi (.bipush 10) 10] (by decide +kernel) rfl ?_
  refine pm_ic_ge (off := 48) 112 (by decide +kernel) (by decide) (fun hc => ?_) (fun hc => ?_)
  · exact absurd hc (by decide +kernel)
  refine pm_ldcx (idx := 29) (fun s h => h.1.2.1) (by decide +kernel) ?_
  refine pm_blk (pc' := 71) (L' := [(5, .int 12), (3, .long 0), (2, .int 2), (0, .ref 5), (1, .ref 3)]) (S' := [.int 12, .retAddr (D.2.1 0)]) (M' := cm 10 5741 rf_9 ua_2) [pm_o (.iload 5)] (by decide +kernel) rfl ?_
  refine pm_cVx (idx := 37) mJ_charAt (i := 0) (by decide) (cJ_char l h0 D (by decide) rfl (by decide +kernel)) (As := [.int 12]) (S0 := []) rfl (by decide +kernel) kJ_charAt (pm_c1 73 rfl rfl) (pm_c1 74 rfl rfl) rfl l_Tokens_37 (Nat.le_of_ble_eq_true rfl) (Nat.le_of_ble_eq_true rfl) (Nat.le_of_ble_eq_true rfl) (Nat.le_of_ble_eq_true rfl) ?_
  refine pm_blk (pc' := 76) (L' := [(5, .int 12), (3, .long 0), (2, .int 2), (0, .ref 5), (1, .ref 3)]) (S' := [.int 32, .int 108]) (M' := cm 10 5741 rf_9 ua_2) [pm_oi (.bipush 32) 32] (by decide +kernel) rfl ?_
  refine pm_ic_ne (off := 18) 94 (by decide +kernel) (by decide) (fun hc => ?_) (fun hc => ?_)
  rotate_left
  · exact absurd hc (by decide +kernel)
  refine pm_blk (pc' := 95) (L' := [(5, .int 12), (3, .long 0), (2, .int 2), (0, .ref 5), (1, .ref 3)]) (S' := [.long 0]) (M' := cm 10 5741 rf_9 ua_2) [pm_o (.lload_n 3)] (by decide +kernel) rfl ?_
  refine pm_ldcx (idx := 29) (fun s h => h.1.2.1) (by decide +kernel) ?_
  refine pm_blk (pc' := 99) (L' := [(5, .int 12), (3, .long 0), (2, .int 2), (0, .ref 5), (1, .ref 3)]) (S' := [.int 12, .retAddr (D.2.1 0), .long 0]) (M' := cm 10 5741 rf_9 ua_2) [pm_o (.iload 5)] (by decide +kernel) rfl ?_
  refine pm_cVx (idx := 37) mJ_charAt (i := 0) (by decide) (cJ_char l h0 D (by decide) rfl (by decide +kernel)) (As := [.int 12]) (S0 := [.long 0]) rfl (by decide +kernel) kJ_charAt (pm_c1 73 rfl rfl) (pm_c1 74 rfl rfl) rfl l_Tokens_37 (Nat.le_of_ble_eq_true rfl) (Nat.le_of_ble_eq_true rfl) (Nat.le_of_ble_eq_true rfl) (Nat.le_of_ble_eq_true rfl) ?_
  refine pm_blk (pc' := 102) (L' := [(5, .int 12), (3, .long 0), (2, .int 2), (0, .ref 5), (1, .ref 3)]) (S' := [.int 108, .long 0]) (M' := cm 10 5741 rf_9 ua_2) [] (by decide +kernel) rfl ?_
  refine pm_cS (idx := 41) m_Tokens_withOctet (cM_Tokens_withOctet l h0 D (g := (0, 0, 0, 0)) (u := ua_0) (a1 := 0) (a2 := 108) (out := 12) (by decide +kernel)) (As := [.long 0, .int 108]) (S0 := []) rfl (by decide +kernel) k_Tokens_withOctet l_Tokens_41 (Nat.le_of_ble_eq_true rfl) (Nat.le_of_ble_eq_true rfl) (Nat.le_of_ble_eq_true rfl) (Nat.le_of_ble_eq_true rfl) ?_
  refine pm_blk (pc' := 109) (L' := [(5, .int 13), (3, .long 12), (2, .int 2), (0, .ref 5), (1, .ref 3)]) (S' := []) (M' := cm 10 5741 rf_9 ua_2) [pm_o (.lstore_n 3), pm_oi (.iinc 5 1) 1] (by decide +kernel) rfl ?_
  refine pm_goto (off := -58) 51 (by decide +kernel) (by decide) ?_
  exact kk
set_option maxHeartbeats 4000000 in
set_option maxRecDepth 100000 in
theorem tk_Tokens_init_13 (l : Launch) (h0 : Nat) (D : pm_D) {p : Program} {e : Env} {R : Room} {s : State} {m : MethodId} {args : Array Value} {below : List Frame} {meth : Method} {c : Code} {Q : State → Prop} (kk : pm_V (p, l, e, R, s, m, args, below, meth, c) m_Tokens_init h0 D (6, 3031, 10, 5741, 4) Q 51 [(5, .int 14), (3, .long 449), (2, .int 2), (0, .ref 5), (1, .ref 3)] [] (cm 10 5741 rf_9 ua_2)) : pm_V (p, l, e, R, s, m, args, below, meth, c) m_Tokens_init h0 D (6, 3031, 10, 5741, 4) Q 51 [(5, .int 13), (3, .long 12), (2, .int 2), (0, .ref 5), (1, .ref 3)] [] (cm 10 5741 rf_9 ua_2) := by
  refine pm_blk (pc' := 53) (L' := [(5, .int 13), (3, .long 12), (2, .int 2), (0, .ref 5), (1, .ref 3)]) (S' := [.int 13]) (M' := cm 10 5741 rf_9 ua_2) [pm_o (.iload 5)] (by decide +kernel) rfl ?_
  refine pm_ldcx (idx := 29) (fun s h => h.1.2.1) (by decide +kernel) ?_
  refine pm_blk (pc' := 55) (L' := [(5, .int 13), (3, .long 12), (2, .int 2), (0, .ref 5), (1, .ref 3)]) (S' := [.retAddr (D.2.1 0), .int 13]) (M' := cm 10 5741 rf_9 ua_2) [] (by decide +kernel) rfl ?_
  refine pm_cVx (idx := 31) mJ_length (i := 0) (by decide) (cJ_length l h0 D (by decide)) (As := []) (S0 := [.int 13]) rfl (by decide +kernel) kJ_length (pm_c1 63 rfl rfl) (pm_c1 64 rfl rfl) rfl l_Tokens_31 (Nat.le_of_ble_eq_true rfl) (Nat.le_of_ble_eq_true rfl) (Nat.le_of_ble_eq_true rfl) (Nat.le_of_ble_eq_true rfl) ?_
  refine pm_blk (pc' := 58) (L' := [(5, .int 13), (3, .long 12), (2, .int 2), (0, .ref 5), (1, .ref 3)]) (S' := [.int 43, .int 13]) (M' := cm 10 5741 rf_9 ua_2) [] (by decide +kernel) rfl ?_
  refine pm_ic_ge (off := 54) 112 (by decide +kernel) (by decide) (fun hc => ?_) (fun hc => ?_)
  · exact absurd hc (by decide +kernel)
  refine pm_blk (pc' := 64) (L' := [(5, .int 13), (3, .long 12), (2, .int 2), (0, .ref 5), (1, .ref 3)]) (S' := [.int 10, .int 2]) (M' := cm 10 5741 rf_9 ua_2) [pm_o (.iload_n 2), pm_oi (.bipush 10) 10] (by decide +kernel) rfl ?_
  refine pm_ic_ge (off := 48) 112 (by decide +kernel) (by decide) (fun hc => ?_) (fun hc => ?_)
  · exact absurd hc (by decide +kernel)
  refine pm_ldcx (idx := 29) (fun s h => h.1.2.1) (by decide +kernel) ?_
  refine pm_blk (pc' := 71) (L' := [(5, .int 13), (3, .long 12), (2, .int 2), (0, .ref 5), (1, .ref 3)]) (S' := [.int 13, .retAddr (D.2.1 0)]) (M' := cm 10 5741 rf_9 ua_2) [pm_o (.iload 5)] (by decide +kernel) rfl ?_
  refine pm_cVx (idx := 37) mJ_charAt (i := 0) (by decide) (cJ_char l h0 D (by decide) rfl (by decide +kernel)) (As := [.int 13]) (S0 := []) rfl (by decide +kernel) kJ_charAt (pm_c1 73 rfl rfl) (pm_c1 74 rfl rfl) rfl l_Tokens_37 (Nat.le_of_ble_eq_true rfl) (Nat.le_of_ble_eq_true rfl) (Nat.le_of_ble_eq_true rfl) (Nat.le_of_ble_eq_true rfl) ?_
  refine pm_blk (pc' := 76) (L' := [(5, .int 13), (3, .long 12), (2, .int 2), (0, .ref 5), (1, .ref 3)]) (S' := [.int 32, .int 101]) (M' := cm 10 5741 rf_9 ua_2) [pm_oi (.bipush 32) 32] (by decide +kernel) rfl ?_
  refine pm_ic_ne (off := 18) 94 (by decide +kernel) (by decide) (fun hc => ?_) (fun hc => ?_)
  rotate_left
  · exact absurd hc (by decide +kernel)
  refine pm_blk (pc' := 95) (L' := [(5, .int 13), (3, .long 12), (2, .int 2), (0, .ref 5), (1, .ref 3)]) (S' := [.long 12]) (M' := cm 10 5741 rf_9 ua_2) [pm_o (.lload_n 3)] (by decide +kernel) rfl ?_
  refine pm_ldcx (idx := 29) (fun s h => h.1.2.1) (by decide +kernel) ?_
  refine pm_blk (pc' := 99) (L' := [(5, .int 13), (3, .long 12), (2, .int 2), (0, .ref 5), (1, .ref 3)]) (S' := [.int 13, .retAddr (D.2.1 0), .long 12]) (M' := cm 10 5741 rf_9 ua_2) [pm_o (.iload 5)] (by decide +kernel) rfl ?_
  refine pm_cVx (idx := 37) mJ_charAt (i := 0) (by decide) (cJ_char l h0 D (by decide) rfl (by decide +kernel)) (As := [.int 13]) (S0 := [.long 12]) rfl (by decide +kernel) kJ_charAt (pm_c1 73 rfl rfl) (pm_c1 74 rfl rfl) rfl l_Tokens_37 (Nat.le_of_ble_eq_true rfl) (Nat.le_of_ble_eq_true rfl) (Nat.le_of_ble_eq_true rfl) (Nat.le_of_ble_eq_true rfl) ?_
  refine pm_blk (pc' := 102) (L' := [(5, .int 13), (3, .long 12), (2, .int 2), (0, .ref 5), (1, .ref 3)]) (S' := [.int 101, .long 12]) (M' := cm 10 5741 rf_9 ua_2) [] (by decide +kernel) rfl ?_
  refine pm_cS (idx := 41) m_Tokens_withOctet (cM_Tokens_withOctet l h0 D (g := (0, 0, 0, 0)) (u := ua_0) (a1 := 12) (a2 := 101) (out := 449) (by decide +kernel)) (As := [.long 12, .int 101]) (S0 := []) rfl (by decide +kernel) k_Tokens_withOctet l_Tokens_41 (Nat.le_of_ble_eq_true rfl) (Nat.le_of_ble_eq_true rfl) (Nat.le_of_ble_eq_true rfl) (Nat.le_of_ble_eq_true rfl) ?_
  refine pm_blk (pc' := 109) (L' := [(5, .int 14), (3, .long 449), (2, .int 2), (0, .ref 5), (1, .ref 3)]) (S' := []) (M' := cm 10 5741 rf_9 ua_2) [pm_o (.lstore_n 3), pm_oi (.iinc 5 1) 1] (by decide +kernel) rfl ?_
  refine pm_goto (off := -58) 51 (by decide +kernel) (by decide) ?_
  exact kk
set_option maxHeartbeats 4000000 in
set_option maxRecDepth 100000 in
theorem tk_Tokens_init_14 (l : Launch) (h0 : Nat) (D : pm_D) {p : Program} {e : Env} {R : Room} {s : State} {m : MethodId} {args : Array Value} {below : List Frame} {meth : Method} {c : Code} {Q : State → Prop} (kk : pm_V (p, l, e, R, s, m, args, below, meth, c) m_Tokens_init h0 D (6, 3031, 10, 5741, 4) Q 51 [(5, .int 15), (3, .long 16633), (2, .int 2), (0, .ref 5), (1, .ref 3)] [] (cm 10 5741 rf_9 ua_2)) : pm_V (p, l, e, R, s, m, args, below, meth, c) m_Tokens_init h0 D (6, 3031, 10, 5741, 4) Q 51 [(5, .int 14), (3, .long 449), (2, .int 2), (0, .ref 5), (1, .ref 3)] [] (cm 10 5741 rf_9 ua_2) := by
  refine pm_blk (pc' := 53) (L' := [(5, .int 14), (3, .long 449), (2, .int 2), (0, .ref 5), (1, .ref 3)]) (S' := [.int 14]) (M' := cm 10 5741 rf_9 ua_2) [pm_o (.iload 5)] (by decide +kernel) rfl ?_
  refine pm_ldcx (idx := 29) (fun s h => h.1.2.1) (by decide +kernel) ?_
  refine pm_blk (pc' := 55) (L' := [(5, .int 14), (3, .long 449), (2, .int 2), (0, .ref 5), (1, .ref 3)]) (S' := [.retAddr (D.2.1 0), .int 14]) (M' := cm 10 5741 rf_9 ua_2) [] (by decide +kernel) rfl ?_
  refine pm_cVx (idx := 31) mJ_length (i := 0) (by decide) (cJ_length l h0 D (by decide)) (As := []) (S0 := [.int 14]) rfl (by decide +kernel) kJ_length (pm_c1 63 rfl rfl) (pm_c1 64 rfl rfl) rfl l_Tokens_31 (Nat.le_of_ble_eq_true rfl) (Nat.le_of_ble_eq_true rfl) (Nat.le_of_ble_eq_true rfl) (Nat.le_of_ble_eq_true rfl) ?_
  refine pm_blk (pc' := 58) (L' := [(5, .int 14), (3, .long 449), (2, .int 2), (0, .ref 5), (1, .ref 3)]) (S' := [.int 43, .int 14]) (M' := cm 10 5741 rf_9 ua_2) [] (by decide +kernel) rfl ?_
  refine pm_ic_ge (off := 54) 112 (by decide +kernel) (by decide) (fun hc => ?_) (fun hc => ?_)
  · exact absurd hc (by decide +kernel)
  refine pm_blk (pc' := 64) (L' := [(5, .int 14), (3, .long 449), (2, .int 2), (0, .ref 5), (1, .ref 3)]) (S' := [.int 10, .int 2]) (M' := cm 10 5741 rf_9 ua_2) [pm_o (.iload_n 2), pm_oi (.bipush 10) 10] (by decide +kernel) rfl ?_
  refine pm_ic_ge (off := 48) 112 (by decide +kernel) (by decide) (fun hc => ?_) (fun hc => ?_)
  · exact absurd hc (by decide +kernel)
  refine pm_ldcx (idx := 29) (fun s h => h.1.2.1) (by decide +kernel) ?_
  refine pm_blk (pc' := 71) (L' := [(5, .int 14), (3, .long 449), (2, .int 2), (0, .ref 5), (1, .ref 3)]) (S' := [.int 14, .retAddr (D.2.1 0)]) (M' := cm 10 5741 rf_9 ua_2) [pm_o (.iload 5)] (by decide +kernel) rfl ?_
  refine pm_cVx (idx := 37) mJ_charAt (i := 0) (by decide) (cJ_char l h0 D (by decide) rfl (by decide +kernel)) (As := [.int 14]) (S0 := []) rfl (by decide +kernel) kJ_charAt (pm_c1 73 rfl rfl) (pm_c1 74 rfl rfl) rfl l_Tokens_37 (Nat.le_of_ble_eq_true rfl) (Nat.le_of_ble_eq_true rfl) (Nat.le_of_ble_eq_true rfl) (Nat.le_of_ble_eq_true rfl) ?_
  refine pm_blk (pc' := 76) (L' := [(5, .int 14), (3, .long 449), (2, .int 2), (0, .ref 5), (1, .ref 3)]) (S' := [.int 32, .int 116]) (M' := cm 10 5741 rf_9 ua_2) [pm_oi (.bipush 32) 32] (by decide +kernel) rfl ?_
  refine pm_ic_ne (off := 18) 94 (by decide +kernel) (by decide) (fun hc => ?_) (fun hc => ?_)
  rotate_left
  · exact absurd hc (by decide +kernel)
  refine pm_blk (pc' := 95) (L' := [(5, .int 14), (3, .long 449), (2, .int 2), (0, .ref 5), (1, .ref 3)]) (S' := [.long 449]) (M' := cm 10 5741 rf_9 ua_2) [pm_o (.lload_n 3)] (by decide +kernel) rfl ?_
  refine pm_ldcx (idx := 29) (fun s h => h.1.2.1) (by decide +kernel) ?_
  refine pm_blk (pc' := 99) (L' := [(5, .int 14), (3, .long 449), (2, .int 2), (0, .ref 5), (1, .ref 3)]) (S' := [.int 14, .retAddr (D.2.1 0), .long 449]) (M' := cm 10 5741 rf_9 ua_2) [pm_o (.iload 5)] (by decide +kernel) rfl ?_
  refine pm_cVx (idx := 37) mJ_charAt (i := 0) (by decide) (cJ_char l h0 D (by decide) rfl (by decide +kernel)) (As := [.int 14]) (S0 := [.long 449]) rfl (by decide +kernel) kJ_charAt (pm_c1 73 rfl rfl) (pm_c1 74 rfl rfl) rfl l_Tokens_37 (Nat.le_of_ble_eq_true rfl) (Nat.le_of_ble_eq_true rfl) (Nat.le_of_ble_eq_true rfl) (Nat.le_of_ble_eq_true rfl) ?_
  refine pm_blk (pc' := 102) (L' := [(5, .int 14), (3, .long 449), (2, .int 2), (0, .ref 5), (1, .ref 3)]) (S' := [.int 116, .long 449]) (M' := cm 10 5741 rf_9 ua_2) [] (by decide +kernel) rfl ?_
  refine pm_cS (idx := 41) m_Tokens_withOctet (cM_Tokens_withOctet l h0 D (g := (0, 0, 0, 0)) (u := ua_0) (a1 := 449) (a2 := 116) (out := 16633) (by decide +kernel)) (As := [.long 449, .int 116]) (S0 := []) rfl (by decide +kernel) k_Tokens_withOctet l_Tokens_41 (Nat.le_of_ble_eq_true rfl) (Nat.le_of_ble_eq_true rfl) (Nat.le_of_ble_eq_true rfl) (Nat.le_of_ble_eq_true rfl) ?_
  refine pm_blk (pc' := 109) (L' := [(5, .int 15), (3, .long 16633), (2, .int 2), (0, .ref 5), (1, .ref 3)]) (S' := []) (M' := cm 10 5741 rf_9 ua_2) [pm_o (.lstore_n 3), pm_oi (.iinc 5 1) 1] (by decide +kernel) rfl ?_
  refine pm_goto (off := -58) 51 (by decide +kernel) (by decide) ?_
  exact kk
set_option maxHeartbeats 4000000 in
set_option maxRecDepth 100000 in
theorem tk_Tokens_init_15 (l : Launch) (h0 : Nat) (D : pm_D) {p : Program} {e : Env} {R : Room} {s : State} {m : MethodId} {args : Array Value} {below : List Frame} {meth : Method} {c : Code} {Q : State → Prop} (kk : pm_V (p, l, e, R, s, m, args, below, meth, c) m_Tokens_init h0 D (6, 3031, 10, 5741, 4) Q 51 [(5, .int 16), (3, .long 0), (2, .int 3), (0, .ref 5), (1, .ref 3)] [] (cm 10 5741 rf_9 ua_3)) : pm_V (p, l, e, R, s, m, args, below, meth, c) m_Tokens_init h0 D (6, 3031, 10, 5741, 4) Q 51 [(5, .int 15), (3, .long 16633), (2, .int 2), (0, .ref 5), (1, .ref 3)] [] (cm 10 5741 rf_9 ua_2) := by
  refine pm_blk (pc' := 53) (L' := [(5, .int 15), (3, .long 16633), (2, .int 2), (0, .ref 5), (1, .ref 3)]) (S' := [.int 15]) (M' := cm 10 5741 rf_9 ua_2) [pm_o (.iload 5)] (by decide +kernel) rfl ?_
  refine pm_ldcx (idx := 29) (fun s h => h.1.2.1) (by decide +kernel) ?_
  refine pm_blk (pc' := 55) (L' := [(5, .int 15), (3, .long 16633), (2, .int 2), (0, .ref 5), (1, .ref 3)]) (S' := [.retAddr (D.2.1 0), .int 15]) (M' := cm 10 5741 rf_9 ua_2) [] (by decide +kernel) rfl ?_
  refine pm_cVx (idx := 31) mJ_length (i := 0) (by decide) (cJ_length l h0 D (by decide)) (As := []) (S0 := [.int 15]) rfl (by decide +kernel) kJ_length (pm_c1 63 rfl rfl) (pm_c1 64 rfl rfl) rfl l_Tokens_31 (Nat.le_of_ble_eq_true rfl) (Nat.le_of_ble_eq_true rfl) (Nat.le_of_ble_eq_true rfl) (Nat.le_of_ble_eq_true rfl) ?_
  refine pm_blk (pc' := 58) (L' := [(5, .int 15), (3, .long 16633), (2, .int 2), (0, .ref 5), (1, .ref 3)]) (S' := [.int 43, .int 15]) (M' := cm 10 5741 rf_9 ua_2) [] (by decide +kernel) rfl ?_
  refine pm_ic_ge (off := 54) 112 (by decide +kernel) (by decide) (fun hc => ?_) (fun hc => ?_)
  · exact absurd hc (by decide +kernel)
  refine pm_blk (pc' := 64) (L' := [(5, .int 15), (3, .long 16633), (2, .int 2), (0, .ref 5), (1, .ref 3)]) (S' := [.int 10, .int 2]) (M' := cm 10 5741 rf_9 ua_2) [pm_o (.iload_n 2), pm_oi (.bipush 10) 10] (by decide +kernel) rfl ?_
  refine pm_ic_ge (off := 48) 112 (by decide +kernel) (by decide) (fun hc => ?_) (fun hc => ?_)
  · exact absurd hc (by decide +kernel)
  refine pm_ldcx (idx := 29) (fun s h => h.1.2.1) (by decide +kernel) ?_
  refine pm_blk (pc' := 71) (L' := [(5, .int 15), (3, .long 16633), (2, .int 2), (0, .ref 5), (1, .ref 3)]) (S' := [.int 15, .retAddr (D.2.1 0)]) (M' := cm 10 5741 rf_9 ua_2) [pm_o (.iload 5)] (by decide +kernel) rfl ?_
  refine pm_cVx (idx := 37) mJ_charAt (i := 0) (by decide) (cJ_char l h0 D (by decide) rfl (by decide +kernel)) (As := [.int 15]) (S0 := []) rfl (by decide +kernel) kJ_charAt (pm_c1 73 rfl rfl) (pm_c1 74 rfl rfl) rfl l_Tokens_37 (Nat.le_of_ble_eq_true rfl) (Nat.le_of_ble_eq_true rfl) (Nat.le_of_ble_eq_true rfl) (Nat.le_of_ble_eq_true rfl) ?_
  refine pm_blk (pc' := 76) (L' := [(5, .int 15), (3, .long 16633), (2, .int 2), (0, .ref 5), (1, .ref 3)]) (S' := [.int 32, .int 32]) (M' := cm 10 5741 rf_9 ua_2) [pm_oi (.bipush 32) 32] (by decide +kernel) rfl ?_
  refine pm_ic_ne (off := 18) 94 (by decide +kernel) (by decide) (fun hc => ?_) (fun hc => ?_)
  · exact absurd hc (by decide +kernel)
  refine pm_blk (pc' := 85) (L' := [(5, .int 15), (3, .long 16633), (2, .int 2), (0, .ref 5), (1, .ref 3)]) (S' := [.long 16633, .int 2, .ref 9]) (M' := cm 10 5741 rf_9 ua_2) [pm_o (.aload_n 0), pm_of (.getfield 26) 9 4 2, pm_o (.iload_n 2), pm_o (.lload_n 3)] (by decide +kernel) rfl ?_
  refine pm_last (by decide +kernel) rfl (pm_ok_in (by decide +kernel)) ?_
  refine pm_blk (pc' := 91) (L' := [(3, .long 0), (2, .int 3), (5, .int 15), (0, .ref 5), (1, .ref 3)]) (S' := []) (M' := cm 10 5741 rf_9 ua_3) [pm_oi (.iinc 2 1) 1, pm_ol (.lconst 0) 0, pm_o (.lstore_n 3)] (by decide +kernel) rfl ?_
  refine pm_goto (off := 15) 106 (by decide +kernel) (by decide) ?_
  refine pm_blk (pc' := 109) (L' := [(5, .int 16), (3, .long 0), (2, .int 3), (0, .ref 5), (1, .ref 3)]) (S' := []) (M' := cm 10 5741 rf_9 ua_3) [pm_oi (.iinc 5 1) 1] (by decide +kernel) rfl ?_
  refine pm_goto (off := -58) 51 (by decide +kernel) (by decide) ?_
  exact kk
set_option maxHeartbeats 4000000 in
set_option maxRecDepth 100000 in
theorem tk_Tokens_init_16 (l : Launch) (h0 : Nat) (D : pm_D) {p : Program} {e : Env} {R : Room} {s : State} {m : MethodId} {args : Array Value} {below : List Frame} {meth : Method} {c : Code} {Q : State → Prop} (kk : pm_V (p, l, e, R, s, m, args, below, meth, c) m_Tokens_init h0 D (6, 3031, 10, 5741, 4) Q 51 [(5, .int 17), (3, .long 9), (2, .int 3), (0, .ref 5), (1, .ref 3)] [] (cm 10 5741 rf_9 ua_3)) : pm_V (p, l, e, R, s, m, args, below, meth, c) m_Tokens_init h0 D (6, 3031, 10, 5741, 4) Q 51 [(5, .int 16), (3, .long 0), (2, .int 3), (0, .ref 5), (1, .ref 3)] [] (cm 10 5741 rf_9 ua_3) := by
  refine pm_blk (pc' := 53) (L' := [(5, .int 16), (3, .long 0), (2, .int 3), (0, .ref 5), (1, .ref 3)]) (S' := [.int 16]) (M' := cm 10 5741 rf_9 ua_3) [pm_o (.iload 5)] (by decide +kernel) rfl ?_
  refine pm_ldcx (idx := 29) (fun s h => h.1.2.1) (by decide +kernel) ?_
  refine pm_blk (pc' := 55) (L' := [(5, .int 16), (3, .long 0), (2, .int 3), (0, .ref 5), (1, .ref 3)]) (S' := [.retAddr (D.2.1 0), .int 16]) (M' := cm 10 5741 rf_9 ua_3) [] (by decide +kernel) rfl ?_
  refine pm_cVx (idx := 31) mJ_length (i := 0) (by decide) (cJ_length l h0 D (by decide)) (As := []) (S0 := [.int 16]) rfl (by decide +kernel) kJ_length (pm_c1 63 rfl rfl) (pm_c1 64 rfl rfl) rfl l_Tokens_31 (Nat.le_of_ble_eq_true rfl) (Nat.le_of_ble_eq_true rfl) (Nat.le_of_ble_eq_true rfl) (Nat.le_of_ble_eq_true rfl) ?_
  refine pm_blk (pc' := 58) (L' := [(5, .int 16), (3, .long 0), (2, .int 3), (0, .ref 5), (1, .ref 3)]) (S' := [.int 43, .int 16]) (M' := cm 10 5741 rf_9 ua_3) [] (by decide +kernel) rfl ?_
  refine pm_ic_ge (off := 54) 112 (by decide +kernel) (by decide) (fun hc => ?_) (fun hc => ?_)
  · exact absurd hc (by decide +kernel)
  refine pm_blk (pc' := 64) (L' := [(5, .int 16), (3, .long 0), (2, .int 3), (0, .ref 5), (1, .ref 3)]) (S' := [.int 10, .int 3]) (M' := cm 10 5741 rf_9 ua_3) [pm_o (.iload_n 2), pm_oi (.bipush 10) 10] (by decide +kernel) rfl ?_
  refine pm_ic_ge (off := 48) 112 (by decide +kernel) (by decide) (fun hc => ?_) (fun hc => ?_)
  · exact absurd hc (by decide +kernel)
  refine pm_ldcx (idx := 29) (fun s h => h.1.2.1) (by decide +kernel) ?_
  refine pm_blk (pc' := 71) (L' := [(5, .int 16), (3, .long 0), (2, .int 3), (0, .ref 5), (1, .ref 3)]) (S' := [.int 16, .retAddr (D.2.1 0)]) (M' := cm 10 5741 rf_9 ua_3) [pm_o (.iload 5)] (by decide +kernel) rfl ?_
  refine pm_cVx (idx := 37) mJ_charAt (i := 0) (by decide) (cJ_char l h0 D (by decide) rfl (by decide +kernel)) (As := [.int 16]) (S0 := []) rfl (by decide +kernel) kJ_charAt (pm_c1 73 rfl rfl) (pm_c1 74 rfl rfl) rfl l_Tokens_37 (Nat.le_of_ble_eq_true rfl) (Nat.le_of_ble_eq_true rfl) (Nat.le_of_ble_eq_true rfl) (Nat.le_of_ble_eq_true rfl) ?_
  refine pm_blk (pc' := 76) (L' := [(5, .int 16), (3, .long 0), (2, .int 3), (0, .ref 5), (1, .ref 3)]) (S' := [.int 32, .int 105]) (M' := cm 10 5741 rf_9 ua_3) [pm_oi (.bipush 32) 32] (by decide +kernel) rfl ?_
  refine pm_ic_ne (off := 18) 94 (by decide +kernel) (by decide) (fun hc => ?_) (fun hc => ?_)
  rotate_left
  · exact absurd hc (by decide +kernel)
  refine pm_blk (pc' := 95) (L' := [(5, .int 16), (3, .long 0), (2, .int 3), (0, .ref 5), (1, .ref 3)]) (S' := [.long 0]) (M' := cm 10 5741 rf_9 ua_3) [pm_o (.lload_n 3)] (by decide +kernel) rfl ?_
  refine pm_ldcx (idx := 29) (fun s h => h.1.2.1) (by decide +kernel) ?_
  refine pm_blk (pc' := 99) (L' := [(5, .int 16), (3, .long 0), (2, .int 3), (0, .ref 5), (1, .ref 3)]) (S' := [.int 16, .retAddr (D.2.1 0), .long 0]) (M' := cm 10 5741 rf_9 ua_3) [pm_o (.iload 5)] (by decide +kernel) rfl ?_
  refine pm_cVx (idx := 37) mJ_charAt (i := 0) (by decide) (cJ_char l h0 D (by decide) rfl (by decide +kernel)) (As := [.int 16]) (S0 := [.long 0]) rfl (by decide +kernel) kJ_charAt (pm_c1 73 rfl rfl) (pm_c1 74 rfl rfl) rfl l_Tokens_37 (Nat.le_of_ble_eq_true rfl) (Nat.le_of_ble_eq_true rfl) (Nat.le_of_ble_eq_true rfl) (Nat.le_of_ble_eq_true rfl) ?_
  refine pm_blk (pc' := 102) (L' := [(5, .int 16), (3, .long 0), (2, .int 3), (0, .ref 5), (1, .ref 3)]) (S' := [.int 105, .long 0]) (M' := cm 10 5741 rf_9 ua_3) [] (by decide +kernel) rfl ?_
  refine pm_cS (idx := 41) m_Tokens_withOctet (cM_Tokens_withOctet l h0 D (g := (0, 0, 0, 0)) (u := ua_0) (a1 := 0) (a2 := 105) (out := 9) (by decide +kernel)) (As := [.long 0, .int 105]) (S0 := []) rfl (by decide +kernel) k_Tokens_withOctet l_Tokens_41 (Nat.le_of_ble_eq_true rfl) (Nat.le_of_ble_eq_true rfl) (Nat.le_of_ble_eq_true rfl) (Nat.le_of_ble_eq_true rfl) ?_
  refine pm_blk (pc' := 109) (L' := [(5, .int 17), (3, .long 9), (2, .int 3), (0, .ref 5), (1, .ref 3)]) (S' := []) (M' := cm 10 5741 rf_9 ua_3) [pm_o (.lstore_n 3), pm_oi (.iinc 5 1) 1] (by decide +kernel) rfl ?_
  refine pm_goto (off := -58) 51 (by decide +kernel) (by decide) ?_
  exact kk
set_option maxHeartbeats 4000000 in
set_option maxRecDepth 100000 in
theorem tk_Tokens_init_17 (l : Launch) (h0 : Nat) (D : pm_D) {p : Program} {e : Env} {R : Room} {s : State} {m : MethodId} {args : Array Value} {below : List Frame} {meth : Method} {c : Code} {Q : State → Prop} (kk : pm_V (p, l, e, R, s, m, args, below, meth, c) m_Tokens_init h0 D (6, 3031, 10, 5741, 4) Q 51 [(5, .int 18), (3, .long 347), (2, .int 3), (0, .ref 5), (1, .ref 3)] [] (cm 10 5741 rf_9 ua_3)) : pm_V (p, l, e, R, s, m, args, below, meth, c) m_Tokens_init h0 D (6, 3031, 10, 5741, 4) Q 51 [(5, .int 17), (3, .long 9), (2, .int 3), (0, .ref 5), (1, .ref 3)] [] (cm 10 5741 rf_9 ua_3) := by
  refine pm_blk (pc' := 53) (L' := [(5, .int 17), (3, .long 9), (2, .int 3), (0, .ref 5), (1, .ref 3)]) (S' := [.int 17]) (M' := cm 10 5741 rf_9 ua_3) [pm_o (.iload 5)] (by decide +kernel) rfl ?_
  refine pm_ldcx (idx := 29) (fun s h => h.1.2.1) (by decide +kernel) ?_
  refine pm_blk (pc' := 55) (L' := [(5, .int 17), (3, .long 9), (2, .int 3), (0, .ref 5), (1, .ref 3)]) (S' := [.retAddr (D.2.1 0), .int 17]) (M' := cm 10 5741 rf_9 ua_3) [] (by decide +kernel) rfl ?_
  refine pm_cVx (idx := 31) mJ_length (i := 0) (by decide) (cJ_length l h0 D (by decide)) (As := []) (S0 := [.int 17]) rfl (by decide +kernel) kJ_length (pm_c1 63 rfl rfl) (pm_c1 64 rfl rfl) rfl l_Tokens_31 (Nat.le_of_ble_eq_true rfl) (Nat.le_of_ble_eq_true rfl) (Nat.le_of_ble_eq_true rfl) (Nat.le_of_ble_eq_true rfl) ?_
  refine pm_blk (pc' := 58) (L' := [(5, .int 17), (3, .long 9), (2, .int 3), (0, .ref 5), (1, .ref 3)]) (S' := [.int 43, .int 17]) (M' := cm 10 5741 rf_9 ua_3) [] (by decide +kernel) rfl ?_
  refine pm_ic_ge (off := 54) 112 (by decide +kernel) (by decide) (fun hc => ?_) (fun hc => ?_)
  · exact absurd hc (by decide +kernel)
  refine pm_blk (pc' := 64) (L' := [(5, .int 17), (3, .long 9), (2, .int 3), (0, .ref 5), (1, .ref 3)]) (S' := [.int 10, .int 3]) (M' := cm 10 5741 rf_9 ua_3) [pm_o (.iload_n 2), pm_oi (.bipush 10) 10] (by decide +kernel) rfl ?_
  refine pm_ic_ge (off := 48) 112 (by decide +kernel) (by decide) (fun hc => ?_) (fun hc => ?_)
  · exact absurd hc (by decide +kernel)
  refine pm_ldcx (idx := 29) (fun s h => h.1.2.1) (by decide +kernel) ?_
  refine pm_blk (pc' := 71) (L' := [(5, .int 17), (3, .long 9), (2, .int 3), (0, .ref 5), (1, .ref 3)]) (S' := [.int 17, .retAddr (D.2.1 0)]) (M' := cm 10 5741 rf_9 ua_3) [pm_o (.iload 5)] (by decide +kernel) rfl ?_
  refine pm_cVx (idx := 37) mJ_charAt (i := 0) (by decide) (cJ_char l h0 D (by decide) rfl (by decide +kernel)) (As := [.int 17]) (S0 := []) rfl (by decide +kernel) kJ_charAt (pm_c1 73 rfl rfl) (pm_c1 74 rfl rfl) rfl l_Tokens_37 (Nat.le_of_ble_eq_true rfl) (Nat.le_of_ble_eq_true rfl) (Nat.le_of_ble_eq_true rfl) (Nat.le_of_ble_eq_true rfl) ?_
  refine pm_blk (pc' := 76) (L' := [(5, .int 17), (3, .long 9), (2, .int 3), (0, .ref 5), (1, .ref 3)]) (S' := [.int 32, .int 110]) (M' := cm 10 5741 rf_9 ua_3) [pm_oi (.bipush 32) 32] (by decide +kernel) rfl ?_
  refine pm_ic_ne (off := 18) 94 (by decide +kernel) (by decide) (fun hc => ?_) (fun hc => ?_)
  rotate_left
  · exact absurd hc (by decide +kernel)
  refine pm_blk (pc' := 95) (L' := [(5, .int 17), (3, .long 9), (2, .int 3), (0, .ref 5), (1, .ref 3)]) (S' := [.long 9]) (M' := cm 10 5741 rf_9 ua_3) [pm_o (.lload_n 3)] (by decide +kernel) rfl ?_
  refine pm_ldcx (idx := 29) (fun s h => h.1.2.1) (by decide +kernel) ?_
  refine pm_blk (pc' := 99) (L' := [(5, .int 17), (3, .long 9), (2, .int 3), (0, .ref 5), (1, .ref 3)]) (S' := [.int 17, .retAddr (D.2.1 0), .long 9]) (M' := cm 10 5741 rf_9 ua_3) [pm_o (.iload 5)] (by decide +kernel) rfl ?_
  refine pm_cVx (idx := 37) mJ_charAt (i := 0) (by decide) (cJ_char l h0 D (by decide) rfl (by decide +kernel)) (As := [.int 17]) (S0 := [.long 9]) rfl (by decide +kernel) kJ_charAt (pm_c1 73 rfl rfl) (pm_c1 74 rfl rfl) rfl l_Tokens_37 (Nat.le_of_ble_eq_true rfl) (Nat.le_of_ble_eq_true rfl) (Nat.le_of_ble_eq_true rfl) (Nat.le_of_ble_eq_true rfl) ?_
  refine pm_blk (pc' := 102) (L' := [(5, .int 17), (3, .long 9), (2, .int 3), (0, .ref 5), (1, .ref 3)]) (S' := [.int 110, .long 9]) (M' := cm 10 5741 rf_9 ua_3) [] (by decide +kernel) rfl ?_
  refine pm_cS (idx := 41) m_Tokens_withOctet (cM_Tokens_withOctet l h0 D (g := (0, 0, 0, 0)) (u := ua_0) (a1 := 9) (a2 := 110) (out := 347) (by decide +kernel)) (As := [.long 9, .int 110]) (S0 := []) rfl (by decide +kernel) k_Tokens_withOctet l_Tokens_41 (Nat.le_of_ble_eq_true rfl) (Nat.le_of_ble_eq_true rfl) (Nat.le_of_ble_eq_true rfl) (Nat.le_of_ble_eq_true rfl) ?_
  refine pm_blk (pc' := 109) (L' := [(5, .int 18), (3, .long 347), (2, .int 3), (0, .ref 5), (1, .ref 3)]) (S' := []) (M' := cm 10 5741 rf_9 ua_3) [pm_o (.lstore_n 3), pm_oi (.iinc 5 1) 1] (by decide +kernel) rfl ?_
  refine pm_goto (off := -58) 51 (by decide +kernel) (by decide) ?_
  exact kk
set_option maxHeartbeats 4000000 in
set_option maxRecDepth 100000 in
theorem tk_Tokens_init_18 (l : Launch) (h0 : Nat) (D : pm_D) {p : Program} {e : Env} {R : Room} {s : State} {m : MethodId} {args : Array Value} {below : List Frame} {meth : Method} {c : Code} {Q : State → Prop} (kk : pm_V (p, l, e, R, s, m, args, below, meth, c) m_Tokens_init h0 D (6, 3031, 10, 5741, 4) Q 51 [(5, .int 19), (3, .long 0), (2, .int 4), (0, .ref 5), (1, .ref 3)] [] (cm 10 5741 rf_9 ua_4)) : pm_V (p, l, e, R, s, m, args, below, meth, c) m_Tokens_init h0 D (6, 3031, 10, 5741, 4) Q 51 [(5, .int 18), (3, .long 347), (2, .int 3), (0, .ref 5), (1, .ref 3)] [] (cm 10 5741 rf_9 ua_3) := by
  refine pm_blk (pc' := 53) (L' := [(5, .int 18), (3, .long 347), (2, .int 3), (0, .ref 5), (1, .ref 3)]) (S' := [.int 18]) (M' := cm 10 5741 rf_9 ua_3) [pm_o (.iload 5)] (by decide +kernel) rfl ?_
  refine pm_ldcx (idx := 29) (fun s h => h.1.2.1) (by decide +kernel) ?_
  refine pm_blk (pc' := 55) (L' := [(5, .int 18), (3, .long 347), (2, .int 3), (0, .ref 5), (1, .ref 3)]) (S' := [.retAddr (D.2.1 0), .int 18]) (M' := cm 10 5741 rf_9 ua_3) [] (by decide +kernel) rfl ?_
  refine pm_cVx (idx := 31) mJ_length (i := 0) (by decide) (cJ_length l h0 D (by decide)) (As := []) (S0 := [.int 18]) rfl (by decide +kernel) kJ_length (pm_c1 63 rfl rfl) (pm_c1 64 rfl rfl) rfl l_Tokens_31 (Nat.le_of_ble_eq_true rfl) (Nat.le_of_ble_eq_true rfl) (Nat.le_of_ble_eq_true rfl) (Nat.le_of_ble_eq_true rfl) ?_
  refine pm_blk (pc' := 58) (L' := [(5, .int 18), (3, .long 347), (2, .int 3), (0, .ref 5), (1, .ref 3)]) (S' := [.int 43, .int 18]) (M' := cm 10 5741 rf_9 ua_3) [] (by decide +kernel) rfl ?_
  refine pm_ic_ge (off := 54) 112 (by decide +kernel) (by decide) (fun hc => ?_) (fun hc => ?_)
  · exact absurd hc (by decide +kernel)
  refine pm_blk (pc' := 64) (L' := [(5, .int 18), (3, .long 347), (2, .int 3), (0, .ref 5), (1, .ref 3)]) (S' := [.int 10, .int 3]) (M' := cm 10 5741 rf_9 ua_3) [pm_o (.iload_n 2), pm_oi (.bipush 10) 10] (by decide +kernel) rfl ?_
  refine pm_ic_ge (off := 48) 112 (by decide +kernel) (by decide) (fun hc => ?_) (fun hc => ?_)
  · exact absurd hc (by decide +kernel)
  refine pm_ldcx (idx := 29) (fun s h => h.1.2.1) (by decide +kernel) ?_
  refine pm_blk (pc' := 71) (L' := [(5, .int 18), (3, .long 347), (2, .int 3), (0, .ref 5), (1, .ref 3)]) (S' := [.int 18, .retAddr (D.2.1 0)]) (M' := cm 10 5741 rf_9 ua_3) [pm_o (.iload 5)] (by decide +kernel) rfl ?_
  refine pm_cVx (idx := 37) mJ_charAt (i := 0) (by decide) (cJ_char l h0 D (by decide) rfl (by decide +kernel)) (As := [.int 18]) (S0 := []) rfl (by decide +kernel) kJ_charAt (pm_c1 73 rfl rfl) (pm_c1 74 rfl rfl) rfl l_Tokens_37 (Nat.le_of_ble_eq_true rfl) (Nat.le_of_ble_eq_true rfl) (Nat.le_of_ble_eq_true rfl) (Nat.le_of_ble_eq_true rfl) ?_
  refine pm_blk (pc' := 76) (L' := [(5, .int 18), (3, .long 347), (2, .int 3), (0, .ref 5), (1, .ref 3)]) (S' := [.int 32, .int 32]) (M' := cm 10 5741 rf_9 ua_3) [pm_oi (.bipush 32) 32] (by decide +kernel) rfl ?_
  refine pm_ic_ne (off := 18) 94 (by decide +kernel) (by decide) (fun hc => ?_) (fun hc => ?_)
  · exact absurd hc (by decide +kernel)
  refine pm_blk (pc' := 85) (L' := [(5, .int 18), (3, .long 347), (2, .int 3), (0, .ref 5), (1, .ref 3)]) (S' := [.long 347, .int 3, .ref 9]) (M' := cm 10 5741 rf_9 ua_3) [pm_o (.aload_n 0), pm_of (.getfield 26) 9 4 2, pm_o (.iload_n 2), pm_o (.lload_n 3)] (by decide +kernel) rfl ?_
  refine pm_last (by decide +kernel) rfl (pm_ok_in (by decide +kernel)) ?_
  refine pm_blk (pc' := 91) (L' := [(3, .long 0), (2, .int 4), (5, .int 18), (0, .ref 5), (1, .ref 3)]) (S' := []) (M' := cm 10 5741 rf_9 ua_4) [pm_oi (.iinc 2 1) 1, pm_ol (.lconst 0) 0, pm_o (.lstore_n 3)] (by decide +kernel) rfl ?_
  refine pm_goto (off := 15) 106 (by decide +kernel) (by decide) ?_
  refine pm_blk (pc' := 109) (L' := [(5, .int 19), (3, .long 0), (2, .int 4), (0, .ref 5), (1, .ref 3)]) (S' := []) (M' := cm 10 5741 rf_9 ua_4) [pm_oi (.iinc 5 1) 1] (by decide +kernel) rfl ?_
  refine pm_goto (off := -58) 51 (by decide +kernel) (by decide) ?_
  exact kk
set_option maxHeartbeats 4000000 in
set_option maxRecDepth 100000 in
theorem tk_Tokens_init_19 (l : Launch) (h0 : Nat) (D : pm_D) {p : Program} {e : Env} {R : Room} {s : State} {m : MethodId} {args : Array Value} {below : List Frame} {meth : Method} {c : Code} {Q : State → Prop} (kk : pm_V (p, l, e, R, s, m, args, below, meth, c) m_Tokens_init h0 D (6, 3031, 10, 5741, 4) Q 51 [(5, .int 20), (3, .long 9), (2, .int 4), (0, .ref 5), (1, .ref 3)] [] (cm 10 5741 rf_9 ua_4)) : pm_V (p, l, e, R, s, m, args, below, meth, c) m_Tokens_init h0 D (6, 3031, 10, 5741, 4) Q 51 [(5, .int 19), (3, .long 0), (2, .int 4), (0, .ref 5), (1, .ref 3)] [] (cm 10 5741 rf_9 ua_4) := by
  refine pm_blk (pc' := 53) (L' := [(5, .int 19), (3, .long 0), (2, .int 4), (0, .ref 5), (1, .ref 3)]) (S' := [.int 19]) (M' := cm 10 5741 rf_9 ua_4) [pm_o (.iload 5)] (by decide +kernel) rfl ?_
  refine pm_ldcx (idx := 29) (fun s h => h.1.2.1) (by decide +kernel) ?_
  refine pm_blk (pc' := 55) (L' := [(5, .int 19), (3, .long 0), (2, .int 4), (0, .ref 5), (1, .ref 3)]) (S' := [.retAddr (D.2.1 0), .int 19]) (M' := cm 10 5741 rf_9 ua_4) [] (by decide +kernel) rfl ?_
  refine pm_cVx (idx := 31) mJ_length (i := 0) (by decide) (cJ_length l h0 D (by decide)) (As := []) (S0 := [.int 19]) rfl (by decide +kernel) kJ_length (pm_c1 63 rfl rfl) (pm_c1 64 rfl rfl) rfl l_Tokens_31 (Nat.le_of_ble_eq_true rfl) (Nat.le_of_ble_eq_true rfl) (Nat.le_of_ble_eq_true rfl) (Nat.le_of_ble_eq_true rfl) ?_
  refine pm_blk (pc' := 58) (L' := [(5, .int 19), (3, .long 0), (2, .int 4), (0, .ref 5), (1, .ref 3)]) (S' := [.int 43, .int 19]) (M' := cm 10 5741 rf_9 ua_4) [] (by decide +kernel) rfl ?_
  refine pm_ic_ge (off := 54) 112 (by decide +kernel) (by decide) (fun hc => ?_) (fun hc => ?_)
  · exact absurd hc (by decide +kernel)
  refine pm_blk (pc' := 64) (L' := [(5, .int 19), (3, .long 0), (2, .int 4), (0, .ref 5), (1, .ref 3)]) (S' := [.int 10, .int 4]) (M' := cm 10 5741 rf_9 ua_4) [pm_o (.iload_n 2), pm_oi (.bipush 10) 10] (by decide +kernel) rfl ?_
  refine pm_ic_ge (off := 48) 112 (by decide +kernel) (by decide) (fun hc => ?_) (fun hc => ?_)
  · exact absurd hc (by decide +kernel)
  refine pm_ldcx (idx := 29) (fun s h => h.1.2.1) (by decide +kernel) ?_
  refine pm_blk (pc' := 71) (L' := [(5, .int 19), (3, .long 0), (2, .int 4), (0, .ref 5), (1, .ref 3)]) (S' := [.int 19, .retAddr (D.2.1 0)]) (M' := cm 10 5741 rf_9 ua_4) [pm_o (.iload 5)] (by decide +kernel) rfl ?_
  refine pm_cVx (idx := 37) mJ_charAt (i := 0) (by decide) (cJ_char l h0 D (by decide) rfl (by decide +kernel)) (As := [.int 19]) (S0 := []) rfl (by decide +kernel) kJ_charAt (pm_c1 73 rfl rfl) (pm_c1 74 rfl rfl) rfl l_Tokens_37 (Nat.le_of_ble_eq_true rfl) (Nat.le_of_ble_eq_true rfl) (Nat.le_of_ble_eq_true rfl) (Nat.le_of_ble_eq_true rfl) ?_
  refine pm_blk (pc' := 76) (L' := [(5, .int 19), (3, .long 0), (2, .int 4), (0, .ref 5), (1, .ref 3)]) (S' := [.int 32, .int 105]) (M' := cm 10 5741 rf_9 ua_4) [pm_oi (.bipush 32) 32] (by decide +kernel) rfl ?_
  refine pm_ic_ne (off := 18) 94 (by decide +kernel) (by decide) (fun hc => ?_) (fun hc => ?_)
  rotate_left
  · exact absurd hc (by decide +kernel)
  refine pm_blk (pc' := 95) (L' := [(5, .int 19), (3, .long 0), (2, .int 4), (0, .ref 5), (1, .ref 3)]) (S' := [.long 0]) (M' := cm 10 5741 rf_9 ua_4) [pm_o (.lload_n 3)] (by decide +kernel) rfl ?_
  refine pm_ldcx (idx := 29) (fun s h => h.1.2.1) (by decide +kernel) ?_
  refine pm_blk (pc' := 99) (L' := [(5, .int 19), (3, .long 0), (2, .int 4), (0, .ref 5), (1, .ref 3)]) (S' := [.int 19, .retAddr (D.2.1 0), .long 0]) (M' := cm 10 5741 rf_9 ua_4) [pm_o (.iload 5)] (by decide +kernel) rfl ?_
  refine pm_cVx (idx := 37) mJ_charAt (i := 0) (by decide) (cJ_char l h0 D (by decide) rfl (by decide +kernel)) (As := [.int 19]) (S0 := [.long 0]) rfl (by decide +kernel) kJ_charAt (pm_c1 73 rfl rfl) (pm_c1 74 rfl rfl) rfl l_Tokens_37 (Nat.le_of_ble_eq_true rfl) (Nat.le_of_ble_eq_true rfl) (Nat.le_of_ble_eq_true rfl) (Nat.le_of_ble_eq_true rfl) ?_
  refine pm_blk (pc' := 102) (L' := [(5, .int 19), (3, .long 0), (2, .int 4), (0, .ref 5), (1, .ref 3)]) (S' := [.int 105, .long 0]) (M' := cm 10 5741 rf_9 ua_4) [] (by decide +kernel) rfl ?_
  refine pm_cS (idx := 41) m_Tokens_withOctet (cM_Tokens_withOctet l h0 D (g := (0, 0, 0, 0)) (u := ua_0) (a1 := 0) (a2 := 105) (out := 9) (by decide +kernel)) (As := [.long 0, .int 105]) (S0 := []) rfl (by decide +kernel) k_Tokens_withOctet l_Tokens_41 (Nat.le_of_ble_eq_true rfl) (Nat.le_of_ble_eq_true rfl) (Nat.le_of_ble_eq_true rfl) (Nat.le_of_ble_eq_true rfl) ?_
  refine pm_blk (pc' := 109) (L' := [(5, .int 20), (3, .long 9), (2, .int 4), (0, .ref 5), (1, .ref 3)]) (S' := []) (M' := cm 10 5741 rf_9 ua_4) [pm_o (.lstore_n 3), pm_oi (.iinc 5 1) 1] (by decide +kernel) rfl ?_
  refine pm_goto (off := -58) 51 (by decide +kernel) (by decide) ?_
  exact kk
set_option maxHeartbeats 4000000 in
set_option maxRecDepth 100000 in
theorem tk_Tokens_init_20 (l : Launch) (h0 : Nat) (D : pm_D) {p : Program} {e : Env} {R : Room} {s : State} {m : MethodId} {args : Array Value} {below : List Frame} {meth : Method} {c : Code} {Q : State → Prop} (kk : pm_V (p, l, e, R, s, m, args, below, meth, c) m_Tokens_init h0 D (6, 3031, 10, 5741, 4) Q 51 [(5, .int 21), (3, .long 339), (2, .int 4), (0, .ref 5), (1, .ref 3)] [] (cm 10 5741 rf_9 ua_4)) : pm_V (p, l, e, R, s, m, args, below, meth, c) m_Tokens_init h0 D (6, 3031, 10, 5741, 4) Q 51 [(5, .int 20), (3, .long 9), (2, .int 4), (0, .ref 5), (1, .ref 3)] [] (cm 10 5741 rf_9 ua_4) := by
  refine pm_blk (pc' := 53) (L' := [(5, .int 20), (3, .long 9), (2, .int 4), (0, .ref 5), (1, .ref 3)]) (S' := [.int 20]) (M' := cm 10 5741 rf_9 ua_4) [pm_o (.iload 5)] (by decide +kernel) rfl ?_
  refine pm_ldcx (idx := 29) (fun s h => h.1.2.1) (by decide +kernel) ?_
  refine pm_blk (pc' := 55) (L' := [(5, .int 20), (3, .long 9), (2, .int 4), (0, .ref 5), (1, .ref 3)]) (S' := [.retAddr (D.2.1 0), .int 20]) (M' := cm 10 5741 rf_9 ua_4) [] (by decide +kernel) rfl ?_
  refine pm_cVx (idx := 31) mJ_length (i := 0) (by decide) (cJ_length l h0 D (by decide)) (As := []) (S0 := [.int 20]) rfl (by decide +kernel) kJ_length (pm_c1 63 rfl rfl) (pm_c1 64 rfl rfl) rfl l_Tokens_31 (Nat.le_of_ble_eq_true rfl) (Nat.le_of_ble_eq_true rfl) (Nat.le_of_ble_eq_true rfl) (Nat.le_of_ble_eq_true rfl) ?_
  refine pm_blk (pc' := 58) (L' := [(5, .int 20), (3, .long 9), (2, .int 4), (0, .ref 5), (1, .ref 3)]) (S' := [.int 43, .int 20]) (M' := cm 10 5741 rf_9 ua_4) [] (by decide +kernel) rfl ?_
  refine pm_ic_ge (off := 54) 112 (by decide +kernel) (by decide) (fun hc => ?_) (fun hc => ?_)
  · exact absurd hc (by decide +kernel)
  refine pm_blk (pc' := 64) (L' := [(5, .int 20), (3, .long 9), (2, .int 4), (0, .ref 5), (1, .ref 3)]) (S' := [.int 10, .int 4]) (M' := cm 10 5741 rf_9 ua_4) [pm_o (.iload_n 2), pm_oi (.bipush 10) 10] (by decide +kernel) rfl ?_
  refine pm_ic_ge (off := 48) 112 (by decide +kernel) (by decide) (fun hc => ?_) (fun hc => ?_)
  · exact absurd hc (by decide +kernel)
  refine pm_ldcx (idx := 29) (fun s h => h.1.2.1) (by decide +kernel) ?_
  refine pm_blk (pc' := 71) (L' := [(5, .int 20), (3, .long 9), (2, .int 4), (0, .ref 5), (1, .ref 3)]) (S' := [.int 20, .retAddr (D.2.1 0)]) (M' := cm 10 5741 rf_9 ua_4) [pm_o (.iload 5)] (by decide +kernel) rfl ?_
  refine pm_cVx (idx := 37) mJ_charAt (i := 0) (by decide) (cJ_char l h0 D (by decide) rfl (by decide +kernel)) (As := [.int 20]) (S0 := []) rfl (by decide +kernel) kJ_charAt (pm_c1 73 rfl rfl) (pm_c1 74 rfl rfl) rfl l_Tokens_37 (Nat.le_of_ble_eq_true rfl) (Nat.le_of_ble_eq_true rfl) (Nat.le_of_ble_eq_true rfl) (Nat.le_of_ble_eq_true rfl) ?_
  refine pm_blk (pc' := 76) (L' := [(5, .int 20), (3, .long 9), (2, .int 4), (0, .ref 5), (1, .ref 3)]) (S' := [.int 32, .int 102]) (M' := cm 10 5741 rf_9 ua_4) [pm_oi (.bipush 32) 32] (by decide +kernel) rfl ?_
  refine pm_ic_ne (off := 18) 94 (by decide +kernel) (by decide) (fun hc => ?_) (fun hc => ?_)
  rotate_left
  · exact absurd hc (by decide +kernel)
  refine pm_blk (pc' := 95) (L' := [(5, .int 20), (3, .long 9), (2, .int 4), (0, .ref 5), (1, .ref 3)]) (S' := [.long 9]) (M' := cm 10 5741 rf_9 ua_4) [pm_o (.lload_n 3)] (by decide +kernel) rfl ?_
  refine pm_ldcx (idx := 29) (fun s h => h.1.2.1) (by decide +kernel) ?_
  refine pm_blk (pc' := 99) (L' := [(5, .int 20), (3, .long 9), (2, .int 4), (0, .ref 5), (1, .ref 3)]) (S' := [.int 20, .retAddr (D.2.1 0), .long 9]) (M' := cm 10 5741 rf_9 ua_4) [pm_o (.iload 5)] (by decide +kernel) rfl ?_
  refine pm_cVx (idx := 37) mJ_charAt (i := 0) (by decide) (cJ_char l h0 D (by decide) rfl (by decide +kernel)) (As := [.int 20]) (S0 := [.long 9]) rfl (by decide +kernel) kJ_charAt (pm_c1 73 rfl rfl) (pm_c1 74 rfl rfl) rfl l_Tokens_37 (Nat.le_of_ble_eq_true rfl) (Nat.le_of_ble_eq_true rfl) (Nat.le_of_ble_eq_true rfl) (Nat.le_of_ble_eq_true rfl) ?_
  refine pm_blk (pc' := 102) (L' := [(5, .int 20), (3, .long 9), (2, .int 4), (0, .ref 5), (1, .ref 3)]) (S' := [.int 102, .long 9]) (M' := cm 10 5741 rf_9 ua_4) [] (by decide +kernel) rfl ?_
  refine pm_cS (idx := 41) m_Tokens_withOctet (cM_Tokens_withOctet l h0 D (g := (0, 0, 0, 0)) (u := ua_0) (a1 := 9) (a2 := 102) (out := 339) (by decide +kernel)) (As := [.long 9, .int 102]) (S0 := []) rfl (by decide +kernel) k_Tokens_withOctet l_Tokens_41 (Nat.le_of_ble_eq_true rfl) (Nat.le_of_ble_eq_true rfl) (Nat.le_of_ble_eq_true rfl) (Nat.le_of_ble_eq_true rfl) ?_
  refine pm_blk (pc' := 109) (L' := [(5, .int 21), (3, .long 339), (2, .int 4), (0, .ref 5), (1, .ref 3)]) (S' := []) (M' := cm 10 5741 rf_9 ua_4) [pm_o (.lstore_n 3), pm_oi (.iinc 5 1) 1] (by decide +kernel) rfl ?_
  refine pm_goto (off := -58) 51 (by decide +kernel) (by decide) ?_
  exact kk
set_option maxHeartbeats 4000000 in
set_option maxRecDepth 100000 in
theorem tk_Tokens_init_21 (l : Launch) (h0 : Nat) (D : pm_D) {p : Program} {e : Env} {R : Room} {s : State} {m : MethodId} {args : Array Value} {below : List Frame} {meth : Method} {c : Code} {Q : State → Prop} (kk : pm_V (p, l, e, R, s, m, args, below, meth, c) m_Tokens_init h0 D (6, 3031, 10, 5741, 4) Q 51 [(5, .int 22), (3, .long 0), (2, .int 5), (0, .ref 5), (1, .ref 3)] [] (cm 10 5741 rf_9 ua_5)) : pm_V (p, l, e, R, s, m, args, below, meth, c) m_Tokens_init h0 D (6, 3031, 10, 5741, 4) Q 51 [(5, .int 21), (3, .long 339), (2, .int 4), (0, .ref 5), (1, .ref 3)] [] (cm 10 5741 rf_9 ua_4) := by
  refine pm_blk (pc' := 53) (L' := [(5, .int 21), (3, .long 339), (2, .int 4), (0, .ref 5), (1, .ref 3)]) (S' := [.int 21]) (M' := cm 10 5741 rf_9 ua_4) [pm_o (.iload 5)] (by decide +kernel) rfl ?_
  refine pm_ldcx (idx := 29) (fun s h => h.1.2.1) (by decide +kernel) ?_
  refine pm_blk (pc' := 55) (L' := [(5, .int 21), (3, .long 339), (2, .int 4), (0, .ref 5), (1, .ref 3)]) (S' := [.retAddr (D.2.1 0), .int 21]) (M' := cm 10 5741 rf_9 ua_4) [] (by decide +kernel) rfl ?_
  refine pm_cVx (idx := 31) mJ_length (i := 0) (by decide) (cJ_length l h0 D (by decide)) (As := []) (S0 := [.int 21]) rfl (by decide +kernel) kJ_length (pm_c1 63 rfl rfl) (pm_c1 64 rfl rfl) rfl l_Tokens_31 (Nat.le_of_ble_eq_true rfl) (Nat.le_of_ble_eq_true rfl) (Nat.le_of_ble_eq_true rfl) (Nat.le_of_ble_eq_true rfl) ?_
  refine pm_blk (pc' := 58) (L' := [(5, .int 21), (3, .long 339), (2, .int 4), (0, .ref 5), (1, .ref 3)]) (S' := [.int 43, .int 21]) (M' := cm 10 5741 rf_9 ua_4) [] (by decide +kernel) rfl ?_
  refine pm_ic_ge (off := 54) 112 (by decide +kernel) (by decide) (fun hc => ?_) (fun hc => ?_)
  · exact absurd hc (by decide +kernel)
  refine pm_blk (pc' := 64) (L' := [(5, .int 21), (3, .long 339), (2, .int 4), (0, .ref 5), (1, .ref 3)]) (S' := [.int 10, .int 4]) (M' := cm 10 5741 rf_9 ua_4) [pm_o (.iload_n 2), pm_oi (.bipush 10) 10] (by decide +kernel) rfl ?_
  refine pm_ic_ge (off := 48) 112 (by decide +kernel) (by decide) (fun hc => ?_) (fun hc => ?_)
  · exact absurd hc (by decide +kernel)
  refine pm_ldcx (idx := 29) (fun s h => h.1.2.1) (by decide +kernel) ?_
  refine pm_blk (pc' := 71) (L' := [(5, .int 21), (3, .long 339), (2, .int 4), (0, .ref 5), (1, .ref 3)]) (S' := [.int 21, .retAddr (D.2.1 0)]) (M' := cm 10 5741 rf_9 ua_4) [pm_o (.iload 5)] (by decide +kernel) rfl ?_
  refine pm_cVx (idx := 37) mJ_charAt (i := 0) (by decide) (cJ_char l h0 D (by decide) rfl (by decide +kernel)) (As := [.int 21]) (S0 := []) rfl (by decide +kernel) kJ_charAt (pm_c1 73 rfl rfl) (pm_c1 74 rfl rfl) rfl l_Tokens_37 (Nat.le_of_ble_eq_true rfl) (Nat.le_of_ble_eq_true rfl) (Nat.le_of_ble_eq_true rfl) (Nat.le_of_ble_eq_true rfl) ?_
  refine pm_blk (pc' := 76) (L' := [(5, .int 21), (3, .long 339), (2, .int 4), (0, .ref 5), (1, .ref 3)]) (S' := [.int 32, .int 32]) (M' := cm 10 5741 rf_9 ua_4) [pm_oi (.bipush 32) 32] (by decide +kernel) rfl ?_
  refine pm_ic_ne (off := 18) 94 (by decide +kernel) (by decide) (fun hc => ?_) (fun hc => ?_)
  · exact absurd hc (by decide +kernel)
  refine pm_blk (pc' := 85) (L' := [(5, .int 21), (3, .long 339), (2, .int 4), (0, .ref 5), (1, .ref 3)]) (S' := [.long 339, .int 4, .ref 9]) (M' := cm 10 5741 rf_9 ua_4) [pm_o (.aload_n 0), pm_of (.getfield 26) 9 4 2, pm_o (.iload_n 2), pm_o (.lload_n 3)] (by decide +kernel) rfl ?_
  refine pm_last (by decide +kernel) rfl (pm_ok_in (by decide +kernel)) ?_
  refine pm_blk (pc' := 91) (L' := [(3, .long 0), (2, .int 5), (5, .int 21), (0, .ref 5), (1, .ref 3)]) (S' := []) (M' := cm 10 5741 rf_9 ua_5) [pm_oi (.iinc 2 1) 1, pm_ol (.lconst 0) 0, pm_o (.lstore_n 3)] (by decide +kernel) rfl ?_
  refine pm_goto (off := 15) 106 (by decide +kernel) (by decide) ?_
  refine pm_blk (pc' := 109) (L' := [(5, .int 22), (3, .long 0), (2, .int 5), (0, .ref 5), (1, .ref 3)]) (S' := []) (M' := cm 10 5741 rf_9 ua_5) [pm_oi (.iinc 5 1) 1] (by decide +kernel) rfl ?_
  refine pm_goto (off := -58) 51 (by decide +kernel) (by decide) ?_
  exact kk
set_option maxHeartbeats 4000000 in
set_option maxRecDepth 100000 in
theorem tk_Tokens_init_22 (l : Launch) (h0 : Nat) (D : pm_D) {p : Program} {e : Env} {R : Room} {s : State} {m : MethodId} {args : Array Value} {below : List Frame} {meth : Method} {c : Code} {Q : State → Prop} (kk : pm_V (p, l, e, R, s, m, args, below, meth, c) m_Tokens_init h0 D (6, 3031, 10, 5741, 4) Q 51 [(5, .int 23), (3, .long 20), (2, .int 5), (0, .ref 5), (1, .ref 3)] [] (cm 10 5741 rf_9 ua_5)) : pm_V (p, l, e, R, s, m, args, below, meth, c) m_Tokens_init h0 D (6, 3031, 10, 5741, 4) Q 51 [(5, .int 22), (3, .long 0), (2, .int 5), (0, .ref 5), (1, .ref 3)] [] (cm 10 5741 rf_9 ua_5) := by
  refine pm_blk (pc' := 53) (L' := [(5, .int 22), (3, .long 0), (2, .int 5), (0, .ref 5), (1, .ref 3)]) (S' := [.int 22]) (M' := cm 10 5741 rf_9 ua_5) [pm_o (.iload 5)] (by decide +kernel) rfl ?_
  refine pm_ldcx (idx := 29) (fun s h => h.1.2.1) (by decide +kernel) ?_
  refine pm_blk (pc' := 55) (L' := [(5, .int 22), (3, .long 0), (2, .int 5), (0, .ref 5), (1, .ref 3)]) (S' := [.retAddr (D.2.1 0), .int 22]) (M' := cm 10 5741 rf_9 ua_5) [] (by decide +kernel) rfl ?_
  refine pm_cVx (idx := 31) mJ_length (i := 0) (by decide) (cJ_length l h0 D (by decide)) (As := []) (S0 := [.int 22]) rfl (by decide +kernel) kJ_length (pm_c1 63 rfl rfl) (pm_c1 64 rfl rfl) rfl l_Tokens_31 (Nat.le_of_ble_eq_true rfl) (Nat.le_of_ble_eq_true rfl) (Nat.le_of_ble_eq_true rfl) (Nat.le_of_ble_eq_true rfl) ?_
  refine pm_blk (pc' := 58) (L' := [(5, .int 22), (3, .long 0), (2, .int 5), (0, .ref 5), (1, .ref 3)]) (S' := [.int 43, .int 22]) (M' := cm 10 5741 rf_9 ua_5) [] (by decide +kernel) rfl ?_
  refine pm_ic_ge (off := 54) 112 (by decide +kernel) (by decide) (fun hc => ?_) (fun hc => ?_)
  · exact absurd hc (by decide +kernel)
  refine pm_blk (pc' := 64) (L' := [(5, .int 22), (3, .long 0), (2, .int 5), (0, .ref 5), (1, .ref 3)]) (S' := [.int 10, .int 5]) (M' := cm 10 5741 rf_9 ua_5) [pm_o (.iload_n 2), pm_oi (.bipush 10) 10] (by decide +kernel) rfl ?_
  refine pm_ic_ge (off := 48) 112 (by decide +kernel) (by decide) (fun hc => ?_) (fun hc => ?_)
  · exact absurd hc (by decide +kernel)
  refine pm_ldcx (idx := 29) (fun s h => h.1.2.1) (by decide +kernel) ?_
  refine pm_blk (pc' := 71) (L' := [(5, .int 22), (3, .long 0), (2, .int 5), (0, .ref 5), (1, .ref 3)]) (S' := [.int 22, .retAddr (D.2.1 0)]) (M' := cm 10 5741 rf_9 ua_5) [pm_o (.iload 5)] (by decide +kernel) rfl ?_
  refine pm_cVx (idx := 37) mJ_charAt (i := 0) (by decide) (cJ_char l h0 D (by decide) rfl (by decide +kernel)) (As := [.int 22]) (S0 := []) rfl (by decide +kernel) kJ_charAt (pm_c1 73 rfl rfl) (pm_c1 74 rfl rfl) rfl l_Tokens_37 (Nat.le_of_ble_eq_true rfl) (Nat.le_of_ble_eq_true rfl) (Nat.le_of_ble_eq_true rfl) (Nat.le_of_ble_eq_true rfl) ?_
  refine pm_blk (pc' := 76) (L' := [(5, .int 22), (3, .long 0), (2, .int 5), (0, .ref 5), (1, .ref 3)]) (S' := [.int 32, .int 116]) (M' := cm 10 5741 rf_9 ua_5) [pm_oi (.bipush 32) 32] (by decide +kernel) rfl ?_
  refine pm_ic_ne (off := 18) 94 (by decide +kernel) (by decide) (fun hc => ?_) (fun hc => ?_)
  rotate_left
  · exact absurd hc (by decide +kernel)
  refine pm_blk (pc' := 95) (L' := [(5, .int 22), (3, .long 0), (2, .int 5), (0, .ref 5), (1, .ref 3)]) (S' := [.long 0]) (M' := cm 10 5741 rf_9 ua_5) [pm_o (.lload_n 3)] (by decide +kernel) rfl ?_
  refine pm_ldcx (idx := 29) (fun s h => h.1.2.1) (by decide +kernel) ?_
  refine pm_blk (pc' := 99) (L' := [(5, .int 22), (3, .long 0), (2, .int 5), (0, .ref 5), (1, .ref 3)]) (S' := [.int 22, .retAddr (D.2.1 0), .long 0]) (M' := cm 10 5741 rf_9 ua_5) [pm_o (.iload 5)] (by decide +kernel) rfl ?_
  refine pm_cVx (idx := 37) mJ_charAt (i := 0) (by decide) (cJ_char l h0 D (by decide) rfl (by decide +kernel)) (As := [.int 22]) (S0 := [.long 0]) rfl (by decide +kernel) kJ_charAt (pm_c1 73 rfl rfl) (pm_c1 74 rfl rfl) rfl l_Tokens_37 (Nat.le_of_ble_eq_true rfl) (Nat.le_of_ble_eq_true rfl) (Nat.le_of_ble_eq_true rfl) (Nat.le_of_ble_eq_true rfl) ?_
  refine pm_blk (pc' := 102) (L' := [(5, .int 22), (3, .long 0), (2, .int 5), (0, .ref 5), (1, .ref 3)]) (S' := [.int 116, .long 0]) (M' := cm 10 5741 rf_9 ua_5) [] (by decide +kernel) rfl ?_
  refine pm_cS (idx := 41) m_Tokens_withOctet (cM_Tokens_withOctet l h0 D (g := (0, 0, 0, 0)) (u := ua_0) (a1 := 0) (a2 := 116) (out := 20) (by decide +kernel)) (As := [.long 0, .int 116]) (S0 := []) rfl (by decide +kernel) k_Tokens_withOctet l_Tokens_41 (Nat.le_of_ble_eq_true rfl) (Nat.le_of_ble_eq_true rfl) (Nat.le_of_ble_eq_true rfl) (Nat.le_of_ble_eq_true rfl) ?_
  refine pm_blk (pc' := 109) (L' := [(5, .int 23), (3, .long 20), (2, .int 5), (0, .ref 5), (1, .ref 3)]) (S' := []) (M' := cm 10 5741 rf_9 ua_5) [pm_o (.lstore_n 3), pm_oi (.iinc 5 1) 1] (by decide +kernel) rfl ?_
  refine pm_goto (off := -58) 51 (by decide +kernel) (by decide) ?_
  exact kk
set_option maxHeartbeats 4000000 in
set_option maxRecDepth 100000 in
theorem tk_Tokens_init_23 (l : Launch) (h0 : Nat) (D : pm_D) {p : Program} {e : Env} {R : Room} {s : State} {m : MethodId} {args : Array Value} {below : List Frame} {meth : Method} {c : Code} {Q : State → Prop} (kk : pm_V (p, l, e, R, s, m, args, below, meth, c) m_Tokens_init h0 D (6, 3031, 10, 5741, 4) Q 51 [(5, .int 24), (3, .long 748), (2, .int 5), (0, .ref 5), (1, .ref 3)] [] (cm 10 5741 rf_9 ua_5)) : pm_V (p, l, e, R, s, m, args, below, meth, c) m_Tokens_init h0 D (6, 3031, 10, 5741, 4) Q 51 [(5, .int 23), (3, .long 20), (2, .int 5), (0, .ref 5), (1, .ref 3)] [] (cm 10 5741 rf_9 ua_5) := by
  refine pm_blk (pc' := 53) (L' := [(5, .int 23), (3, .long 20), (2, .int 5), (0, .ref 5), (1, .ref 3)]) (S' := [.int 23]) (M' := cm 10 5741 rf_9 ua_5) [pm_o (.iload 5)] (by decide +kernel) rfl ?_
  refine pm_ldcx (idx := 29) (fun s h => h.1.2.1) (by decide +kernel) ?_
  refine pm_blk (pc' := 55) (L' := [(5, .int 23), (3, .long 20), (2, .int 5), (0, .ref 5), (1, .ref 3)]) (S' := [.retAddr (D.2.1 0), .int 23]) (M' := cm 10 5741 rf_9 ua_5) [] (by decide +kernel) rfl ?_
  refine pm_cVx (idx := 31) mJ_length (i := 0) (by decide) (cJ_length l h0 D (by decide)) (As := []) (S0 := [.int 23]) rfl (by decide +kernel) kJ_length (pm_c1 63 rfl rfl) (pm_c1 64 rfl rfl) rfl l_Tokens_31 (Nat.le_of_ble_eq_true rfl) (Nat.le_of_ble_eq_true rfl) (Nat.le_of_ble_eq_true rfl) (Nat.le_of_ble_eq_true rfl) ?_
  refine pm_blk (pc' := 58) (L' := [(5, .int 23), (3, .long 20), (2, .int 5), (0, .ref 5), (1, .ref 3)]) (S' := [.int 43, .int 23]) (M' := cm 10 5741 rf_9 ua_5) [] (by decide +kernel) rfl ?_
  refine pm_ic_ge (off := 54) 112 (by decide +kernel) (by decide) (fun hc => ?_) (fun hc => ?_)
  · exact absurd hc (by decide +kernel)
  refine pm_blk (pc' := 64) (L' := [(5, .int 23), (3, .long 20), (2, .int 5), (0, .ref 5), (1, .ref 3)]) (S' := [.int 10, .int 5]) (M' := cm 10 5741 rf_9 ua_5) [pm_o (.iload_n 2), pm_oi (.bipush 10) 10] (by decide +kernel) rfl ?_
  refine pm_ic_ge (off := 48) 112 (by decide +kernel) (by decide) (fun hc => ?_) (fun hc => ?_)
  · exact absurd hc (by decide +kernel)
  refine pm_ldcx (idx := 29) (fun s h => h.1.2.1) (by decide +kernel) ?_
  refine pm_blk (pc' := 71) (L' := [(5, .int 23), (3, .long 20), (2, .int 5), (0, .ref 5), (1, .ref 3)]) (S' := [.int 23, .retAddr (D.2.1 0)]) (M' := cm 10 5741 rf_9 ua_5) [pm_o (.iload 5)] (by decide +kernel) rfl ?_
  refine pm_cVx (idx := 37) mJ_charAt (i := 0) (by decide) (cJ_char l h0 D (by decide) rfl (by decide +kernel)) (As := [.int 23]) (S0 := []) rfl (by decide +kernel) kJ_charAt (pm_c1 73 rfl rfl) (pm_c1 74 rfl rfl) rfl l_Tokens_37 (Nat.le_of_ble_eq_true rfl) (Nat.le_of_ble_eq_true rfl) (Nat.le_of_ble_eq_true rfl) (Nat.le_of_ble_eq_true rfl) ?_
  refine pm_blk (pc' := 76) (L' := [(5, .int 23), (3, .long 20), (2, .int 5), (0, .ref 5), (1, .ref 3)]) (S' := [.int 32, .int 104]) (M' := cm 10 5741 rf_9 ua_5) [pm_oi (.bipush 32) 32] (by decide +kernel) rfl ?_
  refine pm_ic_ne (off := 18) 94 (by decide +kernel) (by decide) (fun hc => ?_) (fun hc => ?_)
  rotate_left
  · exact absurd hc (by decide +kernel)
  refine pm_blk (pc' := 95) (L' := [(5, .int 23), (3, .long 20), (2, .int 5), (0, .ref 5), (1, .ref 3)]) (S' := [.long 20]) (M' := cm 10 5741 rf_9 ua_5) [pm_o (.lload_n 3)] (by decide +kernel) rfl ?_
  refine pm_ldcx (idx := 29) (fun s h => h.1.2.1) (by decide +kernel) ?_
  refine pm_blk (pc' := 99) (L' := [(5, .int 23), (3, .long 20), (2, .int 5), (0, .ref 5), (1, .ref 3)]) (S' := [.int 23, .retAddr (D.2.1 0), .long 20]) (M' := cm 10 5741 rf_9 ua_5) [pm_o (.iload 5)] (by decide +kernel) rfl ?_
  refine pm_cVx (idx := 37) mJ_charAt (i := 0) (by decide) (cJ_char l h0 D (by decide) rfl (by decide +kernel)) (As := [.int 23]) (S0 := [.long 20]) rfl (by decide +kernel) kJ_charAt (pm_c1 73 rfl rfl) (pm_c1 74 rfl rfl) rfl l_Tokens_37 (Nat.le_of_ble_eq_true rfl) (Nat.le_of_ble_eq_true rfl) (Nat.le_of_ble_eq_true rfl) (Nat.le_of_ble_eq_true rfl) ?_
  refine pm_blk (pc' := 102) (L' := [(5, .int 23), (3, .long 20), (2, .int 5), (0, .ref 5), (1, .ref 3)]) (S' := [.int 104, .long 20]) (M' := cm 10 5741 rf_9 ua_5) [] (by decide +kernel) rfl ?_
  refine pm_cS (idx := 41) m_Tokens_withOctet (cM_Tokens_withOctet l h0 D (g := (0, 0, 0, 0)) (u := ua_0) (a1 := 20) (a2 := 104) (out := 748) (by decide +kernel)) (As := [.long 20, .int 104]) (S0 := []) rfl (by decide +kernel) k_Tokens_withOctet l_Tokens_41 (Nat.le_of_ble_eq_true rfl) (Nat.le_of_ble_eq_true rfl) (Nat.le_of_ble_eq_true rfl) (Nat.le_of_ble_eq_true rfl) ?_
  refine pm_blk (pc' := 109) (L' := [(5, .int 24), (3, .long 748), (2, .int 5), (0, .ref 5), (1, .ref 3)]) (S' := []) (M' := cm 10 5741 rf_9 ua_5) [pm_o (.lstore_n 3), pm_oi (.iinc 5 1) 1] (by decide +kernel) rfl ?_
  refine pm_goto (off := -58) 51 (by decide +kernel) (by decide) ?_
  exact kk
set_option maxHeartbeats 4000000 in
set_option maxRecDepth 100000 in
theorem tk_Tokens_init_24 (l : Launch) (h0 : Nat) (D : pm_D) {p : Program} {e : Env} {R : Room} {s : State} {m : MethodId} {args : Array Value} {below : List Frame} {meth : Method} {c : Code} {Q : State → Prop} (kk : pm_V (p, l, e, R, s, m, args, below, meth, c) m_Tokens_init h0 D (6, 3031, 10, 5741, 4) Q 51 [(5, .int 25), (3, .long 27681), (2, .int 5), (0, .ref 5), (1, .ref 3)] [] (cm 10 5741 rf_9 ua_5)) : pm_V (p, l, e, R, s, m, args, below, meth, c) m_Tokens_init h0 D (6, 3031, 10, 5741, 4) Q 51 [(5, .int 24), (3, .long 748), (2, .int 5), (0, .ref 5), (1, .ref 3)] [] (cm 10 5741 rf_9 ua_5) := by
  refine pm_blk (pc' := 53) (L' := [(5, .int 24), (3, .long 748), (2, .int 5), (0, .ref 5), (1, .ref 3)]) (S' := [.int 24]) (M' := cm 10 5741 rf_9 ua_5) [pm_o (.iload 5)] (by decide +kernel) rfl ?_
  refine pm_ldcx (idx := 29) (fun s h => h.1.2.1) (by decide +kernel) ?_
  refine pm_blk (pc' := 55) (L' := [(5, .int 24), (3, .long 748), (2, .int 5), (0, .ref 5), (1, .ref 3)]) (S' := [.retAddr (D.2.1 0), .int 24]) (M' := cm 10 5741 rf_9 ua_5) [] (by decide +kernel) rfl ?_
  refine pm_cVx (idx := 31) mJ_length (i := 0) (by decide) (cJ_length l h0 D (by decide)) (As := []) (S0 := [.int 24]) rfl (by decide +kernel) kJ_length (pm_c1 63 rfl rfl) (pm_c1 64 rfl rfl) rfl l_Tokens_31 (Nat.le_of_ble_eq_true rfl) (Nat.le_of_ble_eq_true rfl) (Nat.le_of_ble_eq_true rfl) (Nat.le_of_ble_eq_true rfl) ?_
  refine pm_blk (pc' := 58) (L' := [(5, .int 24), (3, .long 748), (2, .int 5), (0, .ref 5), (1, .ref 3)]) (S' := [.int 43, .int 24]) (M' := cm 10 5741 rf_9 ua_5) [] (by decide +kernel) rfl ?_
  refine pm_ic_ge (off := 54) 112 (by decide +kernel) (by decide) (fun hc => ?_) (fun hc => ?_)
  · exact absurd hc (by decide +kernel)
  refine pm_blk (pc' := 64) (L' := [(5, .int 24), (3, .long 748), (2, .int 5), (0, .ref 5), (1, .ref 3)]) (S' := [.int 10, .int 5]) (M' := cm 10 5741 rf_9 ua_5) [pm_o (.iload_n 2), pm_oi (.bipush 10) 10] (by decide +kernel) rfl ?_
  refine pm_ic_ge (off := 48) 112 (by decide +kernel) (by decide) (fun hc => ?_) (fun hc => ?_)
  · exact absurd hc (by decide +kernel)
  refine pm_ldcx (idx := 29) (fun s h => h.1.2.1) (by decide +kernel) ?_
  refine pm_blk (pc' := 71) (L' := [(5, .int 24), (3, .long 748), (2, .int 5), (0, .ref 5), (1, .ref 3)]) (S' := [.int 24, .retAddr (D.2.1 0)]) (M' := cm 10 5741 rf_9 ua_5) [pm_o (.iload 5)] (by decide +kernel) rfl ?_
  refine pm_cVx (idx := 37) mJ_charAt (i := 0) (by decide) (cJ_char l h0 D (by decide) rfl (by decide +kernel)) (As := [.int 24]) (S0 := []) rfl (by decide +kernel) kJ_charAt (pm_c1 73 rfl rfl) (pm_c1 74 rfl rfl) rfl l_Tokens_37 (Nat.le_of_ble_eq_true rfl) (Nat.le_of_ble_eq_true rfl) (Nat.le_of_ble_eq_true rfl) (Nat.le_of_ble_eq_true rfl) ?_
  refine pm_blk (pc' := 76) (L' := [(5, .int 24), (3, .long 748), (2, .int 5), (0, .ref 5), (1, .ref 3)]) (S' := [.int 32, .int 101]) (M' := cm 10 5741 rf_9 ua_5) [pm_oi (.bipush 32) 32] (by decide +kernel) rfl ?_
  refine pm_ic_ne (off := 18) 94 (by decide +kernel) (by decide) (fun hc => ?_) (fun hc => ?_)
  rotate_left
  · exact absurd hc (by decide +kernel)
  refine pm_blk (pc' := 95) (L' := [(5, .int 24), (3, .long 748), (2, .int 5), (0, .ref 5), (1, .ref 3)]) (S' := [.long 748]) (M' := cm 10 5741 rf_9 ua_5) [pm_o (.lload_n 3)] (by decide +kernel) rfl ?_
  refine pm_ldcx (idx := 29) (fun s h => h.1.2.1) (by decide +kernel) ?_
  refine pm_blk (pc' := 99) (L' := [(5, .int 24), (3, .long 748), (2, .int 5), (0, .ref 5), (1, .ref 3)]) (S' := [.int 24, .retAddr (D.2.1 0), .long 748]) (M' := cm 10 5741 rf_9 ua_5) [pm_o (.iload 5)] (by decide +kernel) rfl ?_
  refine pm_cVx (idx := 37) mJ_charAt (i := 0) (by decide) (cJ_char l h0 D (by decide) rfl (by decide +kernel)) (As := [.int 24]) (S0 := [.long 748]) rfl (by decide +kernel) kJ_charAt (pm_c1 73 rfl rfl) (pm_c1 74 rfl rfl) rfl l_Tokens_37 (Nat.le_of_ble_eq_true rfl) (Nat.le_of_ble_eq_true rfl) (Nat.le_of_ble_eq_true rfl) (Nat.le_of_ble_eq_true rfl) ?_
  refine pm_blk (pc' := 102) (L' := [(5, .int 24), (3, .long 748), (2, .int 5), (0, .ref 5), (1, .ref 3)]) (S' := [.int 101, .long 748]) (M' := cm 10 5741 rf_9 ua_5) [] (by decide +kernel) rfl ?_
  refine pm_cS (idx := 41) m_Tokens_withOctet (cM_Tokens_withOctet l h0 D (g := (0, 0, 0, 0)) (u := ua_0) (a1 := 748) (a2 := 101) (out := 27681) (by decide +kernel)) (As := [.long 748, .int 101]) (S0 := []) rfl (by decide +kernel) k_Tokens_withOctet l_Tokens_41 (Nat.le_of_ble_eq_true rfl) (Nat.le_of_ble_eq_true rfl) (Nat.le_of_ble_eq_true rfl) (Nat.le_of_ble_eq_true rfl) ?_
  refine pm_blk (pc' := 109) (L' := [(5, .int 25), (3, .long 27681), (2, .int 5), (0, .ref 5), (1, .ref 3)]) (S' := []) (M' := cm 10 5741 rf_9 ua_5) [pm_o (.lstore_n 3), pm_oi (.iinc 5 1) 1] (by decide +kernel) rfl ?_
  refine pm_goto (off := -58) 51 (by decide +kernel) (by decide) ?_
  exact kk
set_option maxHeartbeats 4000000 in
set_option maxRecDepth 100000 in
theorem tk_Tokens_init_25 (l : Launch) (h0 : Nat) (D : pm_D) {p : Program} {e : Env} {R : Room} {s : State} {m : MethodId} {args : Array Value} {below : List Frame} {meth : Method} {c : Code} {Q : State → Prop} (kk : pm_V (p, l, e, R, s, m, args, below, meth, c) m_Tokens_init h0 D (6, 3031, 10, 5741, 4) Q 51 [(5, .int 26), (3, .long 1024211), (2, .int 5), (0, .ref 5), (1, .ref 3)] [] (cm 10 5741 rf_9 ua_5)) : pm_V (p, l, e, R, s, m, args, below, meth, c) m_Tokens_init h0 D (6, 3031, 10, 5741, 4) Q 51 [(5, .int 25), (3, .long 27681), (2, .int 5), (0, .ref 5), (1, .ref 3)] [] (cm 10 5741 rf_9 ua_5) := by
  refine pm_blk (pc' := 53) (L' := [(5, .int 25), (3, .long 27681), (2, .int 5), (0, .ref 5), (1, .ref 3)]) (S' := [.int 25]) (M' := cm 10 5741 rf_9 ua_5) [pm_o (.iload 5)] (by decide +kernel) rfl ?_
  refine pm_ldcx (idx := 29) (fun s h => h.1.2.1) (by decide +kernel) ?_
  refine pm_blk (pc' := 55) (L' := [(5, .int 25), (3, .long 27681), (2, .int 5), (0, .ref 5), (1, .ref 3)]) (S' := [.retAddr (D.2.1 0), .int 25]) (M' := cm 10 5741 rf_9 ua_5) [] (by decide +kernel) rfl ?_
  refine pm_cVx (idx := 31) mJ_length (i := 0) (by decide) (cJ_length l h0 D (by decide)) (As := []) (S0 := [.int 25]) rfl (by decide +kernel) kJ_length (pm_c1 63 rfl rfl) (pm_c1 64 rfl rfl) rfl l_Tokens_31 (Nat.le_of_ble_eq_true rfl) (Nat.le_of_ble_eq_true rfl) (Nat.le_of_ble_eq_true rfl) (Nat.le_of_ble_eq_true rfl) ?_
  refine pm_blk (pc' := 58) (L' := [(5, .int 25), (3, .long 27681), (2, .int 5), (0, .ref 5), (1, .ref 3)]) (S' := [.int 43, .int 25]) (M' := cm 10 5741 rf_9 ua_5) [] (by decide +kernel) rfl ?_
  refine pm_ic_ge (off := 54) 112 (by decide +kernel) (by decide) (fun hc => ?_) (fun hc => ?_)
  · exact absurd hc (by decide +kernel)
  refine pm_blk (pc' := 64) (L' := [(5, .int 25), (3, .long 27681), (2, .int 5), (0, .ref 5), (1, .ref 3)]) (S' := [.int 10, .int 5]) (M' := cm 10 5741 rf_9 ua_5) [pm_o (.iload_n 2), pm_oi (.bipush 10) 10] (by decide +kernel) rfl ?_
  refine pm_ic_ge (off := 48) 112 (by decide +kernel) (by decide) (fun hc => ?_) (fun hc => ?_)
  · exact absurd hc (by decide +kernel)
  refine pm_ldcx (idx := 29) (fun s h => h.1.2.1) (by decide +kernel) ?_
  refine pm_blk (pc' := 71) (L' := [(5, .int 25), (3, .long 27681), (2, .int 5), (0, .ref 5), (1, .ref 3)]) (S' := [.int 25, .retAddr (D.2.1 0)]) (M' := cm 10 5741 rf_9 ua_5) [pm_o (.iload 5)] (by decide +kernel) rfl ?_
  refine pm_cVx (idx := 37) mJ_charAt (i := 0) (by decide) (cJ_char l h0 D (by decide) rfl (by decide +kernel)) (As := [.int 25]) (S0 := []) rfl (by decide +kernel) kJ_charAt (pm_c1 73 rfl rfl) (pm_c1 74 rfl rfl) rfl l_Tokens_37 (Nat.le_of_ble_eq_true rfl) (Nat.le_of_ble_eq_true rfl) (Nat.le_of_ble_eq_true rfl) (Nat.le_of_ble_eq_true rfl) ?_
  refine pm_blk (pc' := 76) (L' := [(5, .int 25), (3, .long 27681), (2, .int 5), (0, .ref 5), (1, .ref 3)]) (S' := [.int 32, .int 110]) (M' := cm 10 5741 rf_9 ua_5) [pm_oi (.bipush 32) 32] (by decide +kernel) rfl ?_
  refine pm_ic_ne (off := 18) 94 (by decide +kernel) (by decide) (fun hc => ?_) (fun hc => ?_)
  rotate_left
  · exact absurd hc (by decide +kernel)
  refine pm_blk (pc' := 95) (L' := [(5, .int 25), (3, .long 27681), (2, .int 5), (0, .ref 5), (1, .ref 3)]) (S' := [.long 27681]) (M' := cm 10 5741 rf_9 ua_5) [pm_o (.lload_n 3)] (by decide +kernel) rfl ?_
  refine pm_ldcx (idx := 29) (fun s h => h.1.2.1) (by decide +kernel) ?_
  refine pm_blk (pc' := 99) (L' := [(5, .int 25), (3, .long 27681), (2, .int 5), (0, .ref 5), (1, .ref 3)]) (S' := [.int 25, .retAddr (D.2.1 0), .long 27681]) (M' := cm 10 5741 rf_9 ua_5) [pm_o (.iload 5)] (by decide +kernel) rfl ?_
  refine pm_cVx (idx := 37) mJ_charAt (i := 0) (by decide) (cJ_char l h0 D (by decide) rfl (by decide +kernel)) (As := [.int 25]) (S0 := [.long 27681]) rfl (by decide +kernel) kJ_charAt (pm_c1 73 rfl rfl) (pm_c1 74 rfl rfl) rfl l_Tokens_37 (Nat.le_of_ble_eq_true rfl) (Nat.le_of_ble_eq_true rfl) (Nat.le_of_ble_eq_true rfl) (Nat.le_of_ble_eq_true rfl) ?_
  refine pm_blk (pc' := 102) (L' := [(5, .int 25), (3, .long 27681), (2, .int 5), (0, .ref 5), (1, .ref 3)]) (S' := [.int 110, .long 27681]) (M' := cm 10 5741 rf_9 ua_5) [] (by decide +kernel) rfl ?_
  refine pm_cS (idx := 41) m_Tokens_withOctet (cM_Tokens_withOctet l h0 D (g := (0, 0, 0, 0)) (u := ua_0) (a1 := 27681) (a2 := 110) (out := 1024211) (by decide +kernel)) (As := [.long 27681, .int 110]) (S0 := []) rfl (by decide +kernel) k_Tokens_withOctet l_Tokens_41 (Nat.le_of_ble_eq_true rfl) (Nat.le_of_ble_eq_true rfl) (Nat.le_of_ble_eq_true rfl) (Nat.le_of_ble_eq_true rfl) ?_
  refine pm_blk (pc' := 109) (L' := [(5, .int 26), (3, .long 1024211), (2, .int 5), (0, .ref 5), (1, .ref 3)]) (S' := []) (M' := cm 10 5741 rf_9 ua_5) [pm_o (.lstore_n 3), pm_oi (.iinc 5 1) 1] (by decide +kernel) rfl ?_
  refine pm_goto (off := -58) 51 (by decide +kernel) (by decide) ?_
  exact kk
set_option maxHeartbeats 4000000 in
set_option maxRecDepth 100000 in
theorem tk_Tokens_init_26 (l : Launch) (h0 : Nat) (D : pm_D) {p : Program} {e : Env} {R : Room} {s : State} {m : MethodId} {args : Array Value} {below : List Frame} {meth : Method} {c : Code} {Q : State → Prop} (kk : pm_V (p, l, e, R, s, m, args, below, meth, c) m_Tokens_init h0 D (6, 3031, 10, 5741, 4) Q 51 [(5, .int 27), (3, .long 0), (2, .int 6), (0, .ref 5), (1, .ref 3)] [] (cm 10 5741 rf_9 ua_6)) : pm_V (p, l, e, R, s, m, args, below, meth, c) m_Tokens_init h0 D (6, 3031, 10, 5741, 4) Q 51 [(5, .int 26), (3, .long 1024211), (2, .int 5), (0, .ref 5), (1, .ref 3)] [] (cm 10 5741 rf_9 ua_5) := by
  refine pm_blk (pc' := 53) (L' := [(5, .int 26), (3, .long 1024211), (2, .int 5), (0, .ref 5), (1, .ref 3)]) (S' := [.int 26]) (M' := cm 10 5741 rf_9 ua_5) [pm_o (.iload 5)] (by decide +kernel) rfl ?_
  refine pm_ldcx (idx := 29) (fun s h => h.1.2.1) (by decide +kernel) ?_
  refine pm_blk (pc' := 55) (L' := [(5, .int 26), (3, .long 1024211), (2, .int 5), (0, .ref 5), (1, .ref 3)]) (S' := [.retAddr (D.2.1 0), .int 26]) (M' := cm 10 5741 rf_9 ua_5) [] (by decide +kernel) rfl ?_
  refine pm_cVx (idx := 31) mJ_length (i := 0) (by decide) (cJ_length l h0 D (by decide)) (As := []) (S0 := [.int 26]) rfl (by decide +kernel) kJ_length (pm_c1 63 rfl rfl) (pm_c1 64 rfl rfl) rfl l_Tokens_31 (Nat.le_of_ble_eq_true rfl) (Nat.le_of_ble_eq_true rfl) (Nat.le_of_ble_eq_true rfl) (Nat.le_of_ble_eq_true rfl) ?_
  refine pm_blk (pc' := 58) (L' := [(5, .int 26), (3, .long 1024211), (2, .int 5), (0, .ref 5), (1, .ref 3)]) (S' := [.int 43, .int 26]) (M' := cm 10 5741 rf_9 ua_5) [] (by decide +kernel) rfl ?_
  refine pm_ic_ge (off := 54) 112 (by decide +kernel) (by decide) (fun hc => ?_) (fun hc => ?_)
  · exact absurd hc (by decide +kernel)
  refine pm_blk (pc' := 64) (L' := [(5, .int 26), (3, .long 1024211), (2, .int 5), (0, .ref 5), (1, .ref 3)]) (S' := [.int 10, .int 5]) (M' := cm 10 5741 rf_9 ua_5) [pm_o (.iload_n 2), pm_oi (.bipush 10) 10] (by decide +kernel) rfl ?_
  refine pm_ic_ge (off := 48) 112 (by decide +kernel) (by decide) (fun hc => ?_) (fun hc => ?_)
  · exact absurd hc (by decide +kernel)
  refine pm_ldcx (idx := 29) (fun s h => h.1.2.1) (by decide +kernel) ?_
  refine pm_blk (pc' := 71) (L' := [(5, .int 26), (3, .long 1024211), (2, .int 5), (0, .ref 5), (1, .ref 3)]) (S' := [.int 26, .retAddr (D.2.1 0)]) (M' := cm 10 5741 rf_9 ua_5) [pm_o (.iload 5)] (by decide +kernel) rfl ?_
  refine pm_cVx (idx := 37) mJ_charAt (i := 0) (by decide) (cJ_char l h0 D (by decide) rfl (by decide +kernel)) (As := [.int 26]) (S0 := []) rfl (by decide +kernel) kJ_charAt (pm_c1 73 rfl rfl) (pm_c1 74 rfl rfl) rfl l_Tokens_37 (Nat.le_of_ble_eq_true rfl) (Nat.le_of_ble_eq_true rfl) (Nat.le_of_ble_eq_true rfl) (Nat.le_of_ble_eq_true rfl) ?_
  refine pm_blk (pc' := 76) (L' := [(5, .int 26), (3, .long 1024211), (2, .int 5), (0, .ref 5), (1, .ref 3)]) (S' := [.int 32, .int 32]) (M' := cm 10 5741 rf_9 ua_5) [pm_oi (.bipush 32) 32] (by decide +kernel) rfl ?_
  refine pm_ic_ne (off := 18) 94 (by decide +kernel) (by decide) (fun hc => ?_) (fun hc => ?_)
  · exact absurd hc (by decide +kernel)
  refine pm_blk (pc' := 85) (L' := [(5, .int 26), (3, .long 1024211), (2, .int 5), (0, .ref 5), (1, .ref 3)]) (S' := [.long 1024211, .int 5, .ref 9]) (M' := cm 10 5741 rf_9 ua_5) [pm_o (.aload_n 0), pm_of (.getfield 26) 9 4 2, pm_o (.iload_n 2), pm_o (.lload_n 3)] (by decide +kernel) rfl ?_
  refine pm_last (by decide +kernel) rfl (pm_ok_in (by decide +kernel)) ?_
  refine pm_blk (pc' := 91) (L' := [(3, .long 0), (2, .int 6), (5, .int 26), (0, .ref 5), (1, .ref 3)]) (S' := []) (M' := cm 10 5741 rf_9 ua_6) [pm_oi (.iinc 2 1) 1, pm_ol (.lconst 0) 0, pm_o (.lstore_n 3)] (by decide +kernel) rfl ?_
  refine pm_goto (off := 15) 106 (by decide +kernel) (by decide) ?_
  refine pm_blk (pc' := 109) (L' := [(5, .int 27), (3, .long 0), (2, .int 6), (0, .ref 5), (1, .ref 3)]) (S' := []) (M' := cm 10 5741 rf_9 ua_6) [pm_oi (.iinc 5 1) 1] (by decide +kernel) rfl ?_
  refine pm_goto (off := -58) 51 (by decide +kernel) (by decide) ?_
  exact kk
set_option maxHeartbeats 4000000 in
set_option maxRecDepth 100000 in
theorem tk_Tokens_init_27 (l : Launch) (h0 : Nat) (D : pm_D) {p : Program} {e : Env} {R : Room} {s : State} {m : MethodId} {args : Array Value} {below : List Frame} {meth : Method} {c : Code} {Q : State → Prop} (kk : pm_V (p, l, e, R, s, m, args, below, meth, c) m_Tokens_init h0 D (6, 3031, 10, 5741, 4) Q 51 [(5, .int 28), (3, .long 5), (2, .int 6), (0, .ref 5), (1, .ref 3)] [] (cm 10 5741 rf_9 ua_6)) : pm_V (p, l, e, R, s, m, args, below, meth, c) m_Tokens_init h0 D (6, 3031, 10, 5741, 4) Q 51 [(5, .int 27), (3, .long 0), (2, .int 6), (0, .ref 5), (1, .ref 3)] [] (cm 10 5741 rf_9 ua_6) := by
  refine pm_blk (pc' := 53) (L' := [(5, .int 27), (3, .long 0), (2, .int 6), (0, .ref 5), (1, .ref 3)]) (S' := [.int 27]) (M' := cm 10 5741 rf_9 ua_6) [pm_o (.iload 5)] (by decide +kernel) rfl ?_
  refine pm_ldcx (idx := 29) (fun s h => h.1.2.1) (by decide +kernel) ?_
  refine pm_blk (pc' := 55) (L' := [(5, .int 27), (3, .long 0), (2, .int 6), (0, .ref 5), (1, .ref 3)]) (S' := [.retAddr (D.2.1 0), .int 27]) (M' := cm 10 5741 rf_9 ua_6) [] (by decide +kernel) rfl ?_
  refine pm_cVx (idx := 31) mJ_length (i := 0) (by decide) (cJ_length l h0 D (by decide)) (As := []) (S0 := [.int 27]) rfl (by decide +kernel) kJ_length (pm_c1 63 rfl rfl) (pm_c1 64 rfl rfl) rfl l_Tokens_31 (Nat.le_of_ble_eq_true rfl) (Nat.le_of_ble_eq_true rfl) (Nat.le_of_ble_eq_true rfl) (Nat.le_of_ble_eq_true rfl) ?_
  refine pm_blk (pc' := 58) (L' := [(5, .int 27), (3, .long 0), (2, .int 6), (0, .ref 5), (1, .ref 3)]) (S' := [.int 43, .int 27]) (M' := cm 10 5741 rf_9 ua_6) [] (by decide +kernel) rfl ?_
  refine pm_ic_ge (off := 54) 112 (by decide +kernel) (by decide) (fun hc => ?_) (fun hc => ?_)
  · exact absurd hc (by decide +kernel)
  refine pm_blk (pc' := 64) (L' := [(5, .int 27), (3, .long 0), (2, .int 6), (0, .ref 5), (1, .ref 3)]) (S' := [.int 10, .int 6]) (M' := cm 10 5741 rf_9 ua_6) [pm_o (.iload_n 2), pm_oi (.bipush 10) 10] (by decide +kernel) rfl ?_
  refine pm_ic_ge (off := 48) 112 (by decide +kernel) (by decide) (fun hc => ?_) (fun hc => ?_)
  · exact absurd hc (by decide +kernel)
  refine pm_ldcx (idx := 29) (fun s h => h.1.2.1) (by decide +kernel) ?_
  refine pm_blk (pc' := 71) (L' := [(5, .int 27), (3, .long 0), (2, .int 6), (0, .ref 5), (1, .ref 3)]) (S' := [.int 27, .retAddr (D.2.1 0)]) (M' := cm 10 5741 rf_9 ua_6) [pm_o (.iload 5)] (by decide +kernel) rfl ?_
  refine pm_cVx (idx := 37) mJ_charAt (i := 0) (by decide) (cJ_char l h0 D (by decide) rfl (by decide +kernel)) (As := [.int 27]) (S0 := []) rfl (by decide +kernel) kJ_charAt (pm_c1 73 rfl rfl) (pm_c1 74 rfl rfl) rfl l_Tokens_37 (Nat.le_of_ble_eq_true rfl) (Nat.le_of_ble_eq_true rfl) (Nat.le_of_ble_eq_true rfl) (Nat.le_of_ble_eq_true rfl) ?_
  refine pm_blk (pc' := 76) (L' := [(5, .int 27), (3, .long 0), (2, .int 6), (0, .ref 5), (1, .ref 3)]) (S' := [.int 32, .int 101]) (M' := cm 10 5741 rf_9 ua_6) [pm_oi (.bipush 32) 32] (by decide +kernel) rfl ?_
  refine pm_ic_ne (off := 18) 94 (by decide +kernel) (by decide) (fun hc => ?_) (fun hc => ?_)
  rotate_left
  · exact absurd hc (by decide +kernel)
  refine pm_blk (pc' := 95) (L' := [(5, .int 27), (3, .long 0), (2, .int 6), (0, .ref 5), (1, .ref 3)]) (S' := [.long 0]) (M' := cm 10 5741 rf_9 ua_6) [pm_o (.lload_n 3)] (by decide +kernel) rfl ?_
  refine pm_ldcx (idx := 29) (fun s h => h.1.2.1) (by decide +kernel) ?_
  refine pm_blk (pc' := 99) (L' := [(5, .int 27), (3, .long 0), (2, .int 6), (0, .ref 5), (1, .ref 3)]) (S' := [.int 27, .retAddr (D.2.1 0), .long 0]) (M' := cm 10 5741 rf_9 ua_6) [pm_o (.iload 5)] (by decide +kernel) rfl ?_
  refine pm_cVx (idx := 37) mJ_charAt (i := 0) (by decide) (cJ_char l h0 D (by decide) rfl (by decide +kernel)) (As := [.int 27]) (S0 := [.long 0]) rfl (by decide +kernel) kJ_charAt (pm_c1 73 rfl rfl) (pm_c1 74 rfl rfl) rfl l_Tokens_37 (Nat.le_of_ble_eq_true rfl) (Nat.le_of_ble_eq_true rfl) (Nat.le_of_ble_eq_true rfl) (Nat.le_of_ble_eq_true rfl) ?_
  refine pm_blk (pc' := 102) (L' := [(5, .int 27), (3, .long 0), (2, .int 6), (0, .ref 5), (1, .ref 3)]) (S' := [.int 101, .long 0]) (M' := cm 10 5741 rf_9 ua_6) [] (by decide +kernel) rfl ?_
  refine pm_cS (idx := 41) m_Tokens_withOctet (cM_Tokens_withOctet l h0 D (g := (0, 0, 0, 0)) (u := ua_0) (a1 := 0) (a2 := 101) (out := 5) (by decide +kernel)) (As := [.long 0, .int 101]) (S0 := []) rfl (by decide +kernel) k_Tokens_withOctet l_Tokens_41 (Nat.le_of_ble_eq_true rfl) (Nat.le_of_ble_eq_true rfl) (Nat.le_of_ble_eq_true rfl) (Nat.le_of_ble_eq_true rfl) ?_
  refine pm_blk (pc' := 109) (L' := [(5, .int 28), (3, .long 5), (2, .int 6), (0, .ref 5), (1, .ref 3)]) (S' := []) (M' := cm 10 5741 rf_9 ua_6) [pm_o (.lstore_n 3), pm_oi (.iinc 5 1) 1] (by decide +kernel) rfl ?_
  refine pm_goto (off := -58) 51 (by decide +kernel) (by decide) ?_
  exact kk
set_option maxHeartbeats 4000000 in
set_option maxRecDepth 100000 in
theorem tk_Tokens_init_28 (l : Launch) (h0 : Nat) (D : pm_D) {p : Program} {e : Env} {R : Room} {s : State} {m : MethodId} {args : Array Value} {below : List Frame} {meth : Method} {c : Code} {Q : State → Prop} (kk : pm_V (p, l, e, R, s, m, args, below, meth, c) m_Tokens_init h0 D (6, 3031, 10, 5741, 4) Q 51 [(5, .int 29), (3, .long 197), (2, .int 6), (0, .ref 5), (1, .ref 3)] [] (cm 10 5741 rf_9 ua_6)) : pm_V (p, l, e, R, s, m, args, below, meth, c) m_Tokens_init h0 D (6, 3031, 10, 5741, 4) Q 51 [(5, .int 28), (3, .long 5), (2, .int 6), (0, .ref 5), (1, .ref 3)] [] (cm 10 5741 rf_9 ua_6) := by
  refine pm_blk (pc' := 53) (L' := [(5, .int 28), (3, .long 5), (2, .int 6), (0, .ref 5), (1, .ref 3)]) (S' := [.int 28]) (M' := cm 10 5741 rf_9 ua_6) [pm_o (.iload 5)] (by decide +kernel) rfl ?_
  refine pm_ldcx (idx := 29) (fun s h => h.1.2.1) (by decide +kernel) ?_
  refine pm_blk (pc' := 55) (L' := [(5, .int 28), (3, .long 5), (2, .int 6), (0, .ref 5), (1, .ref 3)]) (S' := [.retAddr (D.2.1 0), .int 28]) (M' := cm 10 5741 rf_9 ua_6) [] (by decide +kernel) rfl ?_
  refine pm_cVx (idx := 31) mJ_length (i := 0) (by decide) (cJ_length l h0 D (by decide)) (As := []) (S0 := [.int 28]) rfl (by decide +kernel) kJ_length (pm_c1 63 rfl rfl) (pm_c1 64 rfl rfl) rfl l_Tokens_31 (Nat.le_of_ble_eq_true rfl) (Nat.le_of_ble_eq_true rfl) (Nat.le_of_ble_eq_true rfl) (Nat.le_of_ble_eq_true rfl) ?_
  refine pm_blk (pc' := 58) (L' := [(5, .int 28), (3, .long 5), (2, .int 6), (0, .ref 5), (1, .ref 3)]) (S' := [.int 43, .int 28]) (M' := cm 10 5741 rf_9 ua_6) [] (by decide +kernel) rfl ?_
  refine pm_ic_ge (off := 54) 112 (by decide +kernel) (by decide) (fun hc => ?_) (fun hc => ?_)
  · exact absurd hc (by decide +kernel)
  refine pm_blk (pc' := 64) (L' := [(5, .int 28), (3, .long 5), (2, .int 6), (0, .ref 5), (1, .ref 3)]) (S' := [.int 10, .int 6]) (M' := cm 10 5741 rf_9 ua_6) [pm_o (.iload_n 2), pm_oi (.bipush 10) 10] (by decide +kernel) rfl ?_
  refine pm_ic_ge (off := 48) 112 (by decide +kernel) (by decide) (fun hc => ?_) (fun hc => ?_)
  · exact absurd hc (by decide +kernel)
  refine pm_ldcx (idx := 29) (fun s h => h.1.2.1) (by decide +kernel) ?_
  refine pm_blk (pc' := 71) (L' := [(5, .int 28), (3, .long 5), (2, .int 6), (0, .ref 5), (1, .ref 3)]) (S' := [.int 28, .retAddr (D.2.1 0)]) (M' := cm 10 5741 rf_9 ua_6) [pm_o (.iload 5)] (by decide +kernel) rfl ?_
  refine pm_cVx (idx := 37) mJ_charAt (i := 0) (by decide) (cJ_char l h0 D (by decide) rfl (by decide +kernel)) (As := [.int 28]) (S0 := []) rfl (by decide +kernel) kJ_charAt (pm_c1 73 rfl rfl) (pm_c1 74 rfl rfl) rfl l_Tokens_37 (Nat.le_of_ble_eq_true rfl) (Nat.le_of_ble_eq_true rfl) (Nat.le_of_ble_eq_true rfl) (Nat.le_of_ble_eq_true rfl) ?_
  refine pm_blk (pc' := 76) (L' := [(5, .int 28), (3, .long 5), (2, .int 6), (0, .ref 5), (1, .ref 3)]) (S' := [.int 32, .int 108]) (M' := cm 10 5741 rf_9 ua_6) [pm_oi (.bipush 32) 32] (by decide +kernel) rfl ?_
  refine pm_ic_ne (off := 18) 94 (by decide +kernel) (by decide) (fun hc => ?_) (fun hc => ?_)
  rotate_left
  · exact absurd hc (by decide +kernel)
  refine pm_blk (pc' := 95) (L' := [(5, .int 28), (3, .long 5), (2, .int 6), (0, .ref 5), (1, .ref 3)]) (S' := [.long 5]) (M' := cm 10 5741 rf_9 ua_6) [pm_o (.lload_n 3)] (by decide +kernel) rfl ?_
  refine pm_ldcx (idx := 29) (fun s h => h.1.2.1) (by decide +kernel) ?_
  refine pm_blk (pc' := 99) (L' := [(5, .int 28), (3, .long 5), (2, .int 6), (0, .ref 5), (1, .ref 3)]) (S' := [.int 28, .retAddr (D.2.1 0), .long 5]) (M' := cm 10 5741 rf_9 ua_6) [pm_o (.iload 5)] (by decide +kernel) rfl ?_
  refine pm_cVx (idx := 37) mJ_charAt (i := 0) (by decide) (cJ_char l h0 D (by decide) rfl (by decide +kernel)) (As := [.int 28]) (S0 := [.long 5]) rfl (by decide +kernel) kJ_charAt (pm_c1 73 rfl rfl) (pm_c1 74 rfl rfl) rfl l_Tokens_37 (Nat.le_of_ble_eq_true rfl) (Nat.le_of_ble_eq_true rfl) (Nat.le_of_ble_eq_true rfl) (Nat.le_of_ble_eq_true rfl) ?_
  refine pm_blk (pc' := 102) (L' := [(5, .int 28), (3, .long 5), (2, .int 6), (0, .ref 5), (1, .ref 3)]) (S' := [.int 108, .long 5]) (M' := cm 10 5741 rf_9 ua_6) [] (by decide +kernel) rfl ?_
  refine pm_cS (idx := 41) m_Tokens_withOctet (cM_Tokens_withOctet l h0 D (g := (0, 0, 0, 0)) (u := ua_0) (a1 := 5) (a2 := 108) (out := 197) (by decide +kernel)) (As := [.long 5, .int 108]) (S0 := []) rfl (by decide +kernel) k_Tokens_withOctet l_Tokens_41 (Nat.le_of_ble_eq_true rfl) (Nat.le_of_ble_eq_true rfl) (Nat.le_of_ble_eq_true rfl) (Nat.le_of_ble_eq_true rfl) ?_
  refine pm_blk (pc' := 109) (L' := [(5, .int 29), (3, .long 197), (2, .int 6), (0, .ref 5), (1, .ref 3)]) (S' := []) (M' := cm 10 5741 rf_9 ua_6) [pm_o (.lstore_n 3), pm_oi (.iinc 5 1) 1] (by decide +kernel) rfl ?_
  refine pm_goto (off := -58) 51 (by decide +kernel) (by decide) ?_
  exact kk
set_option maxHeartbeats 4000000 in
set_option maxRecDepth 100000 in
theorem tk_Tokens_init_29 (l : Launch) (h0 : Nat) (D : pm_D) {p : Program} {e : Env} {R : Room} {s : State} {m : MethodId} {args : Array Value} {below : List Frame} {meth : Method} {c : Code} {Q : State → Prop} (kk : pm_V (p, l, e, R, s, m, args, below, meth, c) m_Tokens_init h0 D (6, 3031, 10, 5741, 4) Q 51 [(5, .int 30), (3, .long 7308), (2, .int 6), (0, .ref 5), (1, .ref 3)] [] (cm 10 5741 rf_9 ua_6)) : pm_V (p, l, e, R, s, m, args, below, meth, c) m_Tokens_init h0 D (6, 3031, 10, 5741, 4) Q 51 [(5, .int 29), (3, .long 197), (2, .int 6), (0, .ref 5), (1, .ref 3)] [] (cm 10 5741 rf_9 ua_6) := by
  refine pm_blk (pc' := 53) (L' := [(5, .int 29), (3, .long 197), (2, .int 6), (0, .ref 5), (1, .ref 3)]) (S' := [.int 29]) (M' := cm 10 5741 rf_9 ua_6) [pm_o (.iload 5)] (by decide +kernel) rfl ?_
  refine pm_ldcx (idx := 29) (fun s h => h.1.2.1) (by decide +kernel) ?_
  refine pm_blk (pc' := 55) (L' := [(5, .int 29), (3, .long 197), (2, .int 6), (0, .ref 5), (1, .ref 3)]) (S' := [.retAddr (D.2.1 0), .int 29]) (M' := cm 10 5741 rf_9 ua_6) [] (by decide +kernel) rfl ?_
  refine pm_cVx (idx := 31) mJ_length (i := 0) (by decide) (cJ_length l h0 D (by decide)) (As := []) (S0 := [.int 29]) rfl (by decide +kernel) kJ_length (pm_c1 63 rfl rfl) (pm_c1 64 rfl rfl) rfl l_Tokens_31 (Nat.le_of_ble_eq_true rfl) (Nat.le_of_ble_eq_true rfl) (Nat.le_of_ble_eq_true rfl) (Nat.le_of_ble_eq_true rfl) ?_
  refine pm_blk (pc' := 58) (L' := [(5, .int 29), (3, .long 197), (2, .int 6), (0, .ref 5), (1, .ref 3)]) (S' := [.int 43, .int 29]) (M' := cm 10 5741 rf_9 ua_6) [] (by decide +kernel) rfl ?_
  refine pm_ic_ge (off := 54) 112 (by decide +kernel) (by decide) (fun hc => ?_) (fun hc => ?_)
  · exact absurd hc (by decide +kernel)
  refine pm_blk (pc' := 64) (L' := [(5, .int 29), (3, .long 197), (2, .int 6), (0, .ref 5), (1, .ref 3)]) (S' := [.int 10, .int 6]) (M' := cm 10 5741 rf_9 ua_6) [pm_o (.iload_n 2), pm_oi (.bipush 10) 10] (by decide +kernel) rfl ?_
  refine pm_ic_ge (off := 48) 112 (by decide +kernel) (by decide) (fun hc => ?_) (fun hc => ?_)
  · exact absurd hc (by decide +kernel)
  refine pm_ldcx (idx := 29) (fun s h => h.1.2.1) (by decide +kernel) ?_
  refine pm_blk (pc' := 71) (L' := [(5, .int 29), (3, .long 197), (2, .int 6), (0, .ref 5), (1, .ref 3)]) (S' := [.int 29, .retAddr (D.2.1 0)]) (M' := cm 10 5741 rf_9 ua_6) [pm_o (.iload 5)] (by decide +kernel) rfl ?_
  refine pm_cVx (idx := 37) mJ_charAt (i := 0) (by decide) (cJ_char l h0 D (by decide) rfl (by decide +kernel)) (As := [.int 29]) (S0 := []) rfl (by decide +kernel) kJ_charAt (pm_c1 73 rfl rfl) (pm_c1 74 rfl rfl) rfl l_Tokens_37 (Nat.le_of_ble_eq_true rfl) (Nat.le_of_ble_eq_true rfl) (Nat.le_of_ble_eq_true rfl) (Nat.le_of_ble_eq_true rfl) ?_
  refine pm_blk (pc' := 76) (L' := [(5, .int 29), (3, .long 197), (2, .int 6), (0, .ref 5), (1, .ref 3)]) (S' := [.int 32, .int 115]) (M' := cm 10 5741 rf_9 ua_6) [pm_oi (.bipush 32) 32] (by decide +kernel) rfl ?_
  refine pm_ic_ne (off := 18) 94 (by decide +kernel) (by decide) (fun hc => ?_) (fun hc => ?_)
  rotate_left
  · exact absurd hc (by decide +kernel)
  refine pm_blk (pc' := 95) (L' := [(5, .int 29), (3, .long 197), (2, .int 6), (0, .ref 5), (1, .ref 3)]) (S' := [.long 197]) (M' := cm 10 5741 rf_9 ua_6) [pm_o (.lload_n 3)] (by decide +kernel) rfl ?_
  refine pm_ldcx (idx := 29) (fun s h => h.1.2.1) (by decide +kernel) ?_
  refine pm_blk (pc' := 99) (L' := [(5, .int 29), (3, .long 197), (2, .int 6), (0, .ref 5), (1, .ref 3)]) (S' := [.int 29, .retAddr (D.2.1 0), .long 197]) (M' := cm 10 5741 rf_9 ua_6) [pm_o (.iload 5)] (by decide +kernel) rfl ?_
  refine pm_cVx (idx := 37) mJ_charAt (i := 0) (by decide) (cJ_char l h0 D (by decide) rfl (by decide +kernel)) (As := [.int 29]) (S0 := [.long 197]) rfl (by decide +kernel) kJ_charAt (pm_c1 73 rfl rfl) (pm_c1 74 rfl rfl) rfl l_Tokens_37 (Nat.le_of_ble_eq_true rfl) (Nat.le_of_ble_eq_true rfl) (Nat.le_of_ble_eq_true rfl) (Nat.le_of_ble_eq_true rfl) ?_
  refine pm_blk (pc' := 102) (L' := [(5, .int 29), (3, .long 197), (2, .int 6), (0, .ref 5), (1, .ref 3)]) (S' := [.int 115, .long 197]) (M' := cm 10 5741 rf_9 ua_6) [] (by decide +kernel) rfl ?_
  refine pm_cS (idx := 41) m_Tokens_withOctet (cM_Tokens_withOctet l h0 D (g := (0, 0, 0, 0)) (u := ua_0) (a1 := 197) (a2 := 115) (out := 7308) (by decide +kernel)) (As := [.long 197, .int 115]) (S0 := []) rfl (by decide +kernel) k_Tokens_withOctet l_Tokens_41 (Nat.le_of_ble_eq_true rfl) (Nat.le_of_ble_eq_true rfl) (Nat.le_of_ble_eq_true rfl) (Nat.le_of_ble_eq_true rfl) ?_
  refine pm_blk (pc' := 109) (L' := [(5, .int 30), (3, .long 7308), (2, .int 6), (0, .ref 5), (1, .ref 3)]) (S' := []) (M' := cm 10 5741 rf_9 ua_6) [pm_o (.lstore_n 3), pm_oi (.iinc 5 1) 1] (by decide +kernel) rfl ?_
  refine pm_goto (off := -58) 51 (by decide +kernel) (by decide) ?_
  exact kk
set_option maxHeartbeats 4000000 in
set_option maxRecDepth 100000 in
theorem tk_Tokens_init_30 (l : Launch) (h0 : Nat) (D : pm_D) {p : Program} {e : Env} {R : Room} {s : State} {m : MethodId} {args : Array Value} {below : List Frame} {meth : Method} {c : Code} {Q : State → Prop} (kk : pm_V (p, l, e, R, s, m, args, below, meth, c) m_Tokens_init h0 D (6, 3031, 10, 5741, 4) Q 51 [(5, .int 31), (3, .long 270401), (2, .int 6), (0, .ref 5), (1, .ref 3)] [] (cm 10 5741 rf_9 ua_6)) : pm_V (p, l, e, R, s, m, args, below, meth, c) m_Tokens_init h0 D (6, 3031, 10, 5741, 4) Q 51 [(5, .int 30), (3, .long 7308), (2, .int 6), (0, .ref 5), (1, .ref 3)] [] (cm 10 5741 rf_9 ua_6) := by
  refine pm_blk (pc' := 53) (L' := [(5, .int 30), (3, .long 7308), (2, .int 6), (0, .ref 5), (1, .ref 3)]) (S' := [.int 30]) (M' := cm 10 5741 rf_9 ua_6) [pm_o (.iload 5)] (by decide +kernel) rfl ?_
  refine pm_ldcx (idx := 29) (fun s h => h.1.2.1) (by decide +kernel) ?_
  refine pm_blk (pc' := 55) (L' := [(5, .int 30), (3, .long 7308), (2, .int 6), (0, .ref 5), (1, .ref 3)]) (S' := [.retAddr (D.2.1 0), .int 30]) (M' := cm 10 5741 rf_9 ua_6) [] (by decide +kernel) rfl ?_
  refine pm_cVx (idx := 31) mJ_length (i := 0) (by decide) (cJ_length l h0 D (by decide)) (As := []) (S0 := [.int 30]) rfl (by decide +kernel) kJ_length (pm_c1 63 rfl rfl) (pm_c1 64 rfl rfl) rfl l_Tokens_31 (Nat.le_of_ble_eq_true rfl) (Nat.le_of_ble_eq_true rfl) (Nat.le_of_ble_eq_true rfl) (Nat.le_of_ble_eq_true rfl) ?_
  refine pm_blk (pc' := 58) (L' := [(5, .int 30), (3, .long 7308), (2, .int 6), (0, .ref 5), (1, .ref 3)]) (S' := [.int 43, .int 30]) (M' := cm 10 5741 rf_9 ua_6) [] (by decide +kernel) rfl ?_
  refine pm_ic_ge (off := 54) 112 (by decide +kernel) (by decide) (fun hc => ?_) (fun hc => ?_)
  · exact absurd hc (by decide +kernel)
  refine pm_blk (pc' := 64) (L' := [(5, .int 30), (3, .long 7308), (2, .int 6), (0, .ref 5), (1, .ref 3)]) (S' := [.int 10, .int 6]) (M' := cm 10 5741 rf_9 ua_6) [pm_o (.iload_n 2), pm_oi (.bipush 10) 10] (by decide +kernel) rfl ?_
  refine pm_ic_ge (off := 48) 112 (by decide +kernel) (by decide) (fun hc => ?_) (fun hc => ?_)
  · exact absurd hc (by decide +kernel)
  refine pm_ldcx (idx := 29) (fun s h => h.1.2.1) (by decide +kernel) ?_
  refine pm_blk (pc' := 71) (L' := [(5, .int 30), (3, .long 7308), (2, .int 6), (0, .ref 5), (1, .ref 3)]) (S' := [.int 30, .retAddr (D.2.1 0)]) (M' := cm 10 5741 rf_9 ua_6) [pm_o (.iload 5)] (by decide +kernel) rfl ?_
  refine pm_cVx (idx := 37) mJ_charAt (i := 0) (by decide) (cJ_char l h0 D (by decide) rfl (by decide +kernel)) (As := [.int 30]) (S0 := []) rfl (by decide +kernel) kJ_charAt (pm_c1 73 rfl rfl) (pm_c1 74 rfl rfl) rfl l_Tokens_37 (Nat.le_of_ble_eq_true rfl) (Nat.le_of_ble_eq_true rfl) (Nat.le_of_ble_eq_true rfl) (Nat.le_of_ble_eq_true rfl) ?_
  refine pm_blk (pc' := 76) (L' := [(5, .int 30), (3, .long 7308), (2, .int 6), (0, .ref 5), (1, .ref 3)]) (S' := [.int 32, .int 101]) (M' := cm 10 5741 rf_9 ua_6) [pm_oi (.bipush 32) 32] (by decide +kernel) rfl ?_
  refine pm_ic_ne (off := 18) 94 (by decide +kernel) (by decide) (fun hc => ?_) (fun hc => ?_)
  rotate_left
  · exact absurd hc (by decide +kernel)
  refine pm_blk (pc' := 95) (L' := [(5, .int 30), (3, .long 7308), (2, .int 6), (0, .ref 5), (1, .ref 3)]) (S' := [.long 7308]) (M' := cm 10 5741 rf_9 ua_6) [pm_o (.lload_n 3)] (by decide +kernel) rfl ?_
  refine pm_ldcx (idx := 29) (fun s h => h.1.2.1) (by decide +kernel) ?_
  refine pm_blk (pc' := 99) (L' := [(5, .int 30), (3, .long 7308), (2, .int 6), (0, .ref 5), (1, .ref 3)]) (S' := [.int 30, .retAddr (D.2.1 0), .long 7308]) (M' := cm 10 5741 rf_9 ua_6) [pm_o (.iload 5)] (by decide +kernel) rfl ?_
  refine pm_cVx (idx := 37) mJ_charAt (i := 0) (by decide) (cJ_char l h0 D (by decide) rfl (by decide +kernel)) (As := [.int 30]) (S0 := [.long 7308]) rfl (by decide +kernel) kJ_charAt (pm_c1 73 rfl rfl) (pm_c1 74 rfl rfl) rfl l_Tokens_37 (Nat.le_of_ble_eq_true rfl) (Nat.le_of_ble_eq_true rfl) (Nat.le_of_ble_eq_true rfl) (Nat.le_of_ble_eq_true rfl) ?_
  refine pm_blk (pc' := 102) (L' := [(5, .int 30), (3, .long 7308), (2, .int 6), (0, .ref 5), (1, .ref 3)]) (S' := [.int 101, .long 7308]) (M' := cm 10 5741 rf_9 ua_6) [] (by decide +kernel) rfl ?_
  refine pm_cS (idx := 41) m_Tokens_withOctet (cM_Tokens_withOctet l h0 D (g := (0, 0, 0, 0)) (u := ua_0) (a1 := 7308) (a2 := 101) (out := 270401) (by decide +kernel)) (As := [.long 7308, .int 101]) (S0 := []) rfl (by decide +kernel) k_Tokens_withOctet l_Tokens_41 (Nat.le_of_ble_eq_true rfl) (Nat.le_of_ble_eq_true rfl) (Nat.le_of_ble_eq_true rfl) (Nat.le_of_ble_eq_true rfl) ?_
  refine pm_blk (pc' := 109) (L' := [(5, .int 31), (3, .long 270401), (2, .int 6), (0, .ref 5), (1, .ref 3)]) (S' := []) (M' := cm 10 5741 rf_9 ua_6) [pm_o (.lstore_n 3), pm_oi (.iinc 5 1) 1] (by decide +kernel) rfl ?_
  refine pm_goto (off := -58) 51 (by decide +kernel) (by decide) ?_
  exact kk
set_option maxHeartbeats 4000000 in
set_option maxRecDepth 100000 in
theorem tk_Tokens_init_31 (l : Launch) (h0 : Nat) (D : pm_D) {p : Program} {e : Env} {R : Room} {s : State} {m : MethodId} {args : Array Value} {below : List Frame} {meth : Method} {c : Code} {Q : State → Prop} (kk : pm_V (p, l, e, R, s, m, args, below, meth, c) m_Tokens_init h0 D (6, 3031, 10, 5741, 4) Q 51 [(5, .int 32), (3, .long 0), (2, .int 7), (0, .ref 5), (1, .ref 3)] [] (cm 10 5741 rf_9 ua_7)) : pm_V (p, l, e, R, s, m, args, below, meth, c) m_Tokens_init h0 D (6, 3031, 10, 5741, 4) Q 51 [(5, .int 31), (3, .long 270401), (2, .int 6), (0, .ref 5), (1, .ref 3)] [] (cm 10 5741 rf_9 ua_6) := by
  refine pm_blk (pc' := 53) (L' := [(5, .int 31), (3, .long 270401), (2, .int 6), (0, .ref 5), (1, .ref 3)]) (S' := [.int 31]) (M' := cm 10 5741 rf_9 ua_6) [pm_o (.iload 5)] (by decide +kernel) rfl ?_
  refine pm_ldcx (idx := 29) (fun s h => h.1.2.1) (by decide +kernel) ?_
  refine pm_blk (pc' := 55) (L' := [(5, .int 31), (3, .long 270401), (2, .int 6), (0, .ref 5), (1, .ref 3)]) (S' := [.retAddr (D.2.1 0), .int 31]) (M' := cm 10 5741 rf_9 ua_6) [] (by decide +kernel) rfl ?_
  refine pm_cVx (idx := 31) mJ_length (i := 0) (by decide) (cJ_length l h0 D (by decide)) (As := []) (S0 := [.int 31]) rfl (by decide +kernel) kJ_length (pm_c1 63 rfl rfl) (pm_c1 64 rfl rfl) rfl l_Tokens_31 (Nat.le_of_ble_eq_true rfl) (Nat.le_of_ble_eq_true rfl) (Nat.le_of_ble_eq_true rfl) (Nat.le_of_ble_eq_true rfl) ?_
  refine pm_blk (pc' := 58) (L' := [(5, .int 31), (3, .long 270401), (2, .int 6), (0, .ref 5), (1, .ref 3)]) (S' := [.int 43, .int 31]) (M' := cm 10 5741 rf_9 ua_6) [] (by decide +kernel) rfl ?_
  refine pm_ic_ge (off := 54) 112 (by decide +kernel) (by decide) (fun hc => ?_) (fun hc => ?_)
  · exact absurd hc (by decide +kernel)
  refine pm_blk (pc' := 64) (L' := [(5, .int 31), (3, .long 270401), (2, .int 6), (0, .ref 5), (1, .ref 3)]) (S' := [.int 10, .int 6]) (M' := cm 10 5741 rf_9 ua_6) [pm_o (.iload_n 2), pm_oi (.bipush 10) 10] (by decide +kernel) rfl ?_
  refine pm_ic_ge (off := 48) 112 (by decide +kernel) (by decide) (fun hc => ?_) (fun hc => ?_)
  · exact absurd hc (by decide +kernel)
  refine pm_ldcx (idx := 29) (fun s h => h.1.2.1) (by decide +kernel) ?_
  refine pm_blk (pc' := 71) (L' := [(5, .int 31), (3, .long 270401), (2, .int 6), (0, .ref 5), (1, .ref 3)]) (S' := [.int 31, .retAddr (D.2.1 0)]) (M' := cm 10 5741 rf_9 ua_6) [pm_o (.iload 5)] (by decide +kernel) rfl ?_
  refine pm_cVx (idx := 37) mJ_charAt (i := 0) (by decide) (cJ_char l h0 D (by decide) rfl (by decide +kernel)) (As := [.int 31]) (S0 := []) rfl (by decide +kernel) kJ_charAt (pm_c1 73 rfl rfl) (pm_c1 74 rfl rfl) rfl l_Tokens_37 (Nat.le_of_ble_eq_true rfl) (Nat.le_of_ble_eq_true rfl) (Nat.le_of_ble_eq_true rfl) (Nat.le_of_ble_eq_true rfl) ?_
  refine pm_blk (pc' := 76) (L' := [(5, .int 31), (3, .long 270401), (2, .int 6), (0, .ref 5), (1, .ref 3)]) (S' := [.int 32, .int 32]) (M' := cm 10 5741 rf_9 ua_6) [pm_oi (.bipush 32) 32] (by decide +kernel) rfl ?_
  refine pm_ic_ne (off := 18) 94 (by decide +kernel) (by decide) (fun hc => ?_) (fun hc => ?_)
  · exact absurd hc (by decide +kernel)
  refine pm_blk (pc' := 85) (L' := [(5, .int 31), (3, .long 270401), (2, .int 6), (0, .ref 5), (1, .ref 3)]) (S' := [.long 270401, .int 6, .ref 9]) (M' := cm 10 5741 rf_9 ua_6) [pm_o (.aload_n 0), pm_of (.getfield 26) 9 4 2, pm_o (.iload_n 2), pm_o (.lload_n 3)] (by decide +kernel) rfl ?_
  refine pm_last (by decide +kernel) rfl (pm_ok_in (by decide +kernel)) ?_
  refine pm_blk (pc' := 91) (L' := [(3, .long 0), (2, .int 7), (5, .int 31), (0, .ref 5), (1, .ref 3)]) (S' := []) (M' := cm 10 5741 rf_9 ua_7) [pm_oi (.iinc 2 1) 1, pm_ol (.lconst 0) 0, pm_o (.lstore_n 3)] (by decide +kernel) rfl ?_
  refine pm_goto (off := 15) 106 (by decide +kernel) (by decide) ?_
  refine pm_blk (pc' := 109) (L' := [(5, .int 32), (3, .long 0), (2, .int 7), (0, .ref 5), (1, .ref 3)]) (S' := []) (M' := cm 10 5741 rf_9 ua_7) [pm_oi (.iinc 5 1) 1] (by decide +kernel) rfl ?_
  refine pm_goto (off := -58) 51 (by decide +kernel) (by decide) ?_
  exact kk
set_option maxHeartbeats 4000000 in
set_option maxRecDepth 100000 in
theorem tk_Tokens_init_32 (l : Launch) (h0 : Nat) (D : pm_D) {p : Program} {e : Env} {R : Room} {s : State} {m : MethodId} {args : Array Value} {below : List Frame} {meth : Method} {c : Code} {Q : State → Prop} (kk : pm_V (p, l, e, R, s, m, args, below, meth, c) m_Tokens_init h0 D (6, 3031, 10, 5741, 4) Q 51 [(5, .int 33), (3, .long 6), (2, .int 7), (0, .ref 5), (1, .ref 3)] [] (cm 10 5741 rf_9 ua_7)) : pm_V (p, l, e, R, s, m, args, below, meth, c) m_Tokens_init h0 D (6, 3031, 10, 5741, 4) Q 51 [(5, .int 32), (3, .long 0), (2, .int 7), (0, .ref 5), (1, .ref 3)] [] (cm 10 5741 rf_9 ua_7) := by
  refine pm_blk (pc' := 53) (L' := [(5, .int 32), (3, .long 0), (2, .int 7), (0, .ref 5), (1, .ref 3)]) (S' := [.int 32]) (M' := cm 10 5741 rf_9 ua_7) [pm_o (.iload 5)] (by decide +kernel) rfl ?_
  refine pm_ldcx (idx := 29) (fun s h => h.1.2.1) (by decide +kernel) ?_
  refine pm_blk (pc' := 55) (L' := [(5, .int 32), (3, .long 0), (2, .int 7), (0, .ref 5), (1, .ref 3)]) (S' := [.retAddr (D.2.1 0), .int 32]) (M' := cm 10 5741 rf_9 ua_7) [] (by decide +kernel) rfl ?_
  refine pm_cVx (idx := 31) mJ_length (i := 0) (by decide) (cJ_length l h0 D (by decide)) (As := []) (S0 := [.int 32]) rfl (by decide +kernel) kJ_length (pm_c1 63 rfl rfl) (pm_c1 64 rfl rfl) rfl l_Tokens_31 (Nat.le_of_ble_eq_true rfl) (Nat.le_of_ble_eq_true rfl) (Nat.le_of_ble_eq_true rfl) (Nat.le_of_ble_eq_true rfl) ?_
  refine pm_blk (pc' := 58) (L' := [(5, .int 32), (3, .long 0), (2, .int 7), (0, .ref 5), (1, .ref 3)]) (S' := [.int 43, .int 32]) (M' := cm 10 5741 rf_9 ua_7) [] (by decide +kernel) rfl ?_
  refine pm_ic_ge (off := 54) 112 (by decide +kernel) (by decide) (fun hc => ?_) (fun hc => ?_)
  · exact absurd hc (by decide +kernel)
  refine pm_blk (pc' := 64) (L' := [(5, .int 32), (3, .long 0), (2, .int 7), (0, .ref 5), (1, .ref 3)]) (S' := [.int 10, .int 7]) (M' := cm 10 5741 rf_9 ua_7) [pm_o (.iload_n 2), pm_oi (.bipush 10) 10] (by decide +kernel) rfl ?_
  refine pm_ic_ge (off := 48) 112 (by decide +kernel) (by decide) (fun hc => ?_) (fun hc => ?_)
  · exact absurd hc (by decide +kernel)
  refine pm_ldcx (idx := 29) (fun s h => h.1.2.1) (by decide +kernel) ?_
  refine pm_blk (pc' := 71) (L' := [(5, .int 32), (3, .long 0), (2, .int 7), (0, .ref 5), (1, .ref 3)]) (S' := [.int 32, .retAddr (D.2.1 0)]) (M' := cm 10 5741 rf_9 ua_7) [pm_o (.iload 5)] (by decide +kernel) rfl ?_
  refine pm_cVx (idx := 37) mJ_charAt (i := 0) (by decide) (cJ_char l h0 D (by decide) rfl (by decide +kernel)) (As := [.int 32]) (S0 := []) rfl (by decide +kernel) kJ_charAt (pm_c1 73 rfl rfl) (pm_c1 74 rfl rfl) rfl l_Tokens_37 (Nat.le_of_ble_eq_true rfl) (Nat.le_of_ble_eq_true rfl) (Nat.le_of_ble_eq_true rfl) (Nat.le_of_ble_eq_true rfl) ?_
  refine pm_blk (pc' := 76) (L' := [(5, .int 32), (3, .long 0), (2, .int 7), (0, .ref 5), (1, .ref 3)]) (S' := [.int 32, .int 102]) (M' := cm 10 5741 rf_9 ua_7) [pm_oi (.bipush 32) 32] (by decide +kernel) rfl ?_
  refine pm_ic_ne (off := 18) 94 (by decide +kernel) (by decide) (fun hc => ?_) (fun hc => ?_)
  rotate_left
  · exact absurd hc (by decide +kernel)
  refine pm_blk (pc' := 95) (L' := [(5, .int 32), (3, .long 0), (2, .int 7), (0, .ref 5), (1, .ref 3)]) (S' := [.long 0]) (M' := cm 10 5741 rf_9 ua_7) [pm_o (.lload_n 3)] (by decide +kernel) rfl ?_
  refine pm_ldcx (idx := 29) (fun s h => h.1.2.1) (by decide +kernel) ?_
  refine pm_blk (pc' := 99) (L' := [(5, .int 32), (3, .long 0), (2, .int 7), (0, .ref 5), (1, .ref 3)]) (S' := [.int 32, .retAddr (D.2.1 0), .long 0]) (M' := cm 10 5741 rf_9 ua_7) [pm_o (.iload 5)] (by decide +kernel) rfl ?_
  refine pm_cVx (idx := 37) mJ_charAt (i := 0) (by decide) (cJ_char l h0 D (by decide) rfl (by decide +kernel)) (As := [.int 32]) (S0 := [.long 0]) rfl (by decide +kernel) kJ_charAt (pm_c1 73 rfl rfl) (pm_c1 74 rfl rfl) rfl l_Tokens_37 (Nat.le_of_ble_eq_true rfl) (Nat.le_of_ble_eq_true rfl) (Nat.le_of_ble_eq_true rfl) (Nat.le_of_ble_eq_true rfl) ?_
  refine pm_blk (pc' := 102) (L' := [(5, .int 32), (3, .long 0), (2, .int 7), (0, .ref 5), (1, .ref 3)]) (S' := [.int 102, .long 0]) (M' := cm 10 5741 rf_9 ua_7) [] (by decide +kernel) rfl ?_
  refine pm_cS (idx := 41) m_Tokens_withOctet (cM_Tokens_withOctet l h0 D (g := (0, 0, 0, 0)) (u := ua_0) (a1 := 0) (a2 := 102) (out := 6) (by decide +kernel)) (As := [.long 0, .int 102]) (S0 := []) rfl (by decide +kernel) k_Tokens_withOctet l_Tokens_41 (Nat.le_of_ble_eq_true rfl) (Nat.le_of_ble_eq_true rfl) (Nat.le_of_ble_eq_true rfl) (Nat.le_of_ble_eq_true rfl) ?_
  refine pm_blk (pc' := 109) (L' := [(5, .int 33), (3, .long 6), (2, .int 7), (0, .ref 5), (1, .ref 3)]) (S' := []) (M' := cm 10 5741 rf_9 ua_7) [pm_o (.lstore_n 3), pm_oi (.iinc 5 1) 1] (by decide +kernel) rfl ?_
  refine pm_goto (off := -58) 51 (by decide +kernel) (by decide) ?_
  exact kk
set_option maxHeartbeats 4000000 in
set_option maxRecDepth 100000 in
theorem tk_Tokens_init_33 (l : Launch) (h0 : Nat) (D : pm_D) {p : Program} {e : Env} {R : Room} {s : State} {m : MethodId} {args : Array Value} {below : List Frame} {meth : Method} {c : Code} {Q : State → Prop} (kk : pm_V (p, l, e, R, s, m, args, below, meth, c) m_Tokens_init h0 D (6, 3031, 10, 5741, 4) Q 51 [(5, .int 34), (3, .long 236), (2, .int 7), (0, .ref 5), (1, .ref 3)] [] (cm 10 5741 rf_9 ua_7)) : pm_V (p, l, e, R, s, m, args, below, meth, c) m_Tokens_init h0 D (6, 3031, 10, 5741, 4) Q 51 [(5, .int 33), (3, .long 6), (2, .int 7), (0, .ref 5), (1, .ref 3)] [] (cm 10 5741 rf_9 ua_7) := by
  refine pm_blk (pc' := 53) (L' := [(5, .int 33), (3, .long 6), (2, .int 7), (0, .ref 5), (1, .ref 3)]) (S' := [.int 33]) (M' := cm 10 5741 rf_9 ua_7) [pm_o (.iload 5)] (by decide +kernel) rfl ?_
  refine pm_ldcx (idx := 29) (fun s h => h.1.2.1) (by decide +kernel) ?_
  refine pm_blk (pc' := 55) (L' := [(5, .int 33), (3, .long 6), (2, .int 7), (0, .ref 5), (1, .ref 3)]) (S' := [.retAddr (D.2.1 0), .int 33]) (M' := cm 10 5741 rf_9 ua_7) [] (by decide +kernel) rfl ?_
  refine pm_cVx (idx := 31) mJ_length (i := 0) (by decide) (cJ_length l h0 D (by decide)) (As := []) (S0 := [.int 33]) rfl (by decide +kernel) kJ_length (pm_c1 63 rfl rfl) (pm_c1 64 rfl rfl) rfl l_Tokens_31 (Nat.le_of_ble_eq_true rfl) (Nat.le_of_ble_eq_true rfl) (Nat.le_of_ble_eq_true rfl) (Nat.le_of_ble_eq_true rfl) ?_
  refine pm_blk (pc' := 58) (L' := [(5, .int 33), (3, .long 6), (2, .int 7), (0, .ref 5), (1, .ref 3)]) (S' := [.int 43, .int 33]) (M' := cm 10 5741 rf_9 ua_7) [] (by decide +kernel) rfl ?_
  refine pm_ic_ge (off := 54) 112 (by decide +kernel) (by decide) (fun hc => ?_) (fun hc => ?_)
  · exact absurd hc (by decide +kernel)
  refine pm_blk (pc' := 64) (L' := [(5, .int 33), (3, .long 6), (2, .int 7), (0, .ref 5), (1, .ref 3)]) (S' := [.int 10, .int 7]) (M' := cm 10 5741 rf_9 ua_7) [pm_o (.iload_n 2), pm_oi (.bipush 10) 10] (by decide +kernel) rfl ?_
  refine pm_ic_ge (off := 48) 112 (by decide +kernel) (by decide) (fun hc => ?_) (fun hc => ?_)
  · exact absurd hc (by decide +kernel)
  refine pm_ldcx (idx := 29) (fun s h => h.1.2.1) (by decide +kernel) ?_
  refine pm_blk (pc' := 71) (L' := [(5, .int 33), (3, .long 6), (2, .int 7), (0, .ref 5), (1, .ref 3)]) (S' := [.int 33, .retAddr (D.2.1 0)]) (M' := cm 10 5741 rf_9 ua_7) [pm_o (.iload 5)] (by decide +kernel) rfl ?_
  refine pm_cVx (idx := 37) mJ_charAt (i := 0) (by decide) (cJ_char l h0 D (by decide) rfl (by decide +kernel)) (As := [.int 33]) (S0 := []) rfl (by decide +kernel) kJ_charAt (pm_c1 73 rfl rfl) (pm_c1 74 rfl rfl) rfl l_Tokens_37 (Nat.le_of_ble_eq_true rfl) (Nat.le_of_ble_eq_true rfl) (Nat.le_of_ble_eq_true rfl) (Nat.le_of_ble_eq_true rfl) ?_
  refine pm_blk (pc' := 76) (L' := [(5, .int 33), (3, .long 6), (2, .int 7), (0, .ref 5), (1, .ref 3)]) (S' := [.int 32, .int 110]) (M' := cm 10 5741 rf_9 ua_7) [pm_oi (.bipush 32) 32] (by decide +kernel) rfl ?_
  refine pm_ic_ne (off := 18) 94 (by decide +kernel) (by decide) (fun hc => ?_) (fun hc => ?_)
  rotate_left
  · exact absurd hc (by decide +kernel)
  refine pm_blk (pc' := 95) (L' := [(5, .int 33), (3, .long 6), (2, .int 7), (0, .ref 5), (1, .ref 3)]) (S' := [.long 6]) (M' := cm 10 5741 rf_9 ua_7) [pm_o (.lload_n 3)] (by decide +kernel) rfl ?_
  refine pm_ldcx (idx := 29) (fun s h => h.1.2.1) (by decide +kernel) ?_
  refine pm_blk (pc' := 99) (L' := [(5, .int 33), (3, .long 6), (2, .int 7), (0, .ref 5), (1, .ref 3)]) (S' := [.int 33, .retAddr (D.2.1 0), .long 6]) (M' := cm 10 5741 rf_9 ua_7) [pm_o (.iload 5)] (by decide +kernel) rfl ?_
  refine pm_cVx (idx := 37) mJ_charAt (i := 0) (by decide) (cJ_char l h0 D (by decide) rfl (by decide +kernel)) (As := [.int 33]) (S0 := [.long 6]) rfl (by decide +kernel) kJ_charAt (pm_c1 73 rfl rfl) (pm_c1 74 rfl rfl) rfl l_Tokens_37 (Nat.le_of_ble_eq_true rfl) (Nat.le_of_ble_eq_true rfl) (Nat.le_of_ble_eq_true rfl) (Nat.le_of_ble_eq_true rfl) ?_
  refine pm_blk (pc' := 102) (L' := [(5, .int 33), (3, .long 6), (2, .int 7), (0, .ref 5), (1, .ref 3)]) (S' := [.int 110, .long 6]) (M' := cm 10 5741 rf_9 ua_7) [] (by decide +kernel) rfl ?_
  refine pm_cS (idx := 41) m_Tokens_withOctet (cM_Tokens_withOctet l h0 D (g := (0, 0, 0, 0)) (u := ua_0) (a1 := 6) (a2 := 110) (out := 236) (by decide +kernel)) (As := [.long 6, .int 110]) (S0 := []) rfl (by decide +kernel) k_Tokens_withOctet l_Tokens_41 (Nat.le_of_ble_eq_true rfl) (Nat.le_of_ble_eq_true rfl) (Nat.le_of_ble_eq_true rfl) (Nat.le_of_ble_eq_true rfl) ?_
  refine pm_blk (pc' := 109) (L' := [(5, .int 34), (3, .long 236), (2, .int 7), (0, .ref 5), (1, .ref 3)]) (S' := []) (M' := cm 10 5741 rf_9 ua_7) [pm_o (.lstore_n 3), pm_oi (.iinc 5 1) 1] (by decide +kernel) rfl ?_
  refine pm_goto (off := -58) 51 (by decide +kernel) (by decide) ?_
  exact kk
set_option maxHeartbeats 4000000 in
set_option maxRecDepth 100000 in
theorem tk_Tokens_init_34 (l : Launch) (h0 : Nat) (D : pm_D) {p : Program} {e : Env} {R : Room} {s : State} {m : MethodId} {args : Array Value} {below : List Frame} {meth : Method} {c : Code} {Q : State → Prop} (kk : pm_V (p, l, e, R, s, m, args, below, meth, c) m_Tokens_init h0 D (6, 3031, 10, 5741, 4) Q 51 [(5, .int 35), (3, .long 0), (2, .int 8), (0, .ref 5), (1, .ref 3)] [] (cm 10 5741 rf_9 ua_8)) : pm_V (p, l, e, R, s, m, args, below, meth, c) m_Tokens_init h0 D (6, 3031, 10, 5741, 4) Q 51 [(5, .int 34), (3, .long 236), (2, .int 7), (0, .ref 5), (1, .ref 3)] [] (cm 10 5741 rf_9 ua_7) := by
  refine pm_blk (pc' := 53) (L' := [(5, .int 34), (3, .long 236), (2, .int 7), (0, .ref 5), (1, .ref 3)]) (S' := [.int 34]) (M' := cm 10 5741 rf_9 ua_7) [pm_o (.iload 5)] (by decide +kernel) rfl ?_
  refine pm_ldcx (idx := 29) (fun s h => h.1.2.1) (by decide +kernel) ?_
  refine pm_blk (pc' := 55) (L' := [(5, .int 34), (3, .long 236), (2, .int 7), (0, .ref 5), (1, .ref 3)]) (S' := [.retAddr (D.2.1 0), .int 34]) (M' := cm 10 5741 rf_9 ua_7) [] (by decide +kernel) rfl ?_
  refine pm_cVx (idx := 31) mJ_length (i := 0) (by decide) (cJ_length l h0 D (by decide)) (As := []) (S0 := [.int 34]) rfl (by decide +kernel) kJ_length (pm_c1 63 rfl rfl) (pm_c1 64 rfl rfl) rfl l_Tokens_31 (Nat.le_of_ble_eq_true rfl) (Nat.le_of_ble_eq_true rfl) (Nat.le_of_ble_eq_true rfl) (Nat.le_of_ble_eq_true rfl) ?_
  refine pm_blk (pc' := 58) (L' := [(5, .int 34), (3, .long 236), (2, .int 7), (0, .ref 5), (1, .ref 3)]) (S' := [.int 43, .int 34]) (M' := cm 10 5741 rf_9 ua_7) [] (by decide +kernel) rfl ?_
  refine pm_ic_ge (off := 54) 112 (by decide +kernel) (by decide) (fun hc => ?_) (fun hc => ?_)
  · exact absurd hc (by decide +kernel)
  refine pm_blk (pc' := 64) (L' := [(5, .int 34), (3, .long 236), (2, .int 7), (0, .ref 5), (1, .ref 3)]) (S' := [.int 10, .int 7]) (M' := cm 10 5741 rf_9 ua_7) [pm_o (.iload_n 2), pm_oi (.bipush 10) 10] (by decide +kernel) rfl ?_
  refine pm_ic_ge (off := 48) 112 (by decide +kernel) (by decide) (fun hc => ?_) (fun hc => ?_)
  · exact absurd hc (by decide +kernel)
  refine pm_ldcx (idx := 29) (fun s h => h.1.2.1) (by decide +kernel) ?_
  refine pm_blk (pc' := 71) (L' := [(5, .int 34), (3, .long 236), (2, .int 7), (0, .ref 5), (1, .ref 3)]) (S' := [.int 34, .retAddr (D.2.1 0)]) (M' := cm 10 5741 rf_9 ua_7) [pm_o (.iload 5)] (by decide +kernel) rfl ?_
  refine pm_cVx (idx := 37) mJ_charAt (i := 0) (by decide) (cJ_char l h0 D (by decide) rfl (by decide +kernel)) (As := [.int 34]) (S0 := []) rfl (by decide +kernel) kJ_charAt (pm_c1 73 rfl rfl) (pm_c1 74 rfl rfl) rfl l_Tokens_37 (Nat.le_of_ble_eq_true rfl) (Nat.le_of_ble_eq_true rfl) (Nat.le_of_ble_eq_true rfl) (Nat.le_of_ble_eq_true rfl) ?_
  refine pm_blk (pc' := 76) (L' := [(5, .int 34), (3, .long 236), (2, .int 7), (0, .ref 5), (1, .ref 3)]) (S' := [.int 32, .int 32]) (M' := cm 10 5741 rf_9 ua_7) [pm_oi (.bipush 32) 32] (by decide +kernel) rfl ?_
  refine pm_ic_ne (off := 18) 94 (by decide +kernel) (by decide) (fun hc => ?_) (fun hc => ?_)
  · exact absurd hc (by decide +kernel)
  refine pm_blk (pc' := 85) (L' := [(5, .int 34), (3, .long 236), (2, .int 7), (0, .ref 5), (1, .ref 3)]) (S' := [.long 236, .int 7, .ref 9]) (M' := cm 10 5741 rf_9 ua_7) [pm_o (.aload_n 0), pm_of (.getfield 26) 9 4 2, pm_o (.iload_n 2), pm_o (.lload_n 3)] (by decide +kernel) rfl ?_
  refine pm_last (by decide +kernel) rfl (pm_ok_in (by decide +kernel)) ?_
  refine pm_blk (pc' := 91) (L' := [(3, .long 0), (2, .int 8), (5, .int 34), (0, .ref 5), (1, .ref 3)]) (S' := []) (M' := cm 10 5741 rf_9 ua_8) [pm_oi (.iinc 2 1) 1, pm_ol (.lconst 0) 0, pm_o (.lstore_n 3)] (by decide +kernel) rfl ?_
  refine pm_goto (off := 15) 106 (by decide +kernel) (by decide) ?_
  refine pm_blk (pc' := 109) (L' := [(5, .int 35), (3, .long 0), (2, .int 8), (0, .ref 5), (1, .ref 3)]) (S' := []) (M' := cm 10 5741 rf_9 ua_8) [pm_oi (.iinc 5 1) 1] (by decide +kernel) rfl ?_
  refine pm_goto (off := -58) 51 (by decide +kernel) (by decide) ?_
  exact kk
set_option maxHeartbeats 4000000 in
set_option maxRecDepth 100000 in
theorem tk_Tokens_init_35 (l : Launch) (h0 : Nat) (D : pm_D) {p : Program} {e : Env} {R : Room} {s : State} {m : MethodId} {args : Array Value} {below : List Frame} {meth : Method} {c : Code} {Q : State → Prop} (kk : pm_V (p, l, e, R, s, m, args, below, meth, c) m_Tokens_init h0 D (6, 3031, 10, 5741, 4) Q 51 [(5, .int 36), (3, .long 6), (2, .int 8), (0, .ref 5), (1, .ref 3)] [] (cm 10 5741 rf_9 ua_8)) : pm_V (p, l, e, R, s, m, args, below, meth, c) m_Tokens_init h0 D (6, 3031, 10, 5741, 4) Q 51 [(5, .int 35), (3, .long 0), (2, .int 8), (0, .ref 5), (1, .ref 3)] [] (cm 10 5741 rf_9 ua_8) := by
  refine pm_blk (pc' := 53) (L' := [(5, .int 35), (3, .long 0), (2, .int 8), (0, .ref 5), (1, .ref 3)]) (S' := [.int 35]) (M' := cm 10 5741 rf_9 ua_8) [pm_o (.iload 5)] (by decide +kernel) rfl ?_
  refine pm_ldcx (idx := 29) (fun s h => h.1.2.1) (by decide +kernel) ?_
  refine pm_blk (pc' := 55) (L' := [(5, .int 35), (3, .long 0), (2, .int 8), (0, .ref 5), (1, .ref 3)]) (S' := [.retAddr (D.2.1 0), .int 35]) (M' := cm 10 5741 rf_9 ua_8) [] (by decide +kernel) rfl ?_
  refine pm_cVx (idx := 31) mJ_length (i := 0) (by decide) (cJ_length l h0 D (by decide)) (As := []) (S0 := [.int 35]) rfl (by decide +kernel) kJ_length (pm_c1 63 rfl rfl) (pm_c1 64 rfl rfl) rfl l_Tokens_31 (Nat.le_of_ble_eq_true rfl) (Nat.le_of_ble_eq_true rfl) (Nat.le_of_ble_eq_true rfl) (Nat.le_of_ble_eq_true rfl) ?_
  refine pm_blk (pc' := 58) (L' := [(5, .int 35), (3, .long 0), (2, .int 8), (0, .ref 5), (1, .ref 3)]) (S' := [.int 43, .int 35]) (M' := cm 10 5741 rf_9 ua_8) [] (by decide +kernel) rfl ?_
  refine pm_ic_ge (off := 54) 112 (by decide +kernel) (by decide) (fun hc => ?_) (fun hc => ?_)
  · exact absurd hc (by decide +kernel)
  refine pm_blk (pc' := 64) (L' := [(5, .int 35), (3, .long 0), (2, .int 8), (0, .ref 5), (1, .ref 3)]) (S' := [.int 10, .int 8]) (M' := cm 10 5741 rf_9 ua_8) [pm_o (.iload_n 2), pm_oi (.bipush 10) 10] (by decide +kernel) rfl ?_
  refine pm_ic_ge (off := 48) 112 (by decide +kernel) (by decide) (fun hc => ?_) (fun hc => ?_)
  · exact absurd hc (by decide +kernel)
  refine pm_ldcx (idx := 29) (fun s h => h.1.2.1) (by decide +kernel) ?_
  refine pm_blk (pc' := 71) (L' := [(5, .int 35), (3, .long 0), (2, .int 8), (0, .ref 5), (1, .ref 3)]) (S' := [.int 35, .retAddr (D.2.1 0)]) (M' := cm 10 5741 rf_9 ua_8) [pm_o (.iload 5)] (by decide +kernel) rfl ?_
  refine pm_cVx (idx := 37) mJ_charAt (i := 0) (by decide) (cJ_char l h0 D (by decide) rfl (by decide +kernel)) (As := [.int 35]) (S0 := []) rfl (by decide +kernel) kJ_charAt (pm_c1 73 rfl rfl) (pm_c1 74 rfl rfl) rfl l_Tokens_37 (Nat.le_of_ble_eq_true rfl) (Nat.le_of_ble_eq_true rfl) (Nat.le_of_ble_eq_true rfl) (Nat.le_of_ble_eq_true rfl) ?_
  refine pm_blk (pc' := 76) (L' := [(5, .int 35), (3, .long 0), (2, .int 8), (0, .ref 5), (1, .ref 3)]) (S' := [.int 32, .int 102]) (M' := cm 10 5741 rf_9 ua_8) [pm_oi (.bipush 32) 32] (by decide +kernel) rfl ?_
  refine pm_ic_ne (off := 18) 94 (by decide +kernel) (by decide) (fun hc => ?_) (fun hc => ?_)
  rotate_left
  · exact absurd hc (by decide +kernel)
  refine pm_blk (pc' := 95) (L' := [(5, .int 35), (3, .long 0), (2, .int 8), (0, .ref 5), (1, .ref 3)]) (S' := [.long 0]) (M' := cm 10 5741 rf_9 ua_8) [pm_o (.lload_n 3)] (by decide +kernel) rfl ?_
  refine pm_ldcx (idx := 29) (fun s h => h.1.2.1) (by decide +kernel) ?_
  refine pm_blk (pc' := 99) (L' := [(5, .int 35), (3, .long 0), (2, .int 8), (0, .ref 5), (1, .ref 3)]) (S' := [.int 35, .retAddr (D.2.1 0), .long 0]) (M' := cm 10 5741 rf_9 ua_8) [pm_o (.iload 5)] (by decide +kernel) rfl ?_
  refine pm_cVx (idx := 37) mJ_charAt (i := 0) (by decide) (cJ_char l h0 D (by decide) rfl (by decide +kernel)) (As := [.int 35]) (S0 := [.long 0]) rfl (by decide +kernel) kJ_charAt (pm_c1 73 rfl rfl) (pm_c1 74 rfl rfl) rfl l_Tokens_37 (Nat.le_of_ble_eq_true rfl) (Nat.le_of_ble_eq_true rfl) (Nat.le_of_ble_eq_true rfl) (Nat.le_of_ble_eq_true rfl) ?_
  refine pm_blk (pc' := 102) (L' := [(5, .int 35), (3, .long 0), (2, .int 8), (0, .ref 5), (1, .ref 3)]) (S' := [.int 102, .long 0]) (M' := cm 10 5741 rf_9 ua_8) [] (by decide +kernel) rfl ?_
  refine pm_cS (idx := 41) m_Tokens_withOctet (cM_Tokens_withOctet l h0 D (g := (0, 0, 0, 0)) (u := ua_0) (a1 := 0) (a2 := 102) (out := 6) (by decide +kernel)) (As := [.long 0, .int 102]) (S0 := []) rfl (by decide +kernel) k_Tokens_withOctet l_Tokens_41 (Nat.le_of_ble_eq_true rfl) (Nat.le_of_ble_eq_true rfl) (Nat.le_of_ble_eq_true rfl) (Nat.le_of_ble_eq_true rfl) ?_
  refine pm_blk (pc' := 109) (L' := [(5, .int 36), (3, .long 6), (2, .int 8), (0, .ref 5), (1, .ref 3)]) (S' := []) (M' := cm 10 5741 rf_9 ua_8) [pm_o (.lstore_n 3), pm_oi (.iinc 5 1) 1] (by decide +kernel) rfl ?_
  refine pm_goto (off := -58) 51 (by decide +kernel) (by decide) ?_
  exact kk
set_option maxHeartbeats 4000000 in
set_option maxRecDepth 100000 in
theorem tk_Tokens_init_36 (l : Launch) (h0 : Nat) (D : pm_D) {p : Program} {e : Env} {R : Room} {s : State} {m : MethodId} {args : Array Value} {below : List Frame} {meth : Method} {c : Code} {Q : State → Prop} (kk : pm_V (p, l, e, R, s, m, args, below, meth, c) m_Tokens_init h0 D (6, 3031, 10, 5741, 4) Q 51 [(5, .int 37), (3, .long 241), (2, .int 8), (0, .ref 5), (1, .ref 3)] [] (cm 10 5741 rf_9 ua_8)) : pm_V (p, l, e, R, s, m, args, below, meth, c) m_Tokens_init h0 D (6, 3031, 10, 5741, 4) Q 51 [(5, .int 36), (3, .long 6), (2, .int 8), (0, .ref 5), (1, .ref 3)] [] (cm 10 5741 rf_9 ua_8) := by
  refine pm_blk (pc' := 53) (L' := [(5, .int 36), (3, .long 6), (2, .int 8), (0, .ref 5), (1, .ref 3)]) (S' := [.int 36]) (M' := cm 10 5741 rf_9 ua_8) [pm_o (.iload 5)] (by decide +kernel) rfl ?_
  refine pm_ldcx (idx := 29) (fun s h => h.1.2.1) (by decide +kernel) ?_
  refine pm_blk (pc' := 55) (L' := [(5, .int 36), (3, .long 6), (2, .int 8), (0, .ref 5), (1, .ref 3)]) (S' := [.retAddr (D.2.1 0), .int 36]) (M' := cm 10 5741 rf_9 ua_8) [] (by decide +kernel) rfl ?_
  refine pm_cVx (idx := 31) mJ_length (i := 0) (by decide) (cJ_length l h0 D (by decide)) (As := []) (S0 := [.int 36]) rfl (by decide +kernel) kJ_length (pm_c1 63 rfl rfl) (pm_c1 64 rfl rfl) rfl l_Tokens_31 (Nat.le_of_ble_eq_true rfl) (Nat.le_of_ble_eq_true rfl) (Nat.le_of_ble_eq_true rfl) (Nat.le_of_ble_eq_true rfl) ?_
  refine pm_blk (pc' := 58) (L' := [(5, .int 36), (3, .long 6), (2, .int 8), (0, .ref 5), (1, .ref 3)]) (S' := [.int 43, .int 36]) (M' := cm 10 5741 rf_9 ua_8) [] (by decide +kernel) rfl ?_
  refine pm_ic_ge (off := 54) 112 (by decide +kernel) (by decide) (fun hc => ?_) (fun hc => ?_)
  · exact absurd hc (by decide +kernel)
  refine pm_blk (pc' := 64) (L' := [(5, .int 36), (3, .long 6), (2, .int 8), (0, .ref 5), (1, .ref 3)]) (S' := [.int 10, .int 8]) (M' := cm 10 5741 rf_9 ua_8) [pm_o (.iload_n 2), pm_oi (.bipush 10) 10] (by decide +kernel) rfl ?_
  refine pm_ic_ge (off := 48) 112 (by decide +kernel) (by decide) (fun hc => ?_) (fun hc => ?_)
  · exact absurd hc (by decide +kernel)
  refine pm_ldcx (idx := 29) (fun s h => h.1.2.1) (by decide +kernel) ?_
  refine pm_blk (pc' := 71) (L' := [(5, .int 36), (3, .long 6), (2, .int 8), (0, .ref 5), (1, .ref 3)]) (S' := [.int 36, .retAddr (D.2.1 0)]) (M' := cm 10 5741 rf_9 ua_8) [pm_o (.iload 5)] (by decide +kernel) rfl ?_
  refine pm_cVx (idx := 37) mJ_charAt (i := 0) (by decide) (cJ_char l h0 D (by decide) rfl (by decide +kernel)) (As := [.int 36]) (S0 := []) rfl (by decide +kernel) kJ_charAt (pm_c1 73 rfl rfl) (pm_c1 74 rfl rfl) rfl l_Tokens_37 (Nat.le_of_ble_eq_true rfl) (Nat.le_of_ble_eq_true rfl) (Nat.le_of_ble_eq_true rfl) (Nat.le_of_ble_eq_true rfl) ?_
  refine pm_blk (pc' := 76) (L' := [(5, .int 36), (3, .long 6), (2, .int 8), (0, .ref 5), (1, .ref 3)]) (S' := [.int 32, .int 115]) (M' := cm 10 5741 rf_9 ua_8) [pm_oi (.bipush 32) 32] (by decide +kernel) rfl ?_
  refine pm_ic_ne (off := 18) 94 (by decide +kernel) (by decide) (fun hc => ?_) (fun hc => ?_)
  rotate_left
  · exact absurd hc (by decide +kernel)
  refine pm_blk (pc' := 95) (L' := [(5, .int 36), (3, .long 6), (2, .int 8), (0, .ref 5), (1, .ref 3)]) (S' := [.long 6]) (M' := cm 10 5741 rf_9 ua_8) [pm_o (.lload_n 3)] (by decide +kernel) rfl ?_
  refine pm_ldcx (idx := 29) (fun s h => h.1.2.1) (by decide +kernel) ?_
  refine pm_blk (pc' := 99) (L' := [(5, .int 36), (3, .long 6), (2, .int 8), (0, .ref 5), (1, .ref 3)]) (S' := [.int 36, .retAddr (D.2.1 0), .long 6]) (M' := cm 10 5741 rf_9 ua_8) [pm_o (.iload 5)] (by decide +kernel) rfl ?_
  refine pm_cVx (idx := 37) mJ_charAt (i := 0) (by decide) (cJ_char l h0 D (by decide) rfl (by decide +kernel)) (As := [.int 36]) (S0 := [.long 6]) rfl (by decide +kernel) kJ_charAt (pm_c1 73 rfl rfl) (pm_c1 74 rfl rfl) rfl l_Tokens_37 (Nat.le_of_ble_eq_true rfl) (Nat.le_of_ble_eq_true rfl) (Nat.le_of_ble_eq_true rfl) (Nat.le_of_ble_eq_true rfl) ?_
  refine pm_blk (pc' := 102) (L' := [(5, .int 36), (3, .long 6), (2, .int 8), (0, .ref 5), (1, .ref 3)]) (S' := [.int 115, .long 6]) (M' := cm 10 5741 rf_9 ua_8) [] (by decide +kernel) rfl ?_
  refine pm_cS (idx := 41) m_Tokens_withOctet (cM_Tokens_withOctet l h0 D (g := (0, 0, 0, 0)) (u := ua_0) (a1 := 6) (a2 := 115) (out := 241) (by decide +kernel)) (As := [.long 6, .int 115]) (S0 := []) rfl (by decide +kernel) k_Tokens_withOctet l_Tokens_41 (Nat.le_of_ble_eq_true rfl) (Nat.le_of_ble_eq_true rfl) (Nat.le_of_ble_eq_true rfl) (Nat.le_of_ble_eq_true rfl) ?_
  refine pm_blk (pc' := 109) (L' := [(5, .int 37), (3, .long 241), (2, .int 8), (0, .ref 5), (1, .ref 3)]) (S' := []) (M' := cm 10 5741 rf_9 ua_8) [pm_o (.lstore_n 3), pm_oi (.iinc 5 1) 1] (by decide +kernel) rfl ?_
  refine pm_goto (off := -58) 51 (by decide +kernel) (by decide) ?_
  exact kk
set_option maxHeartbeats 4000000 in
set_option maxRecDepth 100000 in
theorem tk_Tokens_init_37 (l : Launch) (h0 : Nat) (D : pm_D) {p : Program} {e : Env} {R : Room} {s : State} {m : MethodId} {args : Array Value} {below : List Frame} {meth : Method} {c : Code} {Q : State → Prop} (kk : pm_V (p, l, e, R, s, m, args, below, meth, c) m_Tokens_init h0 D (6, 3031, 10, 5741, 4) Q 51 [(5, .int 38), (3, .long 8937), (2, .int 8), (0, .ref 5), (1, .ref 3)] [] (cm 10 5741 rf_9 ua_8)) : pm_V (p, l, e, R, s, m, args, below, meth, c) m_Tokens_init h0 D (6, 3031, 10, 5741, 4) Q 51 [(5, .int 37), (3, .long 241), (2, .int 8), (0, .ref 5), (1, .ref 3)] [] (cm 10 5741 rf_9 ua_8) := by
  refine pm_blk (pc' := 53) (L' := [(5, .int 37), (3, .long 241), (2, .int 8), (0, .ref 5), (1, .ref 3)]) (S' := [.int 37]) (M' := cm 10 5741 rf_9 ua_8) [pm_o (.iload 5)] (by decide +kernel) rfl ?_
  refine pm_ldcx (idx := 29) (fun s h => h.1.2.1) (by decide +kernel) ?_
  refine pm_blk (pc' := 55) (L' := [(5, .int 37), (3, .long 241), (2, .int 8), (0, .ref 5), (1, .ref 3)]) (S' := [.retAddr (D.2.1 0), .int 37]) (M' := cm 10 5741 rf_9 ua_8) [] (by decide +kernel) rfl ?_
  refine pm_cVx (idx := 31) mJ_length (i := 0) (by decide) (cJ_length l h0 D (by decide)) (As := []) (S0 := [.int 37]) rfl (by decide +kernel) kJ_length (pm_c1 63 rfl rfl) (pm_c1 64 rfl rfl) rfl l_Tokens_31 (Nat.le_of_ble_eq_true rfl) (Nat.le_of_ble_eq_true rfl) (Nat.le_of_ble_eq_true rfl) (Nat.le_of_ble_eq_true rfl) ?_
  refine pm_blk (pc' := 58) (L' := [(5, .int 37), (3, .long 241), (2, .int 8), (0, .ref 5), (1, .ref 3)]) (S' := [.int 43, .int 37]) (M' := cm 10 5741 rf_9 ua_8) [] (by decide +kernel) rfl ?_
  refine pm_ic_ge (off := 54) 112 (by decide +kernel) (by decide) (fun hc => ?_) (fun hc => ?_)
  · exact absurd hc (by decide +kernel)
  refine pm_blk (pc' := 64) (L' := [(5, .int 37), (3, .long 241), (2, .int 8), (0, .ref 5), (1, .ref 3)]) (S' := [.int 10, .int 8]) (M' := cm 10 5741 rf_9 ua_8) [pm_o (.iload_n 2), pm_oi (.bipush 10) 10] (by decide +kernel) rfl ?_
  refine pm_ic_ge (off := 48) 112 (by decide +kernel) (by decide) (fun hc => ?_) (fun hc => ?_)
  · exact absurd hc (by decide +kernel)
  refine pm_ldcx (idx := 29) (fun s h => h.1.2.1) (by decide +kernel) ?_
  refine pm_blk (pc' := 71) (L' := [(5, .int 37), (3, .long 241), (2, .int 8), (0, .ref 5), (1, .ref 3)]) (S' := [.int 37, .retAddr (D.2.1 0)]) (M' := cm 10 5741 rf_9 ua_8) [pm_o (.iload 5)] (by decide +kernel) rfl ?_
  refine pm_cVx (idx := 37) mJ_charAt (i := 0) (by decide) (cJ_char l h0 D (by decide) rfl (by decide +kernel)) (As := [.int 37]) (S0 := []) rfl (by decide +kernel) kJ_charAt (pm_c1 73 rfl rfl) (pm_c1 74 rfl rfl) rfl l_Tokens_37 (Nat.le_of_ble_eq_true rfl) (Nat.le_of_ble_eq_true rfl) (Nat.le_of_ble_eq_true rfl) (Nat.le_of_ble_eq_true rfl) ?_
  refine pm_blk (pc' := 76) (L' := [(5, .int 37), (3, .long 241), (2, .int 8), (0, .ref 5), (1, .ref 3)]) (S' := [.int 32, .int 116]) (M' := cm 10 5741 rf_9 ua_8) [pm_oi (.bipush 32) 32] (by decide +kernel) rfl ?_
  refine pm_ic_ne (off := 18) 94 (by decide +kernel) (by decide) (fun hc => ?_) (fun hc => ?_)
  rotate_left
  · exact absurd hc (by decide +kernel)
  refine pm_blk (pc' := 95) (L' := [(5, .int 37), (3, .long 241), (2, .int 8), (0, .ref 5), (1, .ref 3)]) (S' := [.long 241]) (M' := cm 10 5741 rf_9 ua_8) [pm_o (.lload_n 3)] (by decide +kernel) rfl ?_
  refine pm_ldcx (idx := 29) (fun s h => h.1.2.1) (by decide +kernel) ?_
  refine pm_blk (pc' := 99) (L' := [(5, .int 37), (3, .long 241), (2, .int 8), (0, .ref 5), (1, .ref 3)]) (S' := [.int 37, .retAddr (D.2.1 0), .long 241]) (M' := cm 10 5741 rf_9 ua_8) [pm_o (.iload 5)] (by decide +kernel) rfl ?_
  refine pm_cVx (idx := 37) mJ_charAt (i := 0) (by decide) (cJ_char l h0 D (by decide) rfl (by decide +kernel)) (As := [.int 37]) (S0 := [.long 241]) rfl (by decide +kernel) kJ_charAt (pm_c1 73 rfl rfl) (pm_c1 74 rfl rfl) rfl l_Tokens_37 (Nat.le_of_ble_eq_true rfl) (Nat.le_of_ble_eq_true rfl) (Nat.le_of_ble_eq_true rfl) (Nat.le_of_ble_eq_true rfl) ?_
  refine pm_blk (pc' := 102) (L' := [(5, .int 37), (3, .long 241), (2, .int 8), (0, .ref 5), (1, .ref 3)]) (S' := [.int 116, .long 241]) (M' := cm 10 5741 rf_9 ua_8) [] (by decide +kernel) rfl ?_
  refine pm_cS (idx := 41) m_Tokens_withOctet (cM_Tokens_withOctet l h0 D (g := (0, 0, 0, 0)) (u := ua_0) (a1 := 241) (a2 := 116) (out := 8937) (by decide +kernel)) (As := [.long 241, .int 116]) (S0 := []) rfl (by decide +kernel) k_Tokens_withOctet l_Tokens_41 (Nat.le_of_ble_eq_true rfl) (Nat.le_of_ble_eq_true rfl) (Nat.le_of_ble_eq_true rfl) (Nat.le_of_ble_eq_true rfl) ?_
  refine pm_blk (pc' := 109) (L' := [(5, .int 38), (3, .long 8937), (2, .int 8), (0, .ref 5), (1, .ref 3)]) (S' := []) (M' := cm 10 5741 rf_9 ua_8) [pm_o (.lstore_n 3), pm_oi (.iinc 5 1) 1] (by decide +kernel) rfl ?_
  refine pm_goto (off := -58) 51 (by decide +kernel) (by decide) ?_
  exact kk
set_option maxHeartbeats 4000000 in
set_option maxRecDepth 100000 in
theorem tk_Tokens_init_38 (l : Launch) (h0 : Nat) (D : pm_D) {p : Program} {e : Env} {R : Room} {s : State} {m : MethodId} {args : Array Value} {below : List Frame} {meth : Method} {c : Code} {Q : State → Prop} (kk : pm_V (p, l, e, R, s, m, args, below, meth, c) m_Tokens_init h0 D (6, 3031, 10, 5741, 4) Q 51 [(5, .int 39), (3, .long 0), (2, .int 9), (0, .ref 5), (1, .ref 3)] [] (cm 10 5741 rf_9 ua_9)) : pm_V (p, l, e, R, s, m, args, below, meth, c) m_Tokens_init h0 D (6, 3031, 10, 5741, 4) Q 51 [(5, .int 38), (3, .long 8937), (2, .int 8), (0, .ref 5), (1, .ref 3)] [] (cm 10 5741 rf_9 ua_8) := by
  refine pm_blk (pc' := 53) (L' := [(5, .int 38), (3, .long 8937), (2, .int 8), (0, .ref 5), (1, .ref 3)]) (S' := [.int 38]) (M' := cm 10 5741 rf_9 ua_8) [pm_o (.iload 5)] (by decide +kernel) rfl ?_
  refine pm_ldcx (idx := 29) (fun s h => h.1.2.1) (by decide +kernel) ?_
  refine pm_blk (pc' := 55) (L' := [(5, .int 38), (3, .long 8937), (2, .int 8), (0, .ref 5), (1, .ref 3)]) (S' := [.retAddr (D.2.1 0), .int 38]) (M' := cm 10 5741 rf_9 ua_8) [] (by decide +kernel) rfl ?_
  refine pm_cVx (idx := 31) mJ_length (i := 0) (by decide) (cJ_length l h0 D (by decide)) (As := []) (S0 := [.int 38]) rfl (by decide +kernel) kJ_length (pm_c1 63 rfl rfl) (pm_c1 64 rfl rfl) rfl l_Tokens_31 (Nat.le_of_ble_eq_true rfl) (Nat.le_of_ble_eq_true rfl) (Nat.le_of_ble_eq_true rfl) (Nat.le_of_ble_eq_true rfl) ?_
  refine pm_blk (pc' := 58) (L' := [(5, .int 38), (3, .long 8937), (2, .int 8), (0, .ref 5), (1, .ref 3)]) (S' := [.int 43, .int 38]) (M' := cm 10 5741 rf_9 ua_8) [] (by decide +kernel) rfl ?_
  refine pm_ic_ge (off := 54) 112 (by decide +kernel) (by decide) (fun hc => ?_) (fun hc => ?_)
  · exact absurd hc (by decide +kernel)
  refine pm_blk (pc' := 64) (L' := [(5, .int 38), (3, .long 8937), (2, .int 8), (0, .ref 5), (1, .ref 3)]) (S' := [.int 10, .int 8]) (M' := cm 10 5741 rf_9 ua_8) [pm_o (.iload_n 2), pm_oi (.bipush 10) 10] (by decide +kernel) rfl ?_
  refine pm_ic_ge (off := 48) 112 (by decide +kernel) (by decide) (fun hc => ?_) (fun hc => ?_)
  · exact absurd hc (by decide +kernel)
  refine pm_ldcx (idx := 29) (fun s h => h.1.2.1) (by decide +kernel) ?_
  refine pm_blk (pc' := 71) (L' := [(5, .int 38), (3, .long 8937), (2, .int 8), (0, .ref 5), (1, .ref 3)]) (S' := [.int 38, .retAddr (D.2.1 0)]) (M' := cm 10 5741 rf_9 ua_8) [pm_o (.iload 5)] (by decide +kernel) rfl ?_
  refine pm_cVx (idx := 37) mJ_charAt (i := 0) (by decide) (cJ_char l h0 D (by decide) rfl (by decide +kernel)) (As := [.int 38]) (S0 := []) rfl (by decide +kernel) kJ_charAt (pm_c1 73 rfl rfl) (pm_c1 74 rfl rfl) rfl l_Tokens_37 (Nat.le_of_ble_eq_true rfl) (Nat.le_of_ble_eq_true rfl) (Nat.le_of_ble_eq_true rfl) (Nat.le_of_ble_eq_true rfl) ?_
  refine pm_blk (pc' := 76) (L' := [(5, .int 38), (3, .long 8937), (2, .int 8), (0, .ref 5), (1, .ref 3)]) (S' := [.int 32, .int 32]) (M' := cm 10 5741 rf_9 ua_8) [pm_oi (.bipush 32) 32] (by decide +kernel) rfl ?_
  refine pm_ic_ne (off := 18) 94 (by decide +kernel) (by decide) (fun hc => ?_) (fun hc => ?_)
  · exact absurd hc (by decide +kernel)
  refine pm_blk (pc' := 85) (L' := [(5, .int 38), (3, .long 8937), (2, .int 8), (0, .ref 5), (1, .ref 3)]) (S' := [.long 8937, .int 8, .ref 9]) (M' := cm 10 5741 rf_9 ua_8) [pm_o (.aload_n 0), pm_of (.getfield 26) 9 4 2, pm_o (.iload_n 2), pm_o (.lload_n 3)] (by decide +kernel) rfl ?_
  refine pm_last (by decide +kernel) rfl (pm_ok_in (by decide +kernel)) ?_
  refine pm_blk (pc' := 91) (L' := [(3, .long 0), (2, .int 9), (5, .int 38), (0, .ref 5), (1, .ref 3)]) (S' := []) (M' := cm 10 5741 rf_9 ua_9) [pm_oi (.iinc 2 1) 1, pm_ol (.lconst 0) 0, pm_o (.lstore_n 3)] (by decide +kernel) rfl ?_
  refine pm_goto (off := 15) 106 (by decide +kernel) (by decide) ?_
  refine pm_blk (pc' := 109) (L' := [(5, .int 39), (3, .long 0), (2, .int 9), (0, .ref 5), (1, .ref 3)]) (S' := []) (M' := cm 10 5741 rf_9 ua_9) [pm_oi (.iinc 5 1) 1] (by decide +kernel) rfl ?_
  refine pm_goto (off := -58) 51 (by decide +kernel) (by decide) ?_
  exact kk
set_option maxHeartbeats 4000000 in
set_option maxRecDepth 100000 in
theorem tk_Tokens_init_39 (l : Launch) (h0 : Nat) (D : pm_D) {p : Program} {e : Env} {R : Room} {s : State} {m : MethodId} {args : Array Value} {below : List Frame} {meth : Method} {c : Code} {Q : State → Prop} (kk : pm_V (p, l, e, R, s, m, args, below, meth, c) m_Tokens_init h0 D (6, 3031, 10, 5741, 4) Q 51 [(5, .int 40), (3, .long 19), (2, .int 9), (0, .ref 5), (1, .ref 3)] [] (cm 10 5741 rf_9 ua_9)) : pm_V (p, l, e, R, s, m, args, below, meth, c) m_Tokens_init h0 D (6, 3031, 10, 5741, 4) Q 51 [(5, .int 39), (3, .long 0), (2, .int 9), (0, .ref 5), (1, .ref 3)] [] (cm 10 5741 rf_9 ua_9) := by
  refine pm_blk (pc' := 53) (L' := [(5, .int 39), (3, .long 0), (2, .int 9), (0, .ref 5), (1, .ref 3)]) (S' := [.int 39]) (M' := cm 10 5741 rf_9 ua_9) [pm_o (.iload 5)] (by decide +kernel) rfl ?_
  refine pm_ldcx (idx := 29) (fun s h => h.1.2.1) (by decide +kernel) ?_
  refine pm_blk (pc' := 55) (L' := [(5, .int 39), (3, .long 0), (2, .int 9), (0, .ref 5), (1, .ref 3)]) (S' := [.retAddr (D.2.1 0), .int 39]) (M' := cm 10 5741 rf_9 ua_9) [] (by decide +kernel) rfl ?_
  refine pm_cVx (idx := 31) mJ_length (i := 0) (by decide) (cJ_length l h0 D (by decide)) (As := []) (S0 := [.int 39]) rfl (by decide +kernel) kJ_length (pm_c1 63 rfl rfl) (pm_c1 64 rfl rfl) rfl l_Tokens_31 (Nat.le_of_ble_eq_true rfl) (Nat.le_of_ble_eq_true rfl) (Nat.le_of_ble_eq_true rfl) (Nat.le_of_ble_eq_true rfl) ?_
  refine pm_blk (pc' := 58) (L' := [(5, .int 39), (3, .long 0), (2, .int 9), (0, .ref 5), (1, .ref 3)]) (S' := [.int 43, .int 39]) (M' := cm 10 5741 rf_9 ua_9) [] (by decide +kernel) rfl ?_
  refine pm_ic_ge (off := 54) 112 (by decide +kernel) (by decide) (fun hc => ?_) (fun hc => ?_)
  · exact absurd hc (by decide +kernel)
  refine pm_blk (pc' := 64) (L' := [(5, .int 39), (3, .long 0), (2, .int 9), (0, .ref 5), (1, .ref 3)]) (S' := [.int 10, .int 9]) (M' := cm 10 5741 rf_9 ua_9) [pm_o (.iload_n 2), pm_oi (.bipush 10) 10] (by decide +kernel) rfl ?_
  refine pm_ic_ge (off := 48) 112 (by decide +kernel) (by decide) (fun hc => ?_) (fun hc => ?_)
  · exact absurd hc (by decide +kernel)
  refine pm_ldcx (idx := 29) (fun s h => h.1.2.1) (by decide +kernel) ?_
  refine pm_blk (pc' := 71) (L' := [(5, .int 39), (3, .long 0), (2, .int 9), (0, .ref 5), (1, .ref 3)]) (S' := [.int 39, .retAddr (D.2.1 0)]) (M' := cm 10 5741 rf_9 ua_9) [pm_o (.iload 5)] (by decide +kernel) rfl ?_
  refine pm_cVx (idx := 37) mJ_charAt (i := 0) (by decide) (cJ_char l h0 D (by decide) rfl (by decide +kernel)) (As := [.int 39]) (S0 := []) rfl (by decide +kernel) kJ_charAt (pm_c1 73 rfl rfl) (pm_c1 74 rfl rfl) rfl l_Tokens_37 (Nat.le_of_ble_eq_true rfl) (Nat.le_of_ble_eq_true rfl) (Nat.le_of_ble_eq_true rfl) (Nat.le_of_ble_eq_true rfl) ?_
  refine pm_blk (pc' := 76) (L' := [(5, .int 39), (3, .long 0), (2, .int 9), (0, .ref 5), (1, .ref 3)]) (S' := [.int 32, .int 115]) (M' := cm 10 5741 rf_9 ua_9) [pm_oi (.bipush 32) 32] (by decide +kernel) rfl ?_
  refine pm_ic_ne (off := 18) 94 (by decide +kernel) (by decide) (fun hc => ?_) (fun hc => ?_)
  rotate_left
  · exact absurd hc (by decide +kernel)
  refine pm_blk (pc' := 95) (L' := [(5, .int 39), (3, .long 0), (2, .int 9), (0, .ref 5), (1, .ref 3)]) (S' := [.long 0]) (M' := cm 10 5741 rf_9 ua_9) [pm_o (.lload_n 3)] (by decide +kernel) rfl ?_
  refine pm_ldcx (idx := 29) (fun s h => h.1.2.1) (by decide +kernel) ?_
  refine pm_blk (pc' := 99) (L' := [(5, .int 39), (3, .long 0), (2, .int 9), (0, .ref 5), (1, .ref 3)]) (S' := [.int 39, .retAddr (D.2.1 0), .long 0]) (M' := cm 10 5741 rf_9 ua_9) [pm_o (.iload 5)] (by decide +kernel) rfl ?_
  refine pm_cVx (idx := 37) mJ_charAt (i := 0) (by decide) (cJ_char l h0 D (by decide) rfl (by decide +kernel)) (As := [.int 39]) (S0 := [.long 0]) rfl (by decide +kernel) kJ_charAt (pm_c1 73 rfl rfl) (pm_c1 74 rfl rfl) rfl l_Tokens_37 (Nat.le_of_ble_eq_true rfl) (Nat.le_of_ble_eq_true rfl) (Nat.le_of_ble_eq_true rfl) (Nat.le_of_ble_eq_true rfl) ?_
  refine pm_blk (pc' := 102) (L' := [(5, .int 39), (3, .long 0), (2, .int 9), (0, .ref 5), (1, .ref 3)]) (S' := [.int 115, .long 0]) (M' := cm 10 5741 rf_9 ua_9) [] (by decide +kernel) rfl ?_
  refine pm_cS (idx := 41) m_Tokens_withOctet (cM_Tokens_withOctet l h0 D (g := (0, 0, 0, 0)) (u := ua_0) (a1 := 0) (a2 := 115) (out := 19) (by decide +kernel)) (As := [.long 0, .int 115]) (S0 := []) rfl (by decide +kernel) k_Tokens_withOctet l_Tokens_41 (Nat.le_of_ble_eq_true rfl) (Nat.le_of_ble_eq_true rfl) (Nat.le_of_ble_eq_true rfl) (Nat.le_of_ble_eq_true rfl) ?_
  refine pm_blk (pc' := 109) (L' := [(5, .int 40), (3, .long 19), (2, .int 9), (0, .ref 5), (1, .ref 3)]) (S' := []) (M' := cm 10 5741 rf_9 ua_9) [pm_o (.lstore_n 3), pm_oi (.iinc 5 1) 1] (by decide +kernel) rfl ?_
  refine pm_goto (off := -58) 51 (by decide +kernel) (by decide) ?_
  exact kk
set_option maxHeartbeats 4000000 in
set_option maxRecDepth 100000 in
theorem tk_Tokens_init_40 (l : Launch) (h0 : Nat) (D : pm_D) {p : Program} {e : Env} {R : Room} {s : State} {m : MethodId} {args : Array Value} {below : List Frame} {meth : Method} {c : Code} {Q : State → Prop} (kk : pm_V (p, l, e, R, s, m, args, below, meth, c) m_Tokens_init h0 D (6, 3031, 10, 5741, 4) Q 51 [(5, .int 41), (3, .long 717), (2, .int 9), (0, .ref 5), (1, .ref 3)] [] (cm 10 5741 rf_9 ua_9)) : pm_V (p, l, e, R, s, m, args, below, meth, c) m_Tokens_init h0 D (6, 3031, 10, 5741, 4) Q 51 [(5, .int 40), (3, .long 19), (2, .int 9), (0, .ref 5), (1, .ref 3)] [] (cm 10 5741 rf_9 ua_9) := by
  refine pm_blk (pc' := 53) (L' := [(5, .int 40), (3, .long 19), (2, .int 9), (0, .ref 5), (1, .ref 3)]) (S' := [.int 40]) (M' := cm 10 5741 rf_9 ua_9) [pm_o (.iload 5)] (by decide +kernel) rfl ?_
  refine pm_ldcx (idx := 29) (fun s h => h.1.2.1) (by decide +kernel) ?_
  refine pm_blk (pc' := 55) (L' := [(5, .int 40), (3, .long 19), (2, .int 9), (0, .ref 5), (1, .ref 3)]) (S' := [.retAddr (D.2.1 0), .int 40]) (M' := cm 10 5741 rf_9 ua_9) [] (by decide +kernel) rfl ?_
  refine pm_cVx (idx := 31) mJ_length (i := 0) (by decide) (cJ_length l h0 D (by decide)) (As := []) (S0 := [.int 40]) rfl (by decide +kernel) kJ_length (pm_c1 63 rfl rfl) (pm_c1 64 rfl rfl) rfl l_Tokens_31 (Nat.le_of_ble_eq_true rfl) (Nat.le_of_ble_eq_true rfl) (Nat.le_of_ble_eq_true rfl) (Nat.le_of_ble_eq_true rfl) ?_
  refine pm_blk (pc' := 58) (L' := [(5, .int 40), (3, .long 19), (2, .int 9), (0, .ref 5), (1, .ref 3)]) (S' := [.int 43, .int 40]) (M' := cm 10 5741 rf_9 ua_9) [] (by decide +kernel) rfl ?_
  refine pm_ic_ge (off := 54) 112 (by decide +kernel) (by decide) (fun hc => ?_) (fun hc => ?_)
  · exact absurd hc (by decide +kernel)
  refine pm_blk (pc' := 64) (L' := [(5, .int 40), (3, .long 19), (2, .int 9), (0, .ref 5), (1, .ref 3)]) (S' := [.int 10, .int 9]) (M' := cm 10 5741 rf_9 ua_9) [pm_o (.iload_n 2), pm_oi (.bipush 10) 10] (by decide +kernel) rfl ?_
  refine pm_ic_ge (off := 48) 112 (by decide +kernel) (by decide) (fun hc => ?_) (fun hc => ?_)
  · exact absurd hc (by decide +kernel)
  refine pm_ldcx (idx := 29) (fun s h => h.1.2.1) (by decide +kernel) ?_
  refine pm_blk (pc' := 71) (L' := [(5, .int 40), (3, .long 19), (2, .int 9), (0, .ref 5), (1, .ref 3)]) (S' := [.int 40, .retAddr (D.2.1 0)]) (M' := cm 10 5741 rf_9 ua_9) [pm_o (.iload 5)] (by decide +kernel) rfl ?_
  refine pm_cVx (idx := 37) mJ_charAt (i := 0) (by decide) (cJ_char l h0 D (by decide) rfl (by decide +kernel)) (As := [.int 40]) (S0 := []) rfl (by decide +kernel) kJ_charAt (pm_c1 73 rfl rfl) (pm_c1 74 rfl rfl) rfl l_Tokens_37 (Nat.le_of_ble_eq_true rfl) (Nat.le_of_ble_eq_true rfl) (Nat.le_of_ble_eq_true rfl) (Nat.le_of_ble_eq_true rfl) ?_
  refine pm_blk (pc' := 76) (L' := [(5, .int 40), (3, .long 19), (2, .int 9), (0, .ref 5), (1, .ref 3)]) (S' := [.int 32, .int 110]) (M' := cm 10 5741 rf_9 ua_9) [pm_oi (.bipush 32) 32] (by decide +kernel) rfl ?_
  refine pm_ic_ne (off := 18) 94 (by decide +kernel) (by decide) (fun hc => ?_) (fun hc => ?_)
  rotate_left
  · exact absurd hc (by decide +kernel)
  refine pm_blk (pc' := 95) (L' := [(5, .int 40), (3, .long 19), (2, .int 9), (0, .ref 5), (1, .ref 3)]) (S' := [.long 19]) (M' := cm 10 5741 rf_9 ua_9) [pm_o (.lload_n 3)] (by decide +kernel) rfl ?_
  refine pm_ldcx (idx := 29) (fun s h => h.1.2.1) (by decide +kernel) ?_
  refine pm_blk (pc' := 99) (L' := [(5, .int 40), (3, .long 19), (2, .int 9), (0, .ref 5), (1, .ref 3)]) (S' := [.int 40, .retAddr (D.2.1 0), .long 19]) (M' := cm 10 5741 rf_9 ua_9) [pm_o (.iload 5)] (by decide +kernel) rfl ?_
  refine pm_cVx (idx := 37) mJ_charAt (i := 0) (by decide) (cJ_char l h0 D (by decide) rfl (by decide +kernel)) (As := [.int 40]) (S0 := [.long 19]) rfl (by decide +kernel) kJ_charAt (pm_c1 73 rfl rfl) (pm_c1 74 rfl rfl) rfl l_Tokens_37 (Nat.le_of_ble_eq_true rfl) (Nat.le_of_ble_eq_true rfl) (Nat.le_of_ble_eq_true rfl) (Nat.le_of_ble_eq_true rfl) ?_
  refine pm_blk (pc' := 102) (L' := [(5, .int 40), (3, .long 19), (2, .int 9), (0, .ref 5), (1, .ref 3)]) (S' := [.int 110, .long 19]) (M' := cm 10 5741 rf_9 ua_9) [] (by decide +kernel) rfl ?_
  refine pm_cS (idx := 41) m_Tokens_withOctet (cM_Tokens_withOctet l h0 D (g := (0, 0, 0, 0)) (u := ua_0) (a1 := 19) (a2 := 110) (out := 717) (by decide +kernel)) (As := [.long 19, .int 110]) (S0 := []) rfl (by decide +kernel) k_Tokens_withOctet l_Tokens_41 (Nat.le_of_ble_eq_true rfl) (Nat.le_of_ble_eq_true rfl) (Nat.le_of_ble_eq_true rfl) (Nat.le_of_ble_eq_true rfl) ?_
  refine pm_blk (pc' := 109) (L' := [(5, .int 41), (3, .long 717), (2, .int 9), (0, .ref 5), (1, .ref 3)]) (S' := []) (M' := cm 10 5741 rf_9 ua_9) [pm_o (.lstore_n 3), pm_oi (.iinc 5 1) 1] (by decide +kernel) rfl ?_
  refine pm_goto (off := -58) 51 (by decide +kernel) (by decide) ?_
  exact kk
set_option maxHeartbeats 4000000 in
set_option maxRecDepth 100000 in
theorem tk_Tokens_init_41 (l : Launch) (h0 : Nat) (D : pm_D) {p : Program} {e : Env} {R : Room} {s : State} {m : MethodId} {args : Array Value} {below : List Frame} {meth : Method} {c : Code} {Q : State → Prop} (kk : pm_V (p, l, e, R, s, m, args, below, meth, c) m_Tokens_init h0 D (6, 3031, 10, 5741, 4) Q 51 [(5, .int 42), (3, .long 26533), (2, .int 9), (0, .ref 5), (1, .ref 3)] [] (cm 10 5741 rf_9 ua_9)) : pm_V (p, l, e, R, s, m, args, below, meth, c) m_Tokens_init h0 D (6, 3031, 10, 5741, 4) Q 51 [(5, .int 41), (3, .long 717), (2, .int 9), (0, .ref 5), (1, .ref 3)] [] (cm 10 5741 rf_9 ua_9) := by
  refine pm_blk (pc' := 53) (L' := [(5, .int 41), (3, .long 717), (2, .int 9), (0, .ref 5), (1, .ref 3)]) (S' := [.int 41]) (M' := cm 10 5741 rf_9 ua_9) [pm_o (.iload 5)] (by decide +kernel) rfl ?_
  refine pm_ldcx (idx := 29) (fun s h => h.1.2.1) (by decide +kernel) ?_
  refine pm_blk (pc' := 55) (L' := [(5, .int 41), (3, .long 717), (2, .int 9), (0, .ref 5), (1, .ref 3)]) (S' := [.retAddr (D.2.1 0), .int 41]) (M' := cm 10 5741 rf_9 ua_9) [] (by decide +kernel) rfl ?_
  refine pm_cVx (idx := 31) mJ_length (i := 0) (by decide) (cJ_length l h0 D (by decide)) (As := []) (S0 := [.int 41]) rfl (by decide +kernel) kJ_length (pm_c1 63 rfl rfl) (pm_c1 64 rfl rfl) rfl l_Tokens_31 (Nat.le_of_ble_eq_true rfl) (Nat.le_of_ble_eq_true rfl) (Nat.le_of_ble_eq_true rfl) (Nat.le_of_ble_eq_true rfl) ?_
  refine pm_blk (pc' := 58) (L' := [(5, .int 41), (3, .long 717), (2, .int 9), (0, .ref 5), (1, .ref 3)]) (S' := [.int 43, .int 41]) (M' := cm 10 5741 rf_9 ua_9) [] (by decide +kernel) rfl ?_
  refine pm_ic_ge (off := 54) 112 (by decide +kernel) (by decide) (fun hc => ?_) (fun hc => ?_)
  · exact absurd hc (by decide +kernel)
  refine pm_blk (pc' := 64) (L' := [(5, .int 41), (3, .long 717), (2, .int 9), (0, .ref 5), (1, .ref 3)]) (S' := [.int 10, .int 9]) (M' := cm 10 5741 rf_9 ua_9) [pm_o (.iload_n 2), pm_oi (.bipush 10) 10] (by decide +kernel) rfl ?_
  refine pm_ic_ge (off := 48) 112 (by decide +kernel) (by decide) (fun hc => ?_) (fun hc => ?_)
  · exact absurd hc (by decide +kernel)
  refine pm_ldcx (idx := 29) (fun s h => h.1.2.1) (by decide +kernel) ?_
  refine pm_blk (pc' := 71) (L' := [(5, .int 41), (3, .long 717), (2, .int 9), (0, .ref 5), (1, .ref 3)]) (S' := [.int 41, .retAddr (D.2.1 0)]) (M' := cm 10 5741 rf_9 ua_9) [pm_o (.iload 5)] (by decide +kernel) rfl ?_
  refine pm_cVx (idx := 37) mJ_charAt (i := 0) (by decide) (cJ_char l h0 D (by decide) rfl (by decide +kernel)) (As := [.int 41]) (S0 := []) rfl (by decide +kernel) kJ_charAt (pm_c1 73 rfl rfl) (pm_c1 74 rfl rfl) rfl l_Tokens_37 (Nat.le_of_ble_eq_true rfl) (Nat.le_of_ble_eq_true rfl) (Nat.le_of_ble_eq_true rfl) (Nat.le_of_ble_eq_true rfl) ?_
  refine pm_blk (pc' := 76) (L' := [(5, .int 41), (3, .long 717), (2, .int 9), (0, .ref 5), (1, .ref 3)]) (S' := [.int 32, .int 100]) (M' := cm 10 5741 rf_9 ua_9) [pm_oi (.bipush 32) 32] (by decide +kernel) rfl ?_
  refine pm_ic_ne (off := 18) 94 (by decide +kernel) (by decide) (fun hc => ?_) (fun hc => ?_)
  rotate_left
  · exact absurd hc (by decide +kernel)
  refine pm_blk (pc' := 95) (L' := [(5, .int 41), (3, .long 717), (2, .int 9), (0, .ref 5), (1, .ref 3)]) (S' := [.long 717]) (M' := cm 10 5741 rf_9 ua_9) [pm_o (.lload_n 3)] (by decide +kernel) rfl ?_
  refine pm_ldcx (idx := 29) (fun s h => h.1.2.1) (by decide +kernel) ?_
  refine pm_blk (pc' := 99) (L' := [(5, .int 41), (3, .long 717), (2, .int 9), (0, .ref 5), (1, .ref 3)]) (S' := [.int 41, .retAddr (D.2.1 0), .long 717]) (M' := cm 10 5741 rf_9 ua_9) [pm_o (.iload 5)] (by decide +kernel) rfl ?_
  refine pm_cVx (idx := 37) mJ_charAt (i := 0) (by decide) (cJ_char l h0 D (by decide) rfl (by decide +kernel)) (As := [.int 41]) (S0 := [.long 717]) rfl (by decide +kernel) kJ_charAt (pm_c1 73 rfl rfl) (pm_c1 74 rfl rfl) rfl l_Tokens_37 (Nat.le_of_ble_eq_true rfl) (Nat.le_of_ble_eq_true rfl) (Nat.le_of_ble_eq_true rfl) (Nat.le_of_ble_eq_true rfl) ?_
  refine pm_blk (pc' := 102) (L' := [(5, .int 41), (3, .long 717), (2, .int 9), (0, .ref 5), (1, .ref 3)]) (S' := [.int 100, .long 717]) (M' := cm 10 5741 rf_9 ua_9) [] (by decide +kernel) rfl ?_
  refine pm_cS (idx := 41) m_Tokens_withOctet (cM_Tokens_withOctet l h0 D (g := (0, 0, 0, 0)) (u := ua_0) (a1 := 717) (a2 := 100) (out := 26533) (by decide +kernel)) (As := [.long 717, .int 100]) (S0 := []) rfl (by decide +kernel) k_Tokens_withOctet l_Tokens_41 (Nat.le_of_ble_eq_true rfl) (Nat.le_of_ble_eq_true rfl) (Nat.le_of_ble_eq_true rfl) (Nat.le_of_ble_eq_true rfl) ?_
  refine pm_blk (pc' := 109) (L' := [(5, .int 42), (3, .long 26533), (2, .int 9), (0, .ref 5), (1, .ref 3)]) (S' := []) (M' := cm 10 5741 rf_9 ua_9) [pm_o (.lstore_n 3), pm_oi (.iinc 5 1) 1] (by decide +kernel) rfl ?_
  refine pm_goto (off := -58) 51 (by decide +kernel) (by decide) ?_
  exact kk
set_option maxHeartbeats 4000000 in
set_option maxRecDepth 100000 in
theorem tk_Tokens_init_42 (l : Launch) (h0 : Nat) (D : pm_D) {p : Program} {e : Env} {R : Room} {s : State} {m : MethodId} {args : Array Value} {below : List Frame} {meth : Method} {c : Code} {Q : State → Prop} (kk : pm_V (p, l, e, R, s, m, args, below, meth, c) m_Tokens_init h0 D (6, 3031, 10, 5741, 4) Q 51 [(5, .int 43), (3, .long 0), (2, .int 10), (0, .ref 5), (1, .ref 3)] [] (cm 10 5741 rf_9 ua_10)) : pm_V (p, l, e, R, s, m, args, below, meth, c) m_Tokens_init h0 D (6, 3031, 10, 5741, 4) Q 51 [(5, .int 42), (3, .long 26533), (2, .int 9), (0, .ref 5), (1, .ref 3)] [] (cm 10 5741 rf_9 ua_9) := by
  refine pm_blk (pc' := 53) (L' := [(5, .int 42), (3, .long 26533), (2, .int 9), (0, .ref 5), (1, .ref 3)]) (S' := [.int 42]) (M' := cm 10 5741 rf_9 ua_9) [pm_o (.iload 5)] (by decide +kernel) rfl ?_
  refine pm_ldcx (idx := 29) (fun s h => h.1.2.1) (by decide +kernel) ?_
  refine pm_blk (pc' := 55) (L' := [(5, .int 42), (3, .long 26533), (2, .int 9), (0, .ref 5), (1, .ref 3)]) (S' := [.retAddr (D.2.1 0), .int 42]) (M' := cm 10 5741 rf_9 ua_9) [] (by decide +kernel) rfl ?_
  refine pm_cVx (idx := 31) mJ_length (i := 0) (by decide) (cJ_length l h0 D (by decide)) (As := []) (S0 := [.int 42]) rfl (by decide +kernel) kJ_length (pm_c1 63 rfl rfl) (pm_c1 64 rfl rfl) rfl l_Tokens_31 (Nat.le_of_ble_eq_true rfl) (Nat.le_of_ble_eq_true rfl) (Nat.le_of_ble_eq_true rfl) (Nat.le_of_ble_eq_true rfl) ?_
  refine pm_blk (pc' := 58) (L' := [(5, .int 42), (3, .long 26533), (2, .int 9), (0, .ref 5), (1, .ref 3)]) (S' := [.int 43, .int 42]) (M' := cm 10 5741 rf_9 ua_9) [] (by decide +kernel) rfl ?_
  refine pm_ic_ge (off := 54) 112 (by decide +kernel) (by decide) (fun hc => ?_) (fun hc => ?_)
  · exact absurd hc (by decide +kernel)
  refine pm_blk (pc' := 64) (L' := [(5, .int 42), (3, .long 26533), (2, .int 9), (0, .ref 5), (1, .ref 3)]) (S' := [.int 10, .int 9]) (M' := cm 10 5741 rf_9 ua_9) [pm_o (.iload_n 2), pm_oi (.bipush 10) 10] (by decide +kernel) rfl ?_
  refine pm_ic_ge (off := 48) 112 (by decide +kernel) (by decide) (fun hc => ?_) (fun hc => ?_)
  · exact absurd hc (by decide +kernel)
  refine pm_ldcx (idx := 29) (fun s h => h.1.2.1) (by decide +kernel) ?_
  refine pm_blk (pc' := 71) (L' := [(5, .int 42), (3, .long 26533), (2, .int 9), (0, .ref 5), (1, .ref 3)]) (S' := [.int 42, .retAddr (D.2.1 0)]) (M' := cm 10 5741 rf_9 ua_9) [pm_o (.iload 5)] (by decide +kernel) rfl ?_
  refine pm_cVx (idx := 37) mJ_charAt (i := 0) (by decide) (cJ_char l h0 D (by decide) rfl (by decide +kernel)) (As := [.int 42]) (S0 := []) rfl (by decide +kernel) kJ_charAt (pm_c1 73 rfl rfl) (pm_c1 74 rfl rfl) rfl l_Tokens_37 (Nat.le_of_ble_eq_true rfl) (Nat.le_of_ble_eq_true rfl) (Nat.le_of_ble_eq_true rfl) (Nat.le_of_ble_eq_true rfl) ?_
  refine pm_blk (pc' := 76) (L' := [(5, .int 42), (3, .long 26533), (2, .int 9), (0, .ref 5), (1, .ref 3)]) (S' := [.int 32, .int 32]) (M' := cm 10 5741 rf_9 ua_9) [pm_oi (.bipush 32) 32] (by decide +kernel) rfl ?_
  refine pm_ic_ne (off := 18) 94 (by decide +kernel) (by decide) (fun hc => ?_) (fun hc => ?_)
  · exact absurd hc (by decide +kernel)
  refine pm_blk (pc' := 85) (L' := [(5, .int 42), (3, .long 26533), (2, .int 9), (0, .ref 5), (1, .ref 3)]) (S' := [.long 26533, .int 9, .ref 9]) (M' := cm 10 5741 rf_9 ua_9) [pm_o (.aload_n 0), pm_of (.getfield 26) 9 4 2, pm_o (.iload_n 2), pm_o (.lload_n 3)] (by decide +kernel) rfl ?_
  refine pm_last (by decide +kernel) rfl (pm_ok_in (by decide +kernel)) ?_
  refine pm_blk (pc' := 91) (L' := [(3, .long 0), (2, .int 10), (5, .int 42), (0, .ref 5), (1, .ref 3)]) (S' := []) (M' := cm 10 5741 rf_9 ua_10) [pm_oi (.iinc 2 1) 1, pm_ol (.lconst 0) 0, pm_o (.lstore_n 3)] (by decide +kernel) rfl ?_
  refine pm_goto (off := 15) 106 (by decide +kernel) (by decide) ?_
  refine pm_blk (pc' := 109) (L' := [(5, .int 43), (3, .long 0), (2, .int 10), (0, .ref 5), (1, .ref 3)]) (S' := []) (M' := cm 10 5741 rf_9 ua_10) [pm_oi (.iinc 5 1) 1] (by decide +kernel) rfl ?_
  refine pm_goto (off := -58) 51 (by decide +kernel) (by decide) ?_
  exact kk
set_option maxHeartbeats 4000000 in
set_option maxRecDepth 100000 in
theorem ci_Tokens_init (l : Launch) (h0 : Nat) (D : pm_D) : pm_C l h0 D m_Tokens_init 4 [.ref 5, .ref 3] (cm 6 3031 rf_4 ua_0) none (cm 10 5741 rf_9 ua_10) := by
  refine pm_met (by decide +kernel) (Nat.le_of_ble_eq_true rfl) (Nat.le_of_ble_eq_true rfl) (Nat.le_of_ble_eq_true rfl) ?_
  intro p e R s m args below meth c
  refine pm_blk (pc' := 1) (L' := [(0, .ref 5), (1, .ref 3)]) (S' := [.ref 5]) (M' := cm 6 3031 rf_4 ua_0) [pm_o (.aload_n 0)] (by decide +kernel) rfl ?_
  refine pm_obj (idx := 3) (by decide +kernel) (pm_c1 60 rfl rfl) (pm_c1 38 rfl rfl) (pm_c1 39 rfl rfl) (Nat.le_of_ble_eq_true rfl) (Nat.le_of_ble_eq_true rfl) ?_
  refine pm_blk (pc' := 13) (L' := [(0, .ref 5), (1, .ref 3)]) (S' := [.int 900, .ref 5]) (M' := cm 6 3031 rf_5 ua_0) [pm_o (.aload_n 0), pm_o (.aload_n 1), pm_of (.putfield 9) 9 0 2, pm_o (.aload_n 0), pm_oi (.sipush 900) 900] (by decide +kernel) rfl ?_
  refine pm_newi 900 (by decide +kernel) (pm_c1 53 rfl rfl) (by decide) (by decide) (Nat.le_of_ble_eq_true rfl) (Nat.le_of_ble_eq_true rfl) (Nat.le_of_ble_eq_true rfl) ?_
  refine pm_weak (M' := cm 7 3931 rf_5 ua_0) rfl rfl (fun _ _ h => cm_na rfl (fun _ => rfl) (fun _ => rfl) (fun _ => rfl) (fun _ => rfl) h) ?_
  refine pm_blk (pc' := 22) (L' := [(0, .ref 5), (1, .ref 3)]) (S' := [.int 900, .ref 5]) (M' := cm 7 3931 rf_6 ua_0) [pm_of (.putfield 15) 9 1 2, pm_o (.aload_n 0), pm_oi (.sipush 900) 900] (by decide +kernel) rfl ?_
  refine pm_newi 900 (by decide +kernel) (pm_c1 53 rfl rfl) (by decide) (by decide) (Nat.le_of_ble_eq_true rfl) (Nat.le_of_ble_eq_true rfl) (Nat.le_of_ble_eq_true rfl) ?_
  refine pm_weak (M' := cm 8 4831 rf_6 ua_0) rfl rfl (fun _ _ h => cm_na rfl (fun _ => rfl) (fun _ => rfl) (fun _ => rfl) (fun _ => rfl) h) ?_
  refine pm_blk (pc' := 31) (L' := [(0, .ref 5), (1, .ref 3)]) (S' := [.int 900, .ref 5]) (M' := cm 8 4831 rf_7 ua_0) [pm_of (.putfield 19) 9 2 2, pm_o (.aload_n 0), pm_oi (.sipush 900) 900] (by decide +kernel) rfl ?_
  refine pm_newj 900 (by decide +kernel) (pm_c1 54 rfl rfl) (by decide) (by decide) (Nat.le_of_ble_eq_true rfl) (Nat.le_of_ble_eq_true rfl) (Nat.le_of_ble_eq_true rfl) ?_
  refine pm_weak (M' := cm 9 5731 rf_7 ua_0) rfl rfl (fun _ _ h => cm_na rfl (fun _ => rfl) (fun _ => rfl) (fun _ => rfl) (fun _ => rfl) h) ?_
  refine pm_blk (pc' := 39) (L' := [(0, .ref 5), (1, .ref 3)]) (S' := [.int 10, .ref 5]) (M' := cm 9 5731 rf_8 ua_0) [pm_of (.putfield 22) 9 3 2, pm_o (.aload_n 0), pm_oi (.bipush 10) 10] (by decide +kernel) rfl ?_
  refine pm_newj 10 (by decide +kernel) (pm_c1 54 rfl rfl) (by decide) (by decide) (Nat.le_of_ble_eq_true rfl) (Nat.le_of_ble_eq_true rfl) (Nat.le_of_ble_eq_true rfl) ?_
  refine pm_weak (M' := cm 10 5741 rf_8 ua_0) rfl rfl (fun _ _ h => cm_na rfl (fun _ => rfl) (fun _ => rfl) (fun _ => rfl) (fun _ => rfl) h) ?_
  refine pm_blk (pc' := 51) (L' := [(5, .int 0), (3, .long 0), (2, .int 0), (0, .ref 5), (1, .ref 3)]) (S' := []) (M' := cm 10 5741 rf_9 ua_0) [pm_of (.putfield 26) 9 4 2, pm_oi (.iconst 0) 0, pm_o (.istore_n 2), pm_ol (.lconst 0) 0, pm_o (.lstore_n 3), pm_oi (.iconst 0) 0, pm_o (.istore 5)] (by decide +kernel) rfl ?_
  refine tk_Tokens_init_0 l h0 D ?_
  refine tk_Tokens_init_1 l h0 D ?_
  refine tk_Tokens_init_2 l h0 D ?_
  refine tk_Tokens_init_3 l h0 D ?_
  refine tk_Tokens_init_4 l h0 D ?_
  refine tk_Tokens_init_5 l h0 D ?_
  refine tk_Tokens_init_6 l h0 D ?_
  refine tk_Tokens_init_7 l h0 D ?_
  refine tk_Tokens_init_8 l h0 D ?_
  refine tk_Tokens_init_9 l h0 D ?_
  refine tk_Tokens_init_10 l h0 D ?_
  refine tk_Tokens_init_11 l h0 D ?_
  refine tk_Tokens_init_12 l h0 D ?_
  refine tk_Tokens_init_13 l h0 D ?_
  refine tk_Tokens_init_14 l h0 D ?_
  refine tk_Tokens_init_15 l h0 D ?_
  refine tk_Tokens_init_16 l h0 D ?_
  refine tk_Tokens_init_17 l h0 D ?_
  refine tk_Tokens_init_18 l h0 D ?_
  refine tk_Tokens_init_19 l h0 D ?_
  refine tk_Tokens_init_20 l h0 D ?_
  refine tk_Tokens_init_21 l h0 D ?_
  refine tk_Tokens_init_22 l h0 D ?_
  refine tk_Tokens_init_23 l h0 D ?_
  refine tk_Tokens_init_24 l h0 D ?_
  refine tk_Tokens_init_25 l h0 D ?_
  refine tk_Tokens_init_26 l h0 D ?_
  refine tk_Tokens_init_27 l h0 D ?_
  refine tk_Tokens_init_28 l h0 D ?_
  refine tk_Tokens_init_29 l h0 D ?_
  refine tk_Tokens_init_30 l h0 D ?_
  refine tk_Tokens_init_31 l h0 D ?_
  refine tk_Tokens_init_32 l h0 D ?_
  refine tk_Tokens_init_33 l h0 D ?_
  refine tk_Tokens_init_34 l h0 D ?_
  refine tk_Tokens_init_35 l h0 D ?_
  refine tk_Tokens_init_36 l h0 D ?_
  refine tk_Tokens_init_37 l h0 D ?_
  refine tk_Tokens_init_38 l h0 D ?_
  refine tk_Tokens_init_39 l h0 D ?_
  refine tk_Tokens_init_40 l h0 D ?_
  refine tk_Tokens_init_41 l h0 D ?_
  refine tk_Tokens_init_42 l h0 D ?_
  refine pm_blk (pc' := 53) (L' := [(5, .int 43), (3, .long 0), (2, .int 10), (0, .ref 5), (1, .ref 3)]) (S' := [.int 43]) (M' := cm 10 5741 rf_9 ua_10) [pm_o (.iload 5)] (by decide +kernel) rfl ?_
  refine pm_ldcx (idx := 29) (fun s h => h.1.2.1) (by decide +kernel) ?_
  refine pm_blk (pc' := 55) (L' := [(5, .int 43), (3, .long 0), (2, .int 10), (0, .ref 5), (1, .ref 3)]) (S' := [.retAddr (D.2.1 0), .int 43]) (M' := cm 10 5741 rf_9 ua_10) [] (by decide +kernel) rfl ?_
  refine pm_cVx (idx := 31) mJ_length (i := 0) (by decide) (cJ_length l h0 D (by decide)) (As := []) (S0 := [.int 43]) rfl (by decide +kernel) kJ_length (pm_c1 63 rfl rfl) (pm_c1 64 rfl rfl) rfl l_Tokens_31 (Nat.le_of_ble_eq_true rfl) (Nat.le_of_ble_eq_true rfl) (Nat.le_of_ble_eq_true rfl) (Nat.le_of_ble_eq_true rfl) ?_
  refine pm_blk (pc' := 58) (L' := [(5, .int 43), (3, .long 0), (2, .int 10), (0, .ref 5), (1, .ref 3)]) (S' := [.int 43, .int 43]) (M' := cm 10 5741 rf_9 ua_10) [] (by decide +kernel) rfl ?_
  refine pm_ic_ge (off := 54) 112 (by decide +kernel) (by decide) (fun hc => ?_) (fun hc => ?_)
  rotate_left
  · exact absurd hc (by decide +kernel)
  exact pm_retv rfl (by decide +kernel) rfl rfl
set_option maxHeartbeats 4000000 in
set_option maxRecDepth 100000 in
theorem tk_Types_init_0 (l : Launch) (h0 : Nat) (D : pm_D) {p : Program} {e : Env} {R : Room} {s : State} {m : MethodId} {args : Array Value} {below : List Frame} {meth : Method} {c : Code} {Q : State → Prop} (kk : pm_V (p, l, e, R, s, m, args, below, meth, c) m_Types_init h0 D (11, 5749, 18, 19061, 1) Q 69 [(1, .int 1), (0, .ref 10)] [] (cm 18 19061 rf_17 ua_15)) : pm_V (p, l, e, R, s, m, args, below, meth, c) m_Types_init h0 D (11, 5749, 18, 19061, 1) Q 69 [(1, .int 0), (0, .ref 10)] [] (cm 18 19061 rf_17 ua_10) := by
  refine pm_blk (pc' := 72) (L' := [(1, .int 0), (0, .ref 10)]) (S' := [.int 6, .int 0]) (M' := cm 18 19061 rf_17 ua_10) [pm_o (.iload_n 1), pm_oi (.bipush 6) 6] (by decide +kernel) rfl ?_
  refine pm_ic_ge (off := 61) 133 (by decide +kernel) (by decide) (fun hc => ?_) (fun hc => ?_)
  · exact absurd hc (by decide +kernel)
  refine pm_blk (pc' := 82) (L' := [(1, .int 0), (0, .ref 10)]) (S' := [.int 2, .int 0, .int 0, .ref 11]) (M' := cm 18 19061 rf_17 ua_10) [pm_o (.aload_n 0), pm_of (.getfield 11) 11 0 2, pm_o (.iload_n 1), pm_o (.iload_n 1), pm_oi (.iconst 2) 2] (by decide +kernel) rfl ?_
  refine pm_min (idx := 33) (by decide +kernel) l_Types_33 (Nat.le_of_ble_eq_true rfl) (Nat.le_of_ble_eq_true rfl) (Nat.le_of_ble_eq_true rfl) (Nat.le_of_ble_eq_true rfl) ?_
  refine pm_blk (pc' := 85) (L' := [(1, .int 0), (0, .ref 10)]) (S' := [.int 0, .int 0, .ref 11]) (M' := cm 18 19061 rf_17 ua_10) [] (by decide +kernel) rfl ?_
  refine pm_iast (by decide +kernel) rfl (pm_ok_in (by decide +kernel)) ?_
  refine pm_blk (pc' := 92) (L' := [(1, .int 0), (0, .ref 10)]) (S' := [.int 1, .int 0, .ref 14]) (M' := cm 18 19061 rf_17 ua_11) [pm_o (.aload_n 0), pm_of (.getfield 21) 11 3 2, pm_o (.iload_n 1), pm_oi (.iconst 1) 1] (by decide +kernel) rfl ?_
  refine pm_iast (by decide +kernel) rfl (pm_ok_in (by decide +kernel)) ?_
  refine pm_blk (pc' := 100) (L' := [(1, .int 0), (0, .ref 10)]) (S' := [.int 2, .int 0, .int 0, .ref 15]) (M' := cm 18 19061 rf_17 ua_12) [pm_o (.aload_n 0), pm_of (.getfield 24) 11 4 2, pm_o (.iload_n 1), pm_o (.iload_n 1), pm_oi (.iconst 2) 2] (by decide +kernel) rfl ?_
  refine pm_ic_ge (off := 7) 107 (by decide +kernel) (by decide) (fun hc => ?_) (fun hc => ?_)
  · exact absurd hc (by decide +kernel)
  refine pm_blk (pc' := 104) (L' := [(1, .int 0), (0, .ref 10)]) (S' := [.int 0, .int 0, .ref 15]) (M' := cm 18 19061 rf_17 ua_12) [pm_oi (.iconst 0) 0] (by decide +kernel) rfl ?_
  refine pm_goto (off := 8) 112 (by decide +kernel) (by decide) ?_
  refine pm_iast (by decide +kernel) rfl (pm_ok_in (by decide +kernel)) ?_
  refine pm_blk (pc' := 119) (L' := [(1, .int 0), (0, .ref 10)]) (S' := [.int (-1), .int 0, .ref 12]) (M' := cm 18 19061 rf_17 ua_13) [pm_o (.aload_n 0), pm_of (.getfield 15) 11 1 2, pm_o (.iload_n 1), pm_oi (.iconst (-1)) (-1)] (by decide +kernel) rfl ?_
  refine pm_iast (by decide +kernel) rfl (pm_ok_in (by decide +kernel)) ?_
  refine pm_blk (pc' := 126) (L' := [(1, .int 0), (0, .ref 10)]) (S' := [.int (-1), .int 0, .ref 13]) (M' := cm 18 19061 rf_17 ua_14) [pm_o (.aload_n 0), pm_of (.getfield 18) 11 2 2, pm_o (.iload_n 1), pm_oi (.iconst (-1)) (-1)] (by decide +kernel) rfl ?_
  refine pm_iast (by decide +kernel) rfl (pm_ok_in (by decide +kernel)) ?_
  refine pm_blk (pc' := 130) (L' := [(1, .int 1), (0, .ref 10)]) (S' := []) (M' := cm 18 19061 rf_17 ua_15) [pm_oi (.iinc 1 1) 1] (by decide +kernel) rfl ?_
  refine pm_goto (off := -61) 69 (by decide +kernel) (by decide) ?_
  exact kk
set_option maxHeartbeats 4000000 in
set_option maxRecDepth 100000 in
theorem tk_Types_init_1 (l : Launch) (h0 : Nat) (D : pm_D) {p : Program} {e : Env} {R : Room} {s : State} {m : MethodId} {args : Array Value} {below : List Frame} {meth : Method} {c : Code} {Q : State → Prop} (kk : pm_V (p, l, e, R, s, m, args, below, meth, c) m_Types_init h0 D (11, 5749, 18, 19061, 1) Q 69 [(1, .int 2), (0, .ref 10)] [] (cm 18 19061 rf_17 ua_20)) : pm_V (p, l, e, R, s, m, args, below, meth, c) m_Types_init h0 D (11, 5749, 18, 19061, 1) Q 69 [(1, .int 1), (0, .ref 10)] [] (cm 18 19061 rf_17 ua_15) := by
  refine pm_blk (pc' := 72) (L' := [(1, .int 1), (0, .ref 10)]) (S' := [.int 6, .int 1]) (M' := cm 18 19061 rf_17 ua_15) [pm_o (.iload_n 1), pm_oi (.bipush 6) 6] (by decide +kernel) rfl ?_
  refine pm_ic_ge (off := 61) 133 (by decide +kernel) (by decide) (fun hc => ?_) (fun hc => ?_)
  · exact absurd hc (by decide +kernel)
  refine pm_blk (pc' := 82) (L' := [(1, .int 1), (0, .ref 10)]) (S' := [.int 2, .int 1, .int 1, .ref 11]) (M' := cm 18 19061 rf_17 ua_15) [pm_o (.aload_n 0), pm_of (.getfield 11) 11 0 2, pm_o (.iload_n 1), pm_o (.iload_n 1), pm_oi (.iconst 2) 2] (by decide +kernel) rfl ?_
  refine pm_min (idx := 33) (by decide +kernel) l_Types_33 (Nat.le_of_ble_eq_true rfl) (Nat.le_of_ble_eq_true rfl) (Nat.le_of_ble_eq_true rfl) (Nat.le_of_ble_eq_true rfl) ?_
  refine pm_blk (pc' := 85) (L' := [(1, .int 1), (0, .ref 10)]) (S' := [.int 1, .int 1, .ref 11]) (M' := cm 18 19061 rf_17 ua_15) [] (by decide +kernel) rfl ?_
  refine pm_iast (by decide +kernel) rfl (pm_ok_in (by decide +kernel)) ?_
  refine pm_blk (pc' := 92) (L' := [(1, .int 1), (0, .ref 10)]) (S' := [.int 1, .int 1, .ref 14]) (M' := cm 18 19061 rf_17 ua_16) [pm_o (.aload_n 0), pm_of (.getfield 21) 11 3 2, pm_o (.iload_n 1), pm_oi (.iconst 1) 1] (by decide +kernel) rfl ?_
  refine pm_iast (by decide +kernel) rfl (pm_ok_in (by decide +kernel)) ?_
  refine pm_blk (pc' := 100) (L' := [(1, .int 1), (0, .ref 10)]) (S' := [.int 2, .int 1, .int 1, .ref 15]) (M' := cm 18 19061 rf_17 ua_17) [pm_o (.aload_n 0), pm_of (.getfield 24) 11 4 2, pm_o (.iload_n 1), pm_o (.iload_n 1), pm_oi (.iconst 2) 2] (by decide +kernel) rfl ?_
  refine pm_ic_ge (off := 7) 107 (by decide +kernel) (by decide) (fun hc => ?_) (fun hc => ?_)
  · exact absurd hc (by decide +kernel)
  refine pm_blk (pc' := 104) (L' := [(1, .int 1), (0, .ref 10)]) (S' := [.int 0, .int 1, .ref 15]) (M' := cm 18 19061 rf_17 ua_17) [pm_oi (.iconst 0) 0] (by decide +kernel) rfl ?_
  refine pm_goto (off := 8) 112 (by decide +kernel) (by decide) ?_
  refine pm_iast (by decide +kernel) rfl (pm_ok_in (by decide +kernel)) ?_
  refine pm_blk (pc' := 119) (L' := [(1, .int 1), (0, .ref 10)]) (S' := [.int (-1), .int 1, .ref 12]) (M' := cm 18 19061 rf_17 ua_18) [pm_o (.aload_n 0), pm_of (.getfield 15) 11 1 2, pm_o (.iload_n 1), pm_oi (.iconst (-1)) (-1)] (by decide +kernel) rfl ?_
  refine pm_iast (by decide +kernel) rfl (pm_ok_in (by decide +kernel)) ?_
  refine pm_blk (pc' := 126) (L' := [(1, .int 1), (0, .ref 10)]) (S' := [.int (-1), .int 1, .ref 13]) (M' := cm 18 19061 rf_17 ua_19) [pm_o (.aload_n 0), pm_of (.getfield 18) 11 2 2, pm_o (.iload_n 1), pm_oi (.iconst (-1)) (-1)] (by decide +kernel) rfl ?_
  refine pm_iast (by decide +kernel) rfl (pm_ok_in (by decide +kernel)) ?_
  refine pm_blk (pc' := 130) (L' := [(1, .int 2), (0, .ref 10)]) (S' := []) (M' := cm 18 19061 rf_17 ua_20) [pm_oi (.iinc 1 1) 1] (by decide +kernel) rfl ?_
  refine pm_goto (off := -61) 69 (by decide +kernel) (by decide) ?_
  exact kk
set_option maxHeartbeats 4000000 in
set_option maxRecDepth 100000 in
theorem tk_Types_init_2 (l : Launch) (h0 : Nat) (D : pm_D) {p : Program} {e : Env} {R : Room} {s : State} {m : MethodId} {args : Array Value} {below : List Frame} {meth : Method} {c : Code} {Q : State → Prop} (kk : pm_V (p, l, e, R, s, m, args, below, meth, c) m_Types_init h0 D (11, 5749, 18, 19061, 1) Q 69 [(1, .int 3), (0, .ref 10)] [] (cm 18 19061 rf_17 ua_25)) : pm_V (p, l, e, R, s, m, args, below, meth, c) m_Types_init h0 D (11, 5749, 18, 19061, 1) Q 69 [(1, .int 2), (0, .ref 10)] [] (cm 18 19061 rf_17 ua_20) := by
  refine pm_blk (pc' := 72) (L' := [(1, .int 2), (0, .ref 10)]) (S' := [.int 6, .int 2]) (M' := cm 18 19061 rf_17 ua_20) [pm_o (.iload_n 1), pm_oi (.bipush 6) 6] (by decide +kernel) rfl ?_
  refine pm_ic_ge (off := 61) 133 (by decide +kernel) (by decide) (fun hc => ?_) (fun hc => ?_)
  · exact absurd hc (by decide +kernel)
  refine pm_blk (pc' := 82) (L' := [(1, .int 2), (0, .ref 10)]) (S' := [.int 2, .int 2, .int 2, .ref 11]) (M' := cm 18 19061 rf_17 ua_20) [pm_o (.aload_n 0), pm_of (.getfield 11) 11 0 2, pm_o (.iload_n 1), pm_o (.iload_n 1), pm_oi (.iconst 2) 2] (by decide +kernel) rfl ?_
  refine pm_min (idx := 33) (by decide +kernel) l_Types_33 (Nat.le_of_ble_eq_true rfl) (Nat.le_of_ble_eq_true rfl) (Nat.le_of_ble_eq_true rfl) (Nat.le_of_ble_eq_true rfl) ?_
  refine pm_blk (pc' := 85) (L' := [(1, .int 2), (0, .ref 10)]) (S' := [.int 2, .int 2, .ref 11]) (M' := cm 18 19061 rf_17 ua_20) [] (by decide +kernel) rfl ?_
  refine pm_iast (by decide +kernel) rfl (pm_ok_in (by decide +kernel)) ?_
  refine pm_blk (pc' := 92) (L' := [(1, .int 2), (0, .ref 10)]) (S' := [.int 1, .int 2, .ref 14]) (M' := cm 18 19061 rf_17 ua_21) [pm_o (.aload_n 0), pm_of (.getfield 21) 11 3 2, pm_o (.iload_n 1), pm_oi (.iconst 1) 1] (by decide +kernel) rfl ?_
  refine pm_iast (by decide +kernel) rfl (pm_ok_in (by decide +kernel)) ?_
  refine pm_blk (pc' := 100) (L' := [(1, .int 2), (0, .ref 10)]) (S' := [.int 2, .int 2, .int 2, .ref 15]) (M' := cm 18 19061 rf_17 ua_22) [pm_o (.aload_n 0), pm_of (.getfield 24) 11 4 2, pm_o (.iload_n 1), pm_o (.iload_n 1), pm_oi (.iconst 2) 2] (by decide +kernel) rfl ?_
  refine pm_ic_ge (off := 7) 107 (by decide +kernel) (by decide) (fun hc => ?_) (fun hc => ?_)
  rotate_left
  · exact absurd hc (by decide +kernel)
  refine pm_blk (pc' := 112) (L' := [(1, .int 2), (0, .ref 10)]) (S' := [.int 1, .int 2, .ref 15]) (M' := cm 18 19061 rf_17 ua_22) [pm_oi (.iconst 1) 1, pm_o (.iload_n 1), pm_oi (.iconst 2) 2, pm_o .isub, pm_o .ishl] (by decide +kernel) rfl ?_
  refine pm_iast (by decide +kernel) rfl (pm_ok_in (by decide +kernel)) ?_
  refine pm_blk (pc' := 119) (L' := [(1, .int 2), (0, .ref 10)]) (S' := [.int (-1), .int 2, .ref 12]) (M' := cm 18 19061 rf_17 ua_23) [pm_o (.aload_n 0), pm_of (.getfield 15) 11 1 2, pm_o (.iload_n 1), pm_oi (.iconst (-1)) (-1)] (by decide +kernel) rfl ?_
  refine pm_iast (by decide +kernel) rfl (pm_ok_in (by decide +kernel)) ?_
  refine pm_blk (pc' := 126) (L' := [(1, .int 2), (0, .ref 10)]) (S' := [.int (-1), .int 2, .ref 13]) (M' := cm 18 19061 rf_17 ua_24) [pm_o (.aload_n 0), pm_of (.getfield 18) 11 2 2, pm_o (.iload_n 1), pm_oi (.iconst (-1)) (-1)] (by decide +kernel) rfl ?_
  refine pm_iast (by decide +kernel) rfl (pm_ok_in (by decide +kernel)) ?_
  refine pm_blk (pc' := 130) (L' := [(1, .int 3), (0, .ref 10)]) (S' := []) (M' := cm 18 19061 rf_17 ua_25) [pm_oi (.iinc 1 1) 1] (by decide +kernel) rfl ?_
  refine pm_goto (off := -61) 69 (by decide +kernel) (by decide) ?_
  exact kk
set_option maxHeartbeats 4000000 in
set_option maxRecDepth 100000 in
theorem tk_Types_init_3 (l : Launch) (h0 : Nat) (D : pm_D) {p : Program} {e : Env} {R : Room} {s : State} {m : MethodId} {args : Array Value} {below : List Frame} {meth : Method} {c : Code} {Q : State → Prop} (kk : pm_V (p, l, e, R, s, m, args, below, meth, c) m_Types_init h0 D (11, 5749, 18, 19061, 1) Q 69 [(1, .int 4), (0, .ref 10)] [] (cm 18 19061 rf_17 ua_30)) : pm_V (p, l, e, R, s, m, args, below, meth, c) m_Types_init h0 D (11, 5749, 18, 19061, 1) Q 69 [(1, .int 3), (0, .ref 10)] [] (cm 18 19061 rf_17 ua_25) := by
  refine pm_blk (pc' := 72) (L' := [(1, .int 3), (0, .ref 10)]) (S' := [.int 6, .int 3]) (M' := cm 18 19061 rf_17 ua_25) [pm_o (.iload_n 1), pm_oi (.bipush 6) 6] (by decide +kernel) rfl ?_
  refine pm_ic_ge (off := 61) 133 (by decide +kernel) (by decide) (fun hc => ?_) (fun hc => ?_)
  · exact absurd hc (by decide +kernel)
  refine pm_blk (pc' := 82) (L' := [(1, .int 3), (0, .ref 10)]) (S' := [.int 2, .int 3, .int 3, .ref 11]) (M' := cm 18 19061 rf_17 ua_25) [pm_o (.aload_n 0), pm_of (.getfield 11) 11 0 2, pm_o (.iload_n 1), pm_o (.iload_n 1), pm_oi (.iconst 2) 2] (by decide +kernel) rfl ?_
  refine pm_min (idx := 33) (by decide +kernel) l_Types_33 (Nat.le_of_ble_eq_true rfl) (Nat.le_of_ble_eq_true rfl) (Nat.le_of_ble_eq_true rfl) (Nat.le_of_ble_eq_true rfl) ?_
  refine pm_blk (pc' := 85) (L' := [(1, .int 3), (0, .ref 10)]) (S' := [.int 2, .int 3, .ref 11]) (M' := cm 18 19061 rf_17 ua_25) [] (by decide +kernel) rfl ?_
  refine pm_iast (by decide +kernel) rfl (pm_ok_in (by decide +kernel)) ?_
  refine pm_blk (pc' := 92) (L' := [(1, .int 3), (0, .ref 10)]) (S' := [.int 1, .int 3, .ref 14]) (M' := cm 18 19061 rf_17 ua_26) [pm_o (.aload_n 0), pm_of (.getfield 21) 11 3 2, pm_o (.iload_n 1), pm_oi (.iconst 1) 1] (by decide +kernel) rfl ?_
  refine pm_iast (by decide +kernel) rfl (pm_ok_in (by decide +kernel)) ?_
  refine pm_blk (pc' := 100) (L' := [(1, .int 3), (0, .ref 10)]) (S' := [.int 2, .int 3, .int 3, .ref 15]) (M' := cm 18 19061 rf_17 ua_27) [pm_o (.aload_n 0), pm_of (.getfield 24) 11 4 2, pm_o (.iload_n 1), pm_o (.iload_n 1), pm_oi (.iconst 2) 2] (by decide +kernel) rfl ?_
  refine pm_ic_ge (off := 7) 107 (by decide +kernel) (by decide) (fun hc => ?_) (fun hc => ?_)
  rotate_left
  · exact absurd hc (by decide +kernel)
  refine pm_blk (pc' := 112) (L' := [(1, .int 3), (0, .ref 10)]) (S' := [.int 2, .int 3, .ref 15]) (M' := cm 18 19061 rf_17 ua_27) [pm_oi (.iconst 1) 1, pm_o (.iload_n 1), pm_oi (.iconst 2) 2, pm_o .isub, pm_o .ishl] (by decide +kernel) rfl ?_
  refine pm_iast (by decide +kernel) rfl (pm_ok_in (by decide +kernel)) ?_
  refine pm_blk (pc' := 119) (L' := [(1, .int 3), (0, .ref 10)]) (S' := [.int (-1), .int 3, .ref 12]) (M' := cm 18 19061 rf_17 ua_28) [pm_o (.aload_n 0), pm_of (.getfield 15) 11 1 2, pm_o (.iload_n 1), pm_oi (.iconst (-1)) (-1)] (by decide +kernel) rfl ?_
  refine pm_iast (by decide +kernel) rfl (pm_ok_in (by decide +kernel)) ?_
  refine pm_blk (pc' := 126) (L' := [(1, .int 3), (0, .ref 10)]) (S' := [.int (-1), .int 3, .ref 13]) (M' := cm 18 19061 rf_17 ua_29) [pm_o (.aload_n 0), pm_of (.getfield 18) 11 2 2, pm_o (.iload_n 1), pm_oi (.iconst (-1)) (-1)] (by decide +kernel) rfl ?_
  refine pm_iast (by decide +kernel) rfl (pm_ok_in (by decide +kernel)) ?_
  refine pm_blk (pc' := 130) (L' := [(1, .int 4), (0, .ref 10)]) (S' := []) (M' := cm 18 19061 rf_17 ua_30) [pm_oi (.iinc 1 1) 1] (by decide +kernel) rfl ?_
  refine pm_goto (off := -61) 69 (by decide +kernel) (by decide) ?_
  exact kk
set_option maxHeartbeats 4000000 in
set_option maxRecDepth 100000 in
theorem tk_Types_init_4 (l : Launch) (h0 : Nat) (D : pm_D) {p : Program} {e : Env} {R : Room} {s : State} {m : MethodId} {args : Array Value} {below : List Frame} {meth : Method} {c : Code} {Q : State → Prop} (kk : pm_V (p, l, e, R, s, m, args, below, meth, c) m_Types_init h0 D (11, 5749, 18, 19061, 1) Q 69 [(1, .int 5), (0, .ref 10)] [] (cm 18 19061 rf_17 ua_35)) : pm_V (p, l, e, R, s, m, args, below, meth, c) m_Types_init h0 D (11, 5749, 18, 19061, 1) Q 69 [(1, .int 4), (0, .ref 10)] [] (cm 18 19061 rf_17 ua_30) := by
  refine pm_blk (pc' := 72) (L' := [(1, .int 4), (0, .ref 10)]) (S' := [.int 6, .int 4]) (M' := cm 18 19061 rf_17 ua_30) [pm_o (.iload_n 1), pm_oi (.bipush 6) 6] (by decide +kernel) rfl ?_
  refine pm_ic_ge (off := 61) 133 (by decide +kernel) (by decide) (fun hc => ?_) (fun hc => ?_)
  · exact absurd hc (by decide +kernel)
  refine pm_blk (pc' := 82) (L' := [(1, .int 4), (0, .ref 10)]) (S' := [.int 2, .int 4, .int 4, .ref 11]) (M' := cm 18 19061 rf_17 ua_30) [pm_o (.aload_n 0), pm_of (.getfield 11) 11 0 2, pm_o (.iload_n 1), pm_o (.iload_n 1), pm_oi (.iconst 2) 2] (by decide +kernel) rfl ?_
  refine pm_min (idx := 33) (by decide +kernel) l_Types_33 (Nat.le_of_ble_eq_true rfl) (Nat.le_of_ble_eq_true rfl) (Nat.le_of_ble_eq_true rfl) (Nat.le_of_ble_eq_true rfl) ?_
  refine pm_blk (pc' := 85) (L' := [(1, .int 4), (0, .ref 10)]) (S' := [.int 2, .int 4, .ref 11]) (M' := cm 18 19061 rf_17 ua_30) [] (by decide +kernel) rfl ?_
  refine pm_iast (by decide +kernel) rfl (pm_ok_in (by decide +kernel)) ?_
  refine pm_blk (pc' := 92) (L' := [(1, .int 4), (0, .ref 10)]) (S' := [.int 1, .int 4, .ref 14]) (M' := cm 18 19061 rf_17 ua_31) [pm_o (.aload_n 0), pm_of (.getfield 21) 11 3 2, pm_o (.iload_n 1), pm_oi (.iconst 1) 1] (by decide +kernel) rfl ?_
  refine pm_iast (by decide +kernel) rfl (pm_ok_in (by decide +kernel)) ?_
  refine pm_blk (pc' := 100) (L' := [(1, .int 4), (0, .ref 10)]) (S' := [.int 2, .int 4, .int 4, .ref 15]) (M' := cm 18 19061 rf_17 ua_32) [pm_o (.aload_n 0), pm_of (.getfield 24) 11 4 2, pm_o (.iload_n 1), pm_o (.iload_n 1), pm_oi (.iconst 2) 2] (by decide +kernel) rfl ?_
  refine pm_ic_ge (off := 7) 107 (by decide +kernel) (by decide) (fun hc => ?_) (fun hc => ?_)
  rotate_left
  · exact absurd hc (by decide +kernel)
  refine pm_blk (pc' := 112) (L' := [(1, .int 4), (0, .ref 10)]) (S' := [.int 4, .int 4, .ref 15]) (M' := cm 18 19061 rf_17 ua_32) [pm_oi (.iconst 1) 1, pm_o (.iload_n 1), pm_oi (.iconst 2) 2, pm_o .isub, pm_o .ishl] (by decide +kernel) rfl ?_
  refine pm_iast (by decide +kernel) rfl (pm_ok_in (by decide +kernel)) ?_
  refine pm_blk (pc' := 119) (L' := [(1, .int 4), (0, .ref 10)]) (S' := [.int (-1), .int 4, .ref 12]) (M' := cm 18 19061 rf_17 ua_33) [pm_o (.aload_n 0), pm_of (.getfield 15) 11 1 2, pm_o (.iload_n 1), pm_oi (.iconst (-1)) (-1)] (by decide +kernel) rfl ?_
  refine pm_iast (by decide +kernel) rfl (pm_ok_in (by decide +kernel)) ?_
  refine pm_blk (pc' := 126) (L' := [(1, .int 4), (0, .ref 10)]) (S' := [.int (-1), .int 4, .ref 13]) (M' := cm 18 19061 rf_17 ua_34) [pm_o (.aload_n 0), pm_of (.getfield 18) 11 2 2, pm_o (.iload_n 1), pm_oi (.iconst (-1)) (-1)] (by decide +kernel) rfl ?_
  refine pm_iast (by decide +kernel) rfl (pm_ok_in (by decide +kernel)) ?_
  refine pm_blk (pc' := 130) (L' := [(1, .int 5), (0, .ref 10)]) (S' := []) (M' := cm 18 19061 rf_17 ua_35) [pm_oi (.iinc 1 1) 1] (by decide +kernel) rfl ?_
  refine pm_goto (off := -61) 69 (by decide +kernel) (by decide) ?_
  exact kk
set_option maxHeartbeats 4000000 in
set_option maxRecDepth 100000 in
theorem tk_Types_init_5 (l : Launch) (h0 : Nat) (D : pm_D) {p : Program} {e : Env} {R : Room} {s : State} {m : MethodId} {args : Array Value} {below : List Frame} {meth : Method} {c : Code} {Q : State → Prop} (kk : pm_V (p, l, e, R, s, m, args, below, meth, c) m_Types_init h0 D (11, 5749, 18, 19061, 1) Q 69 [(1, .int 6), (0, .ref 10)] [] (cm 18 19061 rf_17 ua_40)) : pm_V (p, l, e, R, s, m, args, below, meth, c) m_Types_init h0 D (11, 5749, 18, 19061, 1) Q 69 [(1, .int 5), (0, .ref 10)] [] (cm 18 19061 rf_17 ua_35) := by
  refine pm_blk (pc' := 72) (L' := [(1, .int 5), (0, .ref 10)]) (S' := [.int 6, .int 5]) (M' := cm 18 19061 rf_17 ua_35) [pm_o (.iload_n 1), pm_oi (.bipush 6) 6] (by decide +kernel) rfl ?_
  refine pm_ic_ge (off := 61) 133 (by decide +kernel) (by decide) (fun hc => ?_) (fun hc => ?_)
  · exact absurd hc (by decide +kernel)
  refine pm_blk (pc' := 82) (L' := [(1, .int 5), (0, .ref 10)]) (S' := [.int 2, .int 5, .int 5, .ref 11]) (M' := cm 18 19061 rf_17 ua_35) [pm_o (.aload_n 0), pm_of (.getfield 11) 11 0 2, pm_o (.iload_n 1), pm_o (.iload_n 1), pm_oi (.iconst 2) 2] (by decide +kernel) rfl ?_
  refine pm_min (idx := 33) (by decide +kernel) l_Types_33 (Nat.le_of_ble_eq_true rfl) (Nat.le_of_ble_eq_true rfl) (Nat.le_of_ble_eq_true rfl) (Nat.le_of_ble_eq_true rfl) ?_
  refine pm_blk (pc' := 85) (L' := [(1, .int 5), (0, .ref 10)]) (S' := [.int 2, .int 5, .ref 11]) (M' := cm 18 19061 rf_17 ua_35) [] (by decide +kernel) rfl ?_
  refine pm_iast (by decide +kernel) rfl (pm_ok_in (by decide +kernel)) ?_
  refine pm_blk (pc' := 92) (L' := [(1, .int 5), (0, .ref 10)]) (S' := [.int 1, .int 5, .ref 14]) (M' := cm 18 19061 rf_17 ua_36) [pm_o (.aload_n 0), pm_of (.getfield 21) 11 3 2, pm_o (.iload_n 1), pm_oi (.iconst 1) 1] (by decide +kernel) rfl ?_
  refine pm_iast (by decide +kernel) rfl (pm_ok_in (by decide +kernel)) ?_
  refine pm_blk (pc' := 100) (L' := [(1, .int 5), (0, .ref 10)]) (S' := [.int 2, .int 5, .int 5, .ref 15]) (M' := cm 18 19061 rf_17 ua_37) [pm_o (.aload_n 0), pm_of (.getfield 24) 11 4 2, pm_o (.iload_n 1), pm_o (.iload_n 1), pm_oi (.iconst 2) 2] (by decide +kernel) rfl ?_
  refine pm_ic_ge (off := 7) 107 (by decide +kernel) (by decide) (fun hc => ?_) (fun hc => ?_)
  rotate_left
  · exact absurd hc (by decide +kernel)
  refine pm_blk (pc' := 112) (L' := [(1, .int 5), (0, .ref 10)]) (S' := [.int 8, .int 5, .ref 15]) (M' := cm 18 19061 rf_17 ua_37) [pm_oi (.iconst 1) 1, pm_o (.iload_n 1), pm_oi (.iconst 2) 2, pm_o .isub, pm_o .ishl] (by decide +kernel) rfl ?_
  refine pm_iast (by decide +kernel) rfl (pm_ok_in (by decide +kernel)) ?_
  refine pm_blk (pc' := 119) (L' := [(1, .int 5), (0, .ref 10)]) (S' := [.int (-1), .int 5, .ref 12]) (M' := cm 18 19061 rf_17 ua_38) [pm_o (.aload_n 0), pm_of (.getfield 15) 11 1 2, pm_o (.iload_n 1), pm_oi (.iconst (-1)) (-1)] (by decide +kernel) rfl ?_
  refine pm_iast (by decide +kernel) rfl (pm_ok_in (by decide +kernel)) ?_
  refine pm_blk (pc' := 126) (L' := [(1, .int 5), (0, .ref 10)]) (S' := [.int (-1), .int 5, .ref 13]) (M' := cm 18 19061 rf_17 ua_39) [pm_o (.aload_n 0), pm_of (.getfield 18) 11 2 2, pm_o (.iload_n 1), pm_oi (.iconst (-1)) (-1)] (by decide +kernel) rfl ?_
  refine pm_iast (by decide +kernel) rfl (pm_ok_in (by decide +kernel)) ?_
  refine pm_blk (pc' := 130) (L' := [(1, .int 6), (0, .ref 10)]) (S' := []) (M' := cm 18 19061 rf_17 ua_40) [pm_oi (.iinc 1 1) 1] (by decide +kernel) rfl ?_
  refine pm_goto (off := -61) 69 (by decide +kernel) (by decide) ?_
  exact kk
set_option maxHeartbeats 4000000 in
set_option maxRecDepth 100000 in
theorem ci_Types_init (l : Launch) (h0 : Nat) (D : pm_D) : pm_C l h0 D m_Types_init 1 [.ref 10] (cm 11 5749 rf_10 ua_10) none (cm 18 19061 rf_17 ua_40) := by
  refine pm_met (by decide +kernel) (Nat.le_of_ble_eq_true rfl) (Nat.le_of_ble_eq_true rfl) (Nat.le_of_ble_eq_true rfl) ?_
  intro p e R s m args below meth c
  refine pm_blk (pc' := 1) (L' := [(0, .ref 10)]) (S' := [.ref 10]) (M' := cm 11 5749 rf_10 ua_10) [pm_o (.aload_n 0)] (by decide +kernel) rfl ?_
  refine pm_obj (idx := 5) (by decide +kernel) (pm_c1 145 rfl rfl) (pm_c1 38 rfl rfl) (pm_c1 39 rfl rfl) (Nat.le_of_ble_eq_true rfl) (Nat.le_of_ble_eq_true rfl) ?_
  refine pm_blk (pc' := 8) (L' := [(0, .ref 10)]) (S' := [.int 2048, .ref 10]) (M' := cm 11 5749 rf_10 ua_10) [pm_o (.aload_n 0), pm_oi (.sipush 2048) 2048] (by decide +kernel) rfl ?_
  refine pm_newi 2048 (by decide +kernel) (pm_c1 53 rfl rfl) (by decide) (by decide) (Nat.le_of_ble_eq_true rfl) (Nat.le_of_ble_eq_true rfl) (Nat.le_of_ble_eq_true rfl) ?_
  refine pm_weak (M' := cm 12 7797 rf_10 ua_10) rfl rfl (fun _ _ h => cm_na rfl (fun _ => rfl) (fun _ => rfl) (fun _ => rfl) (fun _ => rfl) h) ?_
  refine pm_blk (pc' := 17) (L' := [(0, .ref 10)]) (S' := [.int 2048, .ref 10]) (M' := cm 12 7797 rf_11 ua_10) [pm_of (.putfield 11) 11 0 2, pm_o (.aload_n 0), pm_oi (.sipush 2048) 2048] (by decide +kernel) rfl ?_
  refine pm_newi 2048 (by decide +kernel) (pm_c1 53 rfl rfl) (by decide) (by decide) (Nat.le_of_ble_eq_true rfl) (Nat.le_of_ble_eq_true rfl) (Nat.le_of_ble_eq_true rfl) ?_
  refine pm_weak (M' := cm 13 9845 rf_11 ua_10) rfl rfl (fun _ _ h => cm_na rfl (fun _ => rfl) (fun _ => rfl) (fun _ => rfl) (fun _ => rfl) h) ?_
  refine pm_blk (pc' := 26) (L' := [(0, .ref 10)]) (S' := [.int 2048, .ref 10]) (M' := cm 13 9845 rf_12 ua_10) [pm_of (.putfield 15) 11 1 2, pm_o (.aload_n 0), pm_oi (.sipush 2048) 2048] (by decide +kernel) rfl ?_
  refine pm_newi 2048 (by decide +kernel) (pm_c1 53 rfl rfl) (by decide) (by decide) (Nat.le_of_ble_eq_true rfl) (Nat.le_of_ble_eq_true rfl) (Nat.le_of_ble_eq_true rfl) ?_
  refine pm_weak (M' := cm 14 11893 rf_12 ua_10) rfl rfl (fun _ _ h => cm_na rfl (fun _ => rfl) (fun _ => rfl) (fun _ => rfl) (fun _ => rfl) h) ?_
  refine pm_blk (pc' := 35) (L' := [(0, .ref 10)]) (S' := [.int 2048, .ref 10]) (M' := cm 14 11893 rf_13 ua_10) [pm_of (.putfield 18) 11 2 2, pm_o (.aload_n 0), pm_oi (.sipush 2048) 2048] (by decide +kernel) rfl ?_
  refine pm_newi 2048 (by decide +kernel) (pm_c1 53 rfl rfl) (by decide) (by decide) (Nat.le_of_ble_eq_true rfl) (Nat.le_of_ble_eq_true rfl) (Nat.le_of_ble_eq_true rfl) ?_
  refine pm_weak (M' := cm 15 13941 rf_13 ua_10) rfl rfl (fun _ _ h => cm_na rfl (fun _ => rfl) (fun _ => rfl) (fun _ => rfl) (fun _ => rfl) h) ?_
  refine pm_blk (pc' := 44) (L' := [(0, .ref 10)]) (S' := [.int 2048, .ref 10]) (M' := cm 15 13941 rf_14 ua_10) [pm_of (.putfield 21) 11 3 2, pm_o (.aload_n 0), pm_oi (.sipush 2048) 2048] (by decide +kernel) rfl ?_
  refine pm_newi 2048 (by decide +kernel) (pm_c1 53 rfl rfl) (by decide) (by decide) (Nat.le_of_ble_eq_true rfl) (Nat.le_of_ble_eq_true rfl) (Nat.le_of_ble_eq_true rfl) ?_
  refine pm_weak (M' := cm 16 15989 rf_14 ua_10) rfl rfl (fun _ _ h => cm_na rfl (fun _ => rfl) (fun _ => rfl) (fun _ => rfl) (fun _ => rfl) h) ?_
  refine pm_blk (pc' := 53) (L' := [(0, .ref 10)]) (S' := [.int 2048, .ref 10]) (M' := cm 16 15989 rf_15 ua_10) [pm_of (.putfield 24) 11 4 2, pm_o (.aload_n 0), pm_oi (.sipush 2048) 2048] (by decide +kernel) rfl ?_
  refine pm_newi 2048 (by decide +kernel) (pm_c1 53 rfl rfl) (by decide) (by decide) (Nat.le_of_ble_eq_true rfl) (Nat.le_of_ble_eq_true rfl) (Nat.le_of_ble_eq_true rfl) ?_
  refine pm_weak (M' := cm 17 18037 rf_15 ua_10) rfl rfl (fun _ _ h => cm_na rfl (fun _ => rfl) (fun _ => rfl) (fun _ => rfl) (fun _ => rfl) h) ?_
  refine pm_blk (pc' := 62) (L' := [(0, .ref 10)]) (S' := [.int 1024, .ref 10]) (M' := cm 17 18037 rf_16 ua_10) [pm_of (.putfield 27) 11 5 2, pm_o (.aload_n 0), pm_oi (.sipush 1024) 1024] (by decide +kernel) rfl ?_
  refine pm_newi 1024 (by decide +kernel) (pm_c1 53 rfl rfl) (by decide) (by decide) (Nat.le_of_ble_eq_true rfl) (Nat.le_of_ble_eq_true rfl) (Nat.le_of_ble_eq_true rfl) ?_
  refine pm_weak (M' := cm 18 19061 rf_16 ua_10) rfl rfl (fun _ _ h => cm_na rfl (fun _ => rfl) (fun _ => rfl) (fun _ => rfl) (fun _ => rfl) h) ?_
  refine pm_blk (pc' := 69) (L' := [(1, .int 0), (0, .ref 10)]) (S' := []) (M' := cm 18 19061 rf_17 ua_10) [pm_of (.putfield 30) 11 6 2, pm_oi (.iconst 0) 0, pm_o (.istore_n 1)] (by decide +kernel) rfl ?_
  refine tk_Types_init_0 l h0 D ?_
  refine tk_Types_init_1 l h0 D ?_
  refine tk_Types_init_2 l h0 D ?_
  refine tk_Types_init_3 l h0 D ?_
  refine tk_Types_init_4 l h0 D ?_
  refine tk_Types_init_5 l h0 D ?_
  refine pm_blk (pc' := 72) (L' := [(1, .int 6), (0, .ref 10)]) (S' := [.int 6, .int 6]) (M' := cm 18 19061 rf_17 ua_40) [pm_o (.iload_n 1), pm_oi (.bipush 6) 6] (by decide +kernel) rfl ?_
  refine pm_ic_ge (off := 61) 133 (by decide +kernel) (by decide) (fun hc => ?_) (fun hc => ?_)
  rotate_left
  · exact absurd hc (by decide +kernel)
  exact pm_retv rfl (by decide +kernel) rfl rfl
set_option maxHeartbeats 4000000 in
set_option maxRecDepth 100000 in
theorem ci_Tree_init (l : Launch) (h0 : Nat) (D : pm_D) : pm_C l h0 D m_Tree_init 1 [.ref 18] (cm 19 19072 rf_18 ua_40) none (cm 29 42472 rf_28 ua_40) := by
  refine pm_met (by decide +kernel) (Nat.le_of_ble_eq_true rfl) (Nat.le_of_ble_eq_true rfl) (Nat.le_of_ble_eq_true rfl) ?_
  intro p e R s m args below meth c
  refine pm_blk (pc' := 1) (L' := [(0, .ref 18)]) (S' := [.ref 18]) (M' := cm 19 19072 rf_18 ua_40) [pm_o (.aload_n 0)] (by decide +kernel) rfl ?_
  refine pm_obj (idx := 3) (by decide +kernel) (pm_c1 179 rfl rfl) (pm_c1 38 rfl rfl) (pm_c1 39 rfl rfl) (Nat.le_of_ble_eq_true rfl) (Nat.le_of_ble_eq_true rfl) ?_
  refine pm_blk (pc' := 8) (L' := [(0, .ref 18)]) (S' := [.int 1800, .ref 18]) (M' := cm 19 19072 rf_18 ua_40) [pm_o (.aload_n 0), pm_oi (.sipush 1800) 1800] (by decide +kernel) rfl ?_
  refine pm_newi 1800 (by decide +kernel) (pm_c1 53 rfl rfl) (by decide) (by decide) (Nat.le_of_ble_eq_true rfl) (Nat.le_of_ble_eq_true rfl) (Nat.le_of_ble_eq_true rfl) ?_
  refine pm_weak (M' := cm 20 20872 rf_18 ua_40) rfl rfl (fun _ _ h => cm_na rfl (fun _ => rfl) (fun _ => rfl) (fun _ => rfl) (fun _ => rfl) h) ?_
  refine pm_blk (pc' := 17) (L' := [(0, .ref 18)]) (S' := [.int 1800, .ref 18]) (M' := cm 20 20872 rf_19 ua_40) [pm_of (.putfield 11) 10 0 2, pm_o (.aload_n 0), pm_oi (.sipush 1800) 1800] (by decide +kernel) rfl ?_
  refine pm_newi 1800 (by decide +kernel) (pm_c1 53 rfl rfl) (by decide) (by decide) (Nat.le_of_ble_eq_true rfl) (Nat.le_of_ble_eq_true rfl) (Nat.le_of_ble_eq_true rfl) ?_
  refine pm_weak (M' := cm 21 22672 rf_19 ua_40) rfl rfl (fun _ _ h => cm_na rfl (fun _ => rfl) (fun _ => rfl) (fun _ => rfl) (fun _ => rfl) h) ?_
  refine pm_blk (pc' := 26) (L' := [(0, .ref 18)]) (S' := [.int 1800, .ref 18]) (M' := cm 21 22672 rf_20 ua_40) [pm_of (.putfield 15) 10 1 2, pm_o (.aload_n 0), pm_oi (.sipush 1800) 1800] (by decide +kernel) rfl ?_
  refine pm_newi 1800 (by decide +kernel) (pm_c1 53 rfl rfl) (by decide) (by decide) (Nat.le_of_ble_eq_true rfl) (Nat.le_of_ble_eq_true rfl) (Nat.le_of_ble_eq_true rfl) ?_
  refine pm_weak (M' := cm 22 24472 rf_20 ua_40) rfl rfl (fun _ _ h => cm_na rfl (fun _ => rfl) (fun _ => rfl) (fun _ => rfl) (fun _ => rfl) h) ?_
  refine pm_blk (pc' := 35) (L' := [(0, .ref 18)]) (S' := [.int 1800, .ref 18]) (M' := cm 22 24472 rf_21 ua_40) [pm_of (.putfield 18) 10 2 2, pm_o (.aload_n 0), pm_oi (.sipush 1800) 1800] (by decide +kernel) rfl ?_
  refine pm_newi 1800 (by decide +kernel) (pm_c1 53 rfl rfl) (by decide) (by decide) (Nat.le_of_ble_eq_true rfl) (Nat.le_of_ble_eq_true rfl) (Nat.le_of_ble_eq_true rfl) ?_
  refine pm_weak (M' := cm 23 26272 rf_21 ua_40) rfl rfl (fun _ _ h => cm_na rfl (fun _ => rfl) (fun _ => rfl) (fun _ => rfl) (fun _ => rfl) h) ?_
  refine pm_blk (pc' := 44) (L' := [(0, .ref 18)]) (S' := [.int 1800, .ref 18]) (M' := cm 23 26272 rf_22 ua_40) [pm_of (.putfield 21) 10 3 2, pm_o (.aload_n 0), pm_oi (.sipush 1800) 1800] (by decide +kernel) rfl ?_
  refine pm_newi 1800 (by decide +kernel) (pm_c1 53 rfl rfl) (by decide) (by decide) (Nat.le_of_ble_eq_true rfl) (Nat.le_of_ble_eq_true rfl) (Nat.le_of_ble_eq_true rfl) ?_
  refine pm_weak (M' := cm 24 28072 rf_22 ua_40) rfl rfl (fun _ _ h => cm_na rfl (fun _ => rfl) (fun _ => rfl) (fun _ => rfl) (fun _ => rfl) h) ?_
  refine pm_blk (pc' := 53) (L' := [(0, .ref 18)]) (S' := [.int 1800, .ref 18]) (M' := cm 24 28072 rf_23 ua_40) [pm_of (.putfield 24) 10 4 2, pm_o (.aload_n 0), pm_oi (.sipush 1800) 1800] (by decide +kernel) rfl ?_
  refine pm_newi 1800 (by decide +kernel) (pm_c1 53 rfl rfl) (by decide) (by decide) (Nat.le_of_ble_eq_true rfl) (Nat.le_of_ble_eq_true rfl) (Nat.le_of_ble_eq_true rfl) ?_
  refine pm_weak (M' := cm 25 29872 rf_23 ua_40) rfl rfl (fun _ _ h => cm_na rfl (fun _ => rfl) (fun _ => rfl) (fun _ => rfl) (fun _ => rfl) h) ?_
  refine pm_blk (pc' := 62) (L' := [(0, .ref 18)]) (S' := [.int 1800, .ref 18]) (M' := cm 25 29872 rf_24 ua_40) [pm_of (.putfield 27) 10 5 2, pm_o (.aload_n 0), pm_oi (.sipush 1800) 1800] (by decide +kernel) rfl ?_
  refine pm_newi 1800 (by decide +kernel) (pm_c1 53 rfl rfl) (by decide) (by decide) (Nat.le_of_ble_eq_true rfl) (Nat.le_of_ble_eq_true rfl) (Nat.le_of_ble_eq_true rfl) ?_
  refine pm_weak (M' := cm 26 31672 rf_24 ua_40) rfl rfl (fun _ _ h => cm_na rfl (fun _ => rfl) (fun _ => rfl) (fun _ => rfl) (fun _ => rfl) h) ?_
  refine pm_blk (pc' := 71) (L' := [(0, .ref 18)]) (S' := [.int 1800, .ref 18]) (M' := cm 26 31672 rf_25 ua_40) [pm_of (.putfield 30) 10 6 2, pm_o (.aload_n 0), pm_oi (.sipush 1800) 1800] (by decide +kernel) rfl ?_
  refine pm_newj 1800 (by decide +kernel) (pm_c1 54 rfl rfl) (by decide) (by decide) (Nat.le_of_ble_eq_true rfl) (Nat.le_of_ble_eq_true rfl) (Nat.le_of_ble_eq_true rfl) ?_
  refine pm_weak (M' := cm 27 33472 rf_25 ua_40) rfl rfl (fun _ _ h => cm_na rfl (fun _ => rfl) (fun _ => rfl) (fun _ => rfl) (fun _ => rfl) h) ?_
  refine pm_blk (pc' := 80) (L' := [(0, .ref 18)]) (S' := [.int 1800, .ref 18]) (M' := cm 27 33472 rf_26 ua_40) [pm_of (.putfield 33) 10 7 2, pm_o (.aload_n 0), pm_oi (.sipush 1800) 1800] (by decide +kernel) rfl ?_
  refine pm_newz 1800 (by decide +kernel) (pm_c1 214 rfl rfl) (by decide) (by decide) (Nat.le_of_ble_eq_true rfl) (Nat.le_of_ble_eq_true rfl) (Nat.le_of_ble_eq_true rfl) ?_
  refine pm_weak (M' := cm 28 35272 rf_26 ua_40) rfl rfl (fun _ _ h => cm_na rfl (fun _ => rfl) (fun _ => rfl) (fun _ => rfl) (fun _ => rfl) h) ?_
  refine pm_blk (pc' := 89) (L' := [(0, .ref 18)]) (S' := [.int 7200, .ref 18]) (M' := cm 28 35272 rf_27 ua_40) [pm_of (.putfield 37) 10 8 2, pm_o (.aload_n 0), pm_oi (.sipush 7200) 7200] (by decide +kernel) rfl ?_
  refine pm_newi 7200 (by decide +kernel) (pm_c1 53 rfl rfl) (by decide) (by decide) (Nat.le_of_ble_eq_true rfl) (Nat.le_of_ble_eq_true rfl) (Nat.le_of_ble_eq_true rfl) ?_
  refine pm_weak (M' := cm 29 42472 rf_27 ua_40) rfl rfl (fun _ _ h => cm_na rfl (fun _ => rfl) (fun _ => rfl) (fun _ => rfl) (fun _ => rfl) h) ?_
  refine pm_blk (pc' := 94) (L' := [(0, .ref 18)]) (S' := []) (M' := cm 29 42472 rf_28 ua_40) [pm_of (.putfield 43) 10 9 2] (by decide +kernel) rfl ?_
  exact pm_retv rfl (by decide +kernel) rfl rfl
set_option maxHeartbeats 4000000 in
set_option maxRecDepth 100000 in
theorem ci_Table_init (l : Launch) (h0 : Nat) (D : pm_D) : pm_C l h0 D m_Table_init 1 [.ref 29] (cm 30 42482 rf_29 ua_40) none (cm 39 44282 rf_38 ua_40) := by
  refine pm_met (by decide +kernel) (Nat.le_of_ble_eq_true rfl) (Nat.le_of_ble_eq_true rfl) (Nat.le_of_ble_eq_true rfl) ?_
  intro p e R s m args below meth c
  refine pm_blk (pc' := 1) (L' := [(0, .ref 29)]) (S' := [.ref 29]) (M' := cm 30 42482 rf_29 ua_40) [pm_o (.aload_n 0)] (by decide +kernel) rfl ?_
  refine pm_obj (idx := 3) (by decide +kernel) (pm_c1 220 rfl rfl) (pm_c1 38 rfl rfl) (pm_c1 39 rfl rfl) (Nat.le_of_ble_eq_true rfl) (Nat.le_of_ble_eq_true rfl) ?_
  refine pm_blk (pc' := 7) (L' := [(0, .ref 29)]) (S' := [.int 30, .ref 29]) (M' := cm 30 42482 rf_29 ua_40) [pm_o (.aload_n 0), pm_oi (.bipush 30) 30] (by decide +kernel) rfl ?_
  refine pm_newj 30 (by decide +kernel) (pm_c1 54 rfl rfl) (by decide) (by decide) (Nat.le_of_ble_eq_true rfl) (Nat.le_of_ble_eq_true rfl) (Nat.le_of_ble_eq_true rfl) ?_
  refine pm_weak (M' := cm 31 42512 rf_29 ua_40) rfl rfl (fun _ _ h => cm_na rfl (fun _ => rfl) (fun _ => rfl) (fun _ => rfl) (fun _ => rfl) h) ?_
  refine pm_blk (pc' := 15) (L' := [(0, .ref 29)]) (S' := [.int 30, .ref 29]) (M' := cm 31 42512 rf_30 ua_40) [pm_of (.putfield 11) 8 0 2, pm_o (.aload_n 0), pm_oi (.bipush 30) 30] (by decide +kernel) rfl ?_
  refine pm_newi 30 (by decide +kernel) (pm_c1 53 rfl rfl) (by decide) (by decide) (Nat.le_of_ble_eq_true rfl) (Nat.le_of_ble_eq_true rfl) (Nat.le_of_ble_eq_true rfl) ?_
  refine pm_weak (M' := cm 32 42542 rf_30 ua_40) rfl rfl (fun _ _ h => cm_na rfl (fun _ => rfl) (fun _ => rfl) (fun _ => rfl) (fun _ => rfl) h) ?_
  refine pm_blk (pc' := 23) (L' := [(0, .ref 29)]) (S' := [.int 30, .ref 29]) (M' := cm 32 42542 rf_31 ua_40) [pm_of (.putfield 15) 8 1 2, pm_o (.aload_n 0), pm_oi (.bipush 30) 30] (by decide +kernel) rfl ?_
  refine pm_newi 30 (by decide +kernel) (pm_c1 53 rfl rfl) (by decide) (by decide) (Nat.le_of_ble_eq_true rfl) (Nat.le_of_ble_eq_true rfl) (Nat.le_of_ble_eq_true rfl) ?_
  refine pm_weak (M' := cm 33 42572 rf_31 ua_40) rfl rfl (fun _ _ h => cm_na rfl (fun _ => rfl) (fun _ => rfl) (fun _ => rfl) (fun _ => rfl) h) ?_
  refine pm_blk (pc' := 31) (L' := [(0, .ref 29)]) (S' := [.int 30, .ref 29]) (M' := cm 33 42572 rf_32 ua_40) [pm_of (.putfield 19) 8 2 2, pm_o (.aload_n 0), pm_oi (.bipush 30) 30] (by decide +kernel) rfl ?_
  refine pm_newi 30 (by decide +kernel) (pm_c1 53 rfl rfl) (by decide) (by decide) (Nat.le_of_ble_eq_true rfl) (Nat.le_of_ble_eq_true rfl) (Nat.le_of_ble_eq_true rfl) ?_
  refine pm_weak (M' := cm 34 42602 rf_32 ua_40) rfl rfl (fun _ _ h => cm_na rfl (fun _ => rfl) (fun _ => rfl) (fun _ => rfl) (fun _ => rfl) h) ?_
  refine pm_blk (pc' := 39) (L' := [(0, .ref 29)]) (S' := [.int 30, .ref 29]) (M' := cm 34 42602 rf_33 ua_40) [pm_of (.putfield 22) 8 3 2, pm_o (.aload_n 0), pm_oi (.bipush 30) 30] (by decide +kernel) rfl ?_
  refine pm_newi 30 (by decide +kernel) (pm_c1 53 rfl rfl) (by decide) (by decide) (Nat.le_of_ble_eq_true rfl) (Nat.le_of_ble_eq_true rfl) (Nat.le_of_ble_eq_true rfl) ?_
  refine pm_weak (M' := cm 35 42632 rf_33 ua_40) rfl rfl (fun _ _ h => cm_na rfl (fun _ => rfl) (fun _ => rfl) (fun _ => rfl) (fun _ => rfl) h) ?_
  refine pm_blk (pc' := 47) (L' := [(0, .ref 29)]) (S' := [.int 30, .ref 29]) (M' := cm 35 42632 rf_34 ua_40) [pm_of (.putfield 25) 8 4 2, pm_o (.aload_n 0), pm_oi (.bipush 30) 30] (by decide +kernel) rfl ?_
  refine pm_newi 30 (by decide +kernel) (pm_c1 53 rfl rfl) (by decide) (by decide) (Nat.le_of_ble_eq_true rfl) (Nat.le_of_ble_eq_true rfl) (Nat.le_of_ble_eq_true rfl) ?_
  refine pm_weak (M' := cm 36 42662 rf_34 ua_40) rfl rfl (fun _ _ h => cm_na rfl (fun _ => rfl) (fun _ => rfl) (fun _ => rfl) (fun _ => rfl) h) ?_
  refine pm_blk (pc' := 56) (L' := [(0, .ref 29)]) (S' := [.int 720, .ref 29]) (M' := cm 36 42662 rf_35 ua_40) [pm_of (.putfield 28) 8 5 2, pm_o (.aload_n 0), pm_oi (.sipush 720) 720] (by decide +kernel) rfl ?_
  refine pm_newi 720 (by decide +kernel) (pm_c1 53 rfl rfl) (by decide) (by decide) (Nat.le_of_ble_eq_true rfl) (Nat.le_of_ble_eq_true rfl) (Nat.le_of_ble_eq_true rfl) ?_
  refine pm_weak (M' := cm 37 43382 rf_35 ua_40) rfl rfl (fun _ _ h => cm_na rfl (fun _ => rfl) (fun _ => rfl) (fun _ => rfl) (fun _ => rfl) h) ?_
  refine pm_blk (pc' := 65) (L' := [(0, .ref 29)]) (S' := [.int 720, .ref 29]) (M' := cm 37 43382 rf_36 ua_40) [pm_of (.putfield 31) 8 6 2, pm_o (.aload_n 0), pm_oi (.sipush 720) 720] (by decide +kernel) rfl ?_
  refine pm_newi 720 (by decide +kernel) (pm_c1 53 rfl rfl) (by decide) (by decide) (Nat.le_of_ble_eq_true rfl) (Nat.le_of_ble_eq_true rfl) (Nat.le_of_ble_eq_true rfl) ?_
  refine pm_weak (M' := cm 38 44102 rf_36 ua_40) rfl rfl (fun _ _ h => cm_na rfl (fun _ => rfl) (fun _ => rfl) (fun _ => rfl) (fun _ => rfl) h) ?_
  refine pm_blk (pc' := 74) (L' := [(0, .ref 29)]) (S' := [.int 180, .ref 29]) (M' := cm 38 44102 rf_37 ua_40) [pm_of (.putfield 34) 8 7 2, pm_o (.aload_n 0), pm_oi (.sipush 180) 180] (by decide +kernel) rfl ?_
  refine pm_newi 180 (by decide +kernel) (pm_c1 53 rfl rfl) (by decide) (by decide) (Nat.le_of_ble_eq_true rfl) (Nat.le_of_ble_eq_true rfl) (Nat.le_of_ble_eq_true rfl) ?_
  refine pm_weak (M' := cm 39 44282 rf_37 ua_40) rfl rfl (fun _ _ h => cm_na rfl (fun _ => rfl) (fun _ => rfl) (fun _ => rfl) (fun _ => rfl) h) ?_
  refine pm_blk (pc' := 79) (L' := [(0, .ref 29)]) (S' := []) (M' := cm 39 44282 rf_38 ua_40) [pm_of (.putfield 37) 8 8 2] (by decide +kernel) rfl ?_
  exact pm_retv rfl (by decide +kernel) rfl rfl
set_option maxHeartbeats 4000000 in
set_option maxRecDepth 100000 in
theorem ci_Parser_init (l : Launch) (h0 : Nat) (D : pm_D) : pm_C l h0 D m_Parser_init 1 [.ref 39, .ref 5, .ref 10, .ref 18, .ref 29, .ref 3, .ref 4] (cm 40 44297 rf_39 ua_40) none (cm 43 44545 rf_48 ua_40) := by
  refine pm_met (by decide +kernel) (Nat.le_of_ble_eq_true rfl) (Nat.le_of_ble_eq_true rfl) (Nat.le_of_ble_eq_true rfl) ?_
  intro p e R s m args below meth c
  refine pm_blk (pc' := 1) (L' := [(0, .ref 39), (1, .ref 5), (2, .ref 10), (3, .ref 18), (4, .ref 29), (5, .ref 3), (6, .ref 4)]) (S' := [.ref 39]) (M' := cm 40 44297 rf_39 ua_40) [pm_o (.aload_n 0)] (by decide +kernel) rfl ?_
  refine pm_obj (idx := 3) (by decide +kernel) (pm_c2 17 rfl rfl) (pm_c1 38 rfl rfl) (pm_c1 39 rfl rfl) (Nat.le_of_ble_eq_true rfl) (Nat.le_of_ble_eq_true rfl) ?_
  refine pm_blk (pc' := 40) (L' := [(0, .ref 39), (1, .ref 5), (2, .ref 10), (3, .ref 18), (4, .ref 29), (5, .ref 3), (6, .ref 4)]) (S' := [.int 24, .ref 39]) (M' := cm 40 44297 rf_45 ua_40) [pm_o (.aload_n 0), pm_o (.aload_n 1), pm_of (.putfield 9) 7 0 2, pm_o (.aload_n 0), pm_o (.aload_n 2), pm_of (.putfield 15) 7 1 2, pm_o (.aload_n 0), pm_o (.aload_n 3), pm_of (.putfield 19) 7 2 2, pm_o (.aload_n 0), pm_o (.aload 4), pm_of (.putfield 23) 7 3 2, pm_o (.aload_n 0), pm_o (.aload 5), pm_of (.putfield 27) 7 4 2, pm_o (.aload_n 0), pm_o (.aload 6), pm_of (.putfield 31) 7 5 2, pm_o (.aload_n 0), pm_oi (.bipush 24) 24] (by decide +kernel) rfl ?_
  refine pm_newj 24 (by decide +kernel) (pm_c1 54 rfl rfl) (by decide) (by decide) (Nat.le_of_ble_eq_true rfl) (Nat.le_of_ble_eq_true rfl) (Nat.le_of_ble_eq_true rfl) ?_
  refine pm_weak (M' := cm 41 44321 rf_45 ua_40) rfl rfl (fun _ _ h => cm_na rfl (fun _ => rfl) (fun _ => rfl) (fun _ => rfl) (fun _ => rfl) h) ?_
  refine pm_blk (pc' := 48) (L' := [(0, .ref 39), (1, .ref 5), (2, .ref 10), (3, .ref 18), (4, .ref 29), (5, .ref 3), (6, .ref 4)]) (S' := [.int 24, .ref 39]) (M' := cm 41 44321 rf_46 ua_40) [pm_of (.putfield 36) 7 6 2, pm_o (.aload_n 0), pm_oi (.bipush 24) 24] (by decide +kernel) rfl ?_
  refine pm_newi 24 (by decide +kernel) (pm_c1 53 rfl rfl) (by decide) (by decide) (Nat.le_of_ble_eq_true rfl) (Nat.le_of_ble_eq_true rfl) (Nat.le_of_ble_eq_true rfl) ?_
  refine pm_weak (M' := cm 42 44345 rf_46 ua_40) rfl rfl (fun _ _ h => cm_na rfl (fun _ => rfl) (fun _ => rfl) (fun _ => rfl) (fun _ => rfl) h) ?_
  refine pm_blk (pc' := 57) (L' := [(0, .ref 39), (1, .ref 5), (2, .ref 10), (3, .ref 18), (4, .ref 29), (5, .ref 3), (6, .ref 4)]) (S' := [.int 200, .ref 39]) (M' := cm 42 44345 rf_47 ua_40) [pm_of (.putfield 40) 7 7 2, pm_o (.aload_n 0), pm_oi (.sipush 200) 200] (by decide +kernel) rfl ?_
  refine pm_newi 200 (by decide +kernel) (pm_c1 53 rfl rfl) (by decide) (by decide) (Nat.le_of_ble_eq_true rfl) (Nat.le_of_ble_eq_true rfl) (Nat.le_of_ble_eq_true rfl) ?_
  refine pm_weak (M' := cm 43 44545 rf_47 ua_40) rfl rfl (fun _ _ h => cm_na rfl (fun _ => rfl) (fun _ => rfl) (fun _ => rfl) (fun _ => rfl) h) ?_
  refine pm_blk (pc' := 62) (L' := [(0, .ref 39), (1, .ref 5), (2, .ref 10), (3, .ref 18), (4, .ref 29), (5, .ref 3), (6, .ref 4)]) (S' := []) (M' := cm 43 44545 rf_48 ua_40) [pm_of (.putfield 44) 7 9 2] (by decide +kernel) rfl ?_
  exact pm_retv rfl (by decide +kernel) rfl rfl
set_option maxHeartbeats 4000000 in
set_option maxRecDepth 100000 in
theorem ci_Checker_init (l : Launch) (h0 : Nat) (D : pm_D) : pm_C l h0 D m_Checker_init 1 [.ref 43, .ref 10, .ref 18, .ref 29, .ref 3] (cm 44 44550 rf_49 ua_40) none (cm 44 44550 rf_53 ua_40) := by
  refine pm_met (by decide +kernel) (Nat.le_of_ble_eq_true rfl) (Nat.le_of_ble_eq_true rfl) (Nat.le_of_ble_eq_true rfl) ?_
  intro p e R s m args below meth c
  refine pm_blk (pc' := 1) (L' := [(0, .ref 43), (1, .ref 10), (2, .ref 18), (3, .ref 29), (4, .ref 3)]) (S' := [.ref 43]) (M' := cm 44 44550 rf_49 ua_40) [pm_o (.aload_n 0)] (by decide +kernel) rfl ?_
  refine pm_obj (idx := 3) (by decide +kernel) (pm_c2 69 rfl rfl) (pm_c1 38 rfl rfl) (pm_c1 39 rfl rfl) (Nat.le_of_ble_eq_true rfl) (Nat.le_of_ble_eq_true rfl) ?_
  refine pm_blk (pc' := 25) (L' := [(0, .ref 43), (1, .ref 10), (2, .ref 18), (3, .ref 29), (4, .ref 3)]) (S' := []) (M' := cm 44 44550 rf_53 ua_40) [pm_o (.aload_n 0), pm_o (.aload_n 1), pm_of (.putfield 9) 2 0 2, pm_o (.aload_n 0), pm_o (.aload_n 2), pm_of (.putfield 15) 2 1 2, pm_o (.aload_n 0), pm_o (.aload_n 3), pm_of (.putfield 19) 2 2 2, pm_o (.aload_n 0), pm_o (.aload 4), pm_of (.putfield 23) 2 3 2] (by decide +kernel) rfl ?_
  exact pm_retv rfl (by decide +kernel) rfl rfl
set_option maxHeartbeats 4000000 in
set_option maxRecDepth 100000 in
theorem ci_Heap_init (l : Launch) (h0 : Nat) (D : pm_D) : pm_C l h0 D m_Heap_init 1 [.ref 45] (cm 46 44577 rf_57 ua_40) none (cm 52 120583 rf_63 ua_40) := by
  refine pm_met (by decide +kernel) (Nat.le_of_ble_eq_true rfl) (Nat.le_of_ble_eq_true rfl) (Nat.le_of_ble_eq_true rfl) ?_
  intro p e R s m args below meth c
  refine pm_blk (pc' := 1) (L' := [(0, .ref 45)]) (S' := [.ref 45]) (M' := cm 46 44577 rf_57 ua_40) [pm_o (.aload_n 0)] (by decide +kernel) rfl ?_
  refine pm_obj (idx := 3) (by decide +kernel) (pm_c2 97 rfl rfl) (pm_c1 38 rfl rfl) (pm_c1 39 rfl rfl) (Nat.le_of_ble_eq_true rfl) (Nat.le_of_ble_eq_true rfl) ?_
  refine pm_blk (pc' := 8) (L' := [(0, .ref 45)]) (S' := [.int 4000, .ref 45]) (M' := cm 46 44577 rf_57 ua_40) [pm_o (.aload_n 0), pm_oi (.sipush 4000) 4000] (by decide +kernel) rfl ?_
  refine pm_newi 4000 (by decide +kernel) (pm_c1 53 rfl rfl) (by decide) (by decide) (Nat.le_of_ble_eq_true rfl) (Nat.le_of_ble_eq_true rfl) (Nat.le_of_ble_eq_true rfl) ?_
  refine pm_weak (M' := cm 47 48577 rf_57 ua_40) rfl rfl (fun _ _ h => cm_na rfl (fun _ => rfl) (fun _ => rfl) (fun _ => rfl) (fun _ => rfl) h) ?_
  refine pm_blk (pc' := 17) (L' := [(0, .ref 45)]) (S' := [.int 4000, .ref 45]) (M' := cm 47 48577 rf_58 ua_40) [pm_of (.putfield 11) 5 0 2, pm_o (.aload_n 0), pm_oi (.sipush 4000) 4000] (by decide +kernel) rfl ?_
  refine pm_newj 4000 (by decide +kernel) (pm_c1 54 rfl rfl) (by decide) (by decide) (Nat.le_of_ble_eq_true rfl) (Nat.le_of_ble_eq_true rfl) (Nat.le_of_ble_eq_true rfl) ?_
  refine pm_weak (M' := cm 48 52577 rf_58 ua_40) rfl rfl (fun _ _ h => cm_na rfl (fun _ => rfl) (fun _ => rfl) (fun _ => rfl) (fun _ => rfl) h) ?_
  refine pm_blk (pc' := 26) (L' := [(0, .ref 45)]) (S' := [.int 4000, .ref 45]) (M' := cm 48 52577 rf_59 ua_40) [pm_of (.putfield 15) 5 1 2, pm_o (.aload_n 0), pm_oi (.sipush 4000) 4000] (by decide +kernel) rfl ?_
  refine pm_newj 4000 (by decide +kernel) (pm_c1 54 rfl rfl) (by decide) (by decide) (Nat.le_of_ble_eq_true rfl) (Nat.le_of_ble_eq_true rfl) (Nat.le_of_ble_eq_true rfl) ?_
  refine pm_weak (M' := cm 49 56577 rf_59 ua_40) rfl rfl (fun _ _ h => cm_na rfl (fun _ => rfl) (fun _ => rfl) (fun _ => rfl) (fun _ => rfl) h) ?_
  refine pm_blk (pc' := 35) (L' := [(0, .ref 45)]) (S' := [.int 4000, .ref 45]) (M' := cm 49 56577 rf_60 ua_40) [pm_of (.putfield 19) 5 2 2, pm_o (.aload_n 0), pm_oi (.sipush 4000) 4000] (by decide +kernel) rfl ?_
  refine pm_newi 4000 (by decide +kernel) (pm_c1 53 rfl rfl) (by decide) (by decide) (Nat.le_of_ble_eq_true rfl) (Nat.le_of_ble_eq_true rfl) (Nat.le_of_ble_eq_true rfl) ?_
  refine pm_weak (M' := cm 50 60577 rf_60 ua_40) rfl rfl (fun _ _ h => cm_na rfl (fun _ => rfl) (fun _ => rfl) (fun _ => rfl) (fun _ => rfl) h) ?_
  refine pm_blk (pc' := 43) (L' := [(0, .ref 45)]) (S' := [.int 6, .ref 45]) (M' := cm 50 60577 rf_61 ua_40) [pm_of (.putfield 22) 5 3 2, pm_o (.aload_n 0), pm_oi (.bipush 6) 6] (by decide +kernel) rfl ?_
  refine pm_newi 6 (by decide +kernel) (pm_c1 53 rfl rfl) (by decide) (by decide) (Nat.le_of_ble_eq_true rfl) (Nat.le_of_ble_eq_true rfl) (Nat.le_of_ble_eq_true rfl) ?_
  refine pm_weak (M' := cm 51 60583 rf_61 ua_40) rfl rfl (fun _ _ h => cm_na rfl (fun _ => rfl) (fun _ => rfl) (fun _ => rfl) (fun _ => rfl) h) ?_
  refine pm_blk (pc' := 51) (L' := [(0, .ref 45)]) (S' := [.int 60000, .ref 45]) (M' := cm 51 60583 rf_62 ua_40) [pm_of (.putfield 25) 5 4 2, pm_o (.aload_n 0), pm_oi (.ldc 28) 60000] (by decide +kernel) rfl ?_
  refine pm_newj 60000 (by decide +kernel) (pm_c1 54 rfl rfl) (by decide) (by decide) (Nat.le_of_ble_eq_true rfl) (Nat.le_of_ble_eq_true rfl) (Nat.le_of_ble_eq_true rfl) ?_
  refine pm_weak (M' := cm 52 120583 rf_62 ua_40) rfl rfl (fun _ _ h => cm_na rfl (fun _ => rfl) (fun _ => rfl) (fun _ => rfl) (fun _ => rfl) h) ?_
  refine pm_blk (pc' := 56) (L' := [(0, .ref 45)]) (S' := []) (M' := cm 52 120583 rf_63 ua_40) [pm_of (.putfield 29) 5 7 2] (by decide +kernel) rfl ?_
  exact pm_retv rfl (by decide +kernel) rfl rfl
set_option maxHeartbeats 4000000 in
set_option maxRecDepth 100000 in
theorem ci_Adapter_init (l : Launch) (h0 : Nat) (D : pm_D) : pm_C l h0 D m_Adapter_init 1 [.ref 52, .ref 10, .ref 18, .ref 45] (cm 53 120592 rf_64 ua_40) none (cm 57 124592 rf_71 ua_40) := by
  refine pm_met (by decide +kernel) (Nat.le_of_ble_eq_true rfl) (Nat.le_of_ble_eq_true rfl) (Nat.le_of_ble_eq_true rfl) ?_
  intro p e R s m args below meth c
  refine pm_blk (pc' := 1) (L' := [(0, .ref 52), (1, .ref 10), (2, .ref 18), (3, .ref 45)]) (S' := [.ref 52]) (M' := cm 53 120592 rf_64 ua_40) [pm_o (.aload_n 0)] (by decide +kernel) rfl ?_
  refine pm_obj (idx := 3) (by decide +kernel) (pm_c2 135 rfl rfl) (pm_c1 38 rfl rfl) (pm_c1 39 rfl rfl) (Nat.le_of_ble_eq_true rfl) (Nat.le_of_ble_eq_true rfl) ?_
  refine pm_blk (pc' := 23) (L' := [(0, .ref 52), (1, .ref 10), (2, .ref 18), (3, .ref 45)]) (S' := [.int 1000, .ref 52]) (M' := cm 53 120592 rf_67 ua_40) [pm_o (.aload_n 0), pm_o (.aload_n 1), pm_of (.putfield 9) 1 0 2, pm_o (.aload_n 0), pm_o (.aload_n 2), pm_of (.putfield 15) 1 1 2, pm_o (.aload_n 0), pm_o (.aload_n 3), pm_of (.putfield 19) 1 2 2, pm_o (.aload_n 0), pm_oi (.sipush 1000) 1000] (by decide +kernel) rfl ?_
  refine pm_newi 1000 (by decide +kernel) (pm_c1 53 rfl rfl) (by decide) (by decide) (Nat.le_of_ble_eq_true rfl) (Nat.le_of_ble_eq_true rfl) (Nat.le_of_ble_eq_true rfl) ?_
  refine pm_weak (M' := cm 54 121592 rf_67 ua_40) rfl rfl (fun _ _ h => cm_na rfl (fun _ => rfl) (fun _ => rfl) (fun _ => rfl) (fun _ => rfl) h) ?_
  refine pm_blk (pc' := 32) (L' := [(0, .ref 52), (1, .ref 10), (2, .ref 18), (3, .ref 45)]) (S' := [.int 1000, .ref 52]) (M' := cm 54 121592 rf_68 ua_40) [pm_of (.putfield 23) 1 3 2, pm_o (.aload_n 0), pm_oi (.sipush 1000) 1000] (by decide +kernel) rfl ?_
  refine pm_newi 1000 (by decide +kernel) (pm_c1 53 rfl rfl) (by decide) (by decide) (Nat.le_of_ble_eq_true rfl) (Nat.le_of_ble_eq_true rfl) (Nat.le_of_ble_eq_true rfl) ?_
  refine pm_weak (M' := cm 55 122592 rf_68 ua_40) rfl rfl (fun _ _ h => cm_na rfl (fun _ => rfl) (fun _ => rfl) (fun _ => rfl) (fun _ => rfl) h) ?_
  refine pm_blk (pc' := 41) (L' := [(0, .ref 52), (1, .ref 10), (2, .ref 18), (3, .ref 45)]) (S' := [.int 1000, .ref 52]) (M' := cm 55 122592 rf_69 ua_40) [pm_of (.putfield 27) 1 4 2, pm_o (.aload_n 0), pm_oi (.sipush 1000) 1000] (by decide +kernel) rfl ?_
  refine pm_newj 1000 (by decide +kernel) (pm_c1 54 rfl rfl) (by decide) (by decide) (Nat.le_of_ble_eq_true rfl) (Nat.le_of_ble_eq_true rfl) (Nat.le_of_ble_eq_true rfl) ?_
  refine pm_weak (M' := cm 56 123592 rf_69 ua_40) rfl rfl (fun _ _ h => cm_na rfl (fun _ => rfl) (fun _ => rfl) (fun _ => rfl) (fun _ => rfl) h) ?_
  refine pm_blk (pc' := 50) (L' := [(0, .ref 52), (1, .ref 10), (2, .ref 18), (3, .ref 45)]) (S' := [.int 1000, .ref 52]) (M' := cm 56 123592 rf_70 ua_40) [pm_of (.putfield 30) 1 5 2, pm_o (.aload_n 0), pm_oi (.sipush 1000) 1000] (by decide +kernel) rfl ?_
  refine pm_newj 1000 (by decide +kernel) (pm_c1 54 rfl rfl) (by decide) (by decide) (Nat.le_of_ble_eq_true rfl) (Nat.le_of_ble_eq_true rfl) (Nat.le_of_ble_eq_true rfl) ?_
  refine pm_weak (M' := cm 57 124592 rf_70 ua_40) rfl rfl (fun _ _ h => cm_na rfl (fun _ => rfl) (fun _ => rfl) (fun _ => rfl) (fun _ => rfl) h) ?_
  refine pm_blk (pc' := 55) (L' := [(0, .ref 52), (1, .ref 10), (2, .ref 18), (3, .ref 45)]) (S' := []) (M' := cm 57 124592 rf_71 ua_40) [pm_of (.putfield 34) 1 7 2] (by decide +kernel) rfl ?_
  exact pm_retv rfl (by decide +kernel) rfl rfl
set_option maxHeartbeats 4000000 in
set_option maxRecDepth 100000 in
theorem ci_Frames_init (l : Launch) (h0 : Nat) (D : pm_D) : pm_C l h0 D m_Frames_init 1 [.ref 57] (cm 58 124600 rf_72 ua_40) none (cm 64 126250 rf_78 ua_40) := by
  refine pm_met (by decide +kernel) (Nat.le_of_ble_eq_true rfl) (Nat.le_of_ble_eq_true rfl) (Nat.le_of_ble_eq_true rfl) ?_
  intro p e R s m args below meth c
  refine pm_blk (pc' := 1) (L' := [(0, .ref 57)]) (S' := [.ref 57]) (M' := cm 58 124600 rf_72 ua_40) [pm_o (.aload_n 0)] (by decide +kernel) rfl ?_
  refine pm_obj (idx := 5) (by decide +kernel) (pm_c2 169 rfl rfl) (pm_c1 38 rfl rfl) (pm_c1 39 rfl rfl) (Nat.le_of_ble_eq_true rfl) (Nat.le_of_ble_eq_true rfl) ?_
  refine pm_blk (pc' := 8) (L' := [(0, .ref 57)]) (S' := [.int 150, .ref 57]) (M' := cm 58 124600 rf_72 ua_40) [pm_o (.aload_n 0), pm_oi (.sipush 150) 150] (by decide +kernel) rfl ?_
  refine pm_newi 150 (by decide +kernel) (pm_c1 53 rfl rfl) (by decide) (by decide) (Nat.le_of_ble_eq_true rfl) (Nat.le_of_ble_eq_true rfl) (Nat.le_of_ble_eq_true rfl) ?_
  refine pm_weak (M' := cm 59 124750 rf_72 ua_40) rfl rfl (fun _ _ h => cm_na rfl (fun _ => rfl) (fun _ => rfl) (fun _ => rfl) (fun _ => rfl) h) ?_
  refine pm_blk (pc' := 17) (L' := [(0, .ref 57)]) (S' := [.int 150, .ref 57]) (M' := cm 59 124750 rf_73 ua_40) [pm_of (.putfield 13) 4 0 2, pm_o (.aload_n 0), pm_oi (.sipush 150) 150] (by decide +kernel) rfl ?_
  refine pm_newi 150 (by decide +kernel) (pm_c1 53 rfl rfl) (by decide) (by decide) (Nat.le_of_ble_eq_true rfl) (Nat.le_of_ble_eq_true rfl) (Nat.le_of_ble_eq_true rfl) ?_
  refine pm_weak (M' := cm 60 124900 rf_73 ua_40) rfl rfl (fun _ _ h => cm_na rfl (fun _ => rfl) (fun _ => rfl) (fun _ => rfl) (fun _ => rfl) h) ?_
  refine pm_blk (pc' := 26) (L' := [(0, .ref 57)]) (S' := [.int 150, .ref 57]) (M' := cm 60 124900 rf_74 ua_40) [pm_of (.putfield 17) 4 1 2, pm_o (.aload_n 0), pm_oi (.sipush 150) 150] (by decide +kernel) rfl ?_
  refine pm_newi 150 (by decide +kernel) (pm_c1 53 rfl rfl) (by decide) (by decide) (Nat.le_of_ble_eq_true rfl) (Nat.le_of_ble_eq_true rfl) (Nat.le_of_ble_eq_true rfl) ?_
  refine pm_weak (M' := cm 61 125050 rf_74 ua_40) rfl rfl (fun _ _ h => cm_na rfl (fun _ => rfl) (fun _ => rfl) (fun _ => rfl) (fun _ => rfl) h) ?_
  refine pm_blk (pc' := 35) (L' := [(0, .ref 57)]) (S' := [.int 150, .ref 57]) (M' := cm 61 125050 rf_75 ua_40) [pm_of (.putfield 20) 4 2 2, pm_o (.aload_n 0), pm_oi (.sipush 150) 150] (by decide +kernel) rfl ?_
  refine pm_newi 150 (by decide +kernel) (pm_c1 53 rfl rfl) (by decide) (by decide) (Nat.le_of_ble_eq_true rfl) (Nat.le_of_ble_eq_true rfl) (Nat.le_of_ble_eq_true rfl) ?_
  refine pm_weak (M' := cm 62 125200 rf_75 ua_40) rfl rfl (fun _ _ h => cm_na rfl (fun _ => rfl) (fun _ => rfl) (fun _ => rfl) (fun _ => rfl) h) ?_
  refine pm_blk (pc' := 44) (L' := [(0, .ref 57)]) (S' := [.int 150, .ref 57]) (M' := cm 62 125200 rf_76 ua_40) [pm_of (.putfield 23) 4 3 2, pm_o (.aload_n 0), pm_oi (.sipush 150) 150] (by decide +kernel) rfl ?_
  refine pm_newi 150 (by decide +kernel) (pm_c1 53 rfl rfl) (by decide) (by decide) (Nat.le_of_ble_eq_true rfl) (Nat.le_of_ble_eq_true rfl) (Nat.le_of_ble_eq_true rfl) ?_
  refine pm_weak (M' := cm 63 125350 rf_76 ua_40) rfl rfl (fun _ _ h => cm_na rfl (fun _ => rfl) (fun _ => rfl) (fun _ => rfl) (fun _ => rfl) h) ?_
  refine pm_blk (pc' := 53) (L' := [(0, .ref 57)]) (S' := [.int 900, .ref 57]) (M' := cm 63 125350 rf_77 ua_40) [pm_of (.putfield 26) 4 4 2, pm_o (.aload_n 0), pm_oi (.sipush 900) 900] (by decide +kernel) rfl ?_
  refine pm_newj 900 (by decide +kernel) (pm_c1 54 rfl rfl) (by decide) (by decide) (Nat.le_of_ble_eq_true rfl) (Nat.le_of_ble_eq_true rfl) (Nat.le_of_ble_eq_true rfl) ?_
  refine pm_weak (M' := cm 64 126250 rf_77 ua_40) rfl rfl (fun _ _ h => cm_na rfl (fun _ => rfl) (fun _ => rfl) (fun _ => rfl) (fun _ => rfl) h) ?_
  refine pm_blk (pc' := 58) (L' := [(0, .ref 57)]) (S' := []) (M' := cm 64 126250 rf_78 ua_40) [pm_of (.putfield 29) 4 5 2] (by decide +kernel) rfl ?_
  exact pm_retv rfl (by decide +kernel) rfl rfl
set_option maxHeartbeats 4000000 in
set_option maxRecDepth 100000 in
theorem ci_Machine_init (l : Launch) (h0 : Nat) (D : pm_D) : pm_C l h0 D m_Machine_init 2 [.ref 44, .ref 10, .ref 18, .ref 29] (cm 45 44567 rf_54 ua_40) none (cm 64 126250 rf_79 ua_40) := by
  refine pm_met (by decide +kernel) (Nat.le_of_ble_eq_true rfl) (Nat.le_of_ble_eq_true rfl) (Nat.le_of_ble_eq_true rfl) ?_
  intro p e R s m args below meth c
  refine pm_blk (pc' := 1) (L' := [(0, .ref 44), (1, .ref 10), (2, .ref 18), (3, .ref 29)]) (S' := [.ref 44]) (M' := cm 45 44567 rf_54 ua_40) [pm_o (.aload_n 0)] (by decide +kernel) rfl ?_
  refine pm_obj (idx := 3) (by decide +kernel) (pm_c2 91 rfl rfl) (pm_c1 38 rfl rfl) (pm_c1 39 rfl rfl) (Nat.le_of_ble_eq_true rfl) (Nat.le_of_ble_eq_true rfl) ?_
  refine pm_blk (pc' := 20) (L' := [(0, .ref 44), (1, .ref 10), (2, .ref 18), (3, .ref 29)]) (S' := [.ref 44]) (M' := cm 45 44567 rf_57 ua_40) [pm_o (.aload_n 0), pm_o (.aload_n 1), pm_of (.putfield 9) 6 0 2, pm_o (.aload_n 0), pm_o (.aload_n 2), pm_of (.putfield 15) 6 1 2, pm_o (.aload_n 0), pm_o (.aload_n 3), pm_of (.putfield 19) 6 2 2, pm_o (.aload_n 0)] (by decide +kernel) rfl ?_
  refine pm_new 5 (idx := 23) (q := ("BoxedCore$Heap", cl_Heap, 10)) (by decide +kernel) rfl (by decide) (pm_c2 92 rfl rfl) (pm_c2 93 rfl rfl) (pm_c1 15 rfl rfl) (Nat.le_of_ble_eq_true rfl) (Nat.le_of_ble_eq_true rfl) (by decide +kernel) ?_
  refine pm_weak (M' := cm 46 44577 rf_57 ua_40) rfl rfl (fun _ _ h => cm_na rfl (fun h => absurd h (by decide)) (fun _ => rfl) (fun _ => rfl) (fun _ => rfl) h) ?_
  refine pm_blk (pc' := 24) (L' := [(0, .ref 44), (1, .ref 10), (2, .ref 18), (3, .ref 29)]) (S' := [.ref 45, .ref 45, .ref 44]) (M' := cm 46 44577 rf_57 ua_40) [pm_o .dup] (by decide +kernel) rfl ?_
  refine pm_cI (idx := 25) m_Heap_init (ci_Heap_init l h0 D) (As := []) (S0 := [.ref 45, .ref 44]) rfl (by decide +kernel) rfl k_Heap_init l_Machine_25 (Nat.le_of_ble_eq_true rfl) (Nat.le_of_ble_eq_true rfl) (Nat.le_of_ble_eq_true rfl) (Nat.le_of_ble_eq_true rfl) ?_
  refine pm_blk (pc' := 31) (L' := [(0, .ref 44), (1, .ref 10), (2, .ref 18), (3, .ref 29)]) (S' := [.ref 44]) (M' := cm 52 120583 rf_64 ua_40) [pm_of (.putfield 26) 6 3 2, pm_o (.aload_n 0)] (by decide +kernel) rfl ?_
  refine pm_new 1 (idx := 30) (q := ("BoxedCore$Adapter", cl_Adapter, 9)) (by decide +kernel) rfl (by decide) (pm_c2 130 rfl rfl) (pm_c2 131 rfl rfl) (pm_c1 16 rfl rfl) (Nat.le_of_ble_eq_true rfl) (Nat.le_of_ble_eq_true rfl) (by decide +kernel) ?_
  refine pm_weak (M' := cm 53 120592 rf_64 ua_40) rfl rfl (fun _ _ h => cm_na rfl (fun h => absurd h (by decide)) (fun _ => rfl) (fun _ => rfl) (fun _ => rfl) h) ?_
  refine pm_blk (pc' := 41) (L' := [(0, .ref 44), (1, .ref 10), (2, .ref 18), (3, .ref 29)]) (S' := [.ref 45, .ref 18, .ref 10, .ref 52, .ref 52, .ref 44]) (M' := cm 53 120592 rf_64 ua_40) [pm_o .dup, pm_o (.aload_n 1), pm_o (.aload_n 2), pm_o (.aload_n 0), pm_of (.getfield 26) 6 3 2] (by decide +kernel) rfl ?_
  refine pm_cI (idx := 32) m_Adapter_init (ci_Adapter_init l h0 D) (As := [.ref 10, .ref 18, .ref 45]) (S0 := [.ref 52, .ref 44]) rfl (by decide +kernel) rfl k_Adapter_init l_Machine_32 (Nat.le_of_ble_eq_true rfl) (Nat.le_of_ble_eq_true rfl) (Nat.le_of_ble_eq_true rfl) (Nat.le_of_ble_eq_true rfl) ?_
  refine pm_blk (pc' := 48) (L' := [(0, .ref 44), (1, .ref 10), (2, .ref 18), (3, .ref 29)]) (S' := [.ref 44]) (M' := cm 57 124592 rf_72 ua_40) [pm_of (.putfield 35) 6 4 2, pm_o (.aload_n 0)] (by decide +kernel) rfl ?_
  refine pm_new 4 (idx := 39) (q := ("BoxedCore$Frames", cl_Frames, 8)) (by decide +kernel) rfl (by decide) (pm_c2 164 rfl rfl) (pm_c2 165 rfl rfl) (pm_c1 17 rfl rfl) (Nat.le_of_ble_eq_true rfl) (Nat.le_of_ble_eq_true rfl) (by decide +kernel) ?_
  refine pm_weak (M' := cm 58 124600 rf_72 ua_40) rfl rfl (fun _ _ h => cm_na rfl (fun h => absurd h (by decide)) (fun _ => rfl) (fun _ => rfl) (fun _ => rfl) h) ?_
  refine pm_blk (pc' := 52) (L' := [(0, .ref 44), (1, .ref 10), (2, .ref 18), (3, .ref 29)]) (S' := [.ref 57, .ref 57, .ref 44]) (M' := cm 58 124600 rf_72 ua_40) [pm_o .dup] (by decide +kernel) rfl ?_
  refine pm_cI (idx := 41) m_Frames_init (ci_Frames_init l h0 D) (As := []) (S0 := [.ref 57, .ref 44]) rfl (by decide +kernel) rfl k_Frames_init l_Machine_41 (Nat.le_of_ble_eq_true rfl) (Nat.le_of_ble_eq_true rfl) (Nat.le_of_ble_eq_true rfl) (Nat.le_of_ble_eq_true rfl) ?_
  refine pm_blk (pc' := 58) (L' := [(0, .ref 44), (1, .ref 10), (2, .ref 18), (3, .ref 29)]) (S' := []) (M' := cm 64 126250 rf_79 ua_40) [pm_of (.putfield 42) 6 5 2] (by decide +kernel) rfl ?_
  exact pm_retv rfl (by decide +kernel) rfl rfl
set_option maxHeartbeats 4000000 in
set_option maxRecDepth 100000 in
theorem ci_BC_init (l : Launch) (h0 : Nat) (D : pm_D) : pm_C l h0 D m_BC_init 5 [.ref 0] (cm 1 14 rf_0 ua_0) none (cm 64 126250 rf_80 ua_40) := by
  refine pm_met (by decide +kernel) (Nat.le_of_ble_eq_true rfl) (Nat.le_of_ble_eq_true rfl) (Nat.le_of_ble_eq_true rfl) ?_
  intro p e R s m args below meth c
  refine pm_blk (pc' := 1) (L' := [(0, .ref 0)]) (S' := [.ref 0]) (M' := cm 1 14 rf_0 ua_0) [pm_o (.aload_n 0)] (by decide +kernel) rfl ?_
  refine pm_obj (idx := 1) (by decide +kernel) (pm_c1 37 rfl rfl) (pm_c1 38 rfl rfl) (pm_c1 39 rfl rfl) (Nat.le_of_ble_eq_true rfl) (Nat.le_of_ble_eq_true rfl) ?_
  refine pm_blk (pc' := 8) (L' := [(0, .ref 0)]) (S' := [.int 3000, .ref 0]) (M' := cm 1 14 rf_0 ua_0) [pm_o (.aload_n 0), pm_oi (.sipush 3000) 3000] (by decide +kernel) rfl ?_
  refine pm_newi 3000 (by decide +kernel) (pm_c1 53 rfl rfl) (by decide) (by decide) (Nat.le_of_ble_eq_true rfl) (Nat.le_of_ble_eq_true rfl) (Nat.le_of_ble_eq_true rfl) ?_
  refine pm_weak (M' := cm 2 3014 rf_0 ua_0) rfl rfl (fun _ _ h => cm_na rfl (fun _ => rfl) (fun _ => rfl) (fun _ => rfl) (fun _ => rfl) h) ?_
  refine pm_blk (pc' := 16) (L' := [(0, .ref 0)]) (S' := [.int 6, .ref 0]) (M' := cm 2 3014 rf_1 ua_0) [pm_of (.putfield 9) 0 0 2, pm_o (.aload_n 0), pm_oi (.bipush 6) 6] (by decide +kernel) rfl ?_
  refine pm_newj 6 (by decide +kernel) (pm_c1 54 rfl rfl) (by decide) (by decide) (Nat.le_of_ble_eq_true rfl) (Nat.le_of_ble_eq_true rfl) (Nat.le_of_ble_eq_true rfl) ?_
  refine pm_weak (M' := cm 3 3020 rf_1 ua_0) rfl rfl (fun _ _ h => cm_na rfl (fun _ => rfl) (fun _ => rfl) (fun _ => rfl) (fun _ => rfl) h) ?_
  refine pm_blk (pc' := 22) (L' := [(0, .ref 0)]) (S' := [.ref 0]) (M' := cm 3 3020 rf_2 ua_0) [pm_of (.putfield 13) 0 3 2, pm_o (.aload_n 0)] (by decide +kernel) rfl ?_
  refine pm_new 3 (idx := 17) (q := ("BoxedCore$Fault", cl_Fault, 2)) (by decide +kernel) rfl (by decide) (pm_c1 40 rfl rfl) (pm_c1 41 rfl rfl) (pm_c1 2 rfl rfl) (Nat.le_of_ble_eq_true rfl) (Nat.le_of_ble_eq_true rfl) (by decide +kernel) ?_
  refine pm_weak (M' := cm 4 3022 rf_2 ua_0) rfl rfl (fun _ _ h => cm_na rfl (fun h => absurd h (by decide)) (fun _ => rfl) (fun _ => rfl) (fun _ => rfl) h) ?_
  refine pm_blk (pc' := 26) (L' := [(0, .ref 0)]) (S' := [.ref 3, .ref 3, .ref 0]) (M' := cm 4 3022 rf_2 ua_0) [pm_o .dup] (by decide +kernel) rfl ?_
  refine pm_cIN (idx := 19) m_Fault_init (ci_Fault_init l h0 D) (As := []) (S0 := [.ref 3, .ref 0]) rfl (by decide +kernel) rfl k_Fault_init "BoxedCore" List.mem_cons_self (Nat.le_of_ble_eq_true rfl) (Nat.le_of_ble_eq_true rfl) (Nat.le_of_ble_eq_true rfl) (Nat.le_of_ble_eq_true rfl) ?_
  refine pm_blk (pc' := 33) (L' := [(0, .ref 0)]) (S' := [.ref 0]) (M' := cm 4 3022 rf_3 ua_0) [pm_of (.putfield 20) 0 5 2, pm_o (.aload_n 0)] (by decide +kernel) rfl ?_
  refine pm_new 3 (idx := 17) (q := ("BoxedCore$Fault", cl_Fault, 2)) (by decide +kernel) rfl (by decide) (pm_c1 40 rfl rfl) (pm_c1 41 rfl rfl) (pm_c1 2 rfl rfl) (Nat.le_of_ble_eq_true rfl) (Nat.le_of_ble_eq_true rfl) (by decide +kernel) ?_
  refine pm_weak (M' := cm 5 3024 rf_3 ua_0) rfl rfl (fun _ _ h => cm_na rfl (fun h => absurd h (by decide)) (fun _ => rfl) (fun _ => rfl) (fun _ => rfl) h) ?_
  refine pm_blk (pc' := 37) (L' := [(0, .ref 0)]) (S' := [.ref 4, .ref 4, .ref 0]) (M' := cm 5 3024 rf_3 ua_0) [pm_o .dup] (by decide +kernel) rfl ?_
  refine pm_cIN (idx := 19) m_Fault_init (ci_Fault_init_2 l h0 D) (As := []) (S0 := [.ref 4, .ref 0]) rfl (by decide +kernel) rfl k_Fault_init "BoxedCore" List.mem_cons_self (Nat.le_of_ble_eq_true rfl) (Nat.le_of_ble_eq_true rfl) (Nat.le_of_ble_eq_true rfl) (Nat.le_of_ble_eq_true rfl) ?_
  refine pm_blk (pc' := 44) (L' := [(0, .ref 0)]) (S' := [.ref 0]) (M' := cm 5 3024 rf_4 ua_0) [pm_of (.putfield 24) 0 6 2, pm_o (.aload_n 0)] (by decide +kernel) rfl ?_
  refine pm_new 9 (idx := 27) (q := ("BoxedCore$Tokens", cl_Tokens, 7)) (by decide +kernel) rfl (by decide) (pm_c1 55 rfl rfl) (pm_c1 56 rfl rfl) (pm_c1 3 rfl rfl) (Nat.le_of_ble_eq_true rfl) (Nat.le_of_ble_eq_true rfl) (by decide +kernel) ?_
  refine pm_weak (M' := cm 6 3031 rf_4 ua_0) rfl rfl (fun _ _ h => cm_na rfl (fun h => absurd h (by decide)) (fun _ => rfl) (fun _ => rfl) (fun _ => rfl) h) ?_
  refine pm_blk (pc' := 52) (L' := [(0, .ref 0)]) (S' := [.ref 3, .ref 5, .ref 5, .ref 0]) (M' := cm 6 3031 rf_4 ua_0) [pm_o .dup, pm_o (.aload_n 0), pm_of (.getfield 20) 0 5 2] (by decide +kernel) rfl ?_
  refine pm_cI (idx := 29) m_Tokens_init (ci_Tokens_init l h0 D) (As := [.ref 3]) (S0 := [.ref 5, .ref 0]) rfl (by decide +kernel) rfl k_Tokens_init l_BC_29 (Nat.le_of_ble_eq_true rfl) (Nat.le_of_ble_eq_true rfl) (Nat.le_of_ble_eq_true rfl) (Nat.le_of_ble_eq_true rfl) ?_
  refine pm_blk (pc' := 59) (L' := [(0, .ref 0)]) (S' := [.ref 0]) (M' := cm 10 5741 rf_10 ua_10) [pm_of (.putfield 32) 0 7 2, pm_o (.aload_n 0)] (by decide +kernel) rfl ?_
  refine pm_new 11 (idx := 36) (q := ("BoxedCore$Types", cl_Types, 8)) (by decide +kernel) rfl (by decide) (pm_c1 140 rfl rfl) (pm_c1 141 rfl rfl) (pm_c1 8 rfl rfl) (Nat.le_of_ble_eq_true rfl) (Nat.le_of_ble_eq_true rfl) (by decide +kernel) ?_
  refine pm_weak (M' := cm 11 5749 rf_10 ua_10) rfl rfl (fun _ _ h => cm_na rfl (fun h => absurd h (by decide)) (fun _ => rfl) (fun _ => rfl) (fun _ => rfl) h) ?_
  refine pm_blk (pc' := 63) (L' := [(0, .ref 0)]) (S' := [.ref 10, .ref 10, .ref 0]) (M' := cm 11 5749 rf_10 ua_10) [pm_o .dup] (by decide +kernel) rfl ?_
  refine pm_cI (idx := 38) m_Types_init (ci_Types_init l h0 D) (As := []) (S0 := [.ref 10, .ref 0]) rfl (by decide +kernel) rfl k_Types_init l_BC_38 (Nat.le_of_ble_eq_true rfl) (Nat.le_of_ble_eq_true rfl) (Nat.le_of_ble_eq_true rfl) (Nat.le_of_ble_eq_true rfl) ?_
  refine pm_blk (pc' := 70) (L' := [(0, .ref 0)]) (S' := [.ref 0]) (M' := cm 18 19061 rf_18 ua_40) [pm_of (.putfield 39) 0 8 2, pm_o (.aload_n 0)] (by decide +kernel) rfl ?_
  refine pm_new 10 (idx := 43) (q := ("BoxedCore$Tree", cl_Tree, 11)) (by decide +kernel) rfl (by decide) (pm_c1 174 rfl rfl) (pm_c1 175 rfl rfl) (pm_c1 10 rfl rfl) (Nat.le_of_ble_eq_true rfl) (Nat.le_of_ble_eq_true rfl) (by decide +kernel) ?_
  refine pm_weak (M' := cm 19 19072 rf_18 ua_40) rfl rfl (fun _ _ h => cm_na rfl (fun h => absurd h (by decide)) (fun _ => rfl) (fun _ => rfl) (fun _ => rfl) h) ?_
  refine pm_blk (pc' := 74) (L' := [(0, .ref 0)]) (S' := [.ref 18, .ref 18, .ref 0]) (M' := cm 19 19072 rf_18 ua_40) [pm_o .dup] (by decide +kernel) rfl ?_
  refine pm_cI (idx := 45) m_Tree_init (ci_Tree_init l h0 D) (As := []) (S0 := [.ref 18, .ref 0]) rfl (by decide +kernel) rfl k_Tree_init l_BC_45 (Nat.le_of_ble_eq_true rfl) (Nat.le_of_ble_eq_true rfl) (Nat.le_of_ble_eq_true rfl) (Nat.le_of_ble_eq_true rfl) ?_
  refine pm_blk (pc' := 81) (L' := [(0, .ref 0)]) (S' := [.ref 0]) (M' := cm 29 42472 rf_29 ua_40) [pm_of (.putfield 46) 0 9 2, pm_o (.aload_n 0)] (by decide +kernel) rfl ?_
  refine pm_new 8 (idx := 50) (q := ("BoxedCore$Table", cl_Table, 10)) (by decide +kernel) rfl (by decide) (pm_c1 215 rfl rfl) (pm_c1 216 rfl rfl) (pm_c1 11 rfl rfl) (Nat.le_of_ble_eq_true rfl) (Nat.le_of_ble_eq_true rfl) (by decide +kernel) ?_
  refine pm_weak (M' := cm 30 42482 rf_29 ua_40) rfl rfl (fun _ _ h => cm_na rfl (fun h => absurd h (by decide)) (fun _ => rfl) (fun _ => rfl) (fun _ => rfl) h) ?_
  refine pm_blk (pc' := 85) (L' := [(0, .ref 0)]) (S' := [.ref 29, .ref 29, .ref 0]) (M' := cm 30 42482 rf_29 ua_40) [pm_o .dup] (by decide +kernel) rfl ?_
  refine pm_cI (idx := 52) m_Table_init (ci_Table_init l h0 D) (As := []) (S0 := [.ref 29, .ref 0]) rfl (by decide +kernel) rfl k_Table_init l_BC_52 (Nat.le_of_ble_eq_true rfl) (Nat.le_of_ble_eq_true rfl) (Nat.le_of_ble_eq_true rfl) (Nat.le_of_ble_eq_true rfl) ?_
  refine pm_blk (pc' := 92) (L' := [(0, .ref 0)]) (S' := [.ref 0]) (M' := cm 39 44282 rf_39 ua_40) [pm_of (.putfield 53) 0 10 2, pm_o (.aload_n 0)] (by decide +kernel) rfl ?_
  refine pm_new 7 (idx := 57) (q := ("BoxedCore$Parser", cl_Parser, 15)) (by decide +kernel) rfl (by decide) (pm_c2 12 rfl rfl) (pm_c2 13 rfl rfl) (pm_c1 12 rfl rfl) (Nat.le_of_ble_eq_true rfl) (Nat.le_of_ble_eq_true rfl) (by decide +kernel) ?_
  refine pm_weak (M' := cm 40 44297 rf_39 ua_40) rfl rfl (fun _ _ h => cm_na rfl (fun h => absurd h (by decide)) (fun _ => rfl) (fun _ => rfl) (fun _ => rfl) h) ?_
  refine pm_blk (pc' := 120) (L' := [(0, .ref 0)]) (S' := [.ref 4, .ref 3, .ref 29, .ref 18, .ref 10, .ref 5, .ref 39, .ref 39, .ref 0]) (M' := cm 40 44297 rf_39 ua_40) [pm_o .dup, pm_o (.aload_n 0), pm_of (.getfield 32) 0 7 2, pm_o (.aload_n 0), pm_of (.getfield 39) 0 8 2, pm_o (.aload_n 0), pm_of (.getfield 46) 0 9 2, pm_o (.aload_n 0), pm_of (.getfield 53) 0 10 2, pm_o (.aload_n 0), pm_of (.getfield 20) 0 5 2, pm_o (.aload_n 0), pm_of (.getfield 24) 0 6 2] (by decide +kernel) rfl ?_
  refine pm_cI (idx := 59) m_Parser_init (ci_Parser_init l h0 D) (As := [.ref 5, .ref 10, .ref 18, .ref 29, .ref 3, .ref 4]) (S0 := [.ref 39, .ref 0]) rfl (by decide +kernel) rfl k_Parser_init l_BC_59 (Nat.le_of_ble_eq_true rfl) (Nat.le_of_ble_eq_true rfl) (Nat.le_of_ble_eq_true rfl) (Nat.le_of_ble_eq_true rfl) ?_
  refine pm_blk (pc' := 127) (L' := [(0, .ref 0)]) (S' := [.ref 0]) (M' := cm 43 44545 rf_49 ua_40) [pm_of (.putfield 62) 0 11 2, pm_o (.aload_n 0)] (by decide +kernel) rfl ?_
  refine pm_new 2 (idx := 66) (q := ("BoxedCore$Checker", cl_Checker, 5)) (by decide +kernel) rfl (by decide) (pm_c2 64 rfl rfl) (pm_c2 65 rfl rfl) (pm_c1 13 rfl rfl) (Nat.le_of_ble_eq_true rfl) (Nat.le_of_ble_eq_true rfl) (by decide +kernel) ?_
  refine pm_weak (M' := cm 44 44550 rf_49 ua_40) rfl rfl (fun _ _ h => cm_na rfl (fun h => absurd h (by decide)) (fun _ => rfl) (fun _ => rfl) (fun _ => rfl) h) ?_
  refine pm_blk (pc' := 147) (L' := [(0, .ref 0)]) (S' := [.ref 3, .ref 29, .ref 18, .ref 10, .ref 43, .ref 43, .ref 0]) (M' := cm 44 44550 rf_49 ua_40) [pm_o .dup, pm_o (.aload_n 0), pm_of (.getfield 39) 0 8 2, pm_o (.aload_n 0), pm_of (.getfield 46) 0 9 2, pm_o (.aload_n 0), pm_of (.getfield 53) 0 10 2, pm_o (.aload_n 0), pm_of (.getfield 20) 0 5 2] (by decide +kernel) rfl ?_
  refine pm_cI (idx := 68) m_Checker_init (ci_Checker_init l h0 D) (As := [.ref 10, .ref 18, .ref 29, .ref 3]) (S0 := [.ref 43, .ref 0]) rfl (by decide +kernel) rfl k_Checker_init l_BC_68 (Nat.le_of_ble_eq_true rfl) (Nat.le_of_ble_eq_true rfl) (Nat.le_of_ble_eq_true rfl) (Nat.le_of_ble_eq_true rfl) ?_
  refine pm_blk (pc' := 154) (L' := [(0, .ref 0)]) (S' := [.ref 0]) (M' := cm 44 44550 rf_54 ua_40) [pm_of (.putfield 71) 0 12 2, pm_o (.aload_n 0)] (by decide +kernel) rfl ?_
  refine pm_new 6 (idx := 75) (q := ("BoxedCore$Machine", cl_Machine, 17)) (by decide +kernel) rfl (by decide) (pm_c2 86 rfl rfl) (pm_c2 87 rfl rfl) (pm_c1 14 rfl rfl) (Nat.le_of_ble_eq_true rfl) (Nat.le_of_ble_eq_true rfl) (by decide +kernel) ?_
  refine pm_weak (M' := cm 45 44567 rf_54 ua_40) rfl rfl (fun _ _ h => cm_na rfl (fun h => absurd h (by decide)) (fun _ => rfl) (fun _ => rfl) (fun _ => rfl) h) ?_
  refine pm_blk (pc' := 170) (L' := [(0, .ref 0)]) (S' := [.ref 29, .ref 18, .ref 10, .ref 44, .ref 44, .ref 0]) (M' := cm 45 44567 rf_54 ua_40) [pm_o .dup, pm_o (.aload_n 0), pm_of (.getfield 39) 0 8 2, pm_o (.aload_n 0), pm_of (.getfield 46) 0 9 2, pm_o (.aload_n 0), pm_of (.getfield 53) 0 10 2] (by decide +kernel) rfl ?_
  refine pm_cI (idx := 77) m_Machine_init (ci_Machine_init l h0 D) (As := [.ref 10, .ref 18, .ref 29]) (S0 := [.ref 44, .ref 0]) rfl (by decide +kernel) rfl k_Machine_init l_BC_77 (Nat.le_of_ble_eq_true rfl) (Nat.le_of_ble_eq_true rfl) (Nat.le_of_ble_eq_true rfl) (Nat.le_of_ble_eq_true rfl) ?_
  refine pm_blk (pc' := 176) (L' := [(0, .ref 0)]) (S' := []) (M' := cm 64 126250 rf_80 ua_40) [pm_of (.putfield 80) 0 13 2] (by decide +kernel) rfl ?_
  exact pm_retv rfl (by decide +kernel) rfl rfl
