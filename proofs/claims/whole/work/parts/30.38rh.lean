set_option maxRecDepth 100000
theorem xt10 (N : Nat) (x y : Int32) (g : pm_s) (u : pm_J) : F_Md_exprTask N 10 x y g u = ((F_Md_expr N g u).bind fun q2 => some q2) := by
  unfold F_Md_exprTask; rw [if_pos rfl]
theorem xt11 (N : Nat) (x y : Int32) (g : pm_s) (u : pm_J) : F_Md_exprTask N 11 x y g u = ((F_Md_take g (wi (wi u 64 67 ((u.1 64 67) - 1)) 64 61 ((u.1 64 61) - 1))).bind fun q4 => (F_Md_take g q4.2).bind fun q5 => (F_Md_node N 4 x q5.1 q4.1 (-1) g q5.2).bind fun q6 => if pm_ok q6.1 2400 = true then if pm_ok q5.1 2400 = true then (F_Md_give q6.1 g (wi (wi q6.2 82 q6.1.toNatClampNeg y) 86 q5.1.toNatClampNeg y)).bind fun q9 => some q9 else none else none) := by
  unfold F_Md_exprTask; rw [if_neg (show ¬ ((11 : Int32) = 10) by decide), if_pos rfl]
theorem xt12 (N : Nat) (x y : Int32) (g : pm_s) (u : pm_J) : F_Md_exprTask N 12 x y g u = ((F_Md_expect N 5 g u).bind fun q11 => (F_Md_enter (y - y / 100 * 100) (y / 100) g q11).bind fun q12 => (F_Md_later 11 x (y - y / 100 * 100) g q12).bind fun q13 => (F_Md_later 10 0 0 g q13).bind fun q14 => some q14) := by
  unfold F_Md_exprTask; rw [if_neg (show ¬ ((12 : Int32) = 10) by decide), if_neg (show ¬ ((12 : Int32) = 11) by decide), if_pos rfl]
theorem xt13 (N : Nat) (x y : Int32) (g : pm_s) (u : pm_J) : F_Md_exprTask N 13 x y g u = (K_Md_exprTask_172 N g 13 x u) := by
  unfold F_Md_exprTask; rw [if_neg (show ¬ ((13 : Int32) = 10) by decide), if_neg (show ¬ ((13 : Int32) = 11) by decide), if_neg (show ¬ ((13 : Int32) = 12) by decide), if_pos rfl]
theorem xt14 (N : Nat) (x y : Int32) (g : pm_s) (u : pm_J) : F_Md_exprTask N 14 x y g u = (K_Md_exprTask_172 N g 14 x u) := by
  unfold F_Md_exprTask; rw [if_neg (show ¬ ((14 : Int32) = 10) by decide), if_neg (show ¬ ((14 : Int32) = 11) by decide), if_neg (show ¬ ((14 : Int32) = 12) by decide), if_neg (show ¬ ((14 : Int32) = 13) by decide), if_pos rfl]
theorem xt15 (N : Nat) (x y : Int32) (g : pm_s) (u : pm_J) : F_Md_exprTask N 15 x y g u = ((F_Md_take g (wi u 64 61 ((u.1 64 61) - 1))).bind fun q25 => (F_Md_take g q25.2).bind fun q26 => (F_Md_take g q26.2).bind fun q27 => (F_Md_node N 6 x q27.1 q26.1 q25.1 g q27.2).bind fun q28 => (F_Md_give q28.1 g q28.2).bind fun q29 => some q29) := by
  unfold F_Md_exprTask; rw [if_neg (show ¬ ((15 : Int32) = 10) by decide), if_neg (show ¬ ((15 : Int32) = 11) by decide), if_neg (show ¬ ((15 : Int32) = 12) by decide), if_neg (show ¬ ((15 : Int32) = 13) by decide), if_neg (show ¬ ((15 : Int32) = 14) by decide), if_pos rfl]
theorem xt16 (N : Nat) (x y : Int32) (g : pm_s) (u : pm_J) : F_Md_exprTask N 16 x y g u = ((F_Md_expect N 16 g u).bind fun q31 => (F_Md_expect N 20 g q31).bind fun q32 => if (q32.1 64 52) = 0 then K_Md_exprTask_321 N g x y q32 else (F_Md_takeType g q32).bind fun q37 => if pm_ok ((24 * (q37.2.1 64 44)) + (y - y / 100 * 100)) 720 = true then (F_Md_checkFnType N q37.1 (y / 100) g (wi q37.2 100 (((24 * (q37.2.1 64 44)) + (y - y / 100 * 100)).toNatClampNeg) q37.1)).bind fun q39 => K_Md_exprTask_321 N g x y q39 else none) := by
  unfold F_Md_exprTask; rw [if_neg (show ¬ ((16 : Int32) = 10) by decide), if_neg (show ¬ ((16 : Int32) = 11) by decide), if_neg (show ¬ ((16 : Int32) = 12) by decide), if_neg (show ¬ ((16 : Int32) = 13) by decide), if_neg (show ¬ ((16 : Int32) = 14) by decide), if_neg (show ¬ ((16 : Int32) = 15) by decide), if_pos rfl]
theorem xt17 (N : Nat) (x y : Int32) (g : pm_s) (u : pm_J) : F_Md_exprTask N 17 x y g u = ((F_Md_take g (wi (wi u 64 67 ((u.1 64 67) - 1)) 64 61 ((u.1 64 61) - 1))).bind fun q41 => (F_Md_node N 9 x q41.1 (-1) (-1) g q41.2).bind fun q42 => if pm_ok q42.1 2400 = true then (F_Md_give q42.1 g (wi q42.2 82 q42.1.toNatClampNeg y)).bind fun q44 => some q44 else none) := by
  unfold F_Md_exprTask; rw [if_neg (show ¬ ((17 : Int32) = 10) by decide), if_neg (show ¬ ((17 : Int32) = 11) by decide), if_neg (show ¬ ((17 : Int32) = 12) by decide), if_neg (show ¬ ((17 : Int32) = 13) by decide), if_neg (show ¬ ((17 : Int32) = 14) by decide), if_neg (show ¬ ((17 : Int32) = 15) by decide), if_neg (show ¬ ((17 : Int32) = 16) by decide), if_pos rfl]
theorem xt19 (N : Nat) (x y : Int32) (g : pm_s) (u : pm_J) : F_Md_exprTask N 19 x y g u = (some (wi u 64 61 ((u.1 64 61) - 1))) := by
  unfold F_Md_exprTask; rw [if_neg (show ¬ ((19 : Int32) = 10) by decide), if_neg (show ¬ ((19 : Int32) = 11) by decide), if_neg (show ¬ ((19 : Int32) = 12) by decide), if_neg (show ¬ ((19 : Int32) = 13) by decide), if_neg (show ¬ ((19 : Int32) = 14) by decide), if_neg (show ¬ ((19 : Int32) = 15) by decide), if_neg (show ¬ ((19 : Int32) = 16) by decide), if_neg (show ¬ ((19 : Int32) = 17) by decide), if_pos rfl]
theorem xt18 (N : Nat) (x y : Int32) (g : pm_s) (u : pm_J) : F_Md_exprTask N 18 x y g u = ((if pm_ok (u.1 64 51) 902 = true then if (u.1 66 ((u.1 64 51).toNatClampNeg)) = 25 then (F_Md_later 22 (u.1 64 51) 0 g u).bind fun q4 => (F_Md_later 20 0 0 g q4).bind fun q5 => some (wi q5 64 51 ((q5.1 64 51) + 1)) else some u else none).bind fun q46 => some q46) := by
  unfold F_Md_exprTask F_Md_sumTask; rw [if_neg (show ¬ ((18 : Int32) = 10) by decide), if_neg (show ¬ ((18 : Int32) = 11) by decide), if_neg (show ¬ ((18 : Int32) = 12) by decide), if_neg (show ¬ ((18 : Int32) = 13) by decide), if_neg (show ¬ ((18 : Int32) = 14) by decide), if_neg (show ¬ ((18 : Int32) = 15) by decide), if_neg (show ¬ ((18 : Int32) = 16) by decide), if_neg (show ¬ ((18 : Int32) = 17) by decide), if_neg (show ¬ ((18 : Int32) = 19) by decide), if_pos rfl]
theorem xt20 (N : Nat) (x y : Int32) (g : pm_s) (u : pm_J) : F_Md_exprTask N 20 x y g u = (((F_Md_later 21 0 0 g u).bind fun q7 => (F_Md_later 23 0 0 g q7).bind fun q8 => some q8).bind fun q46 => some q46) := by
  unfold F_Md_exprTask F_Md_sumTask; rw [if_neg (show ¬ ((20 : Int32) = 10) by decide), if_neg (show ¬ ((20 : Int32) = 11) by decide), if_neg (show ¬ ((20 : Int32) = 12) by decide), if_neg (show ¬ ((20 : Int32) = 13) by decide), if_neg (show ¬ ((20 : Int32) = 14) by decide), if_neg (show ¬ ((20 : Int32) = 15) by decide), if_neg (show ¬ ((20 : Int32) = 16) by decide), if_neg (show ¬ ((20 : Int32) = 17) by decide), if_neg (show ¬ ((20 : Int32) = 19) by decide), if_neg (show ¬ ((20 : Int32) = 18) by decide), if_pos rfl]
theorem xt21 (N : Nat) (x y : Int32) (g : pm_s) (u : pm_J) : F_Md_exprTask N 21 x y g u = ((if pm_ok (u.1 64 51) 902 = true then if (u.1 66 ((u.1 64 51).toNatClampNeg)) = 23 then if x = 8 then (F_Md_stop 3 (u.1 64 51) g u).bind fun q16 => K_Md_sumTask_168 N g x q16 else K_Md_sumTask_168 N g x u else if pm_ok (u.1 64 51) 902 = true then if (u.1 66 ((u.1 64 51).toNatClampNeg)) = 24 then if x = 8 then (F_Md_stop 3 (u.1 64 51) g u).bind fun q20 => K_Md_sumTask_168 N g x q20 else K_Md_sumTask_168 N g x u else some u else none else none).bind fun q46 => some q46) := by
  unfold F_Md_exprTask F_Md_sumTask; rw [if_neg (show ¬ ((21 : Int32) = 10) by decide), if_neg (show ¬ ((21 : Int32) = 11) by decide), if_neg (show ¬ ((21 : Int32) = 12) by decide), if_neg (show ¬ ((21 : Int32) = 13) by decide), if_neg (show ¬ ((21 : Int32) = 14) by decide), if_neg (show ¬ ((21 : Int32) = 15) by decide), if_neg (show ¬ ((21 : Int32) = 16) by decide), if_neg (show ¬ ((21 : Int32) = 17) by decide), if_neg (show ¬ ((21 : Int32) = 19) by decide), if_neg (show ¬ ((21 : Int32) = 18) by decide), if_neg (show ¬ ((21 : Int32) = 20) by decide), if_pos rfl]
theorem xt22 (N : Nat) (x y : Int32) (g : pm_s) (u : pm_J) : F_Md_exprTask N 22 x y g u = (((F_Md_take g u).bind fun q22 => (F_Md_take g q22.2).bind fun q23 => if pm_ok x 902 = true then (F_Md_node N (q23.2.1 66 x.toNatClampNeg) x q23.1 q22.1 (-1) g q23.2).bind fun q25 => (F_Md_give q25.1 g q25.2).bind fun q26 => some q26 else none).bind fun q46 => some q46) := by
  unfold F_Md_exprTask F_Md_sumTask; rw [if_neg (show ¬ ((22 : Int32) = 10) by decide), if_neg (show ¬ ((22 : Int32) = 11) by decide), if_neg (show ¬ ((22 : Int32) = 12) by decide), if_neg (show ¬ ((22 : Int32) = 13) by decide), if_neg (show ¬ ((22 : Int32) = 14) by decide), if_neg (show ¬ ((22 : Int32) = 15) by decide), if_neg (show ¬ ((22 : Int32) = 16) by decide), if_neg (show ¬ ((22 : Int32) = 17) by decide), if_neg (show ¬ ((22 : Int32) = 19) by decide), if_neg (show ¬ ((22 : Int32) = 18) by decide), if_neg (show ¬ ((22 : Int32) = 20) by decide), if_neg (show ¬ ((22 : Int32) = 21) by decide), if_pos rfl]
theorem xt23 (N : Nat) (x y : Int32) (g : pm_s) (u : pm_J) : F_Md_exprTask N 23 x y g u = ((if pm_ok (u.1 64 51) 902 = true then if (u.1 66 ((u.1 64 51).toNatClampNeg)) = 10 then K_Md_sumTask_273 N g  u else if pm_ok (u.1 64 51) 902 = true then if (u.1 66 ((u.1 64 51).toNatClampNeg)) = 11 then K_Md_sumTask_273 N g  u else if pm_ok (u.1 64 51) 902 = true then if (u.1 66 ((u.1 64 51).toNatClampNeg)) = 1 then K_Md_sumTask_329 N g (u.1 64 51) 24 u else K_Md_sumTask_329 N g (-1) 24 u else none else none else none).bind fun q46 => some q46) := by
  unfold F_Md_exprTask F_Md_sumTask; rw [if_neg (show ¬ ((23 : Int32) = 10) by decide), if_neg (show ¬ ((23 : Int32) = 11) by decide), if_neg (show ¬ ((23 : Int32) = 12) by decide), if_neg (show ¬ ((23 : Int32) = 13) by decide), if_neg (show ¬ ((23 : Int32) = 14) by decide), if_neg (show ¬ ((23 : Int32) = 15) by decide), if_neg (show ¬ ((23 : Int32) = 16) by decide), if_neg (show ¬ ((23 : Int32) = 17) by decide), if_neg (show ¬ ((23 : Int32) = 19) by decide), if_neg (show ¬ ((23 : Int32) = 18) by decide), if_neg (show ¬ ((23 : Int32) = 20) by decide), if_neg (show ¬ ((23 : Int32) = 21) by decide), if_neg (show ¬ ((23 : Int32) = 22) by decide), if_pos rfl]
theorem xt24 (N : Nat) (x y : Int32) (g : pm_s) (u : pm_J) : F_Md_exprTask N 24 x y g u = ((if pm_ok (u.1 64 51) 902 = true then if (u.1 66 ((u.1 64 51).toNatClampNeg)) = 12 then if y = 8 then (F_Md_stop 3 (u.1 64 51) g u).bind fun q44 => K_Md_sumTask_425 N g x y q44 else K_Md_sumTask_425 N g x y u else if (u.1 66 ((u.1 64 51).toNatClampNeg)) = 13 then if y = 8 then (F_Md_stop 3 (u.1 64 51) g u).bind fun q47 => K_Md_sumTask_425 N g x y q47 else K_Md_sumTask_425 N g x y u else if (u.1 66 ((u.1 64 51).toNatClampNeg)) = 1 then if y = 8 then (F_Md_stop 3 (u.1 64 51) g u).bind fun q50 => K_Md_sumTask_425 N g x y q50 else K_Md_sumTask_425 N g x y u else if (u.1 66 ((u.1 64 51).toNatClampNeg)) = 15 then if y = 8 then (F_Md_stop 3 (u.1 64 51) g u).bind fun q57 => K_Md_sumTask_425 N g x y q57 else K_Md_sumTask_425 N g x y u else if y ≤ 0 then some u else if x < 0 then (F_Md_row N y 0 g u).bind fun q54 => some q54 else (F_Md_row N y 1 g u).bind fun q55 => some q55 else none).bind fun q46 => some q46) := by
  unfold F_Md_exprTask F_Md_sumTask; rw [if_neg (show ¬ ((24 : Int32) = 10) by decide), if_neg (show ¬ ((24 : Int32) = 11) by decide), if_neg (show ¬ ((24 : Int32) = 12) by decide), if_neg (show ¬ ((24 : Int32) = 13) by decide), if_neg (show ¬ ((24 : Int32) = 14) by decide), if_neg (show ¬ ((24 : Int32) = 15) by decide), if_neg (show ¬ ((24 : Int32) = 16) by decide), if_neg (show ¬ ((24 : Int32) = 17) by decide), if_neg (show ¬ ((24 : Int32) = 19) by decide), if_neg (show ¬ ((24 : Int32) = 18) by decide), if_neg (show ¬ ((24 : Int32) = 20) by decide), if_neg (show ¬ ((24 : Int32) = 21) by decide), if_neg (show ¬ ((24 : Int32) = 22) by decide), if_neg (show ¬ ((24 : Int32) = 23) by decide), if_pos rfl]
theorem xt25 (N : Nat) (x y : Int32) (g : pm_s) (u : pm_J) : F_Md_exprTask N 25 x y g u = (((F_Md_atom N g u).bind fun q59 => some q59).bind fun q46 => some q46) := by
  unfold F_Md_exprTask F_Md_sumTask; rw [if_neg (show ¬ ((25 : Int32) = 10) by decide), if_neg (show ¬ ((25 : Int32) = 11) by decide), if_neg (show ¬ ((25 : Int32) = 12) by decide), if_neg (show ¬ ((25 : Int32) = 13) by decide), if_neg (show ¬ ((25 : Int32) = 14) by decide), if_neg (show ¬ ((25 : Int32) = 15) by decide), if_neg (show ¬ ((25 : Int32) = 16) by decide), if_neg (show ¬ ((25 : Int32) = 17) by decide), if_neg (show ¬ ((25 : Int32) = 19) by decide), if_neg (show ¬ ((25 : Int32) = 18) by decide), if_neg (show ¬ ((25 : Int32) = 20) by decide), if_neg (show ¬ ((25 : Int32) = 21) by decide), if_neg (show ¬ ((25 : Int32) = 22) by decide), if_neg (show ¬ ((25 : Int32) = 23) by decide), if_neg (show ¬ ((25 : Int32) = 24) by decide), if_pos rfl]
theorem xt26 (N : Nat) (x y : Int32) (g : pm_s) (u : pm_J) : F_Md_exprTask N 26 x y g u = ((if pm_ok (u.1 64 51) 902 = true then if (u.1 66 ((u.1 64 51).toNatClampNeg)) = 21 then (F_Md_later 27 (u.1 64 51) 0 g u).bind fun q64 => (F_Md_later 10 0 0 g q64).bind fun q65 => some (wi q65 64 51 ((q65.1 64 51) + 1)) else (F_Md_expect N 16 g u).bind fun q63 => some q63 else none).bind fun q46 => some q46) := by
  unfold F_Md_exprTask F_Md_sumTask; rw [if_neg (show ¬ ((26 : Int32) = 10) by decide), if_neg (show ¬ ((26 : Int32) = 11) by decide), if_neg (show ¬ ((26 : Int32) = 12) by decide), if_neg (show ¬ ((26 : Int32) = 13) by decide), if_neg (show ¬ ((26 : Int32) = 14) by decide), if_neg (show ¬ ((26 : Int32) = 15) by decide), if_neg (show ¬ ((26 : Int32) = 16) by decide), if_neg (show ¬ ((26 : Int32) = 17) by decide), if_neg (show ¬ ((26 : Int32) = 19) by decide), if_neg (show ¬ ((26 : Int32) = 18) by decide), if_neg (show ¬ ((26 : Int32) = 20) by decide), if_neg (show ¬ ((26 : Int32) = 21) by decide), if_neg (show ¬ ((26 : Int32) = 22) by decide), if_neg (show ¬ ((26 : Int32) = 23) by decide), if_neg (show ¬ ((26 : Int32) = 24) by decide), if_neg (show ¬ ((26 : Int32) = 25) by decide), if_pos rfl]
theorem xt28 (N : Nat) (x y : Int32) (g : pm_s) (u : pm_J) : F_Md_exprTask N 28 x y g u = (((F_Md_take g u).bind fun q67 => if pm_ok x 902 = true then (F_Md_node N (q67.2.1 66 x.toNatClampNeg) x q67.1 (-1) (-1) g q67.2).bind fun q69 => (F_Md_give q69.1 g q69.2).bind fun q70 => some q70 else none).bind fun q46 => some q46) := by
  unfold F_Md_exprTask F_Md_sumTask; rw [if_neg (show ¬ ((28 : Int32) = 10) by decide), if_neg (show ¬ ((28 : Int32) = 11) by decide), if_neg (show ¬ ((28 : Int32) = 12) by decide), if_neg (show ¬ ((28 : Int32) = 13) by decide), if_neg (show ¬ ((28 : Int32) = 14) by decide), if_neg (show ¬ ((28 : Int32) = 15) by decide), if_neg (show ¬ ((28 : Int32) = 16) by decide), if_neg (show ¬ ((28 : Int32) = 17) by decide), if_neg (show ¬ ((28 : Int32) = 19) by decide), if_neg (show ¬ ((28 : Int32) = 18) by decide), if_neg (show ¬ ((28 : Int32) = 20) by decide), if_neg (show ¬ ((28 : Int32) = 21) by decide), if_neg (show ¬ ((28 : Int32) = 22) by decide), if_neg (show ¬ ((28 : Int32) = 23) by decide), if_neg (show ¬ ((28 : Int32) = 24) by decide), if_neg (show ¬ ((28 : Int32) = 25) by decide), if_neg (show ¬ ((28 : Int32) = 26) by decide), if_pos rfl]
theorem xt27 (N : Nat) (x y : Int32) (g : pm_s) (u : pm_J) : F_Md_exprTask N 27 x y g u = ((K_Md_sumTask_529 N g x u).bind fun q46 => some q46) := by
  unfold F_Md_exprTask F_Md_sumTask; rw [if_neg (show ¬ ((27 : Int32) = 10) by decide), if_neg (show ¬ ((27 : Int32) = 11) by decide), if_neg (show ¬ ((27 : Int32) = 12) by decide), if_neg (show ¬ ((27 : Int32) = 13) by decide), if_neg (show ¬ ((27 : Int32) = 14) by decide), if_neg (show ¬ ((27 : Int32) = 15) by decide), if_neg (show ¬ ((27 : Int32) = 16) by decide), if_neg (show ¬ ((27 : Int32) = 17) by decide), if_neg (show ¬ ((27 : Int32) = 19) by decide), if_neg (show ¬ ((27 : Int32) = 18) by decide), if_neg (show ¬ ((27 : Int32) = 20) by decide), if_neg (show ¬ ((27 : Int32) = 21) by decide), if_neg (show ¬ ((27 : Int32) = 22) by decide), if_neg (show ¬ ((27 : Int32) = 23) by decide), if_neg (show ¬ ((27 : Int32) = 24) by decide), if_neg (show ¬ ((27 : Int32) = 25) by decide), if_neg (show ¬ ((27 : Int32) = 26) by decide), if_neg (show ¬ ((27 : Int32) = 28) by decide)]
theorem zu_bs {α : Type} {F : Nat → Option α} {P : α → Prop} (h : zu F P) : zu (fun N => (F N).bind fun q => some q) P := zu_bind h (fun a ha => zu_some a ha)
theorem rStep {c : RC} {g : pm_s} {fl dp : Nat} {k x y : Int32} {K : List (Int32 × Int32 × Int32)} {V : List Nat} {S : List (Nat × Nat)} {Y : List Ty} {s : PS} {u : pm_J} {P : pm_J → Prop} (H : rE c none dp ((k, x, y) :: K) V S Y s u) (hk : (10 : Int32) ≤ k) (hfl : fl ≤ K.length) (h6 : K.length < 6000) (ht : ∀ u', rE c none dp K V S Y s u' → zu (fun N => F_Md_exprTask N k x y g u') P) : ∃ v, rEq g fl u v ∧ P v := by
  obtain ⟨v, hv, hP⟩ := ht _ (rE_pop H)
  have hh : u.1 64 56 = ie ((K.length + 1 : Nat) : Int) := H.2.1.1
  have ho := H.1.1.1
  have e1 : u.1 105 K.length = k := H.2.1.2.1
  have e2 : u.1 106 K.length = x := H.2.1.2.2.1
  have e3 : u.1 107 K.length = y := H.2.1.2.2.2.1
  refine ⟨v, ?_, hP⟩
  rintro a ⟨n0, h0⟩
  refine ⟨n0 + 200001, fun N hN f hf => ?_⟩
  obtain ⟨f, rfl⟩ : ∃ f', f = f' + 1 := ⟨f - 1, by omega⟩
  rw [K_Md_work_7, ho, hh, if_neg (show ¬ (ie 1 = 0) by decide), if_neg (fun hh => by have := (inle _ _ (by omega) (by omega)).mp hh; omega), isub1, if_pos (okn _ 6000 h6 (by omega)), ntn _ (by omega), e1, if_pos hk, if_pos (okn _ 6000 h6 (by omega)), if_pos (okn _ 6000 h6 (by omega)), if_pos (okn _ 6000 h6 (by omega)), e2, e3]
  have := hv N (by omega)
  simp only [] at this
  rw [this, Option.bind_some]
  exact h0 N (by omega) f (by omega)
abbrev rPl : Type := List (Nat × Ty)
def rPm (c : RC) (ps : rPl) (Y : List Ty) : Prop := c.2.2.2.1 92 c.2.2.1 = ie (ps.length : Nat) ∧ ps.length ≤ 6 ∧ ∀ i x, ps.reverse[i]? = some x → ∃ k : Nat, c.2.2.2.1 99 (6 * c.2.2.1 + i) = ie k ∧ Y[k]? = some x.2
theorem rPm_app {c : RC} {ps : rPl} {Y : List Ty} (h : rPm c ps Y) (Z : List Ty) : rPm c ps (Y ++ Z) := by
  refine ⟨h.1, h.2.1, fun i x hi => ?_⟩
  obtain ⟨k, k1, k2⟩ := h.2.2 i x hi
  exact ⟨k, k1, by rw [List.getElem?_append_left (List.getElem?_eq_some_iff.mp k2).1]; exact k2⟩
def rCn (c : RC) : Prop := tkG c.1 ∧ ∃ o, tx_o o c.2.1 ∧ rTx o c.2.1 c.2.2.2 ∧ ∀ t ∈ c.1, tkok o c.2.1 t
def scm (T : List Tok) (S : List (Nat × Nat)) : Sc := S.map fun x => (tkV T x.1, x.2)
def rSd (c : RC) (ps : rPl) (fl dp bK bV : Nat) (K : List (Int32 × Int32 × Int32)) (V : List Nat) (S : List (Nat × Nat)) (Y : List Ty) (s : PS) : Prop := fl ≤ K.length ∧ K.length + 20 * (20 - dp) ≤ bK ∧ V.length + 20 * (20 - dp) ≤ bV ∧ S.length ≤ 6 + dp ∧ (∀ x ∈ S, tkK c.1 x.1 = 1) ∧ s.2.2.2.1 ≤ 2 * s.1 ∧ rPm c ps Y ∧ dp ≤ 20
theorem rSd_up {c : RC} {ps : rPl} {fl dp bK bV bK' bV' : Nat} {K K' : List (Int32 × Int32 × Int32)} {V V' : List Nat} {S : List (Nat × Nat)} {Y : List Ty} {s s' : PS} (h : rSd c ps fl dp bK bV K V S Y s) (Z : List Ty) (h1 : K.length ≤ K'.length) (h2 : K'.length + bK ≤ K.length + bK') (h3 : V'.length + bV ≤ V.length + bV') (h4 : s'.2.2.2.1 ≤ 2 * s'.1) : rSd c ps fl dp bK' bV' K' V' S (Y ++ Z) s' := by
  obtain ⟨a1, a2, a3, a4, a5, a6, a7, a8⟩ := h
  exact ⟨by omega, by omega, by omega, a4, a5, h4, rPm_app a7 Z, a8⟩
theorem rSd_u0 {c : RC} {ps : rPl} {fl dp bK bV bK' bV' : Nat} {K K' : List (Int32 × Int32 × Int32)} {V V' : List Nat} {S : List (Nat × Nat)} {Y : List Ty} {s s' : PS} (h : rSd c ps fl dp bK bV K V S Y s) (h1 : K.length ≤ K'.length) (h2 : K'.length + bK ≤ K.length + bK') (h3 : V'.length + bV ≤ V.length + bV') (h4 : s'.2.2.2.1 ≤ 2 * s'.1) : rSd c ps fl dp bK' bV' K' V' S Y s' := by
  obtain ⟨a1, a2, a3, a4, a5, a6, a7, a8⟩ := h
  exact ⟨by omega, by omega, by omega, a4, a5, h4, a7, a8⟩
def rPe (c : RC) (g : pm_s) (fl : Nat) (u : pm_J) (e : Nat × Nat) : Prop := ∃ v, rG g fl u v ∧ rX c.1 c.2.1 e v ∧ fr (rS_E c.2.2.1) c.2.2.2 v
def rP (c : RC) (g : pm_s) (fl dp : Nat) (K : List (Int32 × Int32 × Int32)) (V : List Nat) (S : List (Nat × Nat)) (Y : List Ty) (u : pm_J) (x : PE (Nat × PS)) : Prop := match x with
  | .error e => rPe c g fl u e
  | .ok q => ∃ (v : pm_J) (Z : List Ty), rEq g fl u v ∧ rE c none dp K (q.1 :: V) S (Y ++ Z) q.2 v
theorem rPe_eq {c : RC} {g : pm_s} {fl : Nat} {u v : pm_J} {e : Nat × Nat} (he : rEq g fl u v) (h : rPe c g fl v e) : rPe c g fl u e := by
  obtain ⟨w, h1, h2⟩ := h
  exact ⟨w, he w h1, h2⟩
theorem rPe_of {c : RC} {g : pm_s} {fl dp : Nat} {K : List (Int32 × Int32 × Int32)} {V : List Nat} {S : List (Nat × Nat)} {Y : List Ty} {s : PS} {u v : pm_J} {e : Nat × Nat} (he : rEq g fl u v) (h : rE c (some e) dp K V S Y s v) : rPe c g fl u e := ⟨v, he v (rG_end h.1.1.1), (rE_X h).1, (rE_X h).2⟩
theorem rP_eq {c : RC} {g : pm_s} {fl dp : Nat} {K : List (Int32 × Int32 × Int32)} {V : List Nat} {S : List (Nat × Nat)} {Y Z0 : List Ty} {u v : pm_J} {x : PE (Nat × PS)} (he : rEq g fl u v) (h : rP c g fl dp K V S (Y ++ Z0) v x) : rP c g fl dp K V S Y u x := by
  cases x with
  | error e => exact rPe_eq he h
  | ok q =>
    obtain ⟨w, Z, h1, h2⟩ := h
    exact ⟨w, Z0 ++ Z, rEq_trans he h1, by rw [← List.append_assoc]; exact h2⟩
theorem rP_eq0 {c : RC} {g : pm_s} {fl dp : Nat} {K : List (Int32 × Int32 × Int32)} {V : List Nat} {S : List (Nat × Nat)} {Y : List Ty} {u v : pm_J} {x : PE (Nat × PS)} (he : rEq g fl u v) (h : rP c g fl dp K V S Y v x) : rP c g fl dp K V S Y u x := rP_eq (Z0 := []) he (by rw [List.append_nil]; exact h)
theorem rP_ok {c : RC} {g : pm_s} {fl dp : Nat} {K : List (Int32 × Int32 × Int32)} {V : List Nat} {S : List (Nat × Nat)} {Y : List Ty} {u v : pm_J} {q : Nat × PS} (he : rEq g fl u v) (h : rE c none dp K (q.1 :: V) S Y q.2 v) : rP c g fl dp K V S Y u (.ok q) := ⟨v, [], he, by rw [List.append_nil]; exact h⟩
theorem rSs_at {S : List (Nat × Nat)} {u : pm_J} (h : rSs S u) (r : Nat) (x : Nat × Nat) (hx : S[r]? = some x) : u.1 111 (S.length - 1 - r) = ie (x.1 : Nat) ∧ u.1 110 (S.length - 1 - r) = ie (x.2 : Nat) := by
  induction S generalizing r with
  | nil => cases hx
  | cons y S ih =>
    cases r with
    | zero =>
      cases hx
      exact ⟨h.1, h.2.1⟩
    | succ r =>
      have := ih h.2.2 r hx
      have hl : (y :: S).length - 1 - (r + 1) = S.length - 1 - r := by show S.length + 1 - 1 - (r + 1) = _; omega
      rw [hl]; exact this
theorem fnd_app (A : Sc) (x : Int64 × Nat) (v : Int64) : fnd (A ++ [x]) v = match fnd A v with
    | some l => some l
    | none => if x.1 = v then some x.2 else none := by
  induction A with
  | nil => rfl
  | cons y A ih =>
    show (if y.1 = v then some y.2 else fnd (A ++ [x]) v) = match (if y.1 = v then some y.2 else fnd A v) with | some l => some l | none => if x.1 = v then some x.2 else none
    by_cases e : y.1 = v
    · rw [if_pos e, if_pos e]
    · rw [if_neg e, if_neg e, ih]
def lOr (x : Option Nat) (y : Int32) : Int32 := match x with
  | some l => ie (l : Nat)
  | none => y
theorem r_local {c : RC} {st : Option (Nat × Nat)} {dp : Nat} {K : List (Int32 × Int32 × Int32)} {V : List Nat} {S : List (Nat × Nat)} {Y : List Ty} {s : PS} {u : pm_J} (g : pm_s) (hC : rCn c) (H : rE c st dp K V S Y s u) (hS : ∀ x ∈ S, tkK c.1 x.1 = 1) (hl : S.length < 64) (a : Nat) (ha : tkK c.1 a = 1) : zu (fun N => F_Md_localNamed N (ie a) g u) (fun v => v = lOr (fnd (scm c.1 S) (tkV c.1 a)) (ie (-1))) := by
  obtain ⟨hG, o, ho, hx, hok⟩ := hC
  have hF := H.2.2.2.2.2.2.2.2
  have hx' : rTx o c.2.1 u := ⟨((hF 64 1 (rSE_no (by unfold rSEp; omega))).1).trans hx.1, fun i hi => ((hF 65 i (rSE_no (by unfold rSEp; omega))).1).trans (hx.2 i hi)⟩
  have h67 := H.2.2.2.1.1
  have hT := H.1.2.1.1
  have same : ∀ N, 10000 ≤ N → ∀ i, tkK c.1 i = 1 → F_Md_isSame N (ie (i : Nat)) (ie a) g u = some (ib (decide (tkV c.1 i = tkV c.1 a))) := by
    intro N hN i hi
    obtain ⟨t1, e1⟩ : ∃ t, c.1[i]? = some t := ⟨c.1[i]'(tkK_lt (by omega)), List.getElem?_eq_getElem _⟩
    obtain ⟨t2, e2⟩ : ∃ t, c.1[a]? = some t := ⟨c.1[a]'(tkK_lt (by omega)), List.getElem?_eq_getElem _⟩
    have k1 : t1.1 = 1 := by unfold tkK at hi; rw [e1] at hi; exact hi
    have k2 : t2.1 = 1 := by unfold tkK at ha; rw [e2] at ha; exact ha
    have := r_isSame N g ho hN hx' c.1 hT hok i a t1 t2 e1 e2 k1 k2
    rw [this]; unfold tkV; rw [e1, e2]
  have lp : ∀ (r f k : Nat) (acc : Int32) (N : Nat), 10000 ≤ N → k + r = S.length → r < f → K_Md_localNamed_4 N g u f (ie a) acc (ie (k : Nat)) = some (lOr (fnd (scm c.1 (S.take r)) (tkV c.1 a)) acc) := by
    intro r
    induction r with
    | zero =>
      intro f k acc N hN hk hf
      obtain ⟨f, rfl⟩ : ∃ f', f = f' + 1 := ⟨f - 1, by omega⟩
      rw [K_Md_localNamed_4, h67, if_pos ((inle _ _ (by omega) (by omega)).mpr (by omega))]
      rfl
    | succ r ihr =>
      intro f k acc N hN hk hf
      obtain ⟨f, rfl⟩ : ∃ f', f = f' + 1 := ⟨f - 1, by omega⟩
      obtain ⟨x, ex⟩ : ∃ x, S[r]? = some x := ⟨S[r]'(by omega), List.getElem?_eq_getElem _⟩
      have ea := rSs_at H.2.2.2.1.2 r x ex
      have hkk : S.length - 1 - r = k := by omega
      rw [hkk] at ea
      have hxm := hS x (List.mem_of_getElem? ex)
      rw [K_Md_localNamed_4, h67, if_neg (fun hh => by have := (inle _ _ (by omega) (by omega)).mp hh; omega), if_pos (okn _ 64 (by omega) (by omega)), ntn _ (by omega), ea.1, same N hN x.1 hxm, Option.bind_some, iadd1]
      have htk : S.take (r + 1) = S.take r ++ [x] := by rw [List.take_add_one, ex]; rfl
      have hm : scm c.1 (S.take (r + 1)) = scm c.1 (S.take r) ++ [(tkV c.1 x.1, x.2)] := by unfold scm; rw [htk, List.map_append]; rfl
      rw [hm, fnd_app]
      by_cases e : tkV c.1 x.1 = tkV c.1 a
      · rw [decide_eq_true e, if_neg (show ¬ (ib true = 0) by decide), if_pos (okn _ 64 (by omega) (by omega)), ea.2, ihr f (k + 1) _ N hN (by omega) (by omega)]
        cases fnd (scm c.1 (S.take r)) (tkV c.1 a) with
        | some l => rfl
        | none => simp only [if_pos e]; rfl
      · rw [decide_eq_false e, if_pos (show ib false = 0 by decide), ihr f (k + 1) _ N hN (by omega) (by omega)]
        cases fnd (scm c.1 (S.take r)) (tkV c.1 a) with
        | some l => rfl
        | none => simp only [if_neg e]
  refine zu_eq _ (fun N hN => ?_) rfl
  unfold F_Md_localNamed
  have := lp S.length N 0 (-1) N (by omega) (by omega) (by omega)
  rw [List.take_length] at this
  exact this
