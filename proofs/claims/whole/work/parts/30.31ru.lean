set_option maxRecDepth 100000
theorem tyR_w {u v : pm_J} {Y : List Ty} (h : tyR u Y) (h18 : v.1 64 18 = u.1 64 18) (hf : ∀ c i, 70 ≤ c → c ≤ 76 → v.1 c i = u.1 c i) : tyR v Y := tyR_fr h (fun c i hc => by
  unfold rS_y at hc
  simp only [Bool.or_eq_true, Bool.and_eq_true, Nat.beq_eq, Nat.ble_eq] at hc
  rcases hc with ⟨rfl, rfl⟩ | hc
  · exact h18
  · exact hf c i hc.1 hc.2)
theorem rT_of {T : List Tok} {n a c dp h qt a' c' dp' h' qt' : Nat} {u v : pm_J} {Y : List Ty} (H : rT T n a c dp h qt u Y) (hv : ∀ x i, ¬ (x = 64 ∧ (i = 51 ∨ i = 56 ∨ i = 60 ∨ i = 62 ∨ i = 63)) → ¬ (105 ≤ x ∧ x ≤ 109) → v.1 x i = u.1 x i) (hv2 : ∀ x i, 66 ≤ x → x ≤ 69 → v.2 x i = u.2 x i) (e1 : v.1 64 51 = ie a') (e2 : v.1 64 63 = ie c') (e3 : v.1 64 62 = ie dp') (e4 : v.1 64 56 = ie h') (e5 : v.1 64 60 = ie qt') : rT T n a' c' dp' h' qt' v Y := by
  obtain ⟨a1, a2, a3, a4, a5, a6, a7, a8, a9⟩ := H
  exact ⟨(hv 64 52 (by omega) (by omega)).trans a1, (hv 64 4 (by omega) (by omega)).trans a2, rK_fr a3 (hv 64 10 (by omega) (by omega)) (fun x i h1 h2 => ⟨hv x i (by omega) (by omega), hv2 x i h1 h2⟩) (r5_e (hv 64 4 (by omega) (by omega)) (hv 64 5 (by omega) (by omega))), e1, e2, e3, e4, e5, tyR_w a9 (hv 64 18 (by omega) (by omega)) (fun x i h1 h2 => hv x i (by omega) (by omega))⟩
theorem rT_pop {T : List Tok} {n a c dp h qt : Nat} {u : pm_J} {Y : List Ty} (H : rT T n a c dp (h + 1) qt u Y) : rT T n a c dp h qt (wi u 64 56 (ie h)) Y :=
  rT_of H (fun x i h1 h2 => by rw [wi_1, if_neg (by omega)]) (fun _ _ _ _ => rfl) H.2.2.2.1 H.2.2.2.2.1 H.2.2.2.2.2.1 rfl H.2.2.2.2.2.2.2.1
theorem rT_push {T : List Tok} {n a c dp h qt : Nat} {u : pm_J} {Y : List Ty} (H : rT T n a c dp h qt u Y) (k x y : Int) : rT T n a c dp (h + 1) qt (rL u h k x y) Y :=
  rT_of H (fun x' i h1 h2 => rL_o u h k x y x' i (by omega)) (fun _ _ _ _ => rfl) ((rL_o u h k x y 64 51 (by omega)).trans H.2.2.2.1) ((rL_o u h k x y 64 63 (by omega)).trans H.2.2.2.2.1) ((rL_o u h k x y 64 62 (by omega)).trans H.2.2.2.2.2.1) (rL_t u h k x y).1 ((rL_o u h k x y 64 60 (by omega)).trans H.2.2.2.2.2.2.2.1)
theorem rT_at {T : List Tok} {n a c dp h qt : Nat} {u : pm_J} {Y : List Ty} (H : rT T n a c dp h qt u Y) (a' : Nat) : rT T n a' c dp h qt (wi u 64 51 (ie a')) Y :=
  rT_of H (fun x i h1 h2 => by rw [wi_1, if_neg (by omega)]) (fun _ _ _ _ => rfl) rfl H.2.2.2.2.1 H.2.2.2.2.2.1 H.2.2.2.2.2.2.1 H.2.2.2.2.2.2.2.1
theorem rT_dp {T : List Tok} {n a c dp h qt : Nat} {u : pm_J} {Y : List Ty} (H : rT T n a c dp h qt u Y) (d' : Nat) : rT T n a c d' h qt (wi u 64 62 (ie d')) Y :=
  rT_of H (fun x i h1 h2 => by rw [wi_1, if_neg (by omega)]) (fun _ _ _ _ => rfl) H.2.2.2.1 H.2.2.2.2.1 rfl H.2.2.2.2.2.2.1 H.2.2.2.2.2.2.2.1
theorem rT_c {T : List Tok} {n a c dp h qt : Nat} {u : pm_J} {Y : List Ty} (H : rT T n a c dp h qt u Y) (c' : Nat) : rT T n a c' dp h qt (wi u 64 63 (ie c')) Y :=
  rT_of H (fun x i h1 h2 => by rw [wi_1, if_neg (by omega)]) (fun _ _ _ _ => rfl) H.2.2.2.1 rfl H.2.2.2.2.2.1 H.2.2.2.2.2.2.1 H.2.2.2.2.2.2.2.1
def rGv (u : pm_J) (qt : Nat) (k : Int) : pm_J := wi (wi u 109 qt (ie k)) 64 60 (ie ((qt + 1 : Nat) : Int))
theorem r_give {u : pm_J} (g : pm_s) (qt : Nat) (hq : u.1 64 60 = ie qt) (hr : qt < 900) (k : Int) : F_Md_giveType (ie k) g u = some (rGv u qt k) := by
  unfold F_Md_giveType rGv
  rw [hq, if_pos (okn qt 900 hr (by omega)), ntn qt (by omega), iadd1]
theorem rT_give {T : List Tok} {n a c dp h qt : Nat} {u : pm_J} {Y : List Ty} (H : rT T n a c dp h qt u Y) (k : Int) : rT T n a c dp h (qt + 1) (rGv u qt k) Y :=
  rT_of H (fun x i h1 h2 => by unfold rGv; rw [wi_1, if_neg (by omega), wi_1, if_neg (by omega)]) (fun _ _ _ _ => rfl) H.2.2.2.1 H.2.2.2.2.1 H.2.2.2.2.2.1 H.2.2.2.2.2.2.1 rfl
theorem rT_take {T : List Tok} {n a c dp h qt : Nat} {u : pm_J} {Y : List Ty} (g : pm_s) (H : rT T n a c dp h (qt + 1) u Y) (hr : qt < 900) : F_Md_takeType g u = some (u.1 109 qt, wi u 64 60 (ie qt)) ∧ rT T n a c dp h qt (wi u 64 60 (ie qt)) Y := by
  constructor
  · unfold F_Md_takeType
    have e1 : ie ((qt + 1 : Nat) : Int) - 1 = ie (qt : Int) := by rw [show (1 : Int32) = ie 1 from rfl, ie_sub]; congr 1; omega
    rw [H.2.2.2.2.2.2.2.1, e1, if_pos (okn qt 900 hr (by omega)), ntn qt (by omega)]
  · exact rT_of H (fun x i h1 h2 => by rw [wi_1, if_neg (by omega)]) (fun _ _ _ _ => rfl) H.2.2.2.1 H.2.2.2.2.1 H.2.2.2.2.2.1 H.2.2.2.2.2.2.1 rfl
theorem rT_y {T : List Tok} {n a c dp h qt : Nat} {u v : pm_J} {Y Y' : List Ty} (H : rT T n a c dp h qt u Y) (hf : fr rS_y u v) (hy : tyR v Y') : rT T n a c dp h qt v Y' := by
  have F1 : ∀ x i, ¬ (x = 64 ∧ i = 18) → ¬ (70 ≤ x ∧ x ≤ 76) → v.1 x i = u.1 x i ∧ v.2 x i = u.2 x i := by
    intro x i h1 h2
    apply hf
    cases hb : rS_y x i with
    | false => rfl
    | true =>
      unfold rS_y at hb
      simp only [Bool.or_eq_true, Bool.and_eq_true, Nat.beq_eq, Nat.ble_eq] at hb
      omega
  obtain ⟨a1, a2, a3, a4, a5, a6, a7, a8, a9⟩ := H
  exact ⟨(F1 64 52 (by omega) (by omega)).1.trans a1, (F1 64 4 (by omega) (by omega)).1.trans a2, rK_fr a3 (F1 64 10 (by omega) (by omega)).1 (fun x i h1 h2 => F1 x i (by omega) (by omega)) (r5_e (F1 64 4 (by omega) (by omega)).1 (F1 64 5 (by omega) (by omega)).1), (F1 64 51 (by omega) (by omega)).1.trans a4, (F1 64 63 (by omega) (by omega)).1.trans a5, (F1 64 62 (by omega) (by omega)).1.trans a6, (F1 64 56 (by omega) (by omega)).1.trans a7, (F1 64 60 (by omega) (by omega)).1.trans a8, hy⟩
theorem fr_yR {h qt : Nat} {u v : pm_J} (hf : fr rS_y u v) : fr (rS_T h qt) u v := fr_sub hf (fun c i hs => by
  cases hb : rS_y c i with
  | false => rfl
  | true =>
    exfalso
    have : rS_T h qt c i = true := by unfold rS_T; rw [hb]; simp
    rw [this] at hs; cases hs)
theorem rX_stop {T : List Tok} {n a c dp h qt : Nat} {u : pm_J} {Y : List Ty} (H : rT T n a c dp h qt u Y) (ha : a ≤ 901) (q t : Nat) (hq : 1 ≤ q) : rX T n (q, t) (rStop u q (tkP T n t)) := by
  refine ⟨rfl, rfl, hq, rfl, ⟨a, by omega, H.2.2.2.1⟩, Y, ?_⟩
  exact tyR_w H.2.2.2.2.2.2.2.2 rfl (fun c i h1 h2 => by unfold rStop; rw [wi_1, if_neg (by omega), wi_1, if_neg (by omega), wi_1, if_neg (by omega)])
theorem fr_stop {h qt : Nat} {u v : pm_J} (q p : Int) (hv : fr (rS_T h qt) u v) : fr (rS_T h qt) u (rStop v q p) := frR_wi _ _ _ (by omega) (frR_wi _ _ _ (by omega) (frR_wi _ _ _ (by omega) hv))
theorem rX_of {T : List Tok} {n : Nat} {q : Nat × Nat} {u v : pm_J} (H : rX T n q u) (h52 : v.1 64 52 = u.1 64 52) (h4 : v.1 64 4 = u.1 64 4) (h5 : v.1 64 5 = u.1 64 5) (hat : ∃ a : Nat, a ≤ 902 ∧ v.1 64 51 = ie a) (h18 : v.1 64 18 = u.1 64 18) (hy : ∀ c i, 70 ≤ c → c ≤ 76 → v.1 c i = u.1 c i) : rX T n q v := by
  obtain ⟨a1, a2, a3, a4, a5, Y, a6⟩ := H
  exact ⟨h52.trans a1, h4.trans a2, a3, h5.trans a4, hat, Y, tyR_w a6 h18 hy⟩
theorem rX_push {T : List Tok} {n : Nat} {q : Nat × Nat} {u : pm_J} (H : rX T n q u) (h : Nat) (k x y : Int) : rX T n q (rL u h k x y) :=
  rX_of H (rL_o _ _ _ _ _ _ _ (by omega)) (rL_o _ _ _ _ _ _ _ (by omega)) (rL_o _ _ _ _ _ _ _ (by omega)) (by obtain ⟨a, a1, a2⟩ := H.2.2.2.2.1; exact ⟨a, a1, (rL_o _ _ _ _ _ _ _ (by omega)).trans a2⟩) (rL_o _ _ _ _ _ _ _ (by omega)) (fun c i h1 h2 => rL_o _ _ _ _ _ _ _ (by omega))
theorem tt1 (N : Nat) (x : Int32) (g : pm_s) (u : pm_J) : F_Md_typeTask N (ie 1) x g u = (if ((u.1 64 62) + 1) ≤ 20 then K_Md_typeTask_68 N g (wi u 64 62 ((u.1 64 62) + 1)) else (F_Md_stop 3 (u.1 64 51) g (wi u 64 62 ((u.1 64 62) + 1))).bind fun q5 => K_Md_typeTask_68 N g q5) := by
  unfold F_Md_typeTask; rw [if_pos (show ie 1 = 1 from rfl)]
theorem tt2 (N : Nat) (x : Int32) (g : pm_s) (u : pm_J) : F_Md_typeTask N (ie 2) x g u = (if pm_ok (u.1 64 51) 902 = true then if (u.1 66 ((u.1 64 51).toNatClampNeg)) = 20 then (F_Md_later 3 0 0 g (wi u 64 51 ((u.1 64 51) + 1))).bind fun q9 => (F_Md_later 1 0 0 g q9).bind fun q10 => some q10 else some (wi u 64 62 ((u.1 64 62) - 1)) else none) := by
  unfold F_Md_typeTask; rw [if_neg (show ¬ (ie 2 = 1) by decide), if_pos (show ie 2 = 2 from rfl)]
theorem tt3 (N : Nat) (x : Int32) (g : pm_s) (u : pm_J) : F_Md_typeTask N (ie 3) x g u = ((F_Md_takeType g (wi u 64 62 ((u.1 64 62) - 1))).bind fun q12 => (F_Md_takeType g q12.2).bind fun q13 => (F_Md_typeOf N 1 q13.1 q12.1 g q13.2).bind fun q14 => (F_Md_giveType q14.1 g q14.2).bind fun q15 => some q15) := by
  unfold F_Md_typeTask; rw [if_neg (show ¬ (ie 3 = 1) by decide), if_neg (show ¬ (ie 3 = 2) by decide), if_pos (show ie 3 = 3 from rfl)]
theorem tt4 (N : Nat) (x : Int32) (g : pm_s) (u : pm_J) : F_Md_typeTask N (ie 4) x g u = (if pm_ok (u.1 64 51) 902 = true then if (u.1 66 ((u.1 64 51).toNatClampNeg)) = 2 then K_Md_typeTask_215 N g x u else if pm_ok (u.1 64 51) 902 = true then if (u.1 66 ((u.1 64 51).toNatClampNeg)) = 3 then K_Md_typeTask_215 N g x u else if pm_ok (u.1 64 51) 902 = true then if (u.1 66 ((u.1 64 51).toNatClampNeg)) = 14 then K_Md_typeTask_215 N g x u else if pm_ok (u.1 64 51) 902 = true then if (u.1 66 ((u.1 64 51).toNatClampNeg)) = 15 then (F_Md_later 5 x 0 g (wi u 64 51 ((u.1 64 51) + 1))).bind fun q35 => (F_Md_later 7 0 0 g q35).bind fun q36 => (F_Md_later 1 0 0 g q36).bind fun q37 => some q37 else (F_Md_stop 2 (u.1 64 51) g u).bind fun q34 => some q34 else none else none else none else none) := by
  unfold F_Md_typeTask; rw [if_neg (show ¬ (ie 4 = 1) by decide), if_neg (show ¬ (ie 4 = 2) by decide), if_neg (show ¬ (ie 4 = 3) by decide), if_pos (show ie 4 = 4 from rfl)]
theorem tt5 (N : Nat) (x : Int32) (g : pm_s) (u : pm_J) : F_Md_typeTask N (ie 5) x g u = (if pm_ok (u.1 64 51) 902 = true then if (u.1 66 ((u.1 64 51).toNatClampNeg)) = 22 then if x = 8 then (F_Md_stop 3 (u.1 64 51) g u).bind fun q44 => K_Md_typeTask_403 N g x q44 else K_Md_typeTask_403 N g x u else some u else none) := by
  unfold F_Md_typeTask; rw [if_neg (show ¬ (ie 5 = 1) by decide), if_neg (show ¬ (ie 5 = 2) by decide), if_neg (show ¬ (ie 5 = 3) by decide), if_neg (show ¬ (ie 5 = 4) by decide), if_pos (show ie 5 = 5 from rfl)]
theorem tt6 (N : Nat) (x : Int32) (g : pm_s) (u : pm_J) : F_Md_typeTask N (ie 6) x g u = ((F_Md_takeType g u).bind fun q46 => (F_Md_takeType g q46.2).bind fun q47 => (F_Md_typeOf N 0 q47.1 q46.1 g q47.2).bind fun q48 => (F_Md_giveType q48.1 g q48.2).bind fun q49 => some q49) := by
  unfold F_Md_typeTask; rw [if_neg (show ¬ (ie 6 = 1) by decide), if_neg (show ¬ (ie 6 = 2) by decide), if_neg (show ¬ (ie 6 = 3) by decide), if_neg (show ¬ (ie 6 = 4) by decide), if_neg (show ¬ (ie 6 = 5) by decide), if_pos (show ie 6 = 6 from rfl)]
theorem tt7 (N : Nat) (x : Int32) (g : pm_s) (u : pm_J) : F_Md_typeTask N (ie 7) x g u = ((F_Md_expect N 16 g u).bind fun q50 => some q50) := by
  unfold F_Md_typeTask; rw [if_neg (show ¬ (ie 7 = 1) by decide), if_neg (show ¬ (ie 7 = 2) by decide), if_neg (show ¬ (ie 7 = 3) by decide), if_neg (show ¬ (ie 7 = 4) by decide), if_neg (show ¬ (ie 7 = 5) by decide), if_neg (show ¬ (ie 7 = 6) by decide)]
