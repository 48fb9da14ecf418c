set_option maxRecDepth 100000
def aX (c i : Nat) : Prop := ¬ (c = 64 ∧ (i = 2 ∨ i = 108 ∨ i = 109))
theorem ty_twoC {g : pm_s} {u : pm_J} {Y : List Ty} (h : tyC g u Y) {k : Nat} {A B : Ty} (hk : Y[k]? = some (.add A B)) : ∃ l r : Nat, Y[l]? = some A ∧ Y[r]? = some B ∧ F_Types_left (ie (k : Nat)) g u = some (ie (l : Nat)) ∧ F_Types_right (ie (k : Nat)) g u = some (ie (r : Nat)) := by
  obtain ⟨_, _, _, c4, c5⟩ := c_row h k _ hk
  obtain ⟨_, _, _, a4⟩ := h.2.2.2.1 k _ hk
  obtain ⟨l, r, _, _, l1, r1, l2, r2⟩ := (tyP_row Y false A B k _ _).mp a4
  exact ⟨l, r, l1, r1, by rw [c4, l2], by rw [c5, r2]⟩
theorem wkB {g : pm_s} {u0 : pm_J} {Y : List Ty} {a l : Nat} (N : Nat) (hY : tyC g u0 Y) (ha : a < 2147483648) (h5 : u0.1 45 5 = ie (l : Nat)) (hl : l ≤ 4000) (m : Nat) : m ≤ 30 → ∀ (R : Ty) (v : Va) (ky : Nat) (u : pm_J) (f1 f2 f3 : Nat), m < f1 → m < f2 → m + 1 < f3 → rsV u0 l R v → Y[ky]? = some R → ag aX u0 u → nwR u v →
    (∃ (R' : Ty) (v' : Va) (ky' : Nat) (w : pm_J), K_Machine_typeAt_27 N g u0 f1 (ie (a : Nat)) (ie (ky : Nat)) (ie ((m : Int) - 1)) = some (ie (ky' : Nat)) ∧ Y[ky']? = some R' ∧ K_Machine_valueAt_13 N g u0 f2 (ie (a : Nat)) v.2 (ie ((m : Int) - 1)) = some v'.2 ∧ rsV u0 l R' v' ∧ K_Md_reach_61 N g f3 (ie (a : Nat)) 1 (ie ((m : Int) - 1)) u = some (1, w) ∧ nwR w v' ∧ ag aX u0 w) ∨
    (∃ w : pm_J, K_Machine_typeAt_27 N g u0 f1 (ie (a : Nat)) (ie (ky : Nat)) (ie ((m : Int) - 1)) = some (-1) ∧ K_Md_reach_61 N g f3 (ie (a : Nat)) 1 (ie ((m : Int) - 1)) u = some (0, w) ∧ ag aX u0 w) := by
  induction m with
  | zero =>
    intro hm R v ky u f1 f2 f3 h1 h2 h3 hr hk hu hn
    obtain ⟨f1, rfl⟩ : ∃ f', f1 = f' + 1 := ⟨f1 - 1, by omega⟩
    obtain ⟨f2, rfl⟩ : ∃ f', f2 = f' + 1 := ⟨f2 - 1, by omega⟩
    obtain ⟨f3, rfl⟩ : ∃ f', f3 = f' + 1 := ⟨f3 - 1, by omega⟩
    have hlt : ie (((0 : Nat) : Int) - 1) < (0 : Int32) := by decide
    refine Or.inl ⟨R, v, ky, u, ?_, hk, ?_, hr, ?_, hn, hu⟩
    · rw [K_Machine_typeAt_27, if_pos hlt]
    · rw [K_Machine_valueAt_13, if_pos hlt]
    · rw [K_Md_reach_61, if_pos hlt, if_pos (by decide)]
  | succ m ih =>
    intro hm R v ky u f1 f2 f3 h1 h2 h3 hr hk hu hn
    obtain ⟨f1, rfl⟩ : ∃ f', f1 = f' + 1 := ⟨f1 - 1, by omega⟩
    obtain ⟨f2, rfl⟩ : ∃ f', f2 = f' + 1 := ⟨f2 - 1, by omega⟩
    obtain ⟨f3, rfl⟩ : ∃ f', f3 = f' + 1 := ⟨f3 - 1, by omega⟩
    rw [show (((m + 1 : Nat) : Int) - 1) = ((m : Nat) : Int) by omega]
    have hlt : ¬ (ie ((m : Nat) : Int) < (0 : Int32)) := fun hh => by have := (inlt m 0 (by omega) (by omega)).mp hh; omega
    have hdec : ie ((m : Nat) : Int) + (-1) = ie ((m : Int) - 1) := by rw [show (-1 : Int32) = ie (-1) from rfl, ie_add]; congr 1
    have hkd := (c_row hY ky R hk).1
    have no : tyK R ≠ 3 → tyK R ≤ 4 → v.1 ≠ 2 → v.1 ≤ 9 → (∃ w : pm_J, K_Machine_typeAt_27 N g u0 (f1 + 1) (ie (a : Nat)) (ie (ky : Nat)) (ie ((m : Nat) : Int)) = some (-1) ∧ K_Md_reach_61 N g (f3 + 1) (ie (a : Nat)) 1 (ie ((m : Nat) : Int)) u = some (0, w) ∧ ag aX u0 w) := fun k3 k4 v2 v9 => by
      obtain ⟨f3, rfl⟩ : ∃ f', f3 = f' + 1 := ⟨f3 - 1, by omega⟩
      refine ⟨u, ?_, ?_, hu⟩
      · rw [K_Machine_typeAt_27, if_neg hlt, hkd, Option.bind_some, if_neg (show ¬ (ie (tyK R : Nat) = (3 : Int32)) from fun hh => by have := (ineq _ 3 (by omega) (by omega)).mp hh; omega)]
      · rw [K_Md_reach_61, if_neg hlt, if_neg (by decide), hn.1, if_neg (show ¬ (ie (v.1 : Nat) = (2 : Int32)) from fun hh => by have := (ineq _ 2 (by omega) (by omega)).mp hh; omega)]
        unfold K_Md_reach_83
        rw [if_pos rfl, K_Md_reach_61]
        by_cases e : ie ((m : Nat) : Int) + (-1) < (0 : Int32)
        · rw [if_pos e, if_pos (by decide)]
        · rw [if_neg e, if_pos rfl, if_pos (by decide)]
    cases R with
    | num k =>
      obtain ⟨r1, r2⟩ := hr
      have : tyK (.num k) = k := by show (if k < 2 then k else 2) = k; rw [if_pos r1]
      exact Or.inr (no (by omega) (by omega) (by omega) (by omega))
    | var k => exact hr.elim
    | mul A B =>
      have r1 : v.1 = 3 := hr
      exact Or.inr (no (by show (4 : Nat) ≠ 3; omega) (by show (4 : Nat) ≤ 4; omega) (by omega) (by omega))
    | add A B =>
      obtain ⟨r1, i, x, y, r2, r3, r4, r5, r6, r7, r8, r9, r10, r11⟩ := hr
      obtain ⟨kl, kr, l1, l2, l3, l4⟩ := ty_twoC hY hk
      obtain ⟨_, g2, g3, _⟩ := hp_rd g h5 hl r3
      have oki := okn i 4000 (by omega) (by omega)
      have nti := ntn i (by omega)
      have hv : (u.2 64 109).toInt32 = ie (i : Nat) := by rw [hn.2, r2, je_i32 i (by omega)]
      have e : ∀ c, 119 ≤ c → c ≤ 122 → u.1 c i = u0.1 c i ∧ u.2 c i = u0.2 c i := fun c h1 h2 => hu c i (by unfold aX; omega)
      have a1 : ∀ (s : Int32) (z : Int64), ag aX u (wj (wi u 64 108 s) 64 109 z) := fun s z => ag_wj (ag_wi (ag_r _ u) _ _ _ (by unfold aX; omega)) _ _ _ (by unfold aX; omega)
      have hcK : ∀ (b : Int32), K_Machine_typeAt_27 N g u0 (f1 + 1) (ie (a : Nat)) (ie (ky : Nat)) (ie ((m : Nat) : Int)) = if (((((ie (a : Nat)).toUInt32 >>> ((ie ((m : Nat) : Int)).toUInt32 &&& Int32.toUInt32 31)).toInt32) &&& 1) = 0) then K_Machine_typeAt_27 N g u0 f1 (ie (a : Nat)) (ie (kl : Nat)) (ie ((m : Int) - 1)) else K_Machine_typeAt_27 N g u0 f1 (ie (a : Nat)) (ie (kr : Nat)) (ie ((m : Int) - 1)) := fun _ => by
        rw [K_Machine_typeAt_27, if_neg hlt, hkd, Option.bind_some, if_pos (show ie (tyK (.add A B) : Nat) = (3 : Int32) from rfl), l3, l4, Option.bind_some, Option.bind_some, hdec]
      have hvK : K_Machine_valueAt_13 N g u0 (f2 + 1) (ie (a : Nat)) v.2 (ie ((m : Nat) : Int)) = if (((((ie (a : Nat)).toUInt32 >>> ((ie ((m : Nat) : Int)).toUInt32 &&& Int32.toUInt32 31)).toInt32) &&& 1) = 0) then K_Machine_valueAt_13 N g u0 f2 (ie (a : Nat)) x.2 (ie ((m : Int) - 1)) else K_Machine_valueAt_13 N g u0 f2 (ie (a : Nat)) y.2 (ie ((m : Int) - 1)) := by
        rw [K_Machine_valueAt_13, if_neg hlt, r2, g2, g3, Option.bind_some, Option.bind_some, r4, r5, hdec]
      have hrK : K_Md_reach_61 N g (f3 + 1) (ie (a : Nat)) 1 (ie ((m : Nat) : Int)) u = if (((ie (a : Nat)) >>> (ie ((m : Nat) : Int) &&& 31)) &&& 1) = 1 then K_Md_reach_61 N g f3 (ie (a : Nat)) 1 (ie ((m : Int) - 1)) (wj (wi u 64 108 (ie (y.1 : Nat))) 64 109 y.2) else K_Md_reach_61 N g f3 (ie (a : Nat)) 1 (ie ((m : Int) - 1)) (wj (wi u 64 108 (ie (x.1 : Nat))) 64 109 x.2) := by
        rw [K_Md_reach_61, if_neg hlt, if_neg (by decide), hn.1, r1, if_pos (show ie ((2 : Nat) : Int) = (2 : Int32) from rfl)]
        unfold K_Md_reach_83 K_Md_reach_110 K_Md_reach_135
        rw [if_neg (by decide), hv, nti, if_neg (show ¬ ((1 : Int32) = 0) by decide), if_pos rfl, if_pos oki, if_pos oki, if_neg (show ¬ ((1 : Int32) = 0) by decide), if_pos rfl, if_pos oki, if_pos oki, if_pos oki, hdec, (e 119 (by omega) (by omega)).1, (e 120 (by omega) (by omega)).2, (e 121 (by omega) (by omega)).1, (e 122 (by omega) (by omega)).2, r6, r7, r8, r9]
      rw [hcK 0, hvK, hrK]
      by_cases hbit : a / 2 ^ m % 2 = 0
      · rw [if_pos ((bitC a m ha (by omega)).mpr hbit), if_pos ((bitC a m ha (by omega)).mpr hbit), if_neg (fun hh => by have := (bitR a m ha (by omega)).mp hh; omega)]
        exact ih (by omega) A x kl _ f1 f2 f3 (by omega) (by omega) (by omega) r10 l1 (ag_t hu (a1 _ _)) ⟨by rw [wj_1, wi_at], wj_at _ _ _ _⟩
      · rw [if_neg (fun hh => hbit ((bitC a m ha (by omega)).mp hh)), if_neg (fun hh => hbit ((bitC a m ha (by omega)).mp hh)), if_pos ((bitR a m ha (by omega)).mpr (by omega))]
        exact ih (by omega) B y kr _ f1 f2 f3 (by omega) (by omega) (by omega) r11 l2 (ag_t hu (a1 _ _)) ⟨by rw [wj_1, wi_at], wj_at _ _ _ _⟩
theorem r_top {N : Nat} {g : pm_s} {a L : Nat} (h1 : 2 ^ L ≤ a) (h2 : a < 2 ^ (L + 1)) (ha : a < 2147483648) (m : Nat) : ∀ (f : Nat) (u : pm_J), L + m ≤ 30 → m < f → K_Md_reach_36 N g f (ie (a : Nat)) 1 (ie ((L + m : Nat) : Int)) u = K_Md_reach_61 N g N (ie (a : Nat)) 1 (ie ((L : Int) - 1)) u := by
  induction m with
  | zero =>
    intro f u hL hf
    obtain ⟨f, rfl⟩ : ∃ f', f = f' + 1 := ⟨f - 1, by omega⟩
    have hd : ie ((L + 0 : Nat) : Int) - 1 = ie ((L : Int) - 1) := by rw [show (1 : Int32) = ie 1 from rfl, ie_sub]; rfl
    rw [K_Md_reach_36, if_neg (by decide), hd]
    by_cases e : L = 0
    · subst e
      rw [if_pos (by decide)]
    · have hge : 1 ≤ a / 2 ^ L := (Nat.one_le_div_iff (Nat.pow_pos (by omega))).mpr h1
      have hle : a / 2 ^ L ≤ a := Nat.div_le_self _ _
      have hsh := shR a L ha (by omega)
      have hsh' : ie (a : Nat) >>> (ie ((L + 0 : Nat) : Int) &&& 31) = ie ((a / 2 ^ L : Nat) : Int) := hsh
      rw [if_neg (show ¬ (ie ((L + 0 : Nat) : Int) ≤ (0 : Int32)) from fun hh => by have := (inle (L + 0) 0 (by omega) (by omega)).mp hh; omega), hsh', if_neg (show ¬ (ie ((a / 2 ^ L : Nat) : Int) = (0 : Int32)) from fun hh => by have := (ineq _ 0 (by omega) (by omega)).mp hh; omega)]
  | succ m ih =>
    intro f u hL hf
    obtain ⟨f, rfl⟩ : ∃ f', f = f' + 1 := ⟨f - 1, by omega⟩
    have hz : a / 2 ^ (L + (m + 1)) = 0 := Nat.div_eq_of_lt (Nat.lt_of_lt_of_le h2 (Nat.pow_le_pow_right (by omega) (by omega)))
    have hd : ie ((L + (m + 1) : Nat) : Int) + (-1) = ie ((L + m : Nat) : Int) := by rw [show (-1 : Int32) = ie (-1) from rfl, ie_add]; congr 1; omega
    rw [K_Md_reach_36, if_neg (by decide), if_neg (show ¬ (ie ((L + (m + 1) : Nat) : Int) ≤ (0 : Int32)) from fun hh => by have := (inle (L + (m + 1)) 0 (by omega) (by omega)).mp hh; omega), shR a _ ha (by omega), hz, if_pos (by decide), hd]
    exact ih f u (by omega) (by omega)
theorem rchB {N : Nat} (hN : 100 ≤ N) {c1 : Int32} {g : pm_s} {u : pm_J} (h : LI g u) : ∃ w, ag aX u w ∧ ((F_Machine_typeAt N c1 g u = some (-1) ∧ F_Md_reach N c1 g (wi u 64 2 0) = some (0, w)) ∨ (∃ (ky l : Nat) (R : Ty) (v : Va) (Y : List Ty), tyC g u Y ∧ F_Machine_typeAt N c1 g u = some (ie (ky : Nat)) ∧ Y[ky]? = some R ∧ F_Machine_valueAt N c1 g u = some v.2 ∧ rsV u l R v ∧ F_Md_reach N c1 g (wi u 64 2 0) = some (1, w) ∧ nwR w v)) := by
  obtain ⟨o, n, pu_W, _, _, _, _, h5, _, _⟩ := id h
  obtain ⟨f, hf⟩ : ∃ f', N = f' + 1 := ⟨N - 1, by omega⟩
  let u1 : pm_J := wj (wi (wi u 64 2 0) 64 108 (u.1 64 93)) 64 109 (u.2 64 94)
  have a1 : ag aX u u1 := ag_wj (ag_wi (ag_wi (ag_r _ u) _ _ _ (by unfold aX; omega)) _ _ _ (by unfold aX; omega)) _ _ _ (by unfold aX; omega)
  have no : K_Md_reach_16 N g c1 0 (wi u 64 2 0) = some (0, u1) := by
    unfold K_Md_reach_16
    show K_Md_reach_36 N g N c1 0 30 u1 = _
    have h36 : K_Md_reach_36 N g (f + 1) c1 0 30 u1 = K_Md_reach_61 N g N c1 0 (30 - 1) u1 := by rw [K_Md_reach_36, if_pos rfl]
    have h61 : K_Md_reach_61 N g (f + 1) c1 0 (30 - 1) u1 = some (0, u1) := by rw [K_Md_reach_61, if_neg (by decide), if_pos rfl, if_pos (by decide)]
    rw [← hf] at h36 h61
    rw [h36, h61]
  rcases h5 with ⟨b1, b2⟩ | ⟨b1, b2, Y, R, k, v, l, c2, c3, c4, c5, c6, c7, c8, c9, c10⟩
  · refine ⟨u1, a1, Or.inl ⟨?_, ?_⟩⟩
    · unfold F_Machine_typeAt; rw [if_neg b1]
    · unfold F_Md_reach
      rw [wi_ne _ _ _ _ _ _ (by omega), b2, if_pos (by decide)]; exact no
  · by_cases e1 : (1 : Int32) ≤ c1
    · obtain ⟨a, rfl, ha⟩ := i32_nat c1 (fun hh => by
        have x1 := Int32.le_iff_toInt_le.mp e1
        have x2 := Int32.lt_iff_toInt_lt.mp hh
        have x3 : (1 : Int32).toInt = 1 := by decide
        have x4 : (0 : Int32).toInt = 0 := by decide
        omega)
      have ha1 : 1 ≤ a := (inle 1 a (by omega) (by omega)).mp e1
      obtain ⟨L, l1, l2, l3, l4⟩ := c_len N g u a ha1 ha
      have hq : ie (L : Nat) - 1 = ie ((L : Int) - 1) := by rw [show (1 : Int32) = ie 1 from rfl, ie_sub]
      have hty : F_Machine_typeAt N (ie (a : Nat)) g u = K_Machine_typeAt_27 N g u N (ie (a : Nat)) (ie (k : Nat)) (ie ((L : Int) - 1)) := by
        unfold F_Machine_typeAt
        rw [b1, if_pos (show ie 1 = (1 : Int32) from rfl), if_pos e1, l4, Option.bind_some, hq, c3]
      have hva : F_Machine_valueAt N (ie (a : Nat)) g u = K_Machine_valueAt_13 N g u N (ie (a : Nat)) v.2 (ie ((L : Int) - 1)) := by
        unfold F_Machine_valueAt
        rw [l4, Option.bind_some, hq, c5]
      have hre : F_Md_reach N (ie (a : Nat)) g (wi u 64 2 0) = K_Md_reach_61 N g N (ie (a : Nat)) 1 (ie ((L : Int) - 1)) u1 := by
        unfold F_Md_reach
        rw [wi_ne _ _ _ _ _ _ (by omega), b2, if_neg (show ¬ (ie 1 = (0 : Int32)) by decide), if_neg (show ¬ (ie (a : Nat) ≤ (0 : Int32)) from fun hh => by have := (inle a 0 (by omega) (by omega)).mp hh; omega)]
        unfold K_Md_reach_16
        show K_Md_reach_36 N g N (ie (a : Nat)) 1 30 u1 = _
        have := r_top (N := N) (g := g) l2 l3 ha (30 - L) N u1 (by omega) (by omega)
        rw [show L + (30 - L) = 30 by omega] at this
        exact this
      have hnw : nwR u1 v := ⟨by show (wj (wi (wi u 64 2 0) 64 108 (u.1 64 93)) 64 109 (u.2 64 94)).1 64 108 = _; rw [wj_1, wi_at]; exact c6, by show (wj (wi (wi u 64 2 0) 64 108 (u.1 64 93)) 64 109 (u.2 64 94)).2 64 109 = _; rw [wj_at]; exact c7⟩
      rw [hty, hva, hre]
      rcases wkB N c2 ha c8 c9 L l1 R v k u1 N N N (by omega) (by omega) (by omega) c10 c4 a1 hnw with ⟨R', v', ky', w, d1, d2, d3, d4, d5, d6, d7⟩ | ⟨w, d1, d2, d3⟩
      · exact ⟨w, d7, Or.inr ⟨ky', l, R', v', Y, c2, d1, d2, d3, d4, d5, d6⟩⟩
      · exact ⟨w, d3, Or.inl ⟨d1, d2⟩⟩
    · refine ⟨u1, a1, Or.inl ⟨?_, ?_⟩⟩
      · unfold F_Machine_typeAt; rw [b1, if_pos (show ie 1 = (1 : Int32) from rfl), if_neg e1]
      · unfold F_Md_reach
        have e0 : c1 ≤ 0 := by
          apply Int32.le_iff_toInt_le.mpr
          have x1 : ¬ ((1 : Int32).toInt ≤ c1.toInt) := fun hh => e1 (Int32.le_iff_toInt_le.mpr hh)
          have x3 : (1 : Int32).toInt = 1 := by decide
          have x4 : (0 : Int32).toInt = 0 := by decide
          omega
        rw [wi_ne _ _ _ _ _ _ (by omega), b2, if_neg (show ¬ (ie 1 = (0 : Int32)) by decide), if_pos e0]; exact no
theorem srB {N : Nat} (hN : 100 ≤ N) {c1 : Int32} {g : pm_s} {u : pm_J} (h : LI g u) : ∃ (w : pm_J) (s : Int32) (y : Int64), LI g w ∧ F_BC_sort N c1 g u = some s ∧ F_Md_sort N c1 g u = some (s, w) ∧ F_BC_result N c1 g u = some y ∧ F_Md_result N c1 g u = some (y, w) := by
  obtain ⟨w, aw, hc⟩ := rchB hN (c1 := c1) h
  have hL : LI g w := LI_ag h (ag_m aw (fun c i hc => by unfold aL at hc; unfold aX; omega))
  rcases hc with ⟨h1, h2⟩ | ⟨ky, l, R, v, Y, h1, h2, h3, h4, h5, h6, h7⟩
  · have hs : F_Machine_sortAt N c1 g u = some (-1) := by
      unfold F_Machine_sortAt
      rw [h1, Option.bind_some]
      have hk : F_Types_kind (-1) g u = some (-1) := rfl
      rw [hk, Option.bind_some, if_neg (by decide), if_neg (by decide), if_neg (by decide), if_neg (by decide)]
      unfold K_Machine_sortAt_56
      rw [if_pos rfl]; rfl
    refine ⟨w, -1, 0, hL, ?_, ?_, ?_, ?_⟩
    · unfold F_BC_sort; rw [hs]; rfl
    · unfold F_Md_sort; rw [h2, Option.bind_some, if_pos rfl]
    · unfold F_BC_result F_Machine_wordAt
      rw [hs, Option.bind_some, if_neg (by decide), if_neg (by decide), if_neg (by decide), if_neg (by decide)]; rfl
    · unfold F_Md_result; rw [h2, Option.bind_some, if_pos rfl]
  · have hk := (c_row h1 ky R h3).1
    have hw1 : ∀ (s : Nat), s < 4 → v.1 = s → F_Machine_sortAt N c1 g u = some (ie (s : Nat)) → ∃ (w : pm_J) (s : Int32) (y : Int64), LI g w ∧ F_BC_sort N c1 g u = some s ∧ F_Md_sort N c1 g u = some (s, w) ∧ F_BC_result N c1 g u = some y ∧ F_Md_result N c1 g u = some (y, w) := by
      intro s hs4 hvs hs
      have n4 : ¬ (ie (s : Nat) = (4 : Int32)) := fun hh => by have := (ineq s 4 (by omega) (by omega)).mp hh; omega
      have n5 : ¬ (ie (s : Nat) = (5 : Int32)) := fun hh => by have := (ineq s 5 (by omega) (by omega)).mp hh; omega
      refine ⟨w, ie (s : Nat), if s < 2 then v.2 else 0, hL, ?_, ?_, ?_, ?_⟩
      · unfold F_BC_sort; rw [hs]; rfl
      · unfold F_Md_sort
        rw [h6, Option.bind_some, if_neg (show ¬ ((1 : Int32) = 0) by decide)]
        show (if w.1 64 108 = 4 then _ else some (w.1 64 108, w)) = _
        rw [h7.1, hvs, if_neg n4]
      · unfold F_BC_result F_Machine_wordAt
        rw [hs, Option.bind_some]
        rcases (show s = 0 ∨ s = 1 ∨ s = 2 ∨ s = 3 by omega) with rfl | rfl | rfl | rfl
        · rw [if_pos (by decide), h4]; rfl
        · rw [if_neg (by decide), if_pos (by decide), h4]; rfl
        · rw [if_neg (by decide), if_neg (by decide), if_neg n4, if_neg n5]; rfl
        · rw [if_neg (by decide), if_neg (by decide), if_neg n4, if_neg n5]; rfl
      · unfold F_Md_result
        rw [h6, Option.bind_some, if_neg (show ¬ ((1 : Int32) = 0) by decide)]
        show (if 2 ≤ w.1 64 108 then if w.1 64 108 = 4 then _ else some (0, w) else some (w.2 64 109, w)) = _
        rw [h7.1, h7.2, hvs]
        by_cases e : s < 2
        · rw [if_neg (show ¬ ((2 : Int32) ≤ ie (s : Nat)) from fun hh => by have := (inle 2 s (by omega) (by omega)).mp hh; omega), if_pos e]
        · rw [if_pos (show (2 : Int32) ≤ ie (s : Nat) from (inle 2 s (by omega) (by omega)).mpr (by omega)), if_neg n4, if_neg e]
    have so : ∀ x : Nat, tyK R = x → F_Machine_sortAt N c1 g u = if ie (x : Nat) = 0 then some 0 else if ie (x : Nat) = 1 then some 1 else if ie (x : Nat) = 3 then some 2 else if ie (x : Nat) = 4 then some 3 else K_Machine_sortAt_56 N g u c1 (ie (ky : Nat)) := fun x hx => by
      unfold F_Machine_sortAt
      rw [h2, Option.bind_some, hk, Option.bind_some, hx]
    cases R with
    | num k =>
      obtain ⟨r1, r2⟩ := h5
      have hkk : tyK (.num k) = k := by show (if k < 2 then k else 2) = k; rw [if_pos r1]
      refine hw1 k (by omega) r2 ?_
      rw [so k hkk]
      rcases (show k = 0 ∨ k = 1 by omega) with rfl | rfl
      · rw [if_pos (by decide)]; rfl
      · rw [if_neg (by decide), if_pos (by decide)]; rfl
    | var k => exact h5.elim
    | add A B =>
      refine hw1 2 (by omega) h5.1 ?_
      rw [so 3 rfl, if_neg (by decide), if_neg (by decide), if_pos (by decide)]; rfl
    | mul A B =>
      refine hw1 3 (by omega) h5 ?_
      rw [so 4 rfl, if_neg (by decide), if_neg (by decide), if_neg (by decide), if_pos (by decide)]; rfl
theorem o_sort {N : Nat} (hN : 100 ≤ N) {c1 : Int32} {g : pm_s} {u : pm_J} (h : LI g u) : gLB g ((F_BC_sort N c1 g u).bind fun q94 => (F_Md_sort N c1 g u).bind fun q95 => if q94 = q95.1 then some ((), g, q95.2) else none) := by
  obtain ⟨w, s, y, h1, h2, h3, h4, h5⟩ := srB hN (c1 := c1) h
  rw [h2, Option.bind_some, h3, Option.bind_some, if_pos rfl]
  exact gLB_0 h1
theorem o_result {N : Nat} (hN : 100 ≤ N) {c1 : Int32} {g : pm_s} {u : pm_J} (h : LI g u) : gLB g ((F_BC_result N c1 g u).bind fun q98 => (F_Md_result N c1 g u).bind fun q99 => if (lg_cmp q98 q99.1) = 0 then some ((), g, q99.2) else none) := by
  obtain ⟨w, s, y, h1, h2, h3, h4, h5⟩ := srB hN (c1 := c1) h
  rw [h4, Option.bind_some, h5, Option.bind_some, if_pos ((lg_eq0 _ _).mpr rfl)]
  exact gLB_0 h1
