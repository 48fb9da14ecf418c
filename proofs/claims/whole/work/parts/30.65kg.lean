set_option maxRecDepth 100000
theorem k_local {T : List Tok} {n : Nat} {D : List Df} {t : Tr} {c : CS} {g : pm_s} {u : pm_J} {Y : List Ty} {e f0 di l : Nat} {x : Df} (H : cK T n D t c g u Y) (hx : D[di]? = some x) (h43 : u.1 43 4 = ie (di : Nat)) (he : e < t.1) (hl : lOK (x.2.2.2.2.2.2, t) f0 e l) (hI : kI D t f0 e c) : ∃ w s, F_Checker_typeOfLocal (ie (l : Nat)) g u = some w ∧ lTy x.2.2.2.2.2.2 c.1 l = some s ∧ tyN Y w (some s) := by
  obtain ⟨h1, h2⟩ := hl
  obtain ⟨l1, l2, l3⟩ := tb_loc (g := g) H.2.2.2.1 hx (H.2.2.2.2.1 di x hx) l h1
  unfold F_Checker_typeOfLocal lTy
  rw [h43, l2, Option.bind_some]
  rcases h2 with ⟨h2, s, h3⟩ | ⟨b, b1, b2, b3, b4⟩
  · have h2' : x.2.2.2.2.2.2.2.2 l = -1 := h2
    have h3' : x.2.2.2.2.2.2.2.1 l = some s := h3
    rw [h2', if_pos (show ie (-1) = -1 from rfl), l1, Option.bind_some, if_pos (by omega), h3']
    rw [h3'] at l3
    exact ⟨_, s, rfl, rfl, l3⟩
  · have b1' : x.2.2.2.2.2.2.2.2 l = (b : Nat) := b1
    have hb : b < t.1 := by omega
    obtain ⟨s, hs⟩ := hI.2.2.1 b b2 b3 b4
    have h18 := H.2.2.1.2
    obtain ⟨_, _, _, _, _, _, m7, _⟩ := tr_row (g := g) H.2.2.1 b hb
    have k7 := (H.2.2.2.2.2 b hb).2.2.2.2.2.2.1
    rw [hs] at k7
    rw [b1', if_neg (ie_m1 b (by omega)), m7, Option.bind_some, if_neg (by omega), show ((b : Nat) : Int).toNat = b by omega, hs]
    exact ⟨_, s, rfl, rfl, k7⟩
theorem k16 {k : Nat} (h1 : k ≤ 16) (h5 : k ≠ 5) (h6 : k ≠ 6) (h3 : ¬ (k = 3 ∨ k = 4)) : k = 0 ∨ k = 1 ∨ k = 2 ∨ k = 7 ∨ k = 8 ∨ k = 9 ∨ k = 10 ∨ k = 11 ∨ k = 12 ∨ k = 13 ∨ k = 14 ∨ k = 15 ∨ k = 16 := by omega
theorem k_typeOf {T : List Tok} {n : Nat} {D : List Df} {t : Tr} {c : CS} {g : pm_s} {u : pm_J} {Y : List Ty} {e f0 di : Nat} {x : Df} (N : Nat) (hN : 100000 ≤ N) (H : cK T n D t c g u Y) (hx : D[di]? = some x) (h43 : u.1 43 4 = ie (di : Nat)) (he : e < t.1) (hW : ∀ j, f0 ≤ j → j ≤ e → nW T di f0 f0 (x.2.2.2.2.2.2, t) j) (hf : f0 ≤ e) (hI : kI D t f0 e c) (hpar : parI D) (hlet : ltI D) (hY : Y.length + 200 ≤ 60000) (hk34 : ¬ ((t.2.1 e).1 = 3 ∨ (t.2.1 e).1 = 4)) :
    ∃ (w : Int32) (g' : pm_s) (v : pm_J) (Z : List Ty) (c' : CS), F_Checker_typeOf N (ie (e : Nat)) g u = some (w, g', v) ∧ cK T n D t c' g' v (Y ++ Z) ∧ frK u v ∧ gL g g' ∧ Z.length ≤ (if (t.2.1 e).1 = 16 then 99 else 1) ∧ (match (if (t.2.1 e).1 = 16 then ckC D t c e (t.2.1 e) else (nty x.2.2.2.2.2.2 c.1 (t.2.1 e)).map fun s => (s, c)) with | none => w = ie (-1) | some q => c' = q.2 ∧ tyN (Y ++ Z) w (some q.1)) := by
  have hgI := H.2.1.2.2.1
  have h18 := H.2.2.1.2
  obtain ⟨m1, m2, m3, m4, m5, m6, m7, m8⟩ := tr_row (g := g) H.2.2.1 e he
  obtain ⟨k1, k2, k3, k4, k5, k6, k7, k8, k9, k10⟩ := H.2.2.2.2.2 e he
  have hWe := hW e hf (Nat.le_refl _)
  unfold nW at hWe
  dsimp only at hWe
  obtain ⟨w1, w2, w3, w4, w5, w6, w7, w8, w9, w10, w11⟩ := hWe
  rw [kk_n (hI.2.2.2.2 e (Nat.le_refl _)).2.1] at k1
  have chld : ∀ z : Int, cO (x.2.2.2.2.2.2, t) f0 e z → ∃ (j : Nat) (s : Ty), z = j ∧ z.toNat = j ∧ c.1 j = some s ∧ (∃ k : Nat, F_Tree_type (ie z) g u = some (ie (k : Nat)) ∧ Y[k]? = some s) := by
    rintro z ⟨j, j1, j2, j3, j4⟩
    obtain ⟨s, hs⟩ := hI.2.2.1 j j2 j3 j4
    have hjt : j < t.1 := by omega
    obtain ⟨_, _, _, _, _, _, r7, _⟩ := tr_row (g := g) H.2.2.1 j hjt
    have q7 := (H.2.2.2.2.2 j hjt).2.2.2.2.2.2.1
    rw [hs] at q7
    obtain ⟨k, q1, q2⟩ := q7
    exact ⟨j, s, j1, by omega, hs, k, by rw [j1, r7, q1], q2⟩
  obtain ⟨ya, hya⟩ := tr_tot g H.2.2.1 (ie (t.2.1 e).2.2.1)
  obtain ⟨yb, hyb⟩ := tr_tot g H.2.2.1 (ie (t.2.1 e).2.2.2.1)
  have bN : ∀ k : Nat, k < 6 → tyN Y (ie (k : Nat)) (some (.num k)) := fun k hk => ⟨k, rfl, H.2.1.2.2.2.2.2.1 k hk⟩
  have fin : ∀ (z : Option Ty) (w : Int32), tyN Y w z → (match z.map fun s => (s, c) with | none => w = ie (-1) | some q => c = q.2 ∧ tyN (Y ++ []) w (some q.1)) := by
    intro z w h
    rw [List.append_nil]
    cases z with
    | none => exact h
    | some s => exact ⟨rfl, h⟩
  have nK : ∀ k, (t.2.1 e).1 = k → k ≠ 16 → Nat.le 0 (if (t.2.1 e).1 = 16 then 99 else 1) := fun k _ _ => Nat.zero_le _
  unfold F_Checker_typeOf
  rw [m3, Option.bind_some, k3, hya, Option.bind_some, m4, Option.bind_some, k4, hyb, Option.bind_some, m1, Option.bind_some, k1]
  have cases16 := k16 w2.1 w2.2.1 w2.2.2 hk34
  have hz : ∀ s : Ty, tyQ (.num 0) s = true ↔ s = .num 0 := fun s => by rw [tyQ_eq (show tyG (.num 0) by show 0 < 6; omega)]; exact eq_comm
  have h0 : ∀ (k : Nat) (s : Ty), Y[k]? = some s → (ie (k : Nat) = 0 ↔ s = .num 0) := fun k s hk => by
    have := c_same H.2.1 k 0 s (.num 0) hk (H.2.1.2.2.2.2.2.1 0 (by omega))
    exact this
  rcases cases16 with hk | hk | hk | hk | hk | hk | hk | hk | hk | hk | hk | hk | hk
  · rw [hk, if_pos (show ie ((0 : Nat) : Int) = 0 from rfl), pmS_some g g _ _ (Nat.le_refl _) (Nat.le_refl _), if_neg (show ¬ (0 = 16) by omega), if_neg (show ¬ (0 = 16) by omega)]
    refine ⟨_, g, u, [], c, rfl, by rw [List.append_nil]; exact H, frK_refl _, gL_refl hgI, Nat.zero_le _, ?_⟩
    unfold nty; rw [if_pos hk]; exact fin (some (.num 0)) _ (bN 0 (by omega))
  · rw [hk, if_neg (show ¬ (ie ((1 : Nat) : Int) = 0) by decide), if_pos (show ie ((1 : Nat) : Int) = 1 from rfl), pmS_some g g _ _ (Nat.le_refl _) (Nat.le_refl _), if_neg (show ¬ (1 = 16) by omega), if_neg (show ¬ (1 = 16) by omega)]
    refine ⟨_, g, u, [], c, rfl, by rw [List.append_nil]; exact H, frK_refl _, gL_refl hgI, Nat.zero_le _, ?_⟩
    unfold nty; rw [if_neg (show ¬ ((t.2.1 e).1 = 0) by omega), if_pos hk]; exact fin (some (.num 1)) _ (bN 1 (by omega))
  · obtain ⟨l, l1, l2⟩ := w3 hk
    obtain ⟨w, s, q1, q2, q3⟩ := k_local H hx h43 he l2 hI
    have l1' : (t.2.1 e).2.2.1 = (l : Nat) := l1
    rw [hk, if_neg (show ¬ (ie ((2 : Nat) : Int) = 0) by decide), if_neg (show ¬ (ie ((2 : Nat) : Int) = 1) by decide), if_pos (show ie ((2 : Nat) : Int) = 2 from rfl), Option.bind_some, l1', q1, Option.bind_some, pmS_some g g _ _ (Nat.le_refl _) (Nat.le_refl _), if_neg (show ¬ (2 = 16) by omega), if_neg (show ¬ (2 = 16) by omega)]
    refine ⟨_, g, u, [], c, rfl, by rw [List.append_nil]; exact H, frK_refl _, gL_refl hgI, Nat.zero_le _, ?_⟩
    unfold nty; rw [if_neg (show ¬ ((t.2.1 e).1 = 0) by omega), if_neg (show ¬ ((t.2.1 e).1 = 1) by omega), if_pos hk, l1', show ((l : Nat) : Int).toNat = l by omega, q2]; exact fin (some s) _ q3
  · obtain ⟨j, s, j1, j2, j3, kb, j4, j5⟩ := chld _ (w9 (show (t.2.1 e).1 = 7 ∨ (t.2.1 e).1 = 8 ∨ (10 ≤ (t.2.1 e).1 ∧ (t.2.1 e).1 ≤ 13) by omega))
    have e2 : yb = ie (kb : Nat) := Option.some.inj (hyb.symm.trans j4)
    rw [hk, if_neg (show ¬ (ie ((7 : Nat) : Int) = 0) by decide), if_neg (show ¬ (ie ((7 : Nat) : Int) = 1) by decide), if_neg (show ¬ (ie ((7 : Nat) : Int) = 2) by decide), if_neg (show ¬ (ie ((7 : Nat) : Int) = 6) by decide), if_pos (show ie ((7 : Nat) : Int) = 7 from rfl), pmS_some g g _ _ (Nat.le_refl _) (Nat.le_refl _), if_neg (show ¬ (7 = 16) by omega), if_neg (show ¬ (7 = 16) by omega), e2]
    refine ⟨_, g, u, [], c, rfl, by rw [List.append_nil]; exact H, frK_refl _, gL_refl hgI, Nat.zero_le _, ?_⟩
    unfold nty; rw [if_neg (show ¬ ((t.2.1 e).1 = 0) by omega), if_neg (show ¬ ((t.2.1 e).1 = 1) by omega), if_neg (show ¬ ((t.2.1 e).1 = 2) by omega), if_pos hk, j2, j3]; exact fin (some s) _ ⟨kb, rfl, j5⟩
  · obtain ⟨j, s, j1, j2, j3, ka, j4, j5⟩ := chld _ (w8 (show 7 ≤ (t.2.1 e).1 by omega) (show (t.2.1 e).1 ≤ 15 by omega))
    obtain ⟨i, r, i1, i2, i3, kb, i4, i5⟩ := chld _ (w9 (show (t.2.1 e).1 = 7 ∨ (t.2.1 e).1 = 8 ∨ (10 ≤ (t.2.1 e).1 ∧ (t.2.1 e).1 ≤ 13) by omega))
    obtain ⟨o, q, o1, o2, o3, kc, o4, o5⟩ := chld _ (w10 hk)
    have e1 : ya = ie (ka : Nat) := Option.some.inj (hya.symm.trans j4)
    have e2 : yb = ie (kb : Nat) := Option.some.inj (hyb.symm.trans i4)
    have hnt : nty x.2.2.2.2.2.2 c.1 (t.2.1 e) = if tyQ (.num 0) s = true ∧ tyQ r q = true then some r else none := by
      unfold nty
      rw [if_neg (show ¬ ((t.2.1 e).1 = 0) by omega), if_neg (show ¬ ((t.2.1 e).1 = 1) by omega), if_neg (show ¬ ((t.2.1 e).1 = 2) by omega), if_neg (show ¬ ((t.2.1 e).1 = 7) by omega), j2, j3]
      show (if (t.2.1 e).1 = 9 then _ else _) = _
      rw [if_neg (show ¬ ((t.2.1 e).1 = 9) by omega), if_neg (show ¬ ((t.2.1 e).1 = 14) by omega), if_neg (show ¬ ((t.2.1 e).1 = 15) by omega), i2, i3]
      show (if (t.2.1 e).1 = 8 then _ else _) = _
      rw [if_pos hk, o2, o3]
    rw [hk, if_neg (show ¬ (ie ((8 : Nat) : Int) = 0) by decide), if_neg (show ¬ (ie ((8 : Nat) : Int) = 1) by decide), if_neg (show ¬ (ie ((8 : Nat) : Int) = 2) by decide), if_neg (show ¬ (ie ((8 : Nat) : Int) = 6) by decide), if_neg (show ¬ (ie ((8 : Nat) : Int) = 7) by decide), if_pos (show ie ((8 : Nat) : Int) = 8 from rfl), if_neg (show ¬ (8 = 16) by omega), if_neg (show ¬ (8 = 16) by omega), e1, e2, hnt]
    by_cases hs0 : s = .num 0
    · rw [if_pos ((h0 ka s j5).mpr hs0), m5, Option.bind_some, k5, o4, Option.bind_some]
      by_cases hrq : r = q
      · rw [if_pos ((c_same H.2.1 kb kc r q i5 o5).mpr hrq), pmS_some g g _ _ (Nat.le_refl _) (Nat.le_refl _), if_pos ⟨(hz s).mpr hs0, (tyQ_eq (tyC_g H.2.1 kb r i5)).mpr hrq⟩]
        exact ⟨_, g, u, [], c, rfl, by rw [List.append_nil]; exact H, frK_refl _, gL_refl hgI, Nat.zero_le _, fin (some r) _ ⟨kb, rfl, i5⟩⟩
      · rw [if_neg (fun hh => hrq ((c_same H.2.1 kb kc r q i5 o5).mp hh)), pmS_some g g _ _ (Nat.le_refl _) (Nat.le_refl _), if_neg (fun hh => hrq ((tyQ_eq (tyC_g H.2.1 kb r i5)).mp hh.2))]
        exact ⟨_, g, u, [], c, rfl, by rw [List.append_nil]; exact H, frK_refl _, gL_refl hgI, Nat.zero_le _, fin none _ rfl⟩
    · rw [if_neg (fun hh => hs0 ((h0 ka s j5).mp hh)), pmS_some g g _ _ (Nat.le_refl _) (Nat.le_refl _), if_neg (fun hh => hs0 ((hz s).mp hh.1))]
      exact ⟨_, g, u, [], c, rfl, by rw [List.append_nil]; exact H, frK_refl _, gL_refl hgI, Nat.zero_le _, fin none _ rfl⟩
  · obtain ⟨j, s, j1, j2, j3, ka, j4, j5⟩ := chld _ (w8 (show 7 ≤ (t.2.1 e).1 by omega) (show (t.2.1 e).1 ≤ 15 by omega))
    obtain ⟨_, l, l1, l2, l3, l4⟩ := w7 hk
    obtain ⟨wl, sl, q1, q2, q3⟩ := k_local (l := l) H hx h43 he ⟨l2, Or.inl ⟨l3, l4⟩⟩ hI
    have e1 : ya = ie (ka : Nat) := Option.some.inj (hya.symm.trans j4)
    obtain ⟨kl, q4, q5⟩ := q3
    obtain ⟨z, g', v, Z, z1, z2, z3, z4, z5, z6⟩ := c_make N hN H.2.1 true sl s kl ka q5 j5 (by omega)
    have z1' : F_Types_make N 4 (ie (kl : Nat)) (ie (ka : Nat)) g u = some (ie (z : Nat), g', v) := z1
    have hnt : nty x.2.2.2.2.2.2 c.1 (t.2.1 e) = some (.mul sl s) := by
      unfold nty
      rw [if_neg (show ¬ ((t.2.1 e).1 = 0) by omega), if_neg (show ¬ ((t.2.1 e).1 = 1) by omega), if_neg (show ¬ ((t.2.1 e).1 = 2) by omega), if_neg (show ¬ ((t.2.1 e).1 = 7) by omega), j2, j3]
      show (if (t.2.1 e).1 = 9 then _ else _) = _
      rw [if_pos hk, show (t.2.1 e).2.2.2.2.1 = (l : Nat) from l1, show ((l : Nat) : Int).toNat = l by omega, q2]
    rw [hk, if_neg (show ¬ (ie ((9 : Nat) : Int) = 0) by decide), if_neg (show ¬ (ie ((9 : Nat) : Int) = 1) by decide), if_neg (show ¬ (ie ((9 : Nat) : Int) = 2) by decide), if_neg (show ¬ (ie ((9 : Nat) : Int) = 6) by decide), if_neg (show ¬ (ie ((9 : Nat) : Int) = 7) by decide), if_neg (show ¬ (ie ((9 : Nat) : Int) = 8) by decide), if_pos (show ie ((9 : Nat) : Int) = 9 from rfl), m5, Option.bind_some, k5, show (t.2.1 e).2.2.2.2.1 = (l : Nat) from l1, q1, Option.bind_some, q4, e1, z1', Option.bind_some, if_pos (gI_Tb z6.1), pmS_some g' g' _ _ (Nat.le_refl _) (Nat.le_refl _), pmS_some g g' _ _ z6.2.1 z6.2.2.1, if_neg (show ¬ (9 = 16) by omega), if_neg (show ¬ (9 = 16) by omega), hnt]
    exact ⟨_, g', v, Z, c, rfl, cK_grow H Z z2 z5, frK_y z5, z6, z3, rfl, z, rfl, z4⟩
  · obtain ⟨j, s, j1, j2, j3, ka, j4, j5⟩ := chld _ (w8 (show 7 ≤ (t.2.1 e).1 by omega) (show (t.2.1 e).1 ≤ 15 by omega))
    obtain ⟨i, r, i1, i2, i3, kb, i4, i5⟩ := chld _ (w9 (show (t.2.1 e).1 = 7 ∨ (t.2.1 e).1 = 8 ∨ (10 ≤ (t.2.1 e).1 ∧ (t.2.1 e).1 ≤ 13) by omega))
    have e1 : ya = ie (ka : Nat) := Option.some.inj (hya.symm.trans j4)
    have e2 : yb = ie (kb : Nat) := Option.some.inj (hyb.symm.trans i4)
    have hnt : nty x.2.2.2.2.2.2 c.1 (t.2.1 e) = if tyQ (.num 0) s = true ∧ tyQ (.num 0) r = true then some (.num 0) else none := by
      unfold nty
      rw [if_neg (show ¬ ((t.2.1 e).1 = 0) by omega), if_neg (show ¬ ((t.2.1 e).1 = 1) by omega), if_neg (show ¬ ((t.2.1 e).1 = 2) by omega), if_neg (show ¬ ((t.2.1 e).1 = 7) by omega), j2, j3]
      show (if (t.2.1 e).1 = 9 then _ else _) = _
      rw [if_neg (show ¬ ((t.2.1 e).1 = 9) by omega), if_neg (show ¬ ((t.2.1 e).1 = 14) by omega), if_neg (show ¬ ((t.2.1 e).1 = 15) by omega), i2, i3]
      show (if (t.2.1 e).1 = 8 then _ else _) = _
      rw [if_neg (show ¬ ((t.2.1 e).1 = 8) by omega), if_neg (show ¬ ((t.2.1 e).1 = 13) by omega)]
    rw [hk, if_neg (show ¬ (ie ((10 : Nat) : Int) = 0) by decide), if_neg (show ¬ (ie ((10 : Nat) : Int) = 1) by decide), if_neg (show ¬ (ie ((10 : Nat) : Int) = 2) by decide), if_neg (show ¬ (ie ((10 : Nat) : Int) = 6) by decide), if_neg (show ¬ (ie ((10 : Nat) : Int) = 7) by decide), if_neg (show ¬ (ie ((10 : Nat) : Int) = 8) by decide), if_neg (show ¬ (ie ((10 : Nat) : Int) = 9) by decide), if_pos (show ie ((10 : Nat) : Int) = 10 from rfl), if_neg (show ¬ (10 = 16) by omega), if_neg (show ¬ (10 = 16) by omega), e1, e2, hnt]
    unfold K_Checker_typeOf_211
    by_cases hs0 : s = .num 0
    · have ka0 : ie (ka : Nat) = 0 := (h0 ka s j5).mpr hs0
      rw [if_pos ka0]
      by_cases hr0 : r = .num 0
      · rw [if_pos (show ie (kb : Nat) = ie (ka : Nat) by rw [ka0]; exact (h0 kb r i5).mpr hr0), pmS_some g g _ _ (Nat.le_refl _) (Nat.le_refl _), if_pos ⟨(hz s).mpr hs0, (hz r).mpr hr0⟩, ka0]
        exact ⟨_, g, u, [], c, rfl, by rw [List.append_nil]; exact H, frK_refl _, gL_refl hgI, Nat.zero_le _, fin (some (.num 0)) _ (bN 0 (by omega))⟩
      · rw [if_neg (show ¬ (ie (kb : Nat) = ie (ka : Nat)) from fun hh => hr0 ((h0 kb r i5).mp (hh.trans ka0))), pmS_some g g _ _ (Nat.le_refl _) (Nat.le_refl _), if_neg (fun hh => hr0 ((hz r).mp hh.2))]
        exact ⟨_, g, u, [], c, rfl, by rw [List.append_nil]; exact H, frK_refl _, gL_refl hgI, Nat.zero_le _, fin none _ rfl⟩
    · rw [if_neg (fun hh => hs0 ((h0 ka s j5).mp hh)), pmS_some g g _ _ (Nat.le_refl _) (Nat.le_refl _), if_neg (fun hh => hs0 ((hz s).mp hh.1))]
      exact ⟨_, g, u, [], c, rfl, by rw [List.append_nil]; exact H, frK_refl _, gL_refl hgI, Nat.zero_le _, fin none _ rfl⟩
  · obtain ⟨j, s, j1, j2, j3, ka, j4, j5⟩ := chld _ (w8 (show 7 ≤ (t.2.1 e).1 by omega) (show (t.2.1 e).1 ≤ 15 by omega))
    obtain ⟨i, r, i1, i2, i3, kb, i4, i5⟩ := chld _ (w9 (show (t.2.1 e).1 = 7 ∨ (t.2.1 e).1 = 8 ∨ (10 ≤ (t.2.1 e).1 ∧ (t.2.1 e).1 ≤ 13) by omega))
    have e1 : ya = ie (ka : Nat) := Option.some.inj (hya.symm.trans j4)
    have e2 : yb = ie (kb : Nat) := Option.some.inj (hyb.symm.trans i4)
    have hnt : nty x.2.2.2.2.2.2 c.1 (t.2.1 e) = if tyQ (.num 0) s = true ∧ tyQ (.num 0) r = true then some (.num 0) else none := by
      unfold nty
      rw [if_neg (show ¬ ((t.2.1 e).1 = 0) by omega), if_neg (show ¬ ((t.2.1 e).1 = 1) by omega), if_neg (show ¬ ((t.2.1 e).1 = 2) by omega), if_neg (show ¬ ((t.2.1 e).1 = 7) by omega), j2, j3]
      show (if (t.2.1 e).1 = 9 then _ else _) = _
      rw [if_neg (show ¬ ((t.2.1 e).1 = 9) by omega), if_neg (show ¬ ((t.2.1 e).1 = 14) by omega), if_neg (show ¬ ((t.2.1 e).1 = 15) by omega), i2, i3]
      show (if (t.2.1 e).1 = 8 then _ else _) = _
      rw [if_neg (show ¬ ((t.2.1 e).1 = 8) by omega), if_neg (show ¬ ((t.2.1 e).1 = 13) by omega)]
    rw [hk, if_neg (show ¬ (ie ((11 : Nat) : Int) = 0) by decide), if_neg (show ¬ (ie ((11 : Nat) : Int) = 1) by decide), if_neg (show ¬ (ie ((11 : Nat) : Int) = 2) by decide), if_neg (show ¬ (ie ((11 : Nat) : Int) = 6) by decide), if_neg (show ¬ (ie ((11 : Nat) : Int) = 7) by decide), if_neg (show ¬ (ie ((11 : Nat) : Int) = 8) by decide), if_neg (show ¬ (ie ((11 : Nat) : Int) = 9) by decide), if_neg (show ¬ (ie ((11 : Nat) : Int) = 10) by decide), if_pos (show ie ((11 : Nat) : Int) = 11 from rfl), if_neg (show ¬ (11 = 16) by omega), if_neg (show ¬ (11 = 16) by omega), e1, e2, hnt]
    unfold K_Checker_typeOf_211
    by_cases hs0 : s = .num 0
    · have ka0 : ie (ka : Nat) = 0 := (h0 ka s j5).mpr hs0
      rw [if_pos ka0]
      by_cases hr0 : r = .num 0
      · rw [if_pos (show ie (kb : Nat) = ie (ka : Nat) by rw [ka0]; exact (h0 kb r i5).mpr hr0), pmS_some g g _ _ (Nat.le_refl _) (Nat.le_refl _), if_pos ⟨(hz s).mpr hs0, (hz r).mpr hr0⟩, ka0]
        exact ⟨_, g, u, [], c, rfl, by rw [List.append_nil]; exact H, frK_refl _, gL_refl hgI, Nat.zero_le _, fin (some (.num 0)) _ (bN 0 (by omega))⟩
      · rw [if_neg (show ¬ (ie (kb : Nat) = ie (ka : Nat)) from fun hh => hr0 ((h0 kb r i5).mp (hh.trans ka0))), pmS_some g g _ _ (Nat.le_refl _) (Nat.le_refl _), if_neg (fun hh => hr0 ((hz r).mp hh.2))]
        exact ⟨_, g, u, [], c, rfl, by rw [List.append_nil]; exact H, frK_refl _, gL_refl hgI, Nat.zero_le _, fin none _ rfl⟩
    · rw [if_neg (fun hh => hs0 ((h0 ka s j5).mp hh)), pmS_some g g _ _ (Nat.le_refl _) (Nat.le_refl _), if_neg (fun hh => hs0 ((hz s).mp hh.1))]
      exact ⟨_, g, u, [], c, rfl, by rw [List.append_nil]; exact H, frK_refl _, gL_refl hgI, Nat.zero_le _, fin none _ rfl⟩
  · obtain ⟨j, s, j1, j2, j3, ka, j4, j5⟩ := chld _ (w8 (show 7 ≤ (t.2.1 e).1 by omega) (show (t.2.1 e).1 ≤ 15 by omega))
    obtain ⟨i, r, i1, i2, i3, kb, i4, i5⟩ := chld _ (w9 (show (t.2.1 e).1 = 7 ∨ (t.2.1 e).1 = 8 ∨ (10 ≤ (t.2.1 e).1 ∧ (t.2.1 e).1 ≤ 13) by omega))
    have e1 : ya = ie (ka : Nat) := Option.some.inj (hya.symm.trans j4)
    have e2 : yb = ie (kb : Nat) := Option.some.inj (hyb.symm.trans i4)
    have hnt : nty x.2.2.2.2.2.2 c.1 (t.2.1 e) = if tyQ (.num 0) s = true ∧ tyQ (.num 0) r = true then some (.num 0) else none := by
      unfold nty
      rw [if_neg (show ¬ ((t.2.1 e).1 = 0) by omega), if_neg (show ¬ ((t.2.1 e).1 = 1) by omega), if_neg (show ¬ ((t.2.1 e).1 = 2) by omega), if_neg (show ¬ ((t.2.1 e).1 = 7) by omega), j2, j3]
      show (if (t.2.1 e).1 = 9 then _ else _) = _
      rw [if_neg (show ¬ ((t.2.1 e).1 = 9) by omega), if_neg (show ¬ ((t.2.1 e).1 = 14) by omega), if_neg (show ¬ ((t.2.1 e).1 = 15) by omega), i2, i3]
      show (if (t.2.1 e).1 = 8 then _ else _) = _
      rw [if_neg (show ¬ ((t.2.1 e).1 = 8) by omega), if_neg (show ¬ ((t.2.1 e).1 = 13) by omega)]
    rw [hk, if_neg (show ¬ (ie ((12 : Nat) : Int) = 0) by decide), if_neg (show ¬ (ie ((12 : Nat) : Int) = 1) by decide), if_neg (show ¬ (ie ((12 : Nat) : Int) = 2) by decide), if_neg (show ¬ (ie ((12 : Nat) : Int) = 6) by decide), if_neg (show ¬ (ie ((12 : Nat) : Int) = 7) by decide), if_neg (show ¬ (ie ((12 : Nat) : Int) = 8) by decide), if_neg (show ¬ (ie ((12 : Nat) : Int) = 9) by decide), if_neg (show ¬ (ie ((12 : Nat) : Int) = 10) by decide), if_neg (show ¬ (ie ((12 : Nat) : Int) = 11) by decide), if_pos (show ie ((12 : Nat) : Int) = 12 from rfl), if_neg (show ¬ (12 = 16) by omega), if_neg (show ¬ (12 = 16) by omega), e1, e2, hnt]
    unfold K_Checker_typeOf_211
    by_cases hs0 : s = .num 0
    · have ka0 : ie (ka : Nat) = 0 := (h0 ka s j5).mpr hs0
      rw [if_pos ka0]
      by_cases hr0 : r = .num 0
      · rw [if_pos (show ie (kb : Nat) = ie (ka : Nat) by rw [ka0]; exact (h0 kb r i5).mpr hr0), pmS_some g g _ _ (Nat.le_refl _) (Nat.le_refl _), if_pos ⟨(hz s).mpr hs0, (hz r).mpr hr0⟩, ka0]
        exact ⟨_, g, u, [], c, rfl, by rw [List.append_nil]; exact H, frK_refl _, gL_refl hgI, Nat.zero_le _, fin (some (.num 0)) _ (bN 0 (by omega))⟩
      · rw [if_neg (show ¬ (ie (kb : Nat) = ie (ka : Nat)) from fun hh => hr0 ((h0 kb r i5).mp (hh.trans ka0))), pmS_some g g _ _ (Nat.le_refl _) (Nat.le_refl _), if_neg (fun hh => hr0 ((hz r).mp hh.2))]
        exact ⟨_, g, u, [], c, rfl, by rw [List.append_nil]; exact H, frK_refl _, gL_refl hgI, Nat.zero_le _, fin none _ rfl⟩
    · rw [if_neg (fun hh => hs0 ((h0 ka s j5).mp hh)), pmS_some g g _ _ (Nat.le_refl _) (Nat.le_refl _), if_neg (fun hh => hs0 ((hz s).mp hh.1))]
      exact ⟨_, g, u, [], c, rfl, by rw [List.append_nil]; exact H, frK_refl _, gL_refl hgI, Nat.zero_le _, fin none _ rfl⟩
  · obtain ⟨j, s, j1, j2, j3, ka, j4, j5⟩ := chld _ (w8 (show 7 ≤ (t.2.1 e).1 by omega) (show (t.2.1 e).1 ≤ 15 by omega))
    obtain ⟨i, r, i1, i2, i3, kb, i4, i5⟩ := chld _ (w9 (show (t.2.1 e).1 = 7 ∨ (t.2.1 e).1 = 8 ∨ (10 ≤ (t.2.1 e).1 ∧ (t.2.1 e).1 ≤ 13) by omega))
    have e1 : ya = ie (ka : Nat) := Option.some.inj (hya.symm.trans j4)
    have e2 : yb = ie (kb : Nat) := Option.some.inj (hyb.symm.trans i4)
    obtain ⟨z, g', v, Z, z1, z2, z3, z4, z5, z6⟩ := c_make N hN H.2.1 false s r ka kb j5 i5 (by omega)
    have z1' : F_Types_make N 3 (ie (ka : Nat)) (ie (kb : Nat)) g u = some (ie (z : Nat), g', v) := z1
    have hnt : nty x.2.2.2.2.2.2 c.1 (t.2.1 e) = some (.add s r) := by
      unfold nty
      rw [if_neg (show ¬ ((t.2.1 e).1 = 0) by omega), if_neg (show ¬ ((t.2.1 e).1 = 1) by omega), if_neg (show ¬ ((t.2.1 e).1 = 2) by omega), if_neg (show ¬ ((t.2.1 e).1 = 7) by omega), j2, j3]
      show (if (t.2.1 e).1 = 9 then _ else _) = _
      rw [if_neg (show ¬ ((t.2.1 e).1 = 9) by omega), if_neg (show ¬ ((t.2.1 e).1 = 14) by omega), if_neg (show ¬ ((t.2.1 e).1 = 15) by omega), i2, i3]
      show (if (t.2.1 e).1 = 8 then _ else _) = _
      rw [if_neg (show ¬ ((t.2.1 e).1 = 8) by omega), if_pos hk]
    rw [hk, if_neg (show ¬ (ie ((13 : Nat) : Int) = 0) by decide), if_neg (show ¬ (ie ((13 : Nat) : Int) = 1) by decide), if_neg (show ¬ (ie ((13 : Nat) : Int) = 2) by decide), if_neg (show ¬ (ie ((13 : Nat) : Int) = 6) by decide), if_neg (show ¬ (ie ((13 : Nat) : Int) = 7) by decide), if_neg (show ¬ (ie ((13 : Nat) : Int) = 8) by decide), if_neg (show ¬ (ie ((13 : Nat) : Int) = 9) by decide), if_neg (show ¬ (ie ((13 : Nat) : Int) = 10) by decide), if_neg (show ¬ (ie ((13 : Nat) : Int) = 11) by decide), if_neg (show ¬ (ie ((13 : Nat) : Int) = 12) by decide), if_pos (show ie ((13 : Nat) : Int) = 13 from rfl), e1, e2, z1', Option.bind_some, if_pos (gI_Tb z6.1), pmS_some g' g' _ _ (Nat.le_refl _) (Nat.le_refl _), pmS_some g g' _ _ z6.2.1 z6.2.2.1, if_neg (show ¬ (13 = 16) by omega), if_neg (show ¬ (13 = 16) by omega), hnt]
    exact ⟨_, g', v, Z, c, rfl, cK_grow H Z z2 z5, frK_y z5, z6, z3, rfl, z, rfl, z4⟩
  · obtain ⟨j, s, j1, j2, j3, ka, j4, j5⟩ := chld _ (w8 (show 7 ≤ (t.2.1 e).1 by omega) (show (t.2.1 e).1 ≤ 15 by omega))
    have e1 : ya = ie (ka : Nat) := Option.some.inj (hya.symm.trans j4)
    obtain ⟨r1, _⟩ := c_row H.2.1 ka s j5
    have hle := tyK_le s
    rw [hk, if_neg (show ¬ (ie ((14 : Nat) : Int) = 0) by decide), if_neg (show ¬ (ie ((14 : Nat) : Int) = 1) by decide), if_neg (show ¬ (ie ((14 : Nat) : Int) = 2) by decide), if_neg (show ¬ (ie ((14 : Nat) : Int) = 6) by decide), if_neg (show ¬ (ie ((14 : Nat) : Int) = 7) by decide), if_neg (show ¬ (ie ((14 : Nat) : Int) = 8) by decide), if_neg (show ¬ (ie ((14 : Nat) : Int) = 9) by decide), if_neg (show ¬ (ie ((14 : Nat) : Int) = 10) by decide), if_neg (show ¬ (ie ((14 : Nat) : Int) = 11) by decide), if_neg (show ¬ (ie ((14 : Nat) : Int) = 12) by decide), if_neg (show ¬ (ie ((14 : Nat) : Int) = 13) by decide), if_pos (show ie ((14 : Nat) : Int) = 14 from rfl), e1, r1, Option.bind_some, if_neg (show ¬ (14 = 16) by omega), if_neg (show ¬ (14 = 16) by omega)]
    by_cases e3 : tyK s = 3
    · obtain ⟨A, B, hAB⟩ := tyK_eq (f := false) (show tyK s = tyF false from e3)
      subst hAB
      obtain ⟨l1, l2, l3, l4, l5, l6, _⟩ := c_parts H.2.1 false A B ka j5
      have hnt : nty x.2.2.2.2.2.2 c.1 (t.2.1 e) = some A := by
        unfold nty
        rw [if_neg (show ¬ ((t.2.1 e).1 = 0) by omega), if_neg (show ¬ ((t.2.1 e).1 = 1) by omega), if_neg (show ¬ ((t.2.1 e).1 = 2) by omega), if_neg (show ¬ ((t.2.1 e).1 = 7) by omega), j2, j3]
        show (if (t.2.1 e).1 = 9 then _ else _) = _
        rw [if_neg (show ¬ ((t.2.1 e).1 = 9) by omega), if_pos hk]
        rfl
      rw [if_pos (show ie (tyK (tyP false A B) : Nat) = 3 by rw [e3]; rfl), l5, Option.bind_some, pmS_some g g _ _ (Nat.le_refl _) (Nat.le_refl _), hnt]
      exact ⟨_, g, u, [], c, rfl, by rw [List.append_nil]; exact H, frK_refl _, gL_refl hgI, Nat.zero_le _, fin (some A) _ ⟨_, rfl, l3⟩⟩
    · have hnt : nty x.2.2.2.2.2.2 c.1 (t.2.1 e) = none := by
        unfold nty
        rw [if_neg (show ¬ ((t.2.1 e).1 = 0) by omega), if_neg (show ¬ ((t.2.1 e).1 = 1) by omega), if_neg (show ¬ ((t.2.1 e).1 = 2) by omega), if_neg (show ¬ ((t.2.1 e).1 = 7) by omega), j2, j3]
        show (if (t.2.1 e).1 = 9 then _ else _) = _
        rw [if_neg (show ¬ ((t.2.1 e).1 = 9) by omega), if_pos hk]
        cases s with
        | add A B => exact absurd rfl e3
        | num k => rfl
        | var k => rfl
        | mul A B => rfl
      rw [if_neg (show ¬ (ie (tyK s : Nat) = 3) from fun hh => e3 ((ineq _ 3 (by omega) (by omega)).mp hh)), pmS_some g g _ _ (Nat.le_refl _) (Nat.le_refl _), hnt]
      exact ⟨_, g, u, [], c, rfl, by rw [List.append_nil]; exact H, frK_refl _, gL_refl hgI, Nat.zero_le _, fin none _ rfl⟩
  · obtain ⟨j, s, j1, j2, j3, ka, j4, j5⟩ := chld _ (w8 (show 7 ≤ (t.2.1 e).1 by omega) (show (t.2.1 e).1 ≤ 15 by omega))
    have e1 : ya = ie (ka : Nat) := Option.some.inj (hya.symm.trans j4)
    obtain ⟨r1, _⟩ := c_row H.2.1 ka s j5
    have hle := tyK_le s
    rw [hk, if_neg (show ¬ (ie ((15 : Nat) : Int) = 0) by decide), if_neg (show ¬ (ie ((15 : Nat) : Int) = 1) by decide), if_neg (show ¬ (ie ((15 : Nat) : Int) = 2) by decide), if_neg (show ¬ (ie ((15 : Nat) : Int) = 6) by decide), if_neg (show ¬ (ie ((15 : Nat) : Int) = 7) by decide), if_neg (show ¬ (ie ((15 : Nat) : Int) = 8) by decide), if_neg (show ¬ (ie ((15 : Nat) : Int) = 9) by decide), if_neg (show ¬ (ie ((15 : Nat) : Int) = 10) by decide), if_neg (show ¬ (ie ((15 : Nat) : Int) = 11) by decide), if_neg (show ¬ (ie ((15 : Nat) : Int) = 12) by decide), if_neg (show ¬ (ie ((15 : Nat) : Int) = 13) by decide), if_neg (show ¬ (ie ((15 : Nat) : Int) = 14) by decide), if_pos (show ie ((15 : Nat) : Int) = 15 from rfl), e1, r1, Option.bind_some, if_neg (show ¬ (15 = 16) by omega), if_neg (show ¬ (15 = 16) by omega)]
    by_cases e3 : tyK s = 3
    · obtain ⟨A, B, hAB⟩ := tyK_eq (f := false) (show tyK s = tyF false from e3)
      subst hAB
      obtain ⟨l1, l2, l3, l4, l5, l6, _⟩ := c_parts H.2.1 false A B ka j5
      have hnt : nty x.2.2.2.2.2.2 c.1 (t.2.1 e) = some B := by
        unfold nty
        rw [if_neg (show ¬ ((t.2.1 e).1 = 0) by omega), if_neg (show ¬ ((t.2.1 e).1 = 1) by omega), if_neg (show ¬ ((t.2.1 e).1 = 2) by omega), if_neg (show ¬ ((t.2.1 e).1 = 7) by omega), j2, j3]
        show (if (t.2.1 e).1 = 9 then _ else _) = _
        rw [if_neg (show ¬ ((t.2.1 e).1 = 9) by omega), if_neg (show ¬ ((t.2.1 e).1 = 14) by omega), if_pos hk]
        rfl
      rw [if_pos (show ie (tyK (tyP false A B) : Nat) = 3 by rw [e3]; rfl), l6, Option.bind_some, pmS_some g g _ _ (Nat.le_refl _) (Nat.le_refl _), hnt]
      exact ⟨_, g, u, [], c, rfl, by rw [List.append_nil]; exact H, frK_refl _, gL_refl hgI, Nat.zero_le _, fin (some B) _ ⟨_, rfl, l4⟩⟩
    · have hnt : nty x.2.2.2.2.2.2 c.1 (t.2.1 e) = none := by
        unfold nty
        rw [if_neg (show ¬ ((t.2.1 e).1 = 0) by omega), if_neg (show ¬ ((t.2.1 e).1 = 1) by omega), if_neg (show ¬ ((t.2.1 e).1 = 2) by omega), if_neg (show ¬ ((t.2.1 e).1 = 7) by omega), j2, j3]
        show (if (t.2.1 e).1 = 9 then _ else _) = _
        rw [if_neg (show ¬ ((t.2.1 e).1 = 9) by omega), if_neg (show ¬ ((t.2.1 e).1 = 14) by omega), if_pos hk]
        cases s with
        | add A B => exact absurd rfl e3
        | num k => rfl
        | var k => rfl
        | mul A B => rfl
      rw [if_neg (show ¬ (ie (tyK s : Nat) = 3) from fun hh => e3 ((ineq _ 3 (by omega) (by omega)).mp hh)), pmS_some g g _ _ (Nat.le_refl _) (Nat.le_refl _), hnt]
      exact ⟨_, g, u, [], c, rfl, by rw [List.append_nil]; exact H, frK_refl _, gL_refl hgI, Nat.zero_le _, fin none _ rfl⟩
  · obtain ⟨w, g', v, Z, c', q1, q2, q3, q4, q5, q6⟩ := k_call (lc := x.2.2.2.2.2.2) N hN H he hk (w11 hk) (fun j j1 j2 => by
      obtain ⟨_, v2, _, _, _, _, _, _, _, _, v11⟩ := hW j j1 (by omega)
      refine ⟨v2, fun h16 => ?_⟩
      obtain ⟨_, _, _, _, x5, _, x7, _⟩ := v11 h16
      exact ⟨x5, x7⟩) hI hpar hlet hY
    rw [hk, if_neg (show ¬ (ie ((16 : Nat) : Int) = 0) by decide), if_neg (show ¬ (ie ((16 : Nat) : Int) = 1) by decide), if_neg (show ¬ (ie ((16 : Nat) : Int) = 2) by decide), if_neg (show ¬ (ie ((16 : Nat) : Int) = 6) by decide), if_neg (show ¬ (ie ((16 : Nat) : Int) = 7) by decide), if_neg (show ¬ (ie ((16 : Nat) : Int) = 8) by decide), if_neg (show ¬ (ie ((16 : Nat) : Int) = 9) by decide), if_neg (show ¬ (ie ((16 : Nat) : Int) = 10) by decide), if_neg (show ¬ (ie ((16 : Nat) : Int) = 11) by decide), if_neg (show ¬ (ie ((16 : Nat) : Int) = 12) by decide), if_neg (show ¬ (ie ((16 : Nat) : Int) = 13) by decide), if_neg (show ¬ (ie ((16 : Nat) : Int) = 14) by decide), if_neg (show ¬ (ie ((16 : Nat) : Int) = 15) by decide), if_pos (show ie ((16 : Nat) : Int) = 16 from rfl), q1, Option.bind_some, if_pos (gI_Tb q4.1), pmS_some g' g' _ _ (Nat.le_refl _) (Nat.le_refl _), pmS_some g g' _ _ q4.2.1 q4.2.2.1]
    exact ⟨w, g', v, Z, c', rfl, q2, q3, q4, by rw [if_pos rfl]; exact q5, by rw [if_pos rfl]; exact q6⟩
