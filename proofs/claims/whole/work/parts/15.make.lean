/-! Types.make: the six rows grow (pc 152 .. 239) -/
def gr_g (g : pm_s) : pm_s := (g.1 + 6, g.2.1 + 6 * (2 * g.2.2.2), g.1, 2 * g.2.2.2)
def gr_u (g : pm_s) (u : pm_J) : pm_J := (fun x y => if g.1 ≤ x ∧ x < g.1 + 6 then (if y < g.2.2.2 then u.1 (g.2.2.1 + (x - g.1)) y else 0) else u.1 x y, fun x y => if g.1 ≤ x ∧ x < g.1 + 6 then 0 else u.2 x y)
def gro_ok (g : pm_s) : Bool := decide (140 ≤ g.1) && decide (1 ≤ g.2.2.2) && decide (g.2.2.2 ≤ 65536) && decide (g.2.2.1 + 6 ≤ g.1)
def gm_1 (M : pm_M) (t rm N i : Nat) : pm_M := pm_wr (pm_cpy (pm_na M 100 N) (t + i) M.1.1 rm) 10 i (some M.1.1)
def gm_ok (M0 : pm_M) (n z t rm N i : Nat) (M : pm_M) : Prop :=
  M.1.1 = n + i ∧ M.1.2.1 = z + i * N ∧ (∀ x, x < n → M.1.2.2.1 x = M0.1.2.2.1 x ∧ M.1.2.2.2.1 x = M0.1.2.2.2.1 x) ∧ (∀ x, x < n → ∀ y, M.2.1 x y = M0.2.1 x y) ∧ (∀ x, x < n → ∀ y, M.2.2 x y = M0.2.2 x y) ∧
  (∀ j, j < i → M.1.2.2.1 (n + j) = 100 ∧ M.1.2.2.2.1 (n + j) = N) ∧ (∀ j, j < i → ∀ y, M.2.1 (n + j) y = if y < rm then M0.2.1 (t + j) y else 0) ∧ (∀ j, j < i → ∀ y, M.2.2 (n + j) y = 0) ∧
  (∀ x, x < n → ∀ k, M.1.2.2.2.2 x k = if x = 10 ∧ k < i then some (n + k) else M0.1.2.2.2.2 x k) ∧ (∀ j, j < i → ∀ k, M.1.2.2.2.2 (n + j) k = none)
theorem gm_0 {M0 : pm_M} {n z t rm N : Nat} (hn : M0.1.1 = n) (hz : M0.1.2.1 = z) : gm_ok M0 n z t rm N 0 M0 := by
  refine ⟨hn, by rw [hz]; omega, fun _ _ => ⟨rfl, rfl⟩, fun _ _ _ => rfl, fun _ _ _ => rfl, fun j h => absurd h (Nat.not_lt_zero j), fun j h => absurd h (Nat.not_lt_zero j), fun j h => absurd h (Nat.not_lt_zero j), fun x _ k => ?_, fun j h => absurd h (Nat.not_lt_zero j)⟩
  rw [if_neg (by omega)]
theorem gm_s {M0 M : pm_M} {n z t rm N i : Nat} (h : gm_ok M0 n z t rm N i M) (hi : i < 6) (ht : t + 6 ≤ n) (h10 : 10 < n) : gm_ok M0 n z t rm N (i + 1) (gm_1 M t rm N i) := by
  obtain ⟨h1, h2, h3, h4, h5, h6, h7, h8, h9, hA⟩ := h
  have hne : ∀ x, x < n → x ≠ n + i := fun x hx => by omega
  refine ⟨by show M.1.1 + 1 = _; omega, by show M.1.2.1 + N = _; rw [h2, Nat.succ_mul]; omega, fun x hx => ?_, fun x hx y => ?_, fun x hx y => ?_, fun j hj => ?_, fun j hj y => ?_, fun j hj y => ?_, fun x hx k => ?_, fun j hj k => ?_⟩
  · have e := hne x hx
    simp only [gm_1, pm_wr, pm_cpy, pm_na, h1, if_neg e]
    exact h3 x hx
  · have e := hne x hx
    have e2 : ¬ (x = n + i ∧ y < rm) := fun q => e q.1
    simp only [gm_1, pm_wr, pm_cpy, pm_na, h1, if_neg e, if_neg e2]
    exact h4 x hx y
  · have e := hne x hx
    simp only [gm_1, pm_wr, pm_cpy, pm_na, h1, if_neg e]
    exact h5 x hx y
  · by_cases e : j = i
    · subst e
      simp only [gm_1, pm_wr, pm_cpy, pm_na, h1, if_true]
      exact ⟨trivial, trivial⟩
    · have e2 : ¬ n + j = n + i := by omega
      simp only [gm_1, pm_wr, pm_cpy, pm_na, h1, if_neg e2]
      exact h6 j (by omega)
  · by_cases e : j = i
    · subst e
      have e3 : ¬ t + j = n + j := by omega
      by_cases hy : y < rm
      · simp only [gm_1, pm_wr, pm_cpy, pm_na, h1, hy, and_self, if_true, if_neg e3]
        exact h4 (t + j) (by omega) y
      · simp only [gm_1, pm_wr, pm_cpy, pm_na, h1, hy, and_false, if_false, if_true]
    · have e2 : ¬ n + j = n + i := by omega
      have e4 : ¬ (n + j = n + i ∧ y < rm) := fun q => e2 q.1
      simp only [gm_1, pm_wr, pm_cpy, pm_na, h1, if_neg e2, if_neg e4]
      exact h7 j (by omega) y
  · by_cases e : j = i
    · subst e
      simp only [gm_1, pm_wr, pm_cpy, pm_na, h1, if_true]
    · have e2 : ¬ n + j = n + i := by omega
      simp only [gm_1, pm_wr, pm_cpy, pm_na, h1, if_neg e2]
      exact h8 j (by omega) y
  · have e := hne x hx
    simp only [gm_1, pm_wr, pm_cpy, pm_na, h1, if_neg e]
    by_cases hx10 : x = 10
    · by_cases hk : k = i
      · subst hk
        rw [if_pos ⟨hx10, rfl⟩, if_pos ⟨hx10, by omega⟩]
      · rw [if_neg (fun q => hk q.2), h9 x hx k]
        by_cases hk2 : k < i
        · rw [if_pos ⟨hx10, hk2⟩, if_pos ⟨hx10, by omega⟩]
        · rw [if_neg (fun q => hk2 q.2), if_neg (fun q => by omega)]
    · rw [if_neg (fun q => hx10 q.1), h9 x hx k, if_neg (fun q => hx10 q.1), if_neg (fun q => hx10 q.1)]
  · have e10 : ¬ (n + j = 10 ∧ k = i) := by omega
    by_cases e : j = i
    · subst e
      simp only [gm_1, pm_wr, pm_cpy, pm_na, h1, if_neg e10, if_true]
    · have e2 : ¬ n + j = n + i := by omega
      simp only [gm_1, pm_wr, pm_cpy, pm_na, h1, if_neg e10, if_neg e2]
      exact hA j (by omega) k
theorem sh_r10 (t : Nat) {k : Nat} (hk : k < 6) : sh_r t 10 k = some (t + k) := by
  have : k = 0 ∨ k = 1 ∨ k = 2 ∨ k = 3 ∨ k = 4 ∨ k = 5 := by omega
  rcases this with rfl | rfl | rfl | rfl | rfl | rfl <;> rfl
theorem sh_rne (t n a k : Nat) (h : ¬ (a = 10 ∧ k < 6)) : sh_r t a k = sh_r n a k := by
  by_cases ha : a = 10
  · subst ha
    have hk : 6 ≤ k := by omega
    have e4 : Nat.blt k 4 = false := by
      cases h9 : Nat.blt k 4 with
      | false => rfl
      | true => exact absurd (Nat.le_of_ble_eq_true h9) (by omega)
    have e6 : Nat.blt k 6 = false := by
      cases h9 : Nat.blt k 6 with
      | false => rfl
      | true => exact absurd (Nat.le_of_ble_eq_true h9) (by omega)
    show cond (Nat.blt k 4) _ (cond (Nat.blt k 6) _ _) = cond (Nat.blt k 4) _ (cond (Nat.blt k 6) _ _)
    rw [e4, e6]
    rfl
  · have e : Nat.beq a 10 = false := by
      cases h9 : Nat.beq a 10 with
      | false => rfl
      | true => exact absurd (Nat.eq_of_beq_eq_true h9) ha
    unfold sh_r
    rw [e]
    rfl
/-- behind the six: the new shape -/
theorem gr_R {U : State} {h0 : Nat} {D : pm_D} {H : Heap} {g : pm_s} {u : pm_J} {M : pm_M} (ho : gro_ok g = true) (hG : gm_ok (sm g u) g.1 g.2.1 g.2.2.1 g.2.2.2 (2 * g.2.2.2) 6 M) (hR : pm_R U h0 D M H) : pm_R U h0 D (sm (gr_g g) (gr_u g u)) H := by
  obtain ⟨n, z, t, rm⟩ := g
  simp only [gro_ok, Bool.and_eq_true, decide_eq_true_eq] at ho
  obtain ⟨⟨⟨o1, o2⟩, o3⟩, o4⟩ := ho
  obtain ⟨h1, h2, h3, h4, h5, h6, h7, h8, h9, hA⟩ := hG
  simp only at h1 h2 h3 h4 h5 h6 h7 h8 h9 hA
  refine ⟨by rw [hR.1, h1]; rfl, fun x hx => ?_, hR.2.2⟩
  by_cases hs : x < 140
  · have hb : Nat.blt x 140 = true := Nat.ble_eq_true_of_le hs
    have ek : M.1.2.2.1 x = (sm (gr_g (n, z, t, rm)) (gr_u (n, z, t, rm) u)).1.2.2.1 x := by
      rw [(h3 x (by omega)).1]
      show cond (Nat.blt x 140) _ _ = cond (Nat.blt x 140) _ _
      rw [hb]; rfl
    have el : M.1.2.2.2.1 x = (sm (gr_g (n, z, t, rm)) (gr_u (n, z, t, rm) u)).1.2.2.2.1 x := by
      rw [(h3 x (by omega)).2]
      show cond (Nat.blt x 140) _ _ = cond (Nat.blt x 140) _ _
      rw [hb]; rfl
    obtain ⟨q1, q2⟩ := hR.2.1 x (by rw [ek]; exact hx)
    have hxn : ¬ (n ≤ x ∧ x < n + 6) := by omega
    refine ⟨by show x < n + 6; omega, q2.kept ek.symm el.symm (fun k => ?_) (fun k => ?_) (fun k => ?_) rfl⟩
    · rw [h9 x (by omega) k]
      show sh_r n x k = _
      by_cases hc : x = 10 ∧ k < 6
      · rw [if_pos hc, hc.1, sh_r10 n hc.2]
      · rw [if_neg hc]
        exact sh_rne n t x k hc
    · rw [h4 x (by omega) k]
      show (if n ≤ x ∧ x < n + 6 then _ else u.1 x k) = u.1 x k
      rw [if_neg hxn]
    · rw [h5 x (by omega) k]
      show (if n ≤ x ∧ x < n + 6 then _ else u.2 x k) = u.2 x k
      rw [if_neg hxn]
  · have hb : Nat.blt x 140 = false := by
      cases h9' : Nat.blt x 140 with
      | false => rfl
      | true => exact absurd (Nat.le_of_ble_eq_true h9') hs
    have hx2 : cond (Nat.blt x 140) (sh_k x) (cond (Nat.ble n x && Nat.blt x (n + 6)) 100 999) < 999 := hx
    rw [hb] at hx2
    have hin : n ≤ x ∧ x < n + 6 := by
      cases h9' : (Nat.ble n x && Nat.blt x (n + 6)) with
      | false => rw [h9'] at hx2; exact absurd hx2 (Nat.lt_irrefl 999)
      | true =>
        rw [Bool.and_eq_true] at h9'
        exact ⟨Nat.le_of_ble_eq_true h9'.1, Nat.le_of_ble_eq_true h9'.2⟩
    obtain ⟨j, hj, rfl⟩ : ∃ j, j < 6 ∧ x = n + j := ⟨x - n, by omega, by omega⟩
    have hbb : (Nat.ble n (n + j) && Nat.blt (n + j) (n + 6)) = true := by
      rw [Bool.and_eq_true]; exact ⟨Nat.ble_eq_true_of_le (by omega), Nat.ble_eq_true_of_le (by omega)⟩
    have ek : (sm (gr_g (n, z, t, rm)) (gr_u (n, z, t, rm) u)).1.2.2.1 (n + j) = 100 := by
      show cond (Nat.blt (n + j) 140) _ (cond (Nat.ble n (n + j) && Nat.blt (n + j) (n + 6)) 100 999) = 100
      rw [hb, hbb]; rfl
    have el : (sm (gr_g (n, z, t, rm)) (gr_u (n, z, t, rm) u)).1.2.2.2.1 (n + j) = 2 * rm := by
      show cond (Nat.blt (n + j) 140) _ (2 * rm) = 2 * rm
      rw [hb]; rfl
    obtain ⟨q1, q2⟩ := hR.2.1 (n + j) (by rw [(h6 j hj).1]; decide)
    refine ⟨by show n + j < n + 6; omega, q2.kept (by rw [ek, (h6 j hj).1]) (by rw [el, (h6 j hj).2]) (fun k => ?_) (fun k => ?_) (fun k => ?_) rfl⟩
    · rw [hA j hj k]
      show sh_r n (n + j) k = none
      have hb2 : ∀ c, c < 140 → Nat.beq (n + j) c = false := fun c hc => by
        cases h9' : Nat.beq (n + j) c with
        | false => rfl
        | true => exact absurd (Nat.eq_of_beq_eq_true h9') (by omega)
      unfold sh_r
      simp only [hb2 0 (by decide), hb2 3 (by decide), hb2 4 (by decide), hb2 5 (by decide), hb2 10 (by decide), hb2 18 (by decide), hb2 29 (by decide), hb2 39 (by decide), hb2 43 (by decide), hb2 44 (by decide), hb2 45 (by decide), hb2 52 (by decide), hb2 57 (by decide), hb2 64 (by decide), cond_false]
    · rw [h7 j hj k]
      show (if n ≤ n + j ∧ n + j < n + 6 then (if k < rm then u.1 (t + (n + j - n)) k else 0) else u.1 (n + j) k) = _
      rw [if_pos hin, Nat.add_sub_cancel_left]
      rfl
    · rw [h8 j hj k]
      show (if n ≤ n + j ∧ n + j < n + 6 then 0 else u.2 (n + j) k) = 0
      rw [if_pos hin]
section PMGR
variable {x : pm_c} {y : pm_m} {h0 : Nat} {D : pm_D} {b : pm_b} {Q : State → Prop} {pc : Nat} {L : List (Nat × Value)} {S : List Value} {M M' : pm_M}
theorem pm_getr {a k ci idx r : Nat} (hx9 : pm_xk y (.getfield idx, 0, 0, ci, k, 2) = true) (hd : decode y.2.1 pc = .ok (.getfield idx, 3)) (hk : M.1.2.2.1 a = ci) (hr : M.1.2.2.2.2 a k = some r) (kk : pm_V x y h0 D b Q (pc + 3) L (.ref r :: S) M) : pm_V x y h0 D b Q pc L (.ref a :: S) M := by
  refine pm_getV hx9 hd ?_ kk
  unfold pm_gf
  have e : Nat.beq (M.1.2.2.1 a) ci = true := by rw [hk]; exact Nat.beq_refl ci
  simp only [e, hr]
  rfl
theorem pm_putr {a k ci idx v : Nat} (hx9 : pm_xk y (.putfield idx, 0, 0, ci, k, 2) = true) (hd : decode y.2.1 pc = .ok (.putfield idx, 3)) (hk : M.1.2.2.1 a = ci) (kk : pm_V x y h0 D b Q (pc + 3) L S (pm_wr M a k (some v))) : pm_V x y h0 D b Q pc L (.ref v :: .ref a :: S) M := by
  refine pm_pfV hx9 hd ?_ kk
  unfold pm_pf
  have e : Nat.beq (M.1.2.2.1 a) ci = true := by rw [hk]; exact Nat.beq_refl ci
  simp only [e]
  rfl
theorem pm_weak (h1 : M'.1.1 = M.1.1) (h2 : M'.1.2.1 = M.1.2.1) (h3 : ∀ U H, pm_R U h0 D M H → pm_R U h0 D M' H) (kk : pm_V x y h0 D b Q pc L S M') : pm_V x y h0 D b Q pc L S M := by
  obtain ⟨p, l, e, R, s, m, args, below, meth, c⟩ := x
  intro X H locs ls hR hF hlo hL hn hz
  have h9 := kk X H locs ls (h3 s H hR) hF hlo hL (by rw [h1]; exact hn) (by rw [h2]; exact hz)
  rw [h1, h2] at h9
  exact h9
end PMGR
set_option maxHeartbeats 4000000 in
set_option maxRecDepth 100000 in
theorem pm_grow (l : Launch) (h0 : Nat) (D : pm_D) {p : Program} {e : Env} {R : Room} {s : State} {m : MethodId} {args : Array Value} {below : List Frame} {meth : Method} {c : Code} {b : pm_b} {Q : State → Prop} {g : pm_s} {u : pm_J} {a1 a2 a3 a4 : Int32} (hT : sh_T g) (ho : gro_ok g = true) (hle : (gr_g g).1 ≤ b.2.2.1 ∧ (gr_g g).2.1 ≤ b.2.2.2.1) (hd : 2 ≤ b.2.2.2.2)
    (kk : pm_V (p, l, e, R, s, m, args, below, meth, c) m_Types_make h0 D b Q 239 [(0, .ref 10), (1, .int a1), (2, .int a2), (3, .int a3), (4, .int a4)] [] (sm (gr_g g) (gr_u g u))) : pm_V (p, l, e, R, s, m, args, below, meth, c) m_Types_make h0 D b Q 152 [(0, .ref 10), (1, .int a1), (2, .int a2), (3, .int a3), (4, .int a4)] [] (sm g u) := by
  obtain ⟨n, z, t, rm⟩ := g
  have ho' := ho
  simp only [gro_ok, Bool.and_eq_true, decide_eq_true_eq] at ho'
  obtain ⟨⟨⟨o1, o2⟩, o3⟩, o4⟩ := ho'
  have l1 : n + 6 ≤ b.2.2.1 := hle.1
  have l2 : z + 6 * (2 * rm) ≤ b.2.2.2.1 := hle.2
  have tk : ∀ k, k < 6 → (sm (n, z, t, rm) u).1.2.2.1 (t + k) = 100 := fun k hk => sh_tk (q := (n, z, t, rm)) hT hk
  have tl : ∀ k, k < 6 → (sm (n, z, t, rm) u).1.2.2.2.1 (t + k) = rm := fun k hk => sh_tl (q := (n, z, t, rm)) hT hk
  obtain ⟨r, er⟩ : ∃ r : Int32, r = rm.toInt32 * 2 := ⟨_, rfl⟩
  have er2 : r = nI (2 * rm) := by
    rw [er]
    have : (2 : Int32) = nI 2 := rfl
    rw [show rm.toInt32 = nI rm from rfl, this, pk_mul, Nat.mul_comm]
  have hr0 : ¬ r < 0 := by rw [er2]; exact nI_pos (by omega)
  have hrN : r.toNatClampNeg = 2 * rm := by rw [er2]; exact nI_clamp (by omega)
  refine pm_blk (pc' := 156) (L' := [(0, .ref 10), (1, .int a1), (2, .int a2), (3, .int a3), (4, .int a4)]) (S' := [.ref (t + 0)]) (M' := sm (n, z, t, rm) u) [pm_o (.aload_n 0), pm_of (.getfield 11) 11 0 2] (by decide +kernel) rfl ?_
  refine pm_alen (by decide +kernel) (tk 0 (by decide)) ?_
  rw [tl 0 (by decide)]
  refine pm_blk (pc' := 161) (L' := [(6, .int (rm.toInt32 * 2)), (0, .ref 10), (1, .int a1), (2, .int a2), (3, .int a3), (4, .int a4)]) (S' := []) (M' := sm (n, z, t, rm) u) [pm_oi (.iconst 2) 2, pm_o .imul, pm_o (.istore 6)] (by decide +kernel) rfl ?_
  rw [← er]
  have G0 : gm_ok (sm (n, z, t, rm) u) n z t rm (2 * rm) 0 (sm (n, z, t, rm) u) := gm_0 rfl rfl
  generalize hM0 : sm (n, z, t, rm) u = M0 at G0 tk tl ⊢
  have k10 : M0.1.2.2.1 10 = 11 := by rw [← hM0]; rfl
  have r10 : ∀ k, k < 6 → M0.1.2.2.2.2 10 k = some (t + k) := fun k hk => by rw [← hM0]; exact sh_r10 t hk
  have n0 : (M0).1.1 = n + 0 := G0.1
  have z0 : (M0).1.2.1 = z + 0 * (2 * rm) := G0.2.1
  have ka0 : (M0).1.2.2.1 (t + 0) = 100 := (G0.2.2.1 (t + 0) (by omega)).1.trans (tk 0 (by decide))
  have la0 : (M0).1.2.2.2.1 (t + 0) = rm := (G0.2.2.1 (t + 0) (by omega)).2.trans (tl 0 (by decide))
  have kt0 : (M0).1.2.2.1 10 = 11 := (G0.2.2.1 10 (by omega)).1.trans k10
  have rt0 : (M0).1.2.2.2.2 10 0 = some (t + 0) := by
    rw [G0.2.2.2.2.2.2.2.2.1 10 (by omega) 0, if_neg (by omega)]
    exact r10 0 (by decide)
  refine pm_blk (pc' := 163) (L' := [(6, .int r), (0, .ref 10), (1, .int a1), (2, .int a2), (3, .int a3), (4, .int a4)]) (S' := [.ref 10, .ref 10]) (M' := M0) [pm_o (.aload_n 0), pm_o (.aload_n 0)] (by decide +kernel) rfl ?_
  refine pm_getr (ci := 11) (k := 0) (idx := 11) (by decide +kernel) (by decide +kernel) kt0 rt0 ?_
  refine pm_blk (pc' := 168) (L' := [(6, .int r), (0, .ref 10), (1, .int a1), (2, .int a2), (3, .int a3), (4, .int a4)]) (S' := [.int r, .ref (t + 0), .ref 10]) (M' := M0) [pm_o (.iload 6)] (by decide +kernel) rfl ?_
  refine pm_cS (idx := 50) m_Arrays_copyOf_1 (c_copyOf l h0 D (n := rm) (N := 2 * rm) ka0 (by omega) la0 hr0 hrN (by omega) (by omega)) (As := [.ref (t + 0), .int r]) (S0 := [.ref 10]) rfl (by decide +kernel) k_Arrays_copyOf_1 l_Types_50 hd (Nat.le_of_ble_eq_true rfl) (by show (M0).1.1 + 1 ≤ _; omega) (by show (M0).1.2.1 + 2 * rm ≤ _; omega) ?_
  refine pm_blk (pc' := 171) (L' := [(6, .int r), (0, .ref 10), (1, .int a1), (2, .int a2), (3, .int a3), (4, .int a4)]) (S' := [.ref (M0).1.1, .ref 10]) (M' := pm_cpy (pm_na (M0) 100 (2 * rm)) (t + 0) (M0).1.1 rm) [] (by decide +kernel) rfl ?_
  refine pm_putr (ci := 11) (k := 0) (idx := 11) (by decide +kernel) (by decide +kernel) (by simp only [pm_cpy, pm_na]; rw [if_neg (by omega)]; exact kt0) ?_
  have G1 := gm_s G0 (by decide) o4 (by omega)
  obtain ⟨M1, hM1⟩ : ∃ q, q = gm_1 (M0) t rm (2 * rm) 0 := ⟨_, rfl⟩
  rw [show pm_wr (pm_cpy (pm_na (M0) 100 (2 * rm)) (t + 0) (M0).1.1 rm) 10 0 (some (M0).1.1) = M1 from hM1.symm]
  rw [← hM1] at G1
  have n1 : (M1).1.1 = n + 1 := G1.1
  have z1 : (M1).1.2.1 = z + 1 * (2 * rm) := G1.2.1
  have ka1 : (M1).1.2.2.1 (t + 1) = 100 := (G1.2.2.1 (t + 1) (by omega)).1.trans (tk 1 (by decide))
  have la1 : (M1).1.2.2.2.1 (t + 1) = rm := (G1.2.2.1 (t + 1) (by omega)).2.trans (tl 1 (by decide))
  have kt1 : (M1).1.2.2.1 10 = 11 := (G1.2.2.1 10 (by omega)).1.trans k10
  have rt1 : (M1).1.2.2.2.2 10 1 = some (t + 1) := by
    rw [G1.2.2.2.2.2.2.2.2.1 10 (by omega) 1, if_neg (by omega)]
    exact r10 1 (by decide)
  refine pm_blk (pc' := 176) (L' := [(6, .int r), (0, .ref 10), (1, .int a1), (2, .int a2), (3, .int a3), (4, .int a4)]) (S' := [.ref 10, .ref 10]) (M' := M1) [pm_o (.aload_n 0), pm_o (.aload_n 0)] (by decide +kernel) rfl ?_
  refine pm_getr (ci := 11) (k := 1) (idx := 15) (by decide +kernel) (by decide +kernel) kt1 rt1 ?_
  refine pm_blk (pc' := 181) (L' := [(6, .int r), (0, .ref 10), (1, .int a1), (2, .int a2), (3, .int a3), (4, .int a4)]) (S' := [.int r, .ref (t + 1), .ref 10]) (M' := M1) [pm_o (.iload 6)] (by decide +kernel) rfl ?_
  refine pm_cS (idx := 50) m_Arrays_copyOf_1 (c_copyOf l h0 D (n := rm) (N := 2 * rm) ka1 (by omega) la1 hr0 hrN (by omega) (by omega)) (As := [.ref (t + 1), .int r]) (S0 := [.ref 10]) rfl (by decide +kernel) k_Arrays_copyOf_1 l_Types_50 hd (Nat.le_of_ble_eq_true rfl) (by show (M1).1.1 + 1 ≤ _; omega) (by show (M1).1.2.1 + 2 * rm ≤ _; omega) ?_
  refine pm_blk (pc' := 184) (L' := [(6, .int r), (0, .ref 10), (1, .int a1), (2, .int a2), (3, .int a3), (4, .int a4)]) (S' := [.ref (M1).1.1, .ref 10]) (M' := pm_cpy (pm_na (M1) 100 (2 * rm)) (t + 1) (M1).1.1 rm) [] (by decide +kernel) rfl ?_
  refine pm_putr (ci := 11) (k := 1) (idx := 15) (by decide +kernel) (by decide +kernel) (by simp only [pm_cpy, pm_na]; rw [if_neg (by omega)]; exact kt1) ?_
  have G2 := gm_s G1 (by decide) o4 (by omega)
  obtain ⟨M2, hM2⟩ : ∃ q, q = gm_1 (M1) t rm (2 * rm) 1 := ⟨_, rfl⟩
  rw [show pm_wr (pm_cpy (pm_na (M1) 100 (2 * rm)) (t + 1) (M1).1.1 rm) 10 1 (some (M1).1.1) = M2 from hM2.symm]
  rw [← hM2] at G2
  have n2 : (M2).1.1 = n + 2 := G2.1
  have z2 : (M2).1.2.1 = z + 2 * (2 * rm) := G2.2.1
  have ka2 : (M2).1.2.2.1 (t + 2) = 100 := (G2.2.2.1 (t + 2) (by omega)).1.trans (tk 2 (by decide))
  have la2 : (M2).1.2.2.2.1 (t + 2) = rm := (G2.2.2.1 (t + 2) (by omega)).2.trans (tl 2 (by decide))
  have kt2 : (M2).1.2.2.1 10 = 11 := (G2.2.2.1 10 (by omega)).1.trans k10
  have rt2 : (M2).1.2.2.2.2 10 2 = some (t + 2) := by
    rw [G2.2.2.2.2.2.2.2.2.1 10 (by omega) 2, if_neg (by omega)]
    exact r10 2 (by decide)
  refine pm_blk (pc' := 189) (L' := [(6, .int r), (0, .ref 10), (1, .int a1), (2, .int a2), (3, .int a3), (4, .int a4)]) (S' := [.ref 10, .ref 10]) (M' := M2) [pm_o (.aload_n 0), pm_o (.aload_n 0)] (by decide +kernel) rfl ?_
  refine pm_getr (ci := 11) (k := 2) (idx := 18) (by decide +kernel) (by decide +kernel) kt2 rt2 ?_
  refine pm_blk (pc' := 194) (L' := [(6, .int r), (0, .ref 10), (1, .int a1), (2, .int a2), (3, .int a3), (4, .int a4)]) (S' := [.int r, .ref (t + 2), .ref 10]) (M' := M2) [pm_o (.iload 6)] (by decide +kernel) rfl ?_
  refine pm_cS (idx := 50) m_Arrays_copyOf_1 (c_copyOf l h0 D (n := rm) (N := 2 * rm) ka2 (by omega) la2 hr0 hrN (by omega) (by omega)) (As := [.ref (t + 2), .int r]) (S0 := [.ref 10]) rfl (by decide +kernel) k_Arrays_copyOf_1 l_Types_50 hd (Nat.le_of_ble_eq_true rfl) (by show (M2).1.1 + 1 ≤ _; omega) (by show (M2).1.2.1 + 2 * rm ≤ _; omega) ?_
  refine pm_blk (pc' := 197) (L' := [(6, .int r), (0, .ref 10), (1, .int a1), (2, .int a2), (3, .int a3), (4, .int a4)]) (S' := [.ref (M2).1.1, .ref 10]) (M' := pm_cpy (pm_na (M2) 100 (2 * rm)) (t + 2) (M2).1.1 rm) [] (by decide +kernel) rfl ?_
  refine pm_putr (ci := 11) (k := 2) (idx := 18) (by decide +kernel) (by decide +kernel) (by simp only [pm_cpy, pm_na]; rw [if_neg (by omega)]; exact kt2) ?_
  have G3 := gm_s G2 (by decide) o4 (by omega)
  obtain ⟨M3, hM3⟩ : ∃ q, q = gm_1 (M2) t rm (2 * rm) 2 := ⟨_, rfl⟩
  rw [show pm_wr (pm_cpy (pm_na (M2) 100 (2 * rm)) (t + 2) (M2).1.1 rm) 10 2 (some (M2).1.1) = M3 from hM3.symm]
  rw [← hM3] at G3
  have n3 : (M3).1.1 = n + 3 := G3.1
  have z3 : (M3).1.2.1 = z + 3 * (2 * rm) := G3.2.1
  have ka3 : (M3).1.2.2.1 (t + 3) = 100 := (G3.2.2.1 (t + 3) (by omega)).1.trans (tk 3 (by decide))
  have la3 : (M3).1.2.2.2.1 (t + 3) = rm := (G3.2.2.1 (t + 3) (by omega)).2.trans (tl 3 (by decide))
  have kt3 : (M3).1.2.2.1 10 = 11 := (G3.2.2.1 10 (by omega)).1.trans k10
  have rt3 : (M3).1.2.2.2.2 10 3 = some (t + 3) := by
    rw [G3.2.2.2.2.2.2.2.2.1 10 (by omega) 3, if_neg (by omega)]
    exact r10 3 (by decide)
  refine pm_blk (pc' := 202) (L' := [(6, .int r), (0, .ref 10), (1, .int a1), (2, .int a2), (3, .int a3), (4, .int a4)]) (S' := [.ref 10, .ref 10]) (M' := M3) [pm_o (.aload_n 0), pm_o (.aload_n 0)] (by decide +kernel) rfl ?_
  refine pm_getr (ci := 11) (k := 3) (idx := 21) (by decide +kernel) (by decide +kernel) kt3 rt3 ?_
  refine pm_blk (pc' := 207) (L' := [(6, .int r), (0, .ref 10), (1, .int a1), (2, .int a2), (3, .int a3), (4, .int a4)]) (S' := [.int r, .ref (t + 3), .ref 10]) (M' := M3) [pm_o (.iload 6)] (by decide +kernel) rfl ?_
  refine pm_cS (idx := 50) m_Arrays_copyOf_1 (c_copyOf l h0 D (n := rm) (N := 2 * rm) ka3 (by omega) la3 hr0 hrN (by omega) (by omega)) (As := [.ref (t + 3), .int r]) (S0 := [.ref 10]) rfl (by decide +kernel) k_Arrays_copyOf_1 l_Types_50 hd (Nat.le_of_ble_eq_true rfl) (by show (M3).1.1 + 1 ≤ _; omega) (by show (M3).1.2.1 + 2 * rm ≤ _; omega) ?_
  refine pm_blk (pc' := 210) (L' := [(6, .int r), (0, .ref 10), (1, .int a1), (2, .int a2), (3, .int a3), (4, .int a4)]) (S' := [.ref (M3).1.1, .ref 10]) (M' := pm_cpy (pm_na (M3) 100 (2 * rm)) (t + 3) (M3).1.1 rm) [] (by decide +kernel) rfl ?_
  refine pm_putr (ci := 11) (k := 3) (idx := 21) (by decide +kernel) (by decide +kernel) (by simp only [pm_cpy, pm_na]; rw [if_neg (by omega)]; exact kt3) ?_
  have G4 := gm_s G3 (by decide) o4 (by omega)
  obtain ⟨M4, hM4⟩ : ∃ q, q = gm_1 (M3) t rm (2 * rm) 3 := ⟨_, rfl⟩
  rw [show pm_wr (pm_cpy (pm_na (M3) 100 (2 * rm)) (t + 3) (M3).1.1 rm) 10 3 (some (M3).1.1) = M4 from hM4.symm]
  rw [← hM4] at G4
  have n4 : (M4).1.1 = n + 4 := G4.1
  have z4 : (M4).1.2.1 = z + 4 * (2 * rm) := G4.2.1
  have ka4 : (M4).1.2.2.1 (t + 4) = 100 := (G4.2.2.1 (t + 4) (by omega)).1.trans (tk 4 (by decide))
  have la4 : (M4).1.2.2.2.1 (t + 4) = rm := (G4.2.2.1 (t + 4) (by omega)).2.trans (tl 4 (by decide))
  have kt4 : (M4).1.2.2.1 10 = 11 := (G4.2.2.1 10 (by omega)).1.trans k10
  have rt4 : (M4).1.2.2.2.2 10 4 = some (t + 4) := by
    rw [G4.2.2.2.2.2.2.2.2.1 10 (by omega) 4, if_neg (by omega)]
    exact r10 4 (by decide)
  refine pm_blk (pc' := 215) (L' := [(6, .int r), (0, .ref 10), (1, .int a1), (2, .int a2), (3, .int a3), (4, .int a4)]) (S' := [.ref 10, .ref 10]) (M' := M4) [pm_o (.aload_n 0), pm_o (.aload_n 0)] (by decide +kernel) rfl ?_
  refine pm_getr (ci := 11) (k := 4) (idx := 24) (by decide +kernel) (by decide +kernel) kt4 rt4 ?_
  refine pm_blk (pc' := 220) (L' := [(6, .int r), (0, .ref 10), (1, .int a1), (2, .int a2), (3, .int a3), (4, .int a4)]) (S' := [.int r, .ref (t + 4), .ref 10]) (M' := M4) [pm_o (.iload 6)] (by decide +kernel) rfl ?_
  refine pm_cS (idx := 50) m_Arrays_copyOf_1 (c_copyOf l h0 D (n := rm) (N := 2 * rm) ka4 (by omega) la4 hr0 hrN (by omega) (by omega)) (As := [.ref (t + 4), .int r]) (S0 := [.ref 10]) rfl (by decide +kernel) k_Arrays_copyOf_1 l_Types_50 hd (Nat.le_of_ble_eq_true rfl) (by show (M4).1.1 + 1 ≤ _; omega) (by show (M4).1.2.1 + 2 * rm ≤ _; omega) ?_
  refine pm_blk (pc' := 223) (L' := [(6, .int r), (0, .ref 10), (1, .int a1), (2, .int a2), (3, .int a3), (4, .int a4)]) (S' := [.ref (M4).1.1, .ref 10]) (M' := pm_cpy (pm_na (M4) 100 (2 * rm)) (t + 4) (M4).1.1 rm) [] (by decide +kernel) rfl ?_
  refine pm_putr (ci := 11) (k := 4) (idx := 24) (by decide +kernel) (by decide +kernel) (by simp only [pm_cpy, pm_na]; rw [if_neg (by omega)]; exact kt4) ?_
  have G5 := gm_s G4 (by decide) o4 (by omega)
  obtain ⟨M5, hM5⟩ : ∃ q, q = gm_1 (M4) t rm (2 * rm) 4 := ⟨_, rfl⟩
  rw [show pm_wr (pm_cpy (pm_na (M4) 100 (2 * rm)) (t + 4) (M4).1.1 rm) 10 4 (some (M4).1.1) = M5 from hM5.symm]
  rw [← hM5] at G5
  have n5 : (M5).1.1 = n + 5 := G5.1
  have z5 : (M5).1.2.1 = z + 5 * (2 * rm) := G5.2.1
  have ka5 : (M5).1.2.2.1 (t + 5) = 100 := (G5.2.2.1 (t + 5) (by omega)).1.trans (tk 5 (by decide))
  have la5 : (M5).1.2.2.2.1 (t + 5) = rm := (G5.2.2.1 (t + 5) (by omega)).2.trans (tl 5 (by decide))
  have kt5 : (M5).1.2.2.1 10 = 11 := (G5.2.2.1 10 (by omega)).1.trans k10
  have rt5 : (M5).1.2.2.2.2 10 5 = some (t + 5) := by
    rw [G5.2.2.2.2.2.2.2.2.1 10 (by omega) 5, if_neg (by omega)]
    exact r10 5 (by decide)
  refine pm_blk (pc' := 228) (L' := [(6, .int r), (0, .ref 10), (1, .int a1), (2, .int a2), (3, .int a3), (4, .int a4)]) (S' := [.ref 10, .ref 10]) (M' := M5) [pm_o (.aload_n 0), pm_o (.aload_n 0)] (by decide +kernel) rfl ?_
  refine pm_getr (ci := 11) (k := 5) (idx := 27) (by decide +kernel) (by decide +kernel) kt5 rt5 ?_
  refine pm_blk (pc' := 233) (L' := [(6, .int r), (0, .ref 10), (1, .int a1), (2, .int a2), (3, .int a3), (4, .int a4)]) (S' := [.int r, .ref (t + 5), .ref 10]) (M' := M5) [pm_o (.iload 6)] (by decide +kernel) rfl ?_
  refine pm_cS (idx := 50) m_Arrays_copyOf_1 (c_copyOf l h0 D (n := rm) (N := 2 * rm) ka5 (by omega) la5 hr0 hrN (by omega) (by omega)) (As := [.ref (t + 5), .int r]) (S0 := [.ref 10]) rfl (by decide +kernel) k_Arrays_copyOf_1 l_Types_50 hd (Nat.le_of_ble_eq_true rfl) (by show (M5).1.1 + 1 ≤ _; omega) (by show (M5).1.2.1 + 2 * rm ≤ _; omega) ?_
  refine pm_blk (pc' := 236) (L' := [(6, .int r), (0, .ref 10), (1, .int a1), (2, .int a2), (3, .int a3), (4, .int a4)]) (S' := [.ref (M5).1.1, .ref 10]) (M' := pm_cpy (pm_na (M5) 100 (2 * rm)) (t + 5) (M5).1.1 rm) [] (by decide +kernel) rfl ?_
  refine pm_putr (ci := 11) (k := 5) (idx := 27) (by decide +kernel) (by decide +kernel) (by simp only [pm_cpy, pm_na]; rw [if_neg (by omega)]; exact kt5) ?_
  have G6 := gm_s G5 (by decide) o4 (by omega)
  obtain ⟨M6, hM6⟩ : ∃ q, q = gm_1 (M5) t rm (2 * rm) 5 := ⟨_, rfl⟩
  rw [show pm_wr (pm_cpy (pm_na (M5) 100 (2 * rm)) (t + 5) (M5).1.1 rm) 10 5 (some (M5).1.1) = M6 from hM6.symm]
  rw [← hM6] at G6
  refine pm_weak (M' := sm (gr_g (n, z, t, rm)) (gr_u (n, z, t, rm) u)) (by rw [G6.1]; rfl) (by rw [G6.2.1]; rfl) (fun U H hR => gr_R ho (by rw [hM0]; exact G6) hR) ?_
  refine pm_loc [1, 2, 3, 4, 5] rfl ?_
  exact kk
/-! where the shape may grow -/
def sh_Tb (q : pm_s) : Bool := (decide (q.2.2.1 = 11) && decide (q.2.2.2 = 2048)) || decide (140 ≤ q.2.2.1)
theorem sh_Tb_s {q : pm_s} (h : sh_Tb q = true) : sh_T q := by
  simp only [sh_Tb, Bool.or_eq_true, Bool.and_eq_true, decide_eq_true_eq] at h
  exact h
theorem sh_Tb_i {q : pm_s} (h : sh_T q) : sh_Tb q = true := by
  simp only [sh_Tb, Bool.or_eq_true, Bool.and_eq_true, decide_eq_true_eq]
  exact h
theorem gr_T {g : pm_s} (h : gro_ok g = true) : sh_T (gr_g g) := by
  simp only [gro_ok, Bool.and_eq_true, decide_eq_true_eq] at h
  exact Or.inr h.1.1.1
/-- the rest of a method ends in a memory that is no smaller -/
def pm_S {α : Type} (g : pm_s) (r : Option (α × pm_s × pm_J)) : Option (α × pm_s × pm_J) := r.bind fun o => if g.1 ≤ o.2.1.1 ∧ g.2.1 ≤ o.2.1.2.1 then some o else none
theorem pm_Ss {α : Type} {g : pm_s} {r : Option (α × pm_s × pm_J)} {o : α × pm_s × pm_J} (h : pm_S g r = some o) : r = some o ∧ (g.1 ≤ o.2.1.1 ∧ g.2.1 ≤ o.2.1.2.1) := by
  obtain ⟨q, h1, h2⟩ := pm_bd h
  obtain ⟨h3, h4⟩ := pm_ifs h2
  cases Option.some.inj h4
  exact ⟨h1, h3⟩
