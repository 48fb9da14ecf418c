set_option maxRecDepth 100000
def rNw (u v : pm_J) (e : Nat) (k t a b cc : Int32) : Prop := v.1 64 33 = ie ((e + 1 : Nat) : Int) ∧ v.1 77 e = k ∧ v.1 78 e = t ∧ v.1 79 e = a ∧ v.1 80 e = b ∧ v.1 81 e = cc ∧ v.1 82 e = ie (-1) ∧ v.1 83 e = ie (-1) ∧ v.1 84 e = ie 0 ∧ v.1 86 e = ie (-1) ∧ v.1 87 e = ie (-1) ∧ v.1 88 e = ie (-1) ∧ v.1 89 e = ie 0 ∧ v.1 112 e = ie 0 ∧ (∀ j, j < 4 → v.1 90 (4 * e + j) = ie (-1)) ∧ v.2 = u.2 ∧ ∀ x i, ¬ (x = 64 ∧ i = 33) → ¬ ((77 ≤ x ∧ x ≤ 89 ∨ x = 112) ∧ i = e) → ¬ (x = 90 ∧ 4 * e ≤ i ∧ i < 4 * e + 4) → v.1 x i = u.1 x i
def rNb (u : pm_J) (e : Nat) (k t a b cc f : Int32) : pm_J := wi (wi (wi (wi (wi (wi (wi (wi (wi (wi (wi (wi (wi (wi u 77 e k) 78 e t) 79 e a) 80 e b) 81 e cc) 82 e (-1)) 83 e (-1)) 84 e 0) 86 e (-1)) 87 e (-1)) 88 e (-1)) 89 e 0) 112 e 0) 85 e f
def rNf (w : pm_J) (e : Nat) : pm_J := wi (wi (wi (wi (wi w 90 (4 * e + 0) (-1)) 90 (4 * e + 1) (-1)) 90 (4 * e + 2) (-1)) 90 (4 * e + 3) (-1)) 64 33 (ie ((e + 1 : Nat) : Int))
theorem r_node {u : pm_J} (g : pm_s) {e : Nat} (h33 : u.1 64 33 = ie (e : Nat)) (he : e < 2400) (k t b cc : Int32) (a : Int) (ha : a = -1 ∨ (0 ≤ a ∧ a < 2400)) : zu (fun N => F_Md_node N k t (ie a) b cc g u) (fun q => q.1 = ie (e : Nat) ∧ rNw u q.2 e k t (ie a) b cc) := by
  have ok := okn e 2400 he (by omega)
  have nt := ntn e (by omega)
  have lp : ∀ (f : Int32) (w : pm_J), w = rNb u e k t (ie a) b cc f → ∀ N, 200000 ≤ N → K_Md_node_137 N g N (ie (e : Nat)) 0 w = some (ie (e : Nat), rNf w e) := by
    intro f w hw N hN
    obtain ⟨N', rfl⟩ : ∃ N', N = N' + 5 := ⟨N - 5, by omega⟩
    have h4 : ∀ j : Nat, j < 4 → pm_ok (4 * ie (e : Int) + ie (j : Int)) 9600 = true ∧ (4 * ie (e : Int) + ie (j : Int)).toNatClampNeg = 4 * e + j := by
      intro j hj
      have : 4 * ie (e : Int) + ie (j : Int) = ie ((4 * e + j : Nat) : Int) := by rw [show (4 : Int32) = ie 4 from rfl, ie_mul, ie_add]; rfl
      rw [this]; exact ⟨okn _ 9600 (by omega) (by omega), ntn _ (by omega)⟩
    have w33 : w.1 64 33 = ie (e : Nat) := by rw [hw]; exact h33
    show K_Md_node_137 (N' + 5) g (N' + 5) (ie (e : Nat)) (ie (0 : Nat)) w = _
    suffices hs : ∀ M, K_Md_node_137 M g (N' + 5) (ie (e : Nat)) (ie (0 : Nat)) w = some (ie (e : Nat), rNf w e) from hs _
    intro M
    rw [K_Md_node_137, if_neg (by decide), (h4 0 (by omega)).2, if_pos (h4 0 (by omega)).1, show ie ((0 : Nat) : Int) + 1 = ie ((1 : Nat) : Int) from rfl,
      K_Md_node_137, if_neg (by decide), (h4 1 (by omega)).2, if_pos (h4 1 (by omega)).1, show ie ((1 : Nat) : Int) + 1 = ie ((2 : Nat) : Int) from rfl,
      K_Md_node_137, if_neg (by decide), (h4 2 (by omega)).2, if_pos (h4 2 (by omega)).1, show ie ((2 : Nat) : Int) + 1 = ie ((3 : Nat) : Int) from rfl,
      K_Md_node_137, if_neg (by decide), (h4 3 (by omega)).2, if_pos (h4 3 (by omega)).1, show ie ((3 : Nat) : Int) + 1 = ie ((4 : Nat) : Int) from rfl,
      K_Md_node_137, if_pos (by decide)]
    have e33 : (wi (wi (wi (wi w 90 (4 * e + 0) (-1)) 90 (4 * e + 1) (-1)) 90 (4 * e + 2) (-1)) 90 (4 * e + 3) (-1)).1 64 33 = ie (e : Nat) := w33
    rw [e33, iadd1]; rfl
  have fin : ∀ f : Int32, ∀ w : pm_J, w = rNb u e k t (ie a) b cc f → rNw u (rNf w e) e k t (ie a) b cc := by
    intro f w hw
    have wo : ∀ x i, x ≠ 90 → ¬ (x = 64 ∧ i = 33) → (rNf w e).1 x i = w.1 x i := by
      intro x i h1 h2
      unfold rNf
      rw [wi_ne _ _ _ _ _ _ (by omega), wi_ne _ _ _ _ _ _ (by omega), wi_ne _ _ _ _ _ _ (by omega), wi_ne _ _ _ _ _ _ (by omega), wi_ne _ _ _ _ _ _ (by omega)]
    have wn : ∀ x i, ¬ ((77 ≤ x ∧ x ≤ 89 ∨ x = 112) ∧ i = e) → w.1 x i = u.1 x i := by
      intro x i h1
      rw [hw]
      unfold rNb
      simp only [wi_1]
      repeat (rw [if_neg (by omega)])
    have h90 : ∀ j, j < 4 → (rNf w e).1 90 (4 * e + j) = ie (-1) := by
      intro j hj
      unfold rNf
      rw [wi_ne _ _ _ _ _ _ (by omega)]
      have hj4 : j = 0 ∨ j = 1 ∨ j = 2 ∨ j = 3 := by omega
      rcases hj4 with rfl | rfl | rfl | rfl
      · rw [wi_ne _ _ _ _ _ _ (by omega), wi_ne _ _ _ _ _ _ (by omega), wi_ne _ _ _ _ _ _ (by omega), wi_at]; rfl
      · rw [wi_ne _ _ _ _ _ _ (by omega), wi_ne _ _ _ _ _ _ (by omega), wi_at]; rfl
      · rw [wi_ne _ _ _ _ _ _ (by omega), wi_at]; rfl
      · rw [wi_at]; rfl
    have hrest : ∀ x i, ¬ (x = 64 ∧ i = 33) → ¬ ((77 ≤ x ∧ x ≤ 89 ∨ x = 112) ∧ i = e) → ¬ (x = 90 ∧ 4 * e ≤ i ∧ i < 4 * e + 4) → (rNf w e).1 x i = u.1 x i := by
      intro x i h1 h2 h3
      by_cases h9 : x = 90
      · unfold rNf
        rw [wi_ne _ _ _ _ _ _ (by omega), wi_ne _ _ _ _ _ _ (by omega), wi_ne _ _ _ _ _ _ (by omega), wi_ne _ _ _ _ _ _ (by omega), wi_ne _ _ _ _ _ _ (by omega)]
        exact wn x i h2
      · rw [wo x i h9 h1]; exact wn x i h2
    have hz : (rNf w e).1 64 33 = ie ((e + 1 : Nat) : Int) := wi_at _ _ _ _
    refine ⟨hz, ?_, ?_, ?_, ?_, ?_, ?_, ?_, ?_, ?_, ?_, ?_, ?_, ?_, h90, by rw [hw]; rfl, hrest⟩
    all_goals (rw [wo _ _ (by omega) (by omega), hw]; unfold rNb; simp [wi_1]; try rfl)
  rcases ha with rfl | ⟨a0, a1⟩
  · refine zu_eq (ie (e : Nat), rNf (rNb u e k t (ie (-1)) b cc (ie (e : Nat))) e) (fun N hN => ?_) ⟨rfl, fin (ie (e : Nat)) _ rfl⟩
    unfold F_Md_node
    rw [h33, if_pos ok, if_pos ok, if_pos ok, if_pos ok, if_pos ok, if_pos ok, if_pos ok, if_pos ok, if_pos ok, if_pos ok, if_pos ok, if_pos ok, if_pos ok, if_pos (show ie (-1) < 0 by decide), if_pos ok, nt]
    exact lp (ie (e : Nat)) _ rfl N hN
  · refine zu_eq (ie (e : Nat), rNf (rNb u e k t (ie a) b cc (u.1 85 (ie a).toNatClampNeg)) e) (fun N hN => ?_) ⟨rfl, fin _ _ rfl⟩
    have hx : ¬ (ie a < 0) := by rw [show (0 : Int32) = ie 0 from rfl, ie_lt _ _ (by omega) (by omega) (by omega) (by omega)]; omega
    have hk : pm_ok (ie a) 2400 = true := (ie_ok _ _ (by omega) (by omega)).mpr (by omega)
    unfold F_Md_node
    rw [h33, if_pos ok, if_pos ok, if_pos ok, if_pos ok, if_pos ok, if_pos ok, if_pos ok, if_pos ok, if_pos ok, if_pos ok, if_pos ok, if_pos ok, if_pos ok, if_neg hx, if_pos hk, if_pos ok, nt]
    exact lp _ _ rfl N hN
theorem z_node {c : RC} {st : Option (Nat × Nat)} {dp : Nat} {K : List (Int32 × Int32 × Int32)} {V : List Nat} {S : List (Nat × Nat)} {Y : List Ty} {s : PS} {u : pm_J} (g : pm_s) (H : rE c st dp K V S Y s u) (he : s.2.2.2.1 < 2400) (k t a b cc : Int32) (x : Nd) (hk : k = ie (rop x.1 : Nat)) (ht : t = ie (x.2.1 : Nat)) (ha : a = ie (rva x)) (hb : b = ie (rvb x)) (hc : cc = ie (rvc x)) (hl : rvl x = -1) (hn : rvn x = 0) (ha2 : rva x = -1 ∨ (0 ≤ rva x ∧ rva x < 2400)) : zu (fun N => F_Md_node N k t a b cc g u) (fun q => q.1 = ie (s.2.2.2.1 : Nat) ∧ rE c st dp K V S Y (sNode s x) q.2) := by
  subst hk ht ha hb hc
  refine zu_mono (r_node g H.2.2.2.2.2.2.2.1.1 he _ _ _ _ _ ha2) (fun q hq => ⟨hq.1, ?_⟩)
  obtain ⟨_, b1, b2, b3, b4, b5, b6, b7, b8, b9, b10, b11, b12, b13, b14, b15, b16, b17⟩ := hq
  refine rE_n H (fun x i h1 h2 => b17 x i h1 (by omega) (by omega)) b16 ⟨b1, he, fun e' he' => ?_⟩
  have he2 : e' < s.2.2.2.1 + 1 := he'
  by_cases ee : e' = s.2.2.2.1
  · subst ee
    show rN q.2 s.2.2.2.1 (pu_upd s.2.2.2.2.1 s.2.2.2.1 x s.2.2.2.1) (pu_upd s.2.2.2.2.2.2.1 s.2.2.2.1 (-1) s.2.2.2.1) (pu_upd s.2.2.2.2.2.2.2.1 s.2.2.2.1 false s.2.2.2.1) (pu_upd s.2.2.2.2.2.2.2.2 s.2.2.2.1 (-1) s.2.2.2.1)
    rw [upd_same, upd_same, upd_same, upd_same]
    exact ⟨b2, b3, b4, b5, b6, by rw [hl]; exact b7, b8, by rw [hn]; exact b9, b10, b11, b12, b13, b14, b15⟩
  · show rN q.2 e' (pu_upd s.2.2.2.2.1 s.2.2.2.1 x e') (pu_upd s.2.2.2.2.2.2.1 s.2.2.2.1 (-1) e') (pu_upd s.2.2.2.2.2.2.2.1 s.2.2.2.1 false e') (pu_upd s.2.2.2.2.2.2.2.2 s.2.2.2.1 (-1) e')
    rw [upd_ne _ _ _ _ ee, upd_ne _ _ _ _ ee, upd_ne _ _ _ _ ee, upd_ne _ _ _ _ ee]
    exact rN_of (H.2.2.2.2.2.2.2.1.2.2 e' (by omega)) (fun c i h => b17 c i (by omega) (by omega) (by omega))
theorem rE_nd {c : RC} {st : Option (Nat × Nat)} {dp : Nat} {K : List (Int32 × Int32 × Int32)} {V : List Nat} {S : List (Nat × Nat)} {Y : List Ty} {s : PS} {u v : pm_J} {t : Tr} {x0 : Nd} (x : Nd) (H : rE c st dp K V S Y (sTr s (tAdd t x0)) u) (hv : ∀ y i, ¬ ((y = 82 ∨ y = 84) ∧ i = t.1) → v.1 y i = u.1 y i) (h2 : v.2 = u.2) (h82 : v.1 82 t.1 = ie (rvl x)) (h84 : v.1 84 t.1 = ie (rvn x)) (hx : rop x.1 = rop x0.1 ∧ x.2.1 = x0.2.1 ∧ rva x = rva x0 ∧ rvb x = rvb x0 ∧ rvc x = rvc x0) : rE c st dp K V S Y (sTr s (tAdd t x)) v := by
  have hN := H.2.2.2.2.2.2.2.1
  refine rE_n (s := sTr s (tAdd t x0)) (t := tAdd t x) H (fun y i h1 h3 => hv y i (by omega)) h2 ⟨(hv _ _ (by omega)).trans hN.1, hN.2.1, fun e' he' => ?_⟩
  have he2 : e' < t.1 + 1 := he'
  have h9 := hN.2.2 e' he'
  by_cases ee : e' = t.1
  · subst ee
    show rN v t.1 (pu_upd t.2.1 t.1 x t.1) _ _ _
    rw [upd_same]
    have h8 : rN u t.1 (pu_upd t.2.1 t.1 x0 t.1) ((tAdd t x0).2.2.2.1 t.1) ((tAdd t x0).2.2.2.2.1 t.1) ((tAdd t x0).2.2.2.2.2 t.1) := h9
    rw [upd_same] at h8
    obtain ⟨a1, a2, a3, a4, a5, a6, a7, a8, a9, a10, a11, a12, a13, a14⟩ := h8
    obtain ⟨x1, x2, x3, x4, x5⟩ := hx
    exact ⟨(hv _ _ (by omega)).trans (by rw [x1]; exact a1), (hv _ _ (by omega)).trans (by rw [x2]; exact a2), (hv _ _ (by omega)).trans (by rw [x3]; exact a3), (hv _ _ (by omega)).trans (by rw [x4]; exact a4), (hv _ _ (by omega)).trans (by rw [x5]; exact a5), h82, (hv _ _ (by omega)).trans a7, h84, (hv _ _ (by omega)).trans a9, (hv _ _ (by omega)).trans a10, (hv _ _ (by omega)).trans a11, (hv _ _ (by omega)).trans a12, (hv _ _ (by omega)).trans a13, fun k hk => (hv _ _ (by omega)).trans (a14 k hk)⟩
  · show rN v e' (pu_upd t.2.1 t.1 x e') _ _ _
    have h8 : rN u e' (pu_upd t.2.1 t.1 x0 e') ((tAdd t x0).2.2.2.1 e') ((tAdd t x0).2.2.2.2.1 e') ((tAdd t x0).2.2.2.2.2 e') := h9
    rw [upd_ne _ _ _ _ ee] at h8 ⊢
    exact rN_of h8 (fun c i h => hv _ _ (by omega))
theorem rE_bd {c : RC} {st : Option (Nat × Nat)} {dp : Nat} {K : List (Int32 × Int32 × Int32)} {V : List Nat} {S : List (Nat × Nat)} {Y : List Ty} {s : PS} {u : pm_J} (H : rE c st dp K V S Y s u) (e : Nat) (y : Int) : rE c st dp K V S Y (sTr s (tBd s.2.2.2 e y)) (wi u 86 e (ie y)) := by
  have hN := H.2.2.2.2.2.2.2.1
  refine rE_n H (fun x i h1 h2 => wi_ne _ _ _ _ _ _ (by omega)) rfl ⟨(wi_ne _ _ _ _ _ _ (by omega)).trans hN.1, hN.2.1, fun e' he' => ?_⟩
  have h9 := hN.2.2 e' he'
  show rN _ e' (s.2.2.2.2.1 e') (pu_upd s.2.2.2.2.2.2.1 e y e') (s.2.2.2.2.2.2.2.1 e') (s.2.2.2.2.2.2.2.2 e')
  by_cases ee : e' = e
  · subst ee
    rw [upd_same]
    obtain ⟨a1, a2, a3, a4, a5, a6, a7, a8, a9, a10, a11, a12, a13, a14⟩ := h9
    exact ⟨(wi_ne _ _ _ _ _ _ (by omega)).trans a1, (wi_ne _ _ _ _ _ _ (by omega)).trans a2, (wi_ne _ _ _ _ _ _ (by omega)).trans a3, (wi_ne _ _ _ _ _ _ (by omega)).trans a4, (wi_ne _ _ _ _ _ _ (by omega)).trans a5, (wi_ne _ _ _ _ _ _ (by omega)).trans a6, (wi_ne _ _ _ _ _ _ (by omega)).trans a7, (wi_ne _ _ _ _ _ _ (by omega)).trans a8, wi_at _ _ _ _, (wi_ne _ _ _ _ _ _ (by omega)).trans a10, (wi_ne _ _ _ _ _ _ (by omega)).trans a11, (wi_ne _ _ _ _ _ _ (by omega)).trans a12, (wi_ne _ _ _ _ _ _ (by omega)).trans a13, fun k hk => (wi_ne _ _ _ _ _ _ (by omega)).trans (a14 k hk)⟩
  · rw [upd_ne _ _ _ _ ee]
    exact rN_of h9 (fun c i h => wi_ne _ _ _ _ _ _ (by omega))
theorem rE_hr {c : RC} {st : Option (Nat × Nat)} {dp : Nat} {K : List (Int32 × Int32 × Int32)} {V : List Nat} {S : List (Nat × Nat)} {Y : List Ty} {s : PS} {u : pm_J} (H : rE c st dp K V S Y s u) (e : Nat) (y : Bool) : rE c st dp K V S Y (sTr s (tHr s.2.2.2 e y)) (wi u 112 e (ib y)) := by
  have hN := H.2.2.2.2.2.2.2.1
  refine rE_n H (fun x i h1 h2 => wi_ne _ _ _ _ _ _ (by omega)) rfl ⟨(wi_ne _ _ _ _ _ _ (by omega)).trans hN.1, hN.2.1, fun e' he' => ?_⟩
  have h9 := hN.2.2 e' he'
  show rN _ e' (s.2.2.2.2.1 e') (s.2.2.2.2.2.2.1 e') (pu_upd s.2.2.2.2.2.2.2.1 e y e') (s.2.2.2.2.2.2.2.2 e')
  by_cases ee : e' = e
  · subst ee
    rw [upd_same]
    obtain ⟨a1, a2, a3, a4, a5, a6, a7, a8, a9, a10, a11, a12, a13, a14⟩ := h9
    exact ⟨(wi_ne _ _ _ _ _ _ (by omega)).trans a1, (wi_ne _ _ _ _ _ _ (by omega)).trans a2, (wi_ne _ _ _ _ _ _ (by omega)).trans a3, (wi_ne _ _ _ _ _ _ (by omega)).trans a4, (wi_ne _ _ _ _ _ _ (by omega)).trans a5, (wi_ne _ _ _ _ _ _ (by omega)).trans a6, (wi_ne _ _ _ _ _ _ (by omega)).trans a7, (wi_ne _ _ _ _ _ _ (by omega)).trans a8, (wi_ne _ _ _ _ _ _ (by omega)).trans a9, (wi_ne _ _ _ _ _ _ (by omega)).trans a10, (wi_ne _ _ _ _ _ _ (by omega)).trans a11, (wi_ne _ _ _ _ _ _ (by omega)).trans a12, wi_at _ _ _ _, fun k hk => (wi_ne _ _ _ _ _ _ (by omega)).trans (a14 k hk)⟩
  · rw [upd_ne _ _ _ _ ee]
    exact rN_of h9 (fun c i h => wi_ne _ _ _ _ _ _ (by omega))
def tN1 (t : Tr) (e : Nat) (y : Int) : Tr := (t.1, t.2.1, t.2.2.1, t.2.2.2.1, t.2.2.2.2.1, pu_upd t.2.2.2.2.2 e y)
theorem rE_nr {c : RC} {st : Option (Nat × Nat)} {dp : Nat} {K : List (Int32 × Int32 × Int32)} {V : List Nat} {S : List (Nat × Nat)} {Y : List Ty} {s : PS} {u : pm_J} (H : rE c st dp K V S Y s u) (e : Nat) (y : Int) : rE c st dp K V S Y (sTr s (tN1 s.2.2.2 e y)) (wi u 83 e (ie y)) := by
  have hN := H.2.2.2.2.2.2.2.1
  refine rE_n H (fun x i h1 h2 => wi_ne _ _ _ _ _ _ (by omega)) rfl ⟨(wi_ne _ _ _ _ _ _ (by omega)).trans hN.1, hN.2.1, fun e' he' => ?_⟩
  have h9 := hN.2.2 e' he'
  show rN _ e' (s.2.2.2.2.1 e') (s.2.2.2.2.2.2.1 e') (s.2.2.2.2.2.2.2.1 e') (pu_upd s.2.2.2.2.2.2.2.2 e y e')
  by_cases ee : e' = e
  · subst ee
    rw [upd_same]
    obtain ⟨a1, a2, a3, a4, a5, a6, a7, a8, a9, a10, a11, a12, a13, a14⟩ := h9
    exact ⟨(wi_ne _ _ _ _ _ _ (by omega)).trans a1, (wi_ne _ _ _ _ _ _ (by omega)).trans a2, (wi_ne _ _ _ _ _ _ (by omega)).trans a3, (wi_ne _ _ _ _ _ _ (by omega)).trans a4, (wi_ne _ _ _ _ _ _ (by omega)).trans a5, (wi_ne _ _ _ _ _ _ (by omega)).trans a6, wi_at _ _ _ _, (wi_ne _ _ _ _ _ _ (by omega)).trans a8, (wi_ne _ _ _ _ _ _ (by omega)).trans a9, (wi_ne _ _ _ _ _ _ (by omega)).trans a10, (wi_ne _ _ _ _ _ _ (by omega)).trans a11, (wi_ne _ _ _ _ _ _ (by omega)).trans a12, (wi_ne _ _ _ _ _ _ (by omega)).trans a13, fun k hk => (wi_ne _ _ _ _ _ _ (by omega)).trans (a14 k hk)⟩
  · rw [upd_ne _ _ _ _ ee]
    exact rN_of h9 (fun c i h => wi_ne _ _ _ _ _ _ (by omega))
