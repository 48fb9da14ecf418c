set_option maxRecDepth 100000
def rK (T : List Tok) (n : Nat) (u : pm_J) : Prop := rTok u T ∧ u.1 66 T.length = ie 26 ∧ u.1 67 T.length = ie n ∧ (u.1 64 4 = ie 0 → u.1 64 5 = ie (-1))
def r5 (u v : pm_J) : Prop := v.1 64 4 = ie 0 → u.1 64 4 = ie 0 ∧ v.1 64 5 = u.1 64 5
theorem r5_e {u v : pm_J} (h4 : v.1 64 4 = u.1 64 4) (h5 : v.1 64 5 = u.1 64 5) : r5 u v := fun h => ⟨h4.symm.trans h, h5⟩
def rX (T : List Tok) (n : Nat) (q : Nat × Nat) (u : pm_J) : Prop := u.1 64 52 = ie 0 ∧ u.1 64 4 = ie (q.1 : Nat) ∧ 1 ≤ q.1 ∧ u.1 64 5 = ie (tkP T n q.2 : Nat) ∧ (∃ a : Nat, a ≤ 902 ∧ u.1 64 51 = ie a) ∧ ∃ Y, tyR u Y
def rT (T : List Tok) (n a c dp h qt : Nat) (u : pm_J) (Y : List Ty) : Prop := u.1 64 52 = ie 1 ∧ u.1 64 4 = ie 0 ∧ rK T n u ∧ u.1 64 51 = ie a ∧ u.1 64 63 = ie c ∧ u.1 64 62 = ie dp ∧ u.1 64 56 = ie h ∧ u.1 64 60 = ie qt ∧ tyR u Y
def rS_T (h qt : Nat) : Nat → Nat → Bool := fun c i => rS_y c i || (Nat.beq c 64 && (Nat.beq i 4 || Nat.beq i 5 || Nat.beq i 51 || Nat.beq i 52 || Nat.beq i 56 || Nat.beq i 60 || Nat.beq i 62 || Nat.beq i 63)) || ((Nat.beq c 105 || Nat.beq c 106 || Nat.beq c 107) && Nat.ble h i) || (Nat.beq c 109 && Nat.ble qt i)
theorem rk_lt (k : Nat) : rk k ≤ 26 := by
  by_cases h : k < 26
  · have : ∀ k, k < 26 → rk k ≤ 26 := by decide
    exact this k h
  · have : rk k = 0 := by unfold rk; rw [List.getD_eq_getElem?_getD, List.getElem?_eq_none (by show 26 ≤ k; omega)]; rfl
    omega
theorem rk_inj : ∀ a, a ≤ 25 → ∀ b, b ≤ 25 → (rk a = rk b ↔ a = b) := by decide
theorem r_kind {T : List Tok} {n : Nat} {u : pm_J} (h : rK T n u) (a : Nat) (ha : a ≤ T.length) : u.1 66 a = ie (rk (tkK T a) : Nat) := by
  unfold tkK
  by_cases hl : a < T.length
  · obtain ⟨t, ht⟩ : ∃ t, T[a]? = some t := ⟨T[a], List.getElem?_eq_getElem hl⟩
    rw [ht]; exact (h.1.2.2 a t ht).1
  · have : a = T.length := by omega
    rw [List.getElem?_eq_none (by omega), this]; exact h.2.1
theorem r_plc {T : List Tok} {n : Nat} {u : pm_J} (h : rK T n u) (a : Nat) (ha : a ≤ T.length) : u.1 67 a = ie (tkP T n a : Nat) := by
  unfold tkP
  by_cases hl : a < T.length
  · obtain ⟨t, ht⟩ : ∃ t, T[a]? = some t := ⟨T[a], List.getElem?_eq_getElem hl⟩
    rw [ht]; exact (h.1.2.2 a t ht).2.1
  · have : a = T.length := by omega
    rw [List.getElem?_eq_none (by omega), this]; exact h.2.2.1
theorem r_kq {T : List Tok} {n : Nat} {u : pm_J} (hG : tkG T) (h : rK T n u) (a : Nat) (ha : a ≤ T.length) (k : Nat) (hk : k ≤ 25) : (u.1 66 a = ie (rk k : Nat)) ↔ tkK T a = k := by
  rw [r_kind h a ha, ineq _ _ (by have := rk_lt (tkK T a); omega) (by have := rk_lt k; omega)]
  exact rk_inj _ (hG.1 a) _ hk
theorem rK_fr {T : List Tok} {n : Nat} {u v : pm_J} (h : rK T n u) (h1 : v.1 64 10 = u.1 64 10) (h2 : ∀ c i, 66 ≤ c → c ≤ 69 → v.1 c i = u.1 c i ∧ v.2 c i = u.2 c i) (h5 : r5 u v) : rK T n v := by
  obtain ⟨⟨a1, a2, a3⟩, a4, a5, a6⟩ := h
  refine ⟨⟨h1.trans a1, a2, fun i t hi => ?_⟩, (h2 66 _ (by omega) (by omega)).1.trans a4, (h2 67 _ (by omega) (by omega)).1.trans a5, fun h => (h5 h).2.trans (a6 (h5 h).1)⟩
  obtain ⟨b1, b2, b3, b4⟩ := a3 i t hi
  exact ⟨(h2 66 i (by omega) (by omega)).1.trans b1, (h2 67 i (by omega) (by omega)).1.trans b2, (h2 68 i (by omega) (by omega)).1.trans b3, (h2 69 i (by omega) (by omega)).2.trans b4⟩
def rStop (u : pm_J) (c p : Int) : pm_J := wi (wi (wi u 64 4 (ie c)) 64 5 (ie p)) 64 52 (ie 0)
theorem r_stop {T : List Tok} {n : Nat} {u : pm_J} (g : pm_s) (h : rK T n u) (h0 : u.1 64 4 = ie 0) (c a : Nat) (ha : a ≤ T.length) : F_Md_stop (ie c) (ie a) g u = some (rStop u c (tkP T n a)) := by
  have h9 := h.1.2.1
  unfold F_Md_stop
  rw [if_pos (okn a 902 (by omega) (by omega)), ntn a (by omega), r_plc h a ha, r_fails u g c _ h0, Option.bind_some, if_pos (show (ib false == 0 || ib false == 1) = true by decide)]; rfl
theorem r_later {u : pm_J} (g : pm_s) (h : Nat) (hh : u.1 64 56 = ie h) (hr : h < 6000) (k x y : Int32) : F_Md_later k x y g u = some (wi (wi (wi (wi u 105 h k) 106 h x) 107 h y) 64 56 (ie ((h + 1 : Nat) : Int))) := by
  unfold F_Md_later
  rw [hh]
  simp only [okn h 6000 hr (by omega), if_true, ntn h (by omega), iadd1]
def rL (u : pm_J) (h : Nat) (k x y : Int) : pm_J := wi (wi (wi (wi u 105 h (ie k)) 106 h (ie x)) 107 h (ie y)) 64 56 (ie ((h + 1 : Nat) : Int))
theorem r_later' {u : pm_J} (g : pm_s) (h : Nat) (hh : u.1 64 56 = ie h) (hr : h < 6000) (k x y : Int) : F_Md_later (ie k) (ie x) (ie y) g u = some (rL u h k x y) := r_later g h hh hr _ _ _
theorem rL_o (u : pm_J) (h : Nat) (k x y : Int) (c i : Nat) (hc : ¬ ((c = 105 ∨ c = 106 ∨ c = 107) ∧ i = h) ∧ ¬ (c = 64 ∧ i = 56)) : (rL u h k x y).1 c i = u.1 c i := by
  unfold rL
  simp only [wi_1]
  repeat (rw [if_neg (by omega)])
theorem rL_t (u : pm_J) (h : Nat) (k x y : Int) : (rL u h k x y).1 64 56 = ie ((h + 1 : Nat) : Int) ∧ (rL u h k x y).1 105 h = ie k ∧ (rL u h k x y).1 106 h = ie x ∧ (rL u h k x y).1 107 h = ie y := by
  unfold rL
  refine ⟨?_, ?_, ?_, ?_⟩ <;> simp [wi_1]
theorem fr_rL {S : Nat → Nat → Bool} {u v : pm_J} (h : Nat) (k x y : Int) (h1 : S 105 h = true) (h2 : S 106 h = true) (h3 : S 107 h = true) (h4 : S 64 56 = true) (hv : fr S u v) : fr S u (rL v h k x y) :=
  fr_wi _ _ _ _ _ _ h4 (fr_wi _ _ _ _ _ _ h3 (fr_wi _ _ _ _ _ _ h2 (fr_wi _ _ _ _ _ _ h1 hv)))
theorem rST {h qt c i : Nat} (hc : (c = 64 ∧ (i = 4 ∨ i = 5 ∨ i = 18 ∨ i = 51 ∨ i = 52 ∨ i = 56 ∨ i = 60 ∨ i = 62 ∨ i = 63)) ∨ (70 ≤ c ∧ c ≤ 76) ∨ ((c = 105 ∨ c = 106 ∨ c = 107) ∧ h ≤ i) ∨ (c = 109 ∧ qt ≤ i)) : rS_T h qt c i = true := by
  unfold rS_T rS_y
  simp only [Bool.or_eq_true, Bool.and_eq_true, Nat.beq_eq, Nat.ble_eq]
  omega
theorem rST' {h qt c i : Nat} (hc : rS_T h qt c i = true) : (c = 64 ∧ (i = 4 ∨ i = 5 ∨ i = 18 ∨ i = 51 ∨ i = 52 ∨ i = 56 ∨ i = 60 ∨ i = 62 ∨ i = 63)) ∨ (70 ≤ c ∧ c ≤ 76) ∨ ((c = 105 ∨ c = 106 ∨ c = 107) ∧ h ≤ i) ∨ (c = 109 ∧ qt ≤ i) := by
  unfold rS_T rS_y at hc
  simp only [Bool.or_eq_true, Bool.and_eq_true, Nat.beq_eq, Nat.ble_eq] at hc
  omega
theorem rST_no {h qt c i : Nat} (hc : ¬ ((c = 64 ∧ (i = 4 ∨ i = 5 ∨ i = 18 ∨ i = 51 ∨ i = 52 ∨ i = 56 ∨ i = 60 ∨ i = 62 ∨ i = 63)) ∨ (70 ≤ c ∧ c ≤ 76) ∨ ((c = 105 ∨ c = 106 ∨ c = 107) ∧ h ≤ i) ∨ (c = 109 ∧ qt ≤ i))) : rS_T h qt c i = false := by
  cases hb : rS_T h qt c i with
  | false => rfl
  | true => exact absurd (rST' hb) hc
theorem fr_rT_mono {h h' qt qt' : Nat} {u v : pm_J} (hf : fr (rS_T h' qt') u v) (h1 : h ≤ h') (h2 : qt ≤ qt') : fr (rS_T h qt) u v := fr_sub hf (fun c i hs => by
  cases hb : rS_T h' qt' c i with
  | false => rfl
  | true =>
    have := rST' hb
    have h3 : rS_T h qt c i = true := rST (by omega)
    rw [h3] at hs; cases hs)
theorem frR_wi {h qt : Nat} {u v : pm_J} (a k : Nat) (x : Int32) (hc : (a = 64 ∧ (k = 4 ∨ k = 5 ∨ k = 18 ∨ k = 51 ∨ k = 52 ∨ k = 56 ∨ k = 60 ∨ k = 62 ∨ k = 63)) ∨ (70 ≤ a ∧ a ≤ 76) ∨ ((a = 105 ∨ a = 106 ∨ a = 107) ∧ h ≤ k) ∨ (a = 109 ∧ qt ≤ k)) (hv : fr (rS_T h qt) u v) : fr (rS_T h qt) u (wi v a k x) := fr_wi _ _ _ _ _ _ (rST hc) hv
def rG (g : pm_s) (fl : Nat) (u a : pm_J) : Prop := ∃ n0 : Nat, ∀ N, n0 ≤ N → ∀ f, n0 ≤ f → K_Md_work_7 N g f (ie fl) u = some a
def rEq (g : pm_s) (fl : Nat) (u v : pm_J) : Prop := ∀ a, rG g fl v a → rG g fl u a
theorem rEq_refl (g : pm_s) (fl : Nat) (u : pm_J) : rEq g fl u u := fun _ h => h
theorem rEq_trans {g : pm_s} {fl : Nat} {u v w : pm_J} (h1 : rEq g fl u v) (h2 : rEq g fl v w) : rEq g fl u w := fun a h => h1 a (h2 a h)
theorem rG_end {g : pm_s} {fl : Nat} {u : pm_J} (h : u.1 64 52 = ie 0) : rG g fl u u := by
  refine ⟨1, fun N _ f hf => ?_⟩
  obtain ⟨f, rfl⟩ : ∃ f', f = f' + 1 := ⟨f - 1, by omega⟩
  rw [K_Md_work_7, if_pos (show u.1 64 52 = 0 from h)]
theorem rG_done {g : pm_s} {fl h : Nat} {u : pm_J} (hh : u.1 64 56 = ie h) (hl : h ≤ fl) (h6 : fl < 6000) : rG g fl u u := by
  refine ⟨1, fun N _ f hf => ?_⟩
  obtain ⟨f, rfl⟩ : ∃ f', f = f' + 1 := ⟨f - 1, by omega⟩
  rw [K_Md_work_7, hh, if_pos ((inle h fl (by omega) (by omega)).mpr hl)]
  split <;> rfl
theorem rEq_ty {g : pm_s} {fl h k : Nat} {x : Int} {u v : pm_J} (ho : u.1 64 52 = ie 1) (hh : u.1 64 56 = ie ((h + 1 : Nat) : Int)) (hl : fl ≤ h) (h6 : h < 6000) (hk : u.1 105 h = ie (k : Nat)) (hk9 : k < 10) (hx : u.1 106 h = ie x) (n1 : Nat) (hv : ∀ N, n1 ≤ N → F_Md_typeTask N (ie (k : Nat)) (ie x) g (wi u 64 56 (ie h)) = some v) : rEq g fl u v := by
  rintro a ⟨n0, h0⟩
  refine ⟨n0 + n1 + 1, fun N hN f hf => ?_⟩
  obtain ⟨f, rfl⟩ : ∃ f', f = f' + 1 := ⟨f - 1, by omega⟩
  have e1 : ie ((h + 1 : Nat) : Int) - 1 = ie (h : Int) := by rw [show (1 : Int32) = ie 1 from rfl, ie_sub]; congr 1; omega
  rw [K_Md_work_7, ho, hh, if_neg (show ¬ (ie 1 = 0) by decide), if_neg (fun hh => by have := (inle _ _ (by omega) (by omega)).mp hh; omega), e1, if_pos (okn h 6000 h6 (by omega)), ntn h (by omega), hk, if_neg (show ¬ ((10 : Int32) ≤ ie (k : Int)) from fun hh => by have := (inle 10 k (by omega) (by omega)).mp hh; omega), if_pos (okn h 6000 h6 (by omega)), if_pos (okn h 6000 h6 (by omega)), hx, hv N (by omega), Option.bind_some]
  exact h0 N (by omega) f (by omega)
theorem rEq_ex {g : pm_s} {fl h k : Nat} {x y : Int} {u v : pm_J} (ho : u.1 64 52 = ie 1) (hh : u.1 64 56 = ie ((h + 1 : Nat) : Int)) (hl : fl ≤ h) (h6 : h < 6000) (hk : u.1 105 h = ie (k : Nat)) (hk9 : 10 ≤ k) (hk99 : k < 100) (hx : u.1 106 h = ie x) (hy : u.1 107 h = ie y) (n1 : Nat) (hv : ∀ N, n1 ≤ N → F_Md_exprTask N (ie (k : Nat)) (ie x) (ie y) g (wi u 64 56 (ie h)) = some v) : rEq g fl u v := by
  rintro a ⟨n0, h0⟩
  refine ⟨n0 + n1 + 1, fun N hN f hf => ?_⟩
  obtain ⟨f, rfl⟩ : ∃ f', f = f' + 1 := ⟨f - 1, by omega⟩
  have e1 : ie ((h + 1 : Nat) : Int) - 1 = ie (h : Int) := by rw [show (1 : Int32) = ie 1 from rfl, ie_sub]; congr 1; omega
  rw [K_Md_work_7, ho, hh, if_neg (show ¬ (ie 1 = 0) by decide), if_neg (fun hh => by have := (inle _ _ (by omega) (by omega)).mp hh; omega), e1, if_pos (okn h 6000 h6 (by omega)), ntn h (by omega), hk, if_pos (show (10 : Int32) ≤ ie (k : Int) from (inle 10 k (by omega) (by omega)).mpr (by omega)), if_pos (okn h 6000 h6 (by omega)), if_pos (okn h 6000 h6 (by omega)), if_pos (okn h 6000 h6 (by omega)), hx, hy, hv N (by omega), Option.bind_some]
  exact h0 N (by omega) f (by omega)
