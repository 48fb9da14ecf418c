set_option maxRecDepth 100000
theorem ie_and (a b : Nat) : ie a &&& ie b = ie ((a &&& b : Nat) : Int) := by
  rw [← Int32.toBitVec_inj, Int32.toBitVec_and]
  unfold ie
  rw [Int32.toBitVec_ofInt, Int32.toBitVec_ofInt, Int32.toBitVec_ofInt, BitVec.ofInt_natCast, BitVec.ofInt_natCast, BitVec.ofInt_natCast, BitVec.ofNat_and]
theorem ie_or (a b : Nat) : ie a ||| ie b = ie ((a ||| b : Nat) : Int) := by
  rw [← Int32.toBitVec_inj, Int32.toBitVec_or]
  unfold ie
  rw [Int32.toBitVec_ofInt, Int32.toBitVec_ofInt, Int32.toBitVec_ofInt, BitVec.ofInt_natCast, BitVec.ofInt_natCast, BitVec.ofInt_natCast, BitVec.ofNat_or]
theorem ie_div (a b : Int) (h : 0 ≤ a) (h2 : a < 2147483648) (h3 : 0 < b) (h4 : b < 2147483648) : ie a / ie b = ie (a / b) := by
  have hle : a / b ≤ a := by
    have := Int.ediv_le_self b h; exact this
  have h0 : 0 ≤ a / b := Int.ediv_nonneg h (by omega)
  rw [← Int32.toInt_inj, Int32.toInt_div, ie_toInt a (by omega) h2, ie_toInt b (by omega) h4, Int.tdiv_eq_ediv_of_nonneg h, ie_toInt (a / b) (by omega) (by omega)]
  exact Int.bmod_eq_of_le (by omega) (by omega)
abbrev Ty : Type := Nat.Internal.SOM.Expr
def tyK : Ty → Nat
  | .num k => if k < 2 then k else 2
  | .var _ => 0
  | .add _ _ => 3
  | .mul _ _ => 4
def tyL : Ty → Nat
  | .num _ => 1
  | .var _ => 1
  | .add a b => tyL a + tyL b
  | .mul a b => tyL a + tyL b
def tyM : Ty → Nat
  | .num k => if k < 2 then 0 else 2 ^ (k - 2)
  | .var _ => 0
  | .add a b => tyM a ||| tyM b
  | .mul a b => tyM a ||| tyM b
def tyP (f : Bool) (a b : Ty) : Ty := if f = true then .mul a b else .add a b
theorem tyL_pos (t : Ty) : 1 ≤ tyL t := by
  induction t with
  | num k => exact Nat.le_refl 1
  | var k => exact Nat.le_refl 1
  | add a b iha ihb => rw [tyL]; omega
  | mul a b iha ihb => rw [tyL]; omega
def gI (g : pm_s) : Prop := ((g.2.2.1 = 11 ∧ g.2.2.2 = 2048) ∨ 140 ≤ g.2.2.1) ∧ 140 ≤ g.1 ∧ g.2.2.1 + 6 ≤ g.1 ∧ (g.2.2.2 = 2048 ∨ g.2.2.2 = 4096 ∨ g.2.2.2 = 8192 ∨ g.2.2.2 = 16384 ∨ g.2.2.2 = 32768 ∨ g.2.2.2 = 65536)
def gA (c s : Nat) (g : pm_s) : Prop := g.1 ≤ c + 6 * (g.2.2.2 / 2048) ∧ g.2.1 ≤ s + 12 * g.2.2.2
def gL (g g' : pm_s) : Prop := gI g' ∧ g.1 ≤ g'.1 ∧ g.2.1 ≤ g'.2.1 ∧ ∀ c s, gA c s g → gA c s g'
theorem gL_refl {g : pm_s} (h : gI g) : gL g g := ⟨h, Nat.le_refl _, Nat.le_refl _, fun _ _ h => h⟩
theorem gL_trans {a b c : pm_s} (h : gL a b) (h2 : gL b c) : gL a c := ⟨h2.1, Nat.le_trans h.2.1 h2.2.1, Nat.le_trans h.2.2.1 h2.2.2.1, fun x y hh => h2.2.2.2 x y (h.2.2.2 x y hh)⟩
theorem gI_Tb {g : pm_s} (h : gI g) : sh_Tb g = true := by
  unfold sh_Tb
  rcases h.1 with h | h
  · rw [h.1, h.2]; rfl
  · rw [decide_eq_true h, Bool.or_true]
theorem pmS_some {α : Type} (g g' : pm_s) (a : α) (u : pm_J) (h : g.1 ≤ g'.1) (h2 : g.2.1 ≤ g'.2.1) : pm_S g (some (a, g', u)) = some (a, g', u) := by
  unfold pm_S; rw [Option.bind_some, if_pos ⟨h, h2⟩]
theorem pmS_zw {α : Type} {g : pm_s} {o : Option (α × pm_s × pm_J)} {Q : α × pm_s × pm_J → Prop} (h : zw o (fun q => Q q ∧ g.1 ≤ q.2.1.1 ∧ g.2.1 ≤ q.2.1.2.1)) : zw (pm_S g o) Q := by
  obtain ⟨q, rfl, h1, h2, h3⟩ := h
  exact ⟨q, by unfold pm_S; rw [Option.bind_some, if_pos ⟨h2, h3⟩], h1⟩
def mk239 (t n : Nat) (k l r lv mk hd : Int32) (c : Nat) (u : pm_J) : pm_J :=
  wi (wi (wi (wi (wi (wi (wi (wi u (t + 0) n k) (t + 1) n l) (t + 2) n r) (t + 3) n lv) (t + 4) n mk) (t + 5) n hd) 17 c (ie n)) 10 7 (ie n + 1)
theorem c_239 (N : Nat) (k : Int32) (l r c n : Nat) (g : pm_s) (u : pm_J) (hg : gI g) (hn : u.1 10 7 = ie n) (hnl : n < g.2.2.2) (hl : l < n) (hr : r < n) (hc : c < 1024) :
    K_Types_make_239 N k (ie l) (ie r) (ie c) g u = some (ie n, g, mk239 g.2.2.1 n k (ie l) (ie r)
      (if (u.1 (g.2.2.1 + 3) l) + (u.1 (g.2.2.1 + 3) r) < 1000000 then (u.1 (g.2.2.1 + 3) l) + (u.1 (g.2.2.1 + 3) r) else 1000000)
      ((u.1 (g.2.2.1 + 4) l) ||| (u.1 (g.2.2.1 + 4) r)) (u.1 17 c) c u) := by
  obtain ⟨h1, h2, h3, h4⟩ := hg
  have hlen : g.2.2.2 ≤ 65536 := by omega
  have ok : ∀ x : Nat, x < g.2.2.2 → pm_ok (ie x) g.2.2.2 = true := fun x hx => (ie_ok x g.2.2.2 (by omega) (by omega)).mpr (by omega)
  have nt : ∀ x : Nat, x < 100000 → (ie (x : Int)).toNatClampNeg = x := fun x hx => by rw [ie_nat _ (by omega) (by omega)]; omega
  have z0 : ∀ j : Nat, j < 6 → ¬ (10 = g.2.2.1 + j) := by omega
  have e0 := z0 0 (by omega)
  have e1 := z0 1 (by omega)
  have e2 := z0 2 (by omega)
  have e3 := z0 3 (by omega)
  have e4 := z0 4 (by omega)
  have e5 := z0 5 (by omega)
  have z1 : ∀ j : Nat, j < 6 → ¬ (17 = g.2.2.1 + j) := by omega
  have f0 := z1 0 (by omega)
  have f1 := z1 1 (by omega)
  have f2 := z1 2 (by omega)
  have f3 := z1 3 (by omega)
  have f4 := z1 4 (by omega)
  have f5 := z1 5 (by omega)
  have hln : ¬ (l = n) := by omega
  have hrn : ¬ (r = n) := by omega
  have okc : pm_ok (ie c) 1024 = true := (ie_ok c 1024 (by omega) (by omega)).mpr (by omega)
  have h1017 : ¬ ((10 : Nat) = 17) := by decide
  have hs : (ie (n : Int) + 1) - 1 = ie n := by rw [show (1 : Int32) = ie 1 from rfl, ie_add, ie_sub]; congr 1; omega
  unfold K_Types_make_239
  simp only [wi_1, e0, e1, e2, e3, e4, e5, f0, f1, f2, f3, f4, f5, hn, hln, hrn, h1017, false_and, and_false, if_false, nt n (by omega), nt l (by omega), nt r (by omega), nt c (by omega), ok n hnl, ok l (by omega), ok r (by omega), okc, if_true, and_self, hs]
  rfl
def lk (nx : Nat → Int32) : Int32 → List Nat → Prop
  | h, [] => h = ie (-1)
  | h, i :: l => h = ie i ∧ lk nx (nx i) l
theorem lk_cong (nx nx' : Nat → Int32) (L : List Nat) : ∀ h, (∀ i ∈ L, nx' i = nx i) → lk nx h L → lk nx' h L := by
  induction L with
  | nil => intro h _ h1; exact h1
  | cons i L ih =>
    intro h hh h1
    refine ⟨h1.1, ?_⟩
    rw [hh i (by simp)]
    exact ih _ (fun j hj => hh j (by simp [hj])) h1.2
def tyRow (Y : List Ty) (i : Nat) (T : Ty) (lf rg : Int32) : Prop := match T with
  | .num k => i = k ∧ k < 6
  | .var _ => False
  | .add A B => ∃ l r : Nat, l < i ∧ r < i ∧ Y[l]? = some A ∧ Y[r]? = some B ∧ lf = ie l ∧ rg = ie r
  | .mul A B => ∃ l r : Nat, l < i ∧ r < i ∧ Y[l]? = some A ∧ Y[r]? = some B ∧ lf = ie l ∧ rg = ie r
theorem tyRow_app (Y Z : List Ty) (i : Nat) (T : Ty) (lf rg : Int32) (h : tyRow Y i T lf rg) : tyRow (Y ++ Z) i T lf rg := by
  cases T with
  | num k => exact h
  | var k => exact h
  | add A B => obtain ⟨l, r, h1, h2, h3, h4, h5⟩ := h; exact ⟨l, r, h1, h2, by rw [List.getElem?_append_left (List.getElem?_eq_some_iff.mp h3).1]; exact h3, by rw [List.getElem?_append_left (List.getElem?_eq_some_iff.mp h4).1]; exact h4, h5⟩
  | mul A B => obtain ⟨l, r, h1, h2, h3, h4, h5⟩ := h; exact ⟨l, r, h1, h2, by rw [List.getElem?_append_left (List.getElem?_eq_some_iff.mp h3).1]; exact h3, by rw [List.getElem?_append_left (List.getElem?_eq_some_iff.mp h4).1]; exact h4, h5⟩
theorem tyP_row (Y : List Ty) (f : Bool) (A B : Ty) (i : Nat) (lf rg : Int32) : tyRow Y i (tyP f A B) lf rg ↔ ∃ l r : Nat, l < i ∧ r < i ∧ Y[l]? = some A ∧ Y[r]? = some B ∧ lf = ie l ∧ rg = ie r := by
  cases f <;> exact Iff.rfl
def ch (nx : Nat → Int32) (hd : Nat → Int32) (M : Nat) (Y : List Ty) (hh : Nat → Ty → Nat → Nat → Nat → Prop) : Prop :=
  ∀ b, b < M → ∃ L : List Nat, lk nx (hd b) L ∧ L.length + 6 ≤ Y.length ∧ (∀ i ∈ L, 6 ≤ i ∧ i < Y.length) ∧ (∀ (i : Nat) (T : Ty) (l r : Nat), Y[i]? = some T → 6 ≤ i → hh i T l r b → i ∈ L)
def tyC (g : pm_s) (u : pm_J) (Y : List Ty) : Prop := u.1 10 7 = ie Y.length ∧ (6 ≤ Y.length ∧ Y.length ≤ 65536 ∧ Y.length ≤ g.2.2.2) ∧ gI g ∧
  (∀ (i : Nat) (T : Ty), Y[i]? = some T → u.1 (g.2.2.1 + 0) i = ie (tyK T) ∧ u.1 (g.2.2.1 + 3) i = ie (min 1000000 (tyL T) : Nat) ∧ u.1 (g.2.2.1 + 4) i = ie (tyM T) ∧ tyRow Y i T (u.1 (g.2.2.1 + 1) i) (u.1 (g.2.2.1 + 2) i)) ∧
  (∀ (i j : Nat) (T : Ty), Y[i]? = some T → Y[j]? = some T → i = j) ∧ (∀ k : Nat, k < 6 → Y[k]? = some (.num k)) ∧
  ch (u.1 (g.2.2.1 + 5)) (u.1 17) 1024 Y (fun i T l r b => u.1 (g.2.2.1 + 1) i = ie l ∧ u.1 (g.2.2.1 + 2) i = ie r ∧ l < i ∧ r < i ∧ (l * 31 + r * 17 + tyK T) % 1024 = b)
def cS_y : Nat → Nat → Bool := fun c _ => Nat.beq c 10 || Nat.beq c 17 || (Nat.ble 11 c && Nat.ble c 16) || Nat.ble 140 c
theorem ie_inj {a b : Int} (h : ie a = ie b) (h1 : -2147483648 ≤ a) (h2 : a < 2147483648) (h3 : -2147483648 ≤ b) (h4 : b < 2147483648) : a = b := (ie_eq a b h1 h2 h3 h4).mp h
theorem ien_inj {a b : Nat} (h : ie a = ie b) (h2 : a < 2147483648) (h4 : b < 2147483648) : a = b := by
  have := ie_inj h (by omega) (by omega) (by omega) (by omega); omega
def tyF (f : Bool) : Nat := cond f 4 3
theorem tyF_le (f : Bool) : tyF f ≤ 4 := by cases f <;> decide
theorem tyK_P (f : Bool) (A B : Ty) : tyK (tyP f A B) = tyF f := by cases f <;> rfl
theorem tyK_eq {T : Ty} {f : Bool} (h : tyK T = tyF f) : ∃ A B, T = tyP f A B := by
  cases T with
  | num k =>
    have h' : (if k < 2 then k else 2) = tyF f := h
    have hf : 3 ≤ tyF f := by cases f <;> decide
    split at h' <;> omega
  | var k => cases f <;> cases h
  | add A B => cases f
               · exact ⟨A, B, rfl⟩
               · cases h
  | mul A B => cases f
               · cases h
               · exact ⟨A, B, rfl⟩
theorem tyP_inj {f : Bool} {A B A' B' : Ty} (h : tyP f A B = tyP f A' B') : A = A' ∧ B = B' := by
  cases f <;> (unfold tyP at h; simp at h; exact h)
theorem tyK_le (T : Ty) : tyK T ≤ 4 := by
  cases T with
  | num k => show (if k < 2 then k else 2) ≤ 4; split <;> omega
  | var k => exact Nat.le_of_ble_eq_true rfl
  | add A B => exact Nat.le_of_ble_eq_true rfl
  | mul A B => exact Nat.le_refl 4
theorem c_match {g : pm_s} {u : pm_J} {Y : List Ty} (h : tyC g u Y) (f : Bool) (A B : Ty) (l r i : Nat) (T : Ty) (hl : Y[l]? = some A) (hr : Y[r]? = some B) (hi : Y[i]? = some T) :
    (u.1 (g.2.2.1 + 0) i = ie (tyF f : Nat) ∧ u.1 (g.2.2.1 + 1) i = ie l ∧ u.1 (g.2.2.1 + 2) i = ie r) ↔ T = tyP f A B := by
  obtain ⟨h1, h2, h3, h4, h5, h6, h7⟩ := h
  obtain ⟨a1, a2, a3, a4⟩ := h4 i T hi
  have hil := (List.getElem?_eq_some_iff.mp hi).1
  have hll := (List.getElem?_eq_some_iff.mp hl).1
  have hrl := (List.getElem?_eq_some_iff.mp hr).1
  have hk4 := tyK_le T
  constructor
  · rintro ⟨b1, b2, b3⟩
    rw [a1] at b1
    have hk : tyK T = tyF f := ien_inj b1 (by omega) (by have := tyF_le f; omega)
    obtain ⟨A', B', rfl⟩ := tyK_eq hk
    obtain ⟨l', r', c1, c2, c3, c4, c5, c6⟩ := (tyP_row Y f A' B' i _ _).mp a4
    have e1 : l' = l := ien_inj (c5.symm.trans b2) (by omega) (by omega)
    have e2 : r' = r := ien_inj (c6.symm.trans b3) (by omega) (by omega)
    subst e1; subst e2
    rw [hl] at c3; rw [hr] at c4
    cases c3; cases c4; rfl
  · rintro rfl
    obtain ⟨l', r', c1, c2, c3, c4, c5, c6⟩ := (tyP_row Y f A B i _ _).mp a4
    have e1 : l' = l := h5 _ _ _ c3 hl
    have e2 : r' = r := h5 _ _ _ c4 hr
    subst e1; subst e2
    exact ⟨by rw [a1, tyK_P], c5, c6⟩
theorem c_find {g : pm_s} {u : pm_J} {Y : List Ty} (N : Nat) (h : tyC g u Y) (f : Bool) (A B : Ty) (l r c : Nat) (hl : Y[l]? = some A) (hr : Y[r]? = some B) (L : List Nat) : ∀ (x5 : Int32) (x6 m : Nat), lk (u.1 (g.2.2.1 + 5)) x5 L → (∀ i ∈ L, 6 ≤ i ∧ i < Y.length) → x6 + L.length + 6 ≤ Y.length → L.length < m →
    (∃ i, i ∈ L ∧ Y[i]? = some (tyP f A B) ∧ K_Types_make_55 N m (ie (tyF f : Nat)) (ie l) (ie r) (ie c) x5 (ie x6) g u = some (ie i, g, u)) ∨
    ((∀ i ∈ L, Y[i]? ≠ some (tyP f A B)) ∧ K_Types_make_55 N m (ie (tyF f : Nat)) (ie l) (ie r) (ie c) x5 (ie x6) g u = K_Types_make_129 N (ie (tyF f : Nat)) (ie l) (ie r) (ie c) g u) := by
  have hh := h
  obtain ⟨h1, h2, h3, h4, h5, h6, h7⟩ := hh
  have hlen : g.2.2.2 ≤ 65536 := by obtain ⟨_, _, _, h⟩ := h3; omega
  induction L with
  | nil =>
    intro x5 x6 m hk hL hx hm
    right
    refine ⟨by simp, ?_⟩
    obtain ⟨m, rfl⟩ : ∃ f', m = f' + 1 := ⟨m - 1, by omega⟩
    rw [K_Types_make_55, h1, show x5 = ie (-1) from hk]
    have hx' : x6 + 6 ≤ Y.length := by simpa using hx
    rw [if_neg (show ¬ (ie (Y.length : Int) ≤ ie (x6 : Int)) by simp (disch := omega) only [ie_lit, Int.cast_ofNat_Int, ie_add, ie_sub, ie_mul, ie_neg, ie_lt, ie_le, ie_eq, ie_nat, ie_ok, ib_z, ib_e, ib_1, lge_lt, lge_ge, lge_eq, lge_le, lge_gt]; omega), if_pos (show ie (-1) < 0 by decide)]
  | cons i L ih =>
    intro x5 x6 m hk hL hx hm
    obtain ⟨m, rfl⟩ : ∃ f', m = f' + 1 := ⟨m - 1, by omega⟩
    have hi := (hL i (by simp)).2
    have hxl : x6 + (L.length + 1) + 6 ≤ Y.length := hx
    obtain ⟨T, hT⟩ : ∃ T, Y[i]? = some T := ⟨Y[i], List.getElem?_eq_getElem hi⟩
    have hmt := c_match h f A B l r i T hl hr hT
    have hs : K_Types_make_55 N (m + 1) (ie (tyF f : Nat)) (ie l) (ie r) (ie c) x5 (ie x6) g u = if (u.1 (g.2.2.1 + 0) i = ie (tyF f : Nat) ∧ u.1 (g.2.2.1 + 1) i = ie l ∧ u.1 (g.2.2.1 + 2) i = ie r) then some (ie i, g, u) else K_Types_make_55 N m (ie (tyF f : Nat)) (ie l) (ie r) (ie c) (u.1 (g.2.2.1 + 5) i) (ie ((x6 + 1 : Nat) : Int)) g u := by
      rw [K_Types_make_55, h1, hk.1]
      rw [if_neg (show ¬ (ie (Y.length : Int) ≤ ie (x6 : Int)) by simp (disch := omega) only [ie_lit, Int.cast_ofNat_Int, ie_add, ie_sub, ie_mul, ie_neg, ie_lt, ie_le, ie_eq, ie_nat, ie_ok, ib_z, ib_e, ib_1, lge_lt, lge_ge, lge_eq, lge_le, lge_gt]; omega), if_neg (show ¬ (ie (i : Int) < 0) by simp (disch := omega) only [ie_lit, Int.cast_ofNat_Int, ie_add, ie_sub, ie_mul, ie_neg, ie_lt, ie_le, ie_eq, ie_nat, ie_ok, ib_z, ib_e, ib_1, lge_lt, lge_ge, lge_eq, lge_le, lge_gt]; omega), if_neg (show ¬ (ie (Y.length : Int) ≤ ie (i : Int)) by simp (disch := omega) only [ie_lit, Int.cast_ofNat_Int, ie_add, ie_sub, ie_mul, ie_neg, ie_lt, ie_le, ie_eq, ie_nat, ie_ok, ib_z, ib_e, ib_1, lge_lt, lge_ge, lge_eq, lge_le, lge_gt]; omega)]
      have ok : pm_ok (ie i) g.2.2.2 = true := (ie_ok i g.2.2.2 (by omega) (by omega)).mpr (by omega)
      have nt : (ie (i : Int)).toNatClampNeg = i := by rw [ie_nat _ (by omega) (by omega)]; omega
      have e1 : ie (x6 : Int) + 1 = ie ((x6 + 1 : Nat) : Int) := by rw [show (1 : Int32) = ie 1 from rfl, ie_add]; rfl
      simp only [ok, nt, e1, if_true]
      by_cases b1 : u.1 (g.2.2.1 + 0) i = ie (tyF f : Nat)
      · by_cases b2 : u.1 (g.2.2.1 + 1) i = ie l
        · by_cases b3 : u.1 (g.2.2.1 + 2) i = ie r
          · rw [if_pos b1, if_pos b2, if_pos b3, if_pos ⟨b1, b2, b3⟩]
          · rw [if_pos b1, if_pos b2, if_neg b3, if_neg (fun h => b3 h.2.2)]
        · rw [if_pos b1, if_neg b2, if_neg (fun h => b2 h.2.1)]
      · rw [if_neg b1, if_neg (fun h => b1 h.1)]
    rw [hs]
    by_cases hc : T = tyP f A B
    · left
      refine ⟨i, by simp, by rw [hT, hc], ?_⟩
      rw [if_pos (hmt.mpr hc)]
    · rw [if_neg (fun hh => hc (hmt.mp hh))]
      rcases ih (u.1 (g.2.2.1 + 5) i) (x6 + 1) m hk.2 (fun j hj => hL j (by simp [hj])) (by omega) (by have : L.length + 1 < m + 1 := hm; omega) with ⟨j, j1, j2, j3⟩ | ⟨j1, j2⟩
      · left; exact ⟨j, by simp [j1], j2, j3⟩
      · right
        refine ⟨fun j hj => ?_, j2⟩
        rcases List.mem_cons.mp hj with rfl | hj
        · rw [hT]; intro hh; exact hc (Option.some.inj hh)
        · exact j1 j hj
theorem getE_app {α : Type} {Y : List α} {T : α} {i : Nat} {S : α} (h : (Y ++ [T])[i]? = some S) : (i < Y.length ∧ Y[i]? = some S) ∨ (i = Y.length ∧ S = T) := by
  rw [List.getElem?_append] at h
  by_cases hi : i < Y.length
  · rw [if_pos hi] at h; exact Or.inl ⟨hi, h⟩
  · rw [if_neg hi] at h
    right
    have hlt := (List.getElem?_eq_some_iff.mp h).1
    have h0 : i - Y.length = 0 := by simp at hlt; omega
    rw [h0] at h
    simp at h
    exact ⟨by omega, h.symm⟩
theorem getE_l {α : Type} {Y : List α} {T : α} {i : Nat} {S : α} (h : Y[i]? = some S) : (Y ++ [T])[i]? = some S := by
  rw [List.getElem?_append_left (List.getElem?_eq_some_iff.mp h).1]; exact h
theorem getE_r {α : Type} (Y : List α) (T : α) : (Y ++ [T])[Y.length]? = some T := by simp
theorem tyM_P (f : Bool) (A B : Ty) : tyM (tyP f A B) = tyM A ||| tyM B := by cases f <;> rfl
theorem tyL_P (f : Bool) (A B : Ty) : tyL (tyP f A B) = tyL A + tyL B := by cases f <;> rfl
theorem tyP_num (f : Bool) (A B : Ty) (k : Nat) : tyP f A B ≠ .num k := by cases f <;> (intro h; cases h)
theorem c_new {c : Nat} {g : pm_s} {u : pm_J} {Y : List Ty} (h : tyC g u Y) (f : Bool) (A B : Ty) (l r : Nat) (hl : Y[l]? = some A) (hr : Y[r]? = some B) (hnew : ∀ i : Nat, Y[i]? ≠ some (tyP f A B)) (hlen : Y.length < g.2.2.2) (N : Nat) (hc : (l * 31 + r * 17 + tyF f) % 1024 = c) :
    ∃ v, K_Types_make_239 N (ie (tyF f : Nat)) (ie l) (ie r) (ie c) g u = some (ie Y.length, g, v) ∧ tyC g v (Y ++ [tyP f A B]) ∧ fr cS_y u v := by
  obtain ⟨h1, h2, h3, h4, h5, h6, h7⟩ := h
  have hg := h3
  obtain ⟨g1, g2, g3, g4⟩ := hg
  have hll := (List.getElem?_eq_some_iff.mp hl).1
  have hrl := (List.getElem?_eq_some_iff.mp hr).1
  have hc1 : c < 1024 := by omega
  refine ⟨_, c_239 N _ l r c Y.length g u h3 h1 hlen hll hrl hc1, ?_, ?_⟩
  · have lA := (h4 l A hl).2.1
    have lB := (h4 r B hr).2.1
    have mA := (h4 l A hl).2.2.1
    have mB := (h4 r B hr).2.2.1
    rw [lA, lB, mA, mB, ie_or, ← tyM_P f A B]
    have hmin : (if ie (min 1000000 (tyL A) : Nat) + ie (min 1000000 (tyL B) : Nat) < 1000000 then ie (min 1000000 (tyL A) : Nat) + ie (min 1000000 (tyL B) : Nat) else 1000000) = ie (min 1000000 (tyL (tyP f A B)) : Nat) := by
      rw [tyL_P]
      simp (disch := omega) only [ie_lit, Int.cast_ofNat_Int, ie_add, ie_sub, ie_mul, ie_neg, ie_lt, ie_le, ie_eq, ie_nat, ie_ok, ib_z, ib_e, ib_1, lge_lt, lge_ge, lge_eq, lge_le, lge_gt]
      by_cases hb : ((min 1000000 (tyL A) : Nat) : Int) + ((min 1000000 (tyL B) : Nat) : Int) < 1000000
      · rw [if_pos hb]; congr 1; omega
      · rw [if_neg hb]; congr 1; omega
    rw [hmin]
    have hs : ie (Y.length : Int) + 1 = ie ((Y.length + 1 : Nat) : Int) := by rw [show (1 : Int32) = ie 1 from rfl, ie_add]; rfl
    have z : ∀ j : Nat, j < 6 → ¬ (g.2.2.1 + j = 17) ∧ ¬ (g.2.2.1 + j = 10) := by omega
    have zz : ∀ j k : Nat, j ≠ k → ¬ (g.2.2.1 + j = g.2.2.1 + k) := by intro j k hjk; omega
    have V : ∀ (j i : Nat), j < 6 → i ≠ Y.length → (mk239 g.2.2.1 Y.length (ie (tyF f : Nat)) (ie l) (ie r) (ie (min 1000000 (tyL (tyP f A B)) : Nat)) (ie (tyM (tyP f A B))) (u.1 17 c) c u).1 (g.2.2.1 + j) i = u.1 (g.2.2.1 + j) i := by
      intro j i hj hi
      unfold mk239
      simp only [wi_1, hi, (z j hj).1, (z j hj).2, false_and, and_false, if_false]
    have pu_W : ∀ (j : Nat), j < 6 → (mk239 g.2.2.1 Y.length (ie (tyF f : Nat)) (ie l) (ie r) (ie (min 1000000 (tyL (tyP f A B)) : Nat)) (ie (tyM (tyP f A B))) (u.1 17 c) c u).1 (g.2.2.1 + j) Y.length = if j = 5 then u.1 17 c else if j = 4 then ie (tyM (tyP f A B)) else if j = 3 then ie (min 1000000 (tyL (tyP f A B)) : Nat) else if j = 2 then ie r else if j = 1 then ie l else ie (tyF f : Nat) := by
      intro j hj
      unfold mk239
      simp only [wi_1, (z j hj).1, (z j hj).2, false_and, and_true, if_false, Nat.add_left_cancel_iff]
      repeat' split
      all_goals first | rfl | omega
    have H17 : ∀ b : Nat, (mk239 g.2.2.1 Y.length (ie (tyF f : Nat)) (ie l) (ie r) (ie (min 1000000 (tyL (tyP f A B)) : Nat)) (ie (tyM (tyP f A B))) (u.1 17 c) c u).1 17 b = if b = c then ie Y.length else u.1 17 b := by
      intro b
      have y : ∀ j : Nat, j < 6 → ¬ (17 = g.2.2.1 + j) := by omega
      unfold mk239
      simp only [wi_1, y 0 (by omega), y 1 (by omega), y 2 (by omega), y 3 (by omega), y 4 (by omega), y 5 (by omega), show ¬ ((17 : Nat) = 10) by decide, false_and, if_false, true_and]
    have H10 : (mk239 g.2.2.1 Y.length (ie (tyF f : Nat)) (ie l) (ie r) (ie (min 1000000 (tyL (tyP f A B)) : Nat)) (ie (tyM (tyP f A B))) (u.1 17 c) c u).1 10 7 = ie ((Y.length + 1 : Nat) : Int) := hs
    generalize mk239 g.2.2.1 Y.length (ie (tyF f : Nat)) (ie l) (ie r) (ie (min 1000000 (tyL (tyP f A B)) : Nat)) (ie (tyM (tyP f A B))) (u.1 17 c) c u = v at V pu_W H17 H10
    have hYl : (Y ++ [tyP f A B]).length = Y.length + 1 := by simp
    refine ⟨by rw [hYl]; exact H10, by rw [hYl]; omega, h3, ?_, ?_, fun k hk => getE_l (h6 k hk), ?_⟩
    · intro i S hi
      rcases getE_app hi with ⟨hlt, hi⟩ | ⟨rfl, rfl⟩
      · obtain ⟨a1, a2, a3, a4⟩ := h4 i S hi
        have hne : i ≠ Y.length := by omega
        rw [V 0 i (by omega) hne, V 1 i (by omega) hne, V 2 i (by omega) hne, V 3 i (by omega) hne, V 4 i (by omega) hne]
        exact ⟨a1, a2, a3, tyRow_app _ _ _ _ _ _ a4⟩
      · rw [pu_W 0 (by omega), pu_W 1 (by omega), pu_W 2 (by omega), pu_W 3 (by omega), pu_W 4 (by omega)]
        refine ⟨by rw [tyK_P]; rfl, rfl, rfl, ?_⟩
        exact (tyP_row _ f A B _ _ _).mpr ⟨l, r, hll, hrl, getE_l hl, getE_l hr, rfl, rfl⟩
    · intro i j S hi hj
      rcases getE_app hi with ⟨hlt, hi⟩ | ⟨rfl, rfl⟩
      · rcases getE_app hj with ⟨hlt2, hj⟩ | ⟨rfl, rfl⟩
        · exact h5 i j S hi hj
        · exact absurd hi (hnew i)
      · rcases getE_app hj with ⟨hlt2, hj⟩ | ⟨rfl, _⟩
        · exact absurd hj (hnew j)
        · rfl
    · intro b hb
      obtain ⟨L, l1, l2, l3, l4⟩ := h7 b hb
      have hL5 : ∀ i ∈ L, v.1 (g.2.2.1 + 5) i = u.1 (g.2.2.1 + 5) i := fun i hi => V 5 i (by omega) (by have := l3 i hi; omega)
      rw [H17 b]
      by_cases hbc : b = c
      · refine ⟨Y.length :: L, ?_, by rw [hYl]; show L.length + 1 + 6 ≤ _; omega, ?_, ?_⟩
        · rw [if_pos hbc]
          refine ⟨rfl, ?_⟩
          rw [pu_W 5 (by omega), if_pos rfl, ← hbc]
          exact lk_cong _ _ L _ hL5 l1
        · intro i hi
          rcases List.mem_cons.mp hi with rfl | hi
          · rw [hYl]; omega
          · have := l3 i hi; rw [hYl]; omega
        · intro i S l' r' hi h6i hh
          rcases getE_app hi with ⟨hlt, hi⟩ | ⟨rfl, _⟩
          · have hne : i ≠ Y.length := by omega
            rw [V 1 i (by omega) hne, V 2 i (by omega) hne] at hh
            exact List.mem_cons_of_mem _ (l4 i S l' r' hi h6i hh)
          · exact List.mem_cons_self
      · refine ⟨L, ?_, by rw [hYl]; omega, fun i hi => by have := l3 i hi; rw [hYl]; omega, ?_⟩
        · rw [if_neg hbc]; exact lk_cong _ _ L _ hL5 l1
        · intro i S l' r' hi h6i hh
          rcases getE_app hi with ⟨hlt, hi⟩ | ⟨rfl, rfl⟩
          · have hne : i ≠ Y.length := by omega
            rw [V 1 i (by omega) hne, V 2 i (by omega) hne] at hh
            exact l4 i S l' r' hi h6i hh
          · exfalso
            obtain ⟨b1, b2, b3, b4, b5⟩ := hh
            rw [pu_W 1 (by omega)] at b1
            rw [pu_W 2 (by omega)] at b2
            have e1 : l = l' := ien_inj (show ie (l : Int) = ie (l' : Int) from b1) (by omega) (by omega)
            have e2 : r = r' := ien_inj (show ie (r : Int) = ie (r' : Int) from b2) (by omega) (by omega)
            subst e1; subst e2
            rw [tyK_P, hc] at b5
            exact hbc b5.symm
  · unfold mk239
    have ok : ∀ j : Nat, j < 6 → ∀ x, cS_y (g.2.2.1 + j) x = true := by
      intro j hj x
      unfold cS_y
      rcases g1 with ⟨a, _⟩ | a
      · rw [a]; have : ∀ j, j < 6 → (Nat.beq (11 + j) 10 || Nat.beq (11 + j) 17 || (Nat.ble 11 (11 + j) && Nat.ble (11 + j) 16) || Nat.ble 140 (11 + j)) = true := by decide
        exact this j hj
      · rw [show Nat.ble 140 (g.2.2.1 + j) = true from Nat.ble_eq.mpr (by omega), Bool.or_true]
    refine fr_wi _ _ _ _ _ _ rfl (fr_wi _ _ _ _ _ _ rfl (fr_wi _ _ _ _ _ _ (ok 5 (by omega) _) (fr_wi _ _ _ _ _ _ (ok 4 (by omega) _) (fr_wi _ _ _ _ _ _ (ok 3 (by omega) _) (fr_wi _ _ _ _ _ _ (ok 2 (by omega) _) (fr_wi _ _ _ _ _ _ (ok 1 (by omega) _) (fr_wi _ _ _ _ _ _ (ok 0 (by omega) _) (fr_refl _ _))))))))
theorem c_grow {g : pm_s} {u : pm_J} {Y : List Ty} (h : tyC g u Y) (hlt : g.2.2.2 < 65536) : gro_ok g = true ∧ tyC (gr_g g) (gr_u g u) Y ∧ fr cS_y u (gr_u g u) ∧ gL g (gr_g g) := by
  obtain ⟨h1, h2, h3, h4, h5, h6, h7⟩ := h
  obtain ⟨g1, g2, g3, g4⟩ := h3
  have V : ∀ (j i : Nat), j < 6 → i < g.2.2.2 → (gr_u g u).1 ((gr_g g).2.2.1 + j) i = u.1 (g.2.2.1 + j) i := by
    intro j i hj hi
    show (if g.1 ≤ g.1 + j ∧ g.1 + j < g.1 + 6 then (if i < g.2.2.2 then u.1 (g.2.2.1 + (g.1 + j - g.1)) i else 0) else u.1 (g.1 + j) i) = _
    rw [if_pos (by omega), if_pos hi, show g.1 + j - g.1 = j by omega]
  have O : ∀ c i : Nat, c < 140 → (gr_u g u).1 c i = u.1 c i := by
    intro c i hc
    show (if g.1 ≤ c ∧ c < g.1 + 6 then _ else u.1 c i) = _
    rw [if_neg (by omega)]
  have hgI : gI (gr_g g) := by
    refine ⟨Or.inr g2, ?_, ?_, ?_⟩
    · show 140 ≤ g.1 + 6; omega
    · show g.1 + 6 ≤ g.1 + 6; omega
    · show 2 * g.2.2.2 = _ ∨ 2 * g.2.2.2 = _ ∨ 2 * g.2.2.2 = _ ∨ 2 * g.2.2.2 = _ ∨ 2 * g.2.2.2 = _ ∨ 2 * g.2.2.2 = _; omega
  have row : ∀ i (T : Ty), Y[i]? = some T → i < g.2.2.2 := fun i T hi => by have := (List.getElem?_eq_some_iff.mp hi).1; omega
  refine ⟨?_, ⟨?_, ?_, hgI, ?_, h5, h6, ?_⟩, ?_, hgI, ?_, ?_, ?_⟩
  · unfold gro_ok; simp; omega
  · rw [O 10 7 (by omega)]; exact h1
  · refine ⟨h2.1, h2.2.1, ?_⟩; show Y.length ≤ 2 * g.2.2.2; omega
  · intro i T hi
    have := row i T hi
    rw [V 0 i (by omega) this, V 1 i (by omega) this, V 2 i (by omega) this, V 3 i (by omega) this, V 4 i (by omega) this]
    exact h4 i T hi
  · intro b hb
    obtain ⟨L, l1, l2, l3, l4⟩ := h7 b hb
    refine ⟨L, ?_, l2, l3, ?_⟩
    · rw [O 17 b (by omega)]
      exact lk_cong _ _ L _ (fun i hi => V 5 i (by omega) (by have := l3 i hi; omega)) l1
    · intro i T l r hi h6i hh
      have := row i T hi
      rw [V 1 i (by omega) this, V 2 i (by omega) this] at hh
      exact l4 i T l r hi h6i hh
  · intro c i hs
    have hc : ¬ (g.1 ≤ c ∧ c < g.1 + 6) := by
      intro hh
      unfold cS_y at hs
      rw [show Nat.ble 140 c = true from Nat.ble_eq.mpr (by omega), Bool.or_true] at hs; cases hs
    constructor
    · show (if g.1 ≤ c ∧ c < g.1 + 6 then _ else u.1 c i) = _; rw [if_neg hc]
    · show (if g.1 ≤ c ∧ c < g.1 + 6 then _ else u.2 c i) = _; rw [if_neg hc]
  · show g.1 ≤ g.1 + 6; omega
  · show g.2.1 ≤ g.2.1 + 6 * (2 * g.2.2.2); omega
  · intro c s hA
    obtain ⟨a1, a2⟩ := hA
    constructor
    · show g.1 + 6 ≤ c + 6 * ((2 * g.2.2.2) / 2048); omega
    · show g.2.1 + 6 * (2 * g.2.2.2) ≤ s + 12 * (2 * g.2.2.2); omega
theorem c_make {g : pm_s} {u : pm_J} {Y : List Ty} (N : Nat) (hN : 100000 ≤ N) (h : tyC g u Y) (f : Bool) (A B : Ty) (l r : Nat) (hl : Y[l]? = some A) (hr : Y[r]? = some B) (hY : Y.length < 65536) :
    ∃ (z : Nat) (g' : pm_s) (v : pm_J) (Z : List Ty), F_Types_make N (ie (tyF f : Nat)) (ie l) (ie r) g u = some (ie z, g', v) ∧ tyC g' v (Y ++ Z) ∧ Z.length ≤ 1 ∧ (Y ++ Z)[z]? = some (tyP f A B) ∧ fr cS_y u v ∧ gL g g' := by
  have hh := h
  obtain ⟨h1, h2, h3, h4, h5, h6, h7⟩ := hh
  have hgI := h3
  obtain ⟨g1, g2, g3, g4⟩ := h3
  have hll := (List.getElem?_eq_some_iff.mp hl).1
  have hrl := (List.getElem?_eq_some_iff.mp hr).1
  have hf4 := tyF_le f
  have hcl : ie (l : Int) * 31 + ie (r : Int) * 17 + ie (tyF f : Nat) &&& 1023 = ie (((l * 31 + r * 17 + tyF f) % 1024 : Nat) : Int) := by
    rw [show (31 : Int32) = ie 31 from rfl, show (17 : Int32) = ie 17 from rfl, ie_mul, ie_mul, ie_add, ie_add, show ((l : Int) * 31 + (r : Int) * 17 + (tyF f : Nat)) = ((l * 31 + r * 17 + tyF f : Nat) : Int) by omega, show (1023 : Int32) = ie ((1023 : Nat) : Int) from rfl, ie_and]
    rw [show (1023 : Nat) = 2 ^ 10 - 1 from rfl, Nat.and_two_pow_sub_one_eq_mod]
  have hrun : F_Types_make N (ie (tyF f : Nat)) (ie l) (ie r) g u = pm_S g (K_Types_make_55 N N (ie (tyF f : Nat)) (ie l) (ie r) (ie (((l * 31 + r * 17 + tyF f) % 1024 : Nat) : Int)) (u.1 17 ((l * 31 + r * 17 + tyF f) % 1024)) (ie ((0 : Nat) : Int)) g u) := by
    unfold F_Types_make
    rw [hcl, h1]
    have ok : pm_ok (ie (((l * 31 + r * 17 + tyF f) % 1024 : Nat) : Int)) 1024 = true := (ie_ok _ 1024 (by omega) (by omega)).mpr (by omega)
    have nt : (ie (((l * 31 + r * 17 + tyF f) % 1024 : Nat) : Int)).toNatClampNeg = (l * 31 + r * 17 + tyF f) % 1024 := by rw [ie_nat _ (by omega) (by omega)]; omega
    rw [if_neg (show ¬ (ie (l : Int) < 0) by simp (disch := omega) only [ie_lit, Int.cast_ofNat_Int, ie_add, ie_sub, ie_mul, ie_neg, ie_lt, ie_le, ie_eq, ie_nat, ie_ok, ib_z, ib_e, ib_1, lge_lt, lge_ge, lge_eq, lge_le, lge_gt]; omega), if_neg (show ¬ (ie (Y.length : Int) ≤ ie (l : Int)) by simp (disch := omega) only [ie_lit, Int.cast_ofNat_Int, ie_add, ie_sub, ie_mul, ie_neg, ie_lt, ie_le, ie_eq, ie_nat, ie_ok, ib_z, ib_e, ib_1, lge_lt, lge_ge, lge_eq, lge_le, lge_gt]; omega), if_neg (show ¬ (ie (r : Int) < 0) by simp (disch := omega) only [ie_lit, Int.cast_ofNat_Int, ie_add, ie_sub, ie_mul, ie_neg, ie_lt, ie_le, ie_eq, ie_nat, ie_ok, ib_z, ib_e, ib_1, lge_lt, lge_ge, lge_eq, lge_le, lge_gt]; omega), if_pos (show (ie (r : Int) < ie (Y.length : Int)) by simp (disch := omega) only [ie_lit, Int.cast_ofNat_Int, ie_add, ie_sub, ie_mul, ie_neg, ie_lt, ie_le, ie_eq, ie_nat, ie_ok, ib_z, ib_e, ib_1, lge_lt, lge_ge, lge_eq, lge_le, lge_gt]; omega), if_pos ok, nt]; rfl
  obtain ⟨L, l1, l2, l3, l4⟩ := h7 ((l * 31 + r * 17 + tyF f) % 1024) (by omega)
  rcases c_find N h f A B l r ((l * 31 + r * 17 + tyF f) % 1024) hl hr L _ 0 N l1 l3 (by omega) (by omega) with ⟨i, i1, i2, i3⟩ | ⟨i1, i2⟩
  · refine ⟨i, g, u, [], ?_, by rw [List.append_nil]; exact h, by simp, by rw [List.append_nil]; exact i2, fr_refl _ _, gL_refl hgI⟩
    rw [hrun, i3, pmS_some g g _ _ (Nat.le_refl _) (Nat.le_refl _)]
  · have hnew : ∀ i : Nat, Y[i]? ≠ some (tyP f A B) := by
      intro i hi
      have h6i : 6 ≤ i := by
        apply Decidable.byContradiction
        intro hlt
        have := h6 i (by omega)
        rw [hi] at this
        exact tyP_num f A B i (Option.some.inj this)
      obtain ⟨a1, a2, a3, a4⟩ := h4 i _ hi
      obtain ⟨l', r', c1, c2, c3, c4, c5, c6⟩ := (tyP_row Y f A B i _ _).mp a4
      have e1 : l' = l := h5 _ _ _ c3 hl
      have e2 : r' = r := h5 _ _ _ c4 hr
      subst e1; subst e2
      exact i1 i (l4 i _ l' r' hi h6i ⟨c5, c6, c1, c2, by rw [tyK_P]⟩) hi
    rw [hrun, i2]
    unfold K_Types_make_129
    rw [h1, if_pos (show ie (Y.length : Int) < 65536 by simp (disch := omega) only [ie_lit, Int.cast_ofNat_Int, ie_add, ie_sub, ie_mul, ie_neg, ie_lt, ie_le, ie_eq, ie_nat, ie_ok, ib_z, ib_e, ib_1, lge_lt, lge_ge, lge_eq, lge_le, lge_gt]; omega)]
    have hti : Nat.toInt32 g.2.2.2 = ie (g.2.2.2 : Int) := by show Int32.ofNat _ = Int32.ofInt _; exact (Int32.ofInt_eq_ofNat).symm
    rw [hti]
    by_cases hlen : Y.length < g.2.2.2
    · rw [if_pos (show ie (Y.length : Int) < ie (g.2.2.2 : Int) by simp (disch := omega) only [ie_lit, Int.cast_ofNat_Int, ie_add, ie_sub, ie_mul, ie_neg, ie_lt, ie_le, ie_eq, ie_nat, ie_ok, ib_z, ib_e, ib_1, lge_lt, lge_ge, lge_eq, lge_le, lge_gt]; omega)]
      obtain ⟨v, v1, v2, v3⟩ := c_new h f A B l r hl hr hnew hlen N rfl
      refine ⟨Y.length, g, v, [tyP f A B], ?_, v2, by simp, getE_r Y _, v3, gL_refl hgI⟩
      rw [v1, pmS_some g g _ _ (Nat.le_refl _) (Nat.le_refl _)]
    · rw [if_neg (show ¬ ie (Y.length : Int) < ie (g.2.2.2 : Int) by simp (disch := omega) only [ie_lit, Int.cast_ofNat_Int, ie_add, ie_sub, ie_mul, ie_neg, ie_lt, ie_le, ie_eq, ie_nat, ie_ok, ib_z, ib_e, ib_1, lge_lt, lge_ge, lge_eq, lge_le, lge_gt]; omega)]
      obtain ⟨c1, c2, c3, c4⟩ := c_grow h (by omega)
      obtain ⟨v, v1, v2, v3⟩ := c_new c2 f A B l r hl hr hnew (by show Y.length < 2 * g.2.2.2; omega) N rfl
      refine ⟨Y.length, gr_g g, v, [tyP f A B], ?_, v2, by simp, getE_r Y _, fr_trans c3 v3, c4⟩
      rw [if_pos c1, v1, pmS_some _ _ _ _ (Nat.le_refl _) (Nat.le_refl _), pmS_some _ _ _ _ c4.2.1 c4.2.2.1]
theorem c_row {g : pm_s} {u : pm_J} {Y : List Ty} (h : tyC g u Y) (x : Nat) (T : Ty) (hx : Y[x]? = some T) : F_Types_kind (ie x) g u = some (ie (tyK T)) ∧ F_Types_leaves (ie x) g u = some (ie (min 1000000 (tyL T) : Nat)) ∧ F_Types_letters (ie x) g u = some (ie (tyM T)) ∧ F_Types_left (ie x) g u = some (u.1 (g.2.2.1 + 1) x) ∧ F_Types_right (ie x) g u = some (u.1 (g.2.2.1 + 2) x) := by
  obtain ⟨h1, h2, h3, h4, h5, h6, h7⟩ := h
  obtain ⟨g1, g2, g3, g4⟩ := h3
  have hxl := (List.getElem?_eq_some_iff.mp hx).1
  obtain ⟨a1, a2, a3, a4⟩ := h4 x T hx
  have n0 : ¬ (ie (x : Int) < 0) := by simp (disch := omega) only [ie_lit, Int.cast_ofNat_Int, ie_add, ie_sub, ie_mul, ie_neg, ie_lt, ie_le, ie_eq, ie_nat, ie_ok, ib_z, ib_e, ib_1, lge_lt, lge_ge, lge_eq, lge_le, lge_gt]; omega
  have n1 : ¬ (ie (Y.length : Int) ≤ ie (x : Int)) := by simp (disch := omega) only [ie_lit, Int.cast_ofNat_Int, ie_add, ie_sub, ie_mul, ie_neg, ie_lt, ie_le, ie_eq, ie_nat, ie_ok, ib_z, ib_e, ib_1, lge_lt, lge_ge, lge_eq, lge_le, lge_gt]; omega
  have ok : pm_ok (ie x) g.2.2.2 = true := (ie_ok x g.2.2.2 (by omega) (by omega)).mpr (by omega)
  have nt : (ie (x : Int)).toNatClampNeg = x := by rw [ie_nat _ (by omega) (by omega)]; omega
  unfold F_Types_kind F_Types_leaves F_Types_letters F_Types_left F_Types_right
  simp only [h1, n0, n1, ok, nt, if_true, if_false, a1, a2, a3, and_self]
theorem c_parts {g : pm_s} {u : pm_J} {Y : List Ty} (h : tyC g u Y) (f : Bool) (A B : Ty) (x : Nat) (hx : Y[x]? = some (tyP f A B)) : ∃ l r : Nat, Y[l]? = some A ∧ Y[r]? = some B ∧ F_Types_left (ie x) g u = some (ie l) ∧ F_Types_right (ie x) g u = some (ie r) ∧ l < x ∧ r < x := by
  obtain ⟨a1, a2, a3, a4, a5⟩ := c_row h x _ hx
  obtain ⟨l, r, c1, c2, c3, c4, c5, c6⟩ := (tyP_row Y f A B x _ _).mp (h.2.2.2.1 x _ hx).2.2.2
  exact ⟨l, r, c3, c4, by rw [a4, c5], by rw [a5, c6], c1, c2⟩
theorem c_none (g : pm_s) (u : pm_J) : F_Types_kind (ie (-1)) g u = some (ie (-1)) ∧ F_Types_leaves (ie (-1)) g u = some (ie 0) ∧ F_Types_letters (ie (-1)) g u = some (ie 0) ∧ F_Types_left (ie (-1)) g u = some (ie (-1)) ∧ F_Types_right (ie (-1)) g u = some (ie (-1)) := ⟨rfl, rfl, rfl, rfl, rfl⟩
theorem c_make0 (N : Nat) (k : Int32) (x : Int32) (g : pm_s) (u : pm_J) : F_Types_make N k (ie (-1)) x g u = some (ie (-1), g, u) := by
  unfold F_Types_make
  rw [if_pos (show ie (-1) < 0 by decide), pmS_some g g _ _ (Nat.le_refl _) (Nat.le_refl _)]; rfl
def tyNo (u : pm_J) (x : Int32) : Prop := x < 0 ∨ u.1 10 7 ≤ x
theorem c_same {g : pm_s} {u : pm_J} {Y : List Ty} (h : tyC g u Y) (x y : Nat) (S T : Ty) (hx : Y[x]? = some S) (hy : Y[y]? = some T) : (ie (x : Int) = ie (y : Int)) ↔ S = T := by
  obtain ⟨h1, h2, h3, h4, h5, h6, h7⟩ := h
  have hxl := (List.getElem?_eq_some_iff.mp hx).1
  have hyl := (List.getElem?_eq_some_iff.mp hy).1
  constructor
  · intro hh
    have : x = y := ien_inj hh (by omega) (by omega)
    subst this; rw [hx] at hy; exact Option.some.inj hy
  · rintro rfl
    rw [h5 x y S hx hy]
theorem tyC_fr {g : pm_s} {u v : pm_J} {Y : List Ty} (h : tyC g u Y) (hf : ∀ c i, cS_y c i = true → v.1 c i = u.1 c i) : tyC g v Y := by
  obtain ⟨h1, h2, h3, h4, h5, h6, h7⟩ := h
  have hgI := h3
  obtain ⟨g1, g2, g3, g4⟩ := h3
  have V : ∀ j i : Nat, j < 6 → v.1 (g.2.2.1 + j) i = u.1 (g.2.2.1 + j) i := by
    intro j i hj
    apply hf
    unfold cS_y
    rcases g1 with ⟨a, _⟩ | a
    · rw [a]; have : ∀ j, j < 6 → (Nat.beq (11 + j) 10 || Nat.beq (11 + j) 17 || (Nat.ble 11 (11 + j) && Nat.ble (11 + j) 16) || Nat.ble 140 (11 + j)) = true := by decide
      exact this j hj
    · rw [show Nat.ble 140 (g.2.2.1 + j) = true from Nat.ble_eq.mpr (by omega), Bool.or_true]
  have V5 : v.1 (g.2.2.1 + 5) = u.1 (g.2.2.1 + 5) := by funext i; exact V 5 i (by omega)
  have V17 : v.1 17 = u.1 17 := by funext i; exact hf 17 i rfl
  refine ⟨by rw [hf 10 7 rfl]; exact h1, h2, hgI, ?_, h5, h6, ?_⟩
  · intro i T hi; rw [V 0 i (by omega), V 1 i (by omega), V 2 i (by omega), V 3 i (by omega), V 4 i (by omega)]; exact h4 i T hi
  · rw [V5, V17]
    intro b hb
    obtain ⟨L, l1, l2, l3, l4⟩ := h7 b hb
    refine ⟨L, l1, l2, l3, fun i T l r hi h6i hh => ?_⟩
    obtain ⟨b1, b2, b3⟩ := hh
    exact l4 i T l r hi h6i ⟨(V 1 i (by omega)).symm.trans b1, (V 2 i (by omega)).symm.trans b2, b3⟩
