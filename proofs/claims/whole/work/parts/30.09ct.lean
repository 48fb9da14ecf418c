set_option maxRecDepth 100000
def cCl (T : List Tok) (n : Nat) (cl : Option Nat) (u : pm_J) : Prop := match cl with
  | none => u.1 4 0 = ie 0
  | some t => u.1 4 0 = ie 5 ∧ u.1 4 1 = ie (tkP T n t)
def cS_T : Nat → Nat → Bool := fun c i => cS_y c i || Nat.beq c 3 || Nat.beq c 4 || Nat.beq c 42 || (Nat.beq c 39 && (Nat.beq i 10 || Nat.beq i 11 || Nat.beq i 13 || Nat.beq i 14))
def cTk (T : List Tok) (n a : Nat) (u : pm_J) : Prop := u.1 3 0 = ie 0 ∧ cTok u T ∧ u.1 5 6 = ie n ∧ u.1 39 11 = ie a
def cT (T : List Tok) (n a c b m : Nat) (cl : Option Nat) (g : pm_s) (u : pm_J) (Y : List Ty) : Prop := cTk T n a u ∧ u.1 39 14 = ie c ∧ u.1 39 10 = ie b ∧ u.1 39 13 = ie m ∧ cCl T n cl u ∧ tyC g u Y
theorem tkK_lt {T : List Tok} {a : Nat} (h : tkK T a ≠ 0) : a < T.length := by
  unfold tkK at h
  apply Decidable.byContradiction
  intro hh
  rw [List.getElem?_eq_none (by omega)] at h
  exact h rfl
theorem k_kind {T : List Tok} {n a : Nat} {u : pm_J} (h : cTk T n a u) (ha : a ≤ T.length) (g : pm_s) : F_Parser_kind g u = some (ie (tkK T a)) := by
  obtain ⟨h1, h2, h3, h4⟩ := h
  have h9 := h2.2.1
  unfold F_Parser_kind
  rw [c_told0 u g h1, Option.bind_some, if_pos (show ie 0 = 0 from rfl), h4]
  unfold F_Tokens_kind tkK
  rw [h2.1, if_neg (nlt0 a (by omega))]
  simp only [inle T.length a (by omega) (by omega)]
  by_cases hl : T.length ≤ a
  · rw [if_pos hl, List.getElem?_eq_none hl]; rfl
  · rw [if_neg hl, if_pos (okn a 900 (by omega) (by omega)), ntn a (by omega)]
    obtain ⟨t, ht⟩ : ∃ t, T[a]? = some t := ⟨T[a], List.getElem?_eq_getElem (by omega)⟩
    rw [ht, (h2.2.2 a t ht).1]; rfl
theorem k_place {T : List Tok} {n a : Nat} {u : pm_J} (h2 : cTok u T) (h3 : u.1 5 6 = ie n) (ha : a ≤ T.length) (g : pm_s) : F_Tokens_placeOf (ie a) g u = some (ie (tkP T n a)) := by
  have h9 := h2.2.1
  unfold F_Tokens_placeOf tkP
  rw [h2.1, if_neg (nlt0 a (by omega))]
  simp only [inle T.length a (by omega) (by omega)]
  by_cases hl : T.length ≤ a
  · rw [if_pos hl, List.getElem?_eq_none hl, h3]
  · rw [if_neg hl, if_pos (okn a 900 (by omega) (by omega)), ntn a (by omega)]
    obtain ⟨t, ht⟩ : ∃ t, T[a]? = some t := ⟨T[a], List.getElem?_eq_getElem (by omega)⟩
    rw [ht, (h2.2.2 a t ht).2.1]
theorem k_value {T : List Tok} {a : Nat} {u : pm_J} (h2 : cTok u T) (ha : a ≤ T.length) (g : pm_s) : F_Tokens_value (ie a) g u = some (tkV T a) := by
  have h9 := h2.2.1
  unfold F_Tokens_value tkV
  rw [h2.1, if_neg (nlt0 a (by omega))]
  simp only [inle T.length a (by omega) (by omega)]
  by_cases hl : T.length ≤ a
  · rw [if_pos hl, List.getElem?_eq_none hl]
  · rw [if_neg hl, if_pos (okn a 900 (by omega) (by omega)), ntn a (by omega)]
    obtain ⟨t, ht⟩ : ∃ t, T[a]? = some t := ⟨T[a], List.getElem?_eq_getElem (by omega)⟩
    rw [ht, (h2.2.2 a t ht).2.2]
theorem k_here {T : List Tok} {n a : Nat} {u : pm_J} (h : cTk T n a u) (ha : a ≤ T.length) (g : pm_s) : F_Parser_here g u = some (ie (tkP T n a)) := by
  unfold F_Parser_here; rw [h.2.2.2, k_place h.2.1 h.2.2.1 ha g]; rfl
theorem cTok_fr {u v : pm_J} {T : List Tok} (h : cTok u T) (h1 : v.1 5 5 = u.1 5 5) (h2 : ∀ i, v.1 6 i = u.1 6 i ∧ v.1 7 i = u.1 7 i ∧ v.2 8 i = u.2 8 i) : cTok v T :=
  ⟨h1.trans h.1, h.2.1, fun i t hi => by obtain ⟨a, b, c⟩ := h.2.2 i t hi; exact ⟨(h2 i).1.trans a, (h2 i).2.1.trans b, (h2 i).2.2.trans c⟩⟩
theorem cTk_at {T : List Tok} {n a a' : Nat} {u v : pm_J} (h : cTk T n a u) (hv : v.1 3 0 = u.1 3 0) (h5 : ∀ i, v.1 5 i = u.1 5 i) (h6 : ∀ i, v.1 6 i = u.1 6 i ∧ v.1 7 i = u.1 7 i ∧ v.2 8 i = u.2 8 i) (ha : v.1 39 11 = ie a') : cTk T n a' v :=
  ⟨hv.trans h.1, cTok_fr h.2.1 (h5 5) h6, (h5 6).trans h.2.2.1, ha⟩
theorem k_tell {T : List Tok} {n : Nat} {u : pm_J} (h0 : u.1 3 0 = ie 0) (c t : Nat) (hc : 1 ≤ c) (hc7 : c ≤ 7) (g : pm_s) : F_Fault_tell_3 (ie c) (ie (tkP T n t)) g u = some (cTell u c (tkP T n t)) ∧ cFl T n (c, t) (cTell u c (tkP T n t)) :=
  ⟨c_tell u g c _ h0, rfl, hc, hc7, rfl⟩
theorem tyC_w {g : pm_s} {u v : pm_J} {Y : List Ty} (h : tyC g u Y) (hf : ∀ c i, cS_y c i = true → v.1 c i = u.1 c i) : tyC g v Y := tyC_fr h hf
theorem frT (u v : pm_J) (h : ∀ c i, cS_T c i = false → v.1 c i = u.1 c i ∧ v.2 c i = u.2 c i) : fr cS_T u v := h
def ptC (T : List Tok) (n : Nat) (o : Bool) (a b m : Nat) (cl : Option Nat) (g : pm_s) (u : pm_J) (Y : List Ty) (x : PE PT) (F : Option (Int32 × pm_s × pm_J)) : Prop :=
  ∃ (z : Int32) (g' : pm_s) (v : pm_J), F = some (z, g', v) ∧ fr cS_T u v ∧ gL g g' ∧ cBI v ∧
    (match x with
     | .error q => fl T n q g' v
     | .ok t => ∃ (k : Nat) (Z : List Ty), z = ie k ∧ cT T n t.2.1 t.2.2 b (if o = true then m ||| tyM t.1 else m) (if o = true then cl else oE cl (badL T m a (t.2.1 - a))) g' v (Y ++ Z) ∧ (Y ++ Z)[k]? = some t.1 ∧ Z.length ≤ t.2.1 - a ∧ a < t.2.1 ∧ t.2.1 ≤ T.length ∧ t.2.2 ≤ 100 ∧ tyM t.1 < 16 ∧ (∀ i, i < b → v.1 42 i = u.1 42 i))
def tkG (T : List Tok) : Prop := (∀ i, tkK T i ≤ 25) ∧ ∀ i, tkK T i = 4 → ∃ l : Nat, l < 4 ∧ tkV T i = je l
theorem kq {x : Nat} (hx : x ≤ 25) (k : Nat) (hk : k < 100) : (ie (x : Int) = ie (k : Int)) ↔ x = k := ineq x k (by omega) (by omega)
theorem oE_none {α : Type} (x : Option α) : oE x none = x := by cases x <;> rfl
theorem oE_assoc {α : Type} (x y z : Option α) : oE (oE x y) z = oE x (oE y z) := by cases x <;> rfl
theorem badL_app (T : List Tok) (m a j k : Nat) : badL T m a (j + k) = oE (badL T m a j) (badL T m (a + j) k) := by
  induction k with
  | zero => rw [Nat.add_zero, badL, oE_none]
  | succ k ih =>
    rw [← Nat.add_assoc, badL, ih, badL]
    cases h1 : badL T m a j with
    | some x => rfl
    | none =>
      cases h2 : badL T m (a + j) k with
      | some x => rfl
      | none => show (if _ then some (a + (j + k)) else none) = (if _ then some (a + j + k) else none); rw [Nat.add_assoc]
theorem badL_1 (T : List Tok) (m a : Nat) (h : tkK T a ≠ 4) : badL T m a 1 = none := by
  rw [badL, badL, if_neg (fun hh => h hh.1)]
theorem badL_split (T : List Tok) (m a b c : Nat) (h1 : a ≤ b) (h2 : b ≤ c) : badL T m a (c - a) = oE (badL T m a (b - a)) (badL T m b (c - b)) := by
  rw [show c - a = (b - a) + (c - b) by omega, badL_app, show a + (b - a) = b by omega]
theorem ie_zero (x : Nat) (h : x < 2147483648) : (ie (x : Int) = 0) ↔ x = 0 := by
  have := ineq x 0 h (by omega); exact this
theorem or16 : ∀ m, m < 16 → ∀ l, l < 4 → (ie ((m : Nat) : Int) &&& ((1 : Int32) <<< (ie ((l : Nat) : Int) &&& 31)) = 0 ↔ Nat.testBit m l = false) ∧ (ie ((m : Nat) : Int) ||| ((1 : Int32) <<< (ie ((l : Nat) : Int) &&& 31))) = ie ((m ||| 2 ^ l : Nat) : Int) := by decide +kernel
theorem or_lt16 : ∀ m, m < 16 → ∀ k, k < 16 → m ||| k < 16 := by decide +kernel
theorem pw_lt16 : ∀ l, l < 4 → 2 ^ l < 16 := by decide
theorem frT_wi (u v : pm_J) (a k : Nat) (x : Int32) (h : cS_T a k = true) (hv : fr cS_T u v) : fr cS_T u (wi v a k x) := fr_wi _ _ _ _ _ _ h hv
theorem fl_of {T : List Tok} {n : Nat} {q : Nat × Nat} {g : pm_s} {u v : pm_J} (h : fl T n q g u) (h3 : v.1 3 0 = u.1 3 0) (h31 : v.1 3 1 = u.1 3 1) (hb : cBI v) (hf : ∀ c i, cS_y c i = true → v.1 c i = u.1 c i) : fl T n q g v := by
  obtain ⟨h1, h2, Y, h4⟩ := h
  exact ⟨⟨h3.trans h1.1, h1.2.1, h1.2.2.1, h31.trans h1.2.2.2⟩, hb, Y, tyC_fr h4 hf⟩
theorem csy_lo {c i : Nat} (h : cS_y c i = true) : c = 10 ∨ c = 17 ∨ (11 ≤ c ∧ c ≤ 16) ∨ 140 ≤ c := by
  unfold cS_y at h
  simp only [Bool.or_eq_true, Bool.and_eq_true, Nat.beq_eq, Nat.ble_eq] at h
  omega
theorem wi_csy (u : pm_J) (a k : Nat) (x : Int32) (h : a < 10 ∨ (17 < a ∧ a < 140)) : ∀ c i, cS_y c i = true → (wi u a k x).1 c i = u.1 c i := by
  intro c i hc
  have := csy_lo hc
  rw [wi_1, if_neg (by omega)]
theorem cBI_wi (u : pm_J) (a k : Nat) (x : Int32) (h : cBI u) (ha : ¬ (a = 39 ∧ (k = 10 ∨ k = 8)) ∧ ¬ (a = 18 ∧ k = 10) ∧ ¬ (a = 29 ∧ k = 9) ∧ a ≠ 35 ∧ ¬ (a = 5 ∧ k = 5)) : cBI (wi u a k x) := by
  apply cBI_cong h
  · rw [wi_1, if_neg (by omega)]
  · rw [wi_1, if_neg (by omega)]
  · rw [wi_1, if_neg (by omega)]
  · rw [wi_1, if_neg (by omega)]
  · intro d; rw [wi_1, if_neg (by omega)]
  · rw [wi_1, if_neg (by omega)]
theorem fl_wi {T : List Tok} {n : Nat} {q : Nat × Nat} {g : pm_s} {u : pm_J} (h : fl T n q g u) (a k : Nat) (x : Int32) (h3 : a ≠ 3) (h1 : a < 10 ∨ (17 < a ∧ a < 140)) (ha : ¬ (a = 39 ∧ (k = 10 ∨ k = 8)) ∧ ¬ (a = 18 ∧ k = 10) ∧ ¬ (a = 29 ∧ k = 9) ∧ a ≠ 35 ∧ ¬ (a = 5 ∧ k = 5)) : fl T n q g (wi u a k x) :=
  fl_of h (by rw [wi_1, if_neg (by omega)]) (by rw [wi_1, if_neg (by omega)]) (cBI_wi u a k x h.2.1 ha) (wi_csy u a k x h1)
theorem cT_at {T : List Tok} {n a c b m : Nat} {cl : Option Nat} {g : pm_s} {u : pm_J} {Y : List Ty} (h : cT T n a c b m cl g u Y) (a' : Nat) : cT T n a' c b m cl g (wi u 39 11 (ie a')) Y := by
  obtain ⟨h1, h2, h3, h4, h5, h6⟩ := h
  refine ⟨cTk_at h1 rfl (fun _ => rfl) (fun _ => ⟨rfl, rfl, rfl⟩) rfl, h2, h3, h4, ?_, tyC_fr h6 (wi_csy _ _ _ _ (by omega))⟩
  cases cl <;> exact h5
theorem cT_leaf {T : List Tok} {n a c b m : Nat} {cl : Option Nat} {g : pm_s} {u : pm_J} {Y : List Ty} (h : cT T n a c b m cl g u Y) (a' c' : Nat) : cT T n a' c' b m cl g (wi (wi u 39 14 (ie c')) 39 11 (ie a')) Y := by
  obtain ⟨h1, h2, h3, h4, h5, h6⟩ := h
  refine ⟨cTk_at h1 rfl (fun _ => rfl) (fun _ => ⟨rfl, rfl, rfl⟩) rfl, rfl, h3, h4, ?_, tyC_fr (tyC_fr h6 (wi_csy _ _ _ _ (by omega))) (wi_csy _ _ _ _ (by omega))⟩
  cases cl <;> exact h5
theorem cBI_leaf (u : pm_J) (x y : Int32) (h : cBI u) : cBI (wi (wi u 39 14 x) 39 11 y) := cBI_wi _ _ _ _ (cBI_wi _ _ _ _ h (by omega)) (by omega)
theorem fl_tell {T : List Tok} {n a c b m : Nat} {cl : Option Nat} {g : pm_s} {u : pm_J} {Y : List Ty} (h : cT T n a c b m cl g u Y) (hb : cBI u) (q t : Nat) (h1 : 1 ≤ q) (h7 : q ≤ 7) : F_Fault_tell_3 (ie q) (ie (tkP T n t)) g u = some (cTell u q (tkP T n t)) ∧ fl T n (q, t) g (cTell u q (tkP T n t)) := by
  obtain ⟨k1, k2⟩ := k_tell (T := T) (n := n) h.1.1 q t h1 h7 g
  refine ⟨k1, k2, cBI_wi _ _ _ _ (cBI_wi _ _ _ _ hb (by omega)) (by omega), Y, tyC_fr (tyC_fr h.2.2.2.2.2 (wi_csy _ _ _ _ (by omega))) (wi_csy _ _ _ _ (by omega))⟩
theorem frT_tell (u : pm_J) (q p : Int) : fr cS_T u (cTell u q p) := fr_wi _ _ _ _ _ _ rfl (fr_wi _ _ _ _ _ _ rfl (fr_refl _ _))
theorem c_leaf {T : List Tok} {n a c b m : Nat} {cl : Option Nat} {g : pm_s} {u : pm_J} {Y : List Ty} (N : Nat) (h : cT T n a c b m cl g u Y) (hb : cBI u) (ha : a < T.length) (hc : c ≤ 100) :
    (c < 100 → F_Parser_countLeaf N g u = some (wi (wi u 39 14 (ie ((c + 1 : Nat) : Int))) 39 11 (ie ((a + 1 : Nat) : Int)))) ∧
    (c = 100 → ∃ v, F_Parser_countLeaf N g u = some v ∧ fl T n (4, a) g v ∧ fr cS_T u v ∧ cBI v) := by
  have h9 := h.1.2.1.2.1
  have hat := h.1.2.2.2
  unfold F_Parser_countLeaf K_Parser_countLeaf_28
  rw [h.2.1]
  constructor
  · intro hlt
    rw [if_pos (show ie (c : Int) < 100 from (inlt c 100 (by omega) (by omega)).mpr hlt), iadd1, hat, iadd1]
  · intro he
    rw [if_neg (show ¬ (ie (c : Int) < 100) from fun hh => by have := (inlt c 100 (by omega) (by omega)).mp hh; omega), hat, k_place h.1.2.1 h.1.2.2.1 (by omega) g, Option.bind_some]
    obtain ⟨k1, k2⟩ := fl_tell h hb 4 a (by omega) (by omega)
    have k1' : F_Fault_tell_3 4 (ie (tkP T n a)) g u = some (cTell u 4 (tkP T n a)) := k1
    rw [k1', Option.bind_some]
    refine ⟨_, rfl, fl_wi (fl_wi k2 _ _ _ (by omega) (by omega) (by omega)) _ _ _ (by omega) (by omega) (by omega), ?_, ?_⟩
    · exact fr_wi _ _ _ _ _ _ rfl (fr_wi _ _ _ _ _ _ rfl (frT_tell u _ _))
    · exact cBI_leaf _ _ _ k2.2.1
theorem cCl_tell {T : List Tok} {n a c b m : Nat} {cl : Option Nat} {g : pm_s} {u : pm_J} {Y : List Ty} (h : cT T n a c b m cl g u Y) (t : Nat) : ∃ v, F_Fault_tell_4 5 (ie (tkP T n t)) g u = some v ∧ cT T n a c b m (oE cl (some t)) g v Y ∧ fr cS_T u v ∧ (cBI u → cBI v) ∧ (∀ i, v.1 42 i = u.1 42 i) := by
  obtain ⟨h1, h2, h3, h4, h5, h6⟩ := h
  unfold F_Fault_tell_4
  cases cl with
  | none =>
    rw [if_pos (show u.1 4 0 = 0 from h5)]
    refine ⟨_, rfl, ⟨cTk_at h1 rfl (fun _ => rfl) (fun _ => ⟨rfl, rfl, rfl⟩) h1.2.2.2, h2, h3, h4, ⟨rfl, rfl⟩, tyC_fr (tyC_fr h6 (wi_csy _ _ _ _ (by omega))) (wi_csy _ _ _ _ (by omega))⟩, ?_, ?_, fun _ => rfl⟩
    · exact fr_wi _ _ _ _ _ _ rfl (fr_wi _ _ _ _ _ _ rfl (fr_refl _ _))
    · intro hb; exact cBI_wi _ _ _ _ (cBI_wi _ _ _ _ hb (by omega)) (by omega)
  | some x =>
    rw [if_neg (show ¬ (u.1 4 0 = 0) by rw [h5.1]; decide)]
    exact ⟨u, rfl, ⟨h1, h2, h3, h4, h5, h6⟩, fr_refl _ _, fun hb => hb, fun _ => rfl⟩
theorem je_nat (l : Nat) (h : l < 4) : (je (l : Int)).toInt.toNat = l := by rw [je_toInt _ (by omega) (by omega)]; omega
theorem c_base {T : List Tok} {n a c b m : Nat} {cl : Option Nat} {g : pm_s} {u : pm_J} {Y : List Ty} (N : Nat) (hG : tkG T) (R : Int32 → Int32 → pm_s → pm_J → Option (Int32 × pm_s × pm_J)) (pr : Nat → Nat → PE PT) (dp : Int32) (o : Bool)
    (ih : ∀ a c m cl g u Y, cT T n a c b m cl g u Y → cBI u → a ≤ T.length → Y.length + (T.length - a) ≤ 60000 → m < 16 → c ≤ 100 → ptC T n o a b m cl g u Y (pr a c) (R (dp + 1) (ib o) g u))
    (h : cT T n a c b m cl g u Y) (hb : cBI u) (ha : a ≤ T.length) (hY : Y.length + (T.length - a) ≤ 60000) (hm : m < 16) (hc : c ≤ 100) :
    ptC T n o a b m cl g u Y (pBase pr T a c) (F_Parser_readBase N R dp (ib o) g u) := by
  have h9 := h.1.2.1.2.1
  have hgI := h.2.2.2.2.2.2.2.1
  have hK := hG.1 a
  have k4 : (ie (tkK T a : Int) = 4) ↔ tkK T a = 4 := kq hK 4 (by omega)
  have k5 : (ie (tkK T a : Int) = 5) ↔ tkK T a = 5 := kq hK 5 (by omega)
  have k6 : (ie (tkK T a : Int) = 6) ↔ tkK T a = 6 := kq hK 6 (by omega)
  have k15 : (ie (tkK T a : Int) = 15) ↔ tkK T a = 15 := kq hK 15 (by omega)
  unfold F_Parser_readBase pBase
  rw [k_kind h.1 ha g, Option.bind_some]
  simp only [k4, k5, k6, k15]
  have fin : ∀ (k : Nat) (v : pm_J) (m' : Nat) (cl' : Option Nat) (ty : Ty), c < 100 → tkK T a ≠ 0 → cT T n (a + 1) (c + 1) b m' cl' g v Y → cBI v → fr cS_T u v → (∀ i, v.1 42 i = u.1 42 i) → Y[k]? = some ty → tyM ty < 16 →
      m' = (if o = true then m ||| tyM ty else m) → cl' = (if o = true then cl else oE cl (badL T m a 1)) → ptC T n o a b m cl g u Y (.ok (ty, a + 1, c + 1)) (pm_S g (some (ie k, g, v))) := by
    intro k v m' cl' ty c1 c2 c3 c4 c5 c6 c7 c8 c9 c10
    have hlt := tkK_lt c2
    refine ⟨ie k, g, v, pmS_some g g _ _ (Nat.le_refl _) (Nat.le_refl _), c5, gL_refl hgI, c4, k, [], rfl, ?_, ?_, ?_, ?_, ?_, ?_, c8, fun i _ => c6 i⟩
    · rw [List.append_nil]
      show cT T n (a + 1) (c + 1) b (if o = true then m ||| tyM ty else m) (if o = true then cl else oE cl (badL T m a (a + 1 - a))) g v Y
      rw [show a + 1 - a = 1 by omega, ← c9, ← c10]; exact c3
    · rw [List.append_nil]; exact c7
    · show 0 ≤ _; omega
    · show a < a + 1; omega
    · show a + 1 ≤ T.length; omega
    · show c + 1 ≤ 100; omega
  by_cases e4 : tkK T a = 4
  · have hlt := tkK_lt (show tkK T a ≠ 0 by omega)
    obtain ⟨l, l4, hv⟩ := hG.2 a e4
    have hnum : (tkV T a).toInt.toNat = l := by rw [hv, je_nat l l4]
    simp only [if_true, if_false, true_or, or_true, false_or, or_false, and_true, true_and, and_false, false_and, or_self, and_self, not_true_eq_false, not_false_eq_true, reduceIte, e4]
    unfold F_Parser_readLetter
    rw [h.1.2.2.2, k_value h.1.2.1 ha g, Option.bind_some, hv, je_ie _ (by omega) (by omega), h.2.2.2.1]
    obtain ⟨o1, o2⟩ := or16 m hm l l4
    simp only [o2, F_Types_letter]
    have hYl := h.2.2.2.2.2.2.2.2.2.2.1 (2 + l) (by omega)
    have hl2 : (2 : Int32) + ie (l : Int) = ie ((2 + l : Nat) : Int) := by rw [show (2 : Int32) = ie 2 from rfl, ie_add]; rfl
    have htM : tyM (.num (2 + l)) = 2 ^ l := by show (if 2 + l < 2 then 0 else 2 ^ (2 + l - 2)) = _; rw [if_neg (by omega)]; congr 1; omega
    have hbad : badL T m a 1 = if Nat.testBit m l = false then some a else none := by
      rw [badL, badL, Nat.add_zero, hnum]
      by_cases hh : Nat.testBit m l = false
      · rw [if_pos ⟨e4, hh⟩, if_pos hh]
      · rw [if_neg (fun x => hh x.2), if_neg hh]
    rw [je_nat l l4, show (if (4 : Nat) = 5 then 0 else if (4 : Nat) = 6 then 1 else 2 + l) = 2 + l from rfl]
    cases o with
    | false =>
      simp only [show ib false = 0 from rfl, if_true, o1]
      have go : ∀ v, cT T n a c b m (oE cl (badL T m a 1)) g v Y → cBI v → fr cS_T u v → (∀ i, v.1 42 i = u.1 42 i) → ptC T n false a b m cl g u Y (if c = 100 then .error (4, a) else .ok (.num (2 + l), a + 1, c + 1)) (pm_S g (((F_Parser_countLeaf N g v).bind fun q8 => (some ((2 : Int32) + ie l)).bind fun q9 => some (q9, q8)).bind fun q3 => some (q3.1, g, q3.2))) := by
        intro v w1 w2 w3 w4
        obtain ⟨l1, l2⟩ := c_leaf N w1 w2 hlt hc
        by_cases hc1 : c = 100
        · obtain ⟨x, x1, x2, x3, x4⟩ := l2 hc1
          rw [if_pos hc1, x1]
          exact ⟨_, g, x, pmS_some g g _ _ (Nat.le_refl _) (Nat.le_refl _), fr_trans w3 x3, gL_refl hgI, x4, x2⟩
        · rw [if_neg hc1, l1 (by omega), hl2]
          exact fin (2 + l) _ m (oE cl (badL T m a 1)) (.num (2 + l)) (by omega) (by omega) (cT_leaf w1 _ _) (cBI_leaf _ _ _ w2) (fr_wi _ _ _ _ _ _ rfl (fr_wi _ _ _ _ _ _ rfl w3)) (fun i => w4 i) hYl (by rw [htM]; exact pw_lt16 l l4) rfl rfl
      by_cases hbit : Nat.testBit m l = false
      · rw [if_pos hbit, k_here h.1 ha g, Option.bind_some]
        obtain ⟨v, v1, v2, v3, v4, v5⟩ := cCl_tell h a
        rw [v1, Option.bind_some]
        rw [hbad, if_pos hbit] at go
        exact go v v2 (v4 hb) v3 v5
      · rw [if_neg hbit]
        rw [hbad, if_neg hbit, oE_none] at go
        exact go u h hb (fr_refl _ _) (fun _ => rfl)
    | true =>
      rw [if_neg (show ¬ (ib true = 0) by decide)]
      have w1 : cT T n a c b (m ||| 2 ^ l) cl g (wi u 39 13 (ie ((m ||| 2 ^ l : Nat) : Int))) Y := by
        obtain ⟨h1, h2, h3, h4, h5, h6⟩ := h
        refine ⟨cTk_at h1 rfl (fun _ => rfl) (fun _ => ⟨rfl, rfl, rfl⟩) h1.2.2.2, h2, h3, rfl, ?_, tyC_fr h6 (wi_csy _ _ _ _ (by omega))⟩
        cases cl <;> exact h5
      have w2 : cBI (wi u 39 13 (ie ((m ||| 2 ^ l : Nat) : Int))) := cBI_wi _ _ _ _ hb (by omega)
      have w3 : fr cS_T u (wi u 39 13 (ie ((m ||| 2 ^ l : Nat) : Int))) := fr_wi _ _ _ _ _ _ rfl (fr_refl _ _)
      obtain ⟨l1, l2⟩ := c_leaf N w1 w2 hlt hc
      by_cases hc1 : c = 100
      · obtain ⟨x, x1, x2, x3, x4⟩ := l2 hc1
        rw [if_pos hc1, x1]
        exact ⟨_, g, x, pmS_some g g _ _ (Nat.le_refl _) (Nat.le_refl _), fr_trans w3 x3, gL_refl hgI, x4, x2⟩
      · rw [if_neg hc1, l1 (by omega), hl2]
        exact fin (2 + l) _ (m ||| 2 ^ l) cl (.num (2 + l)) (by omega) (by omega) (cT_leaf w1 _ _) (cBI_leaf _ _ _ w2) (fr_wi _ _ _ _ _ _ rfl (fr_wi _ _ _ _ _ _ rfl w3)) (fun i => rfl) hYl (by rw [htM]; exact pw_lt16 l l4) (by rw [if_pos rfl, htM]) rfl
  · have hb1 : badL T m a 1 = none := badL_1 T m a e4
    have go : ∀ (k : Nat), k < 2 → tkK T a ≠ 0 → ptC T n o a b m cl g u Y (if c = 100 then .error (4, a) else .ok (.num k, a + 1, c + 1)) (pm_S g ((F_Parser_countLeaf N g u).bind fun q5 => some (ie k, g, q5))) := by
      intro k hk hk0
      have hlt := tkK_lt hk0
      obtain ⟨l1, l2⟩ := c_leaf N h hb hlt hc
      have htM : tyM (.num k) = 0 := by show (if k < 2 then 0 else 2 ^ (k - 2)) = 0; rw [if_pos hk]
      by_cases hc1 : c = 100
      · obtain ⟨x, x1, x2, x3, x4⟩ := l2 hc1
        rw [if_pos hc1, x1]
        exact ⟨_, g, x, pmS_some g g _ _ (Nat.le_refl _) (Nat.le_refl _), x3, gL_refl hgI, x4, x2⟩
      · rw [if_neg hc1, l1 (by omega)]
        refine fin k _ m cl (.num k) (by omega) hk0 (cT_leaf h _ _) (cBI_leaf _ _ _ hb) (fr_wi _ _ _ _ _ _ rfl (fr_wi _ _ _ _ _ _ rfl (fr_refl _ _))) (fun i => rfl) (h.2.2.2.2.2.2.2.2.2.2.1 k (by omega)) (by rw [htM]; omega) ?_ ?_
        · rw [htM, Nat.or_zero]; split <;> rfl
        · rw [hb1, oE_none]; split <;> rfl
    by_cases e5 : tkK T a = 5
    · simp only [if_true, if_false, true_or, or_true, false_or, or_false, and_true, true_and, and_false, false_and, or_self, and_self, not_true_eq_false, not_false_eq_true, reduceIte, e5, show ¬ ((5 : Nat) = 4) by decide]
      exact go 0 (by omega) (by omega)
    · by_cases e6 : tkK T a = 6
      · simp only [if_true, if_false, true_or, or_true, false_or, or_false, and_true, true_and, and_false, false_and, or_self, and_self, not_true_eq_false, not_false_eq_true, reduceIte, e6, show ¬ ((6 : Nat) = 4) by decide, show ¬ ((6 : Nat) = 5) by decide]
        exact go 1 (by omega) (by omega)
      · simp only [if_true, if_false, true_or, or_true, false_or, or_false, and_true, true_and, and_false, false_and, or_self, and_self, not_true_eq_false, not_false_eq_true, reduceIte, e4, e5, e6]
        by_cases e15 : tkK T a = 15
        · have hlt := tkK_lt (show tkK T a ≠ 0 by omega)
          rw [if_pos e15, if_pos e15, h.1.2.2.2, iadd1]
          obtain ⟨z, g', v, f1, f2, f3, f4, f5⟩ := ih (a + 1) c m cl g (wi u 39 11 (ie ((a + 1 : Nat) : Int))) Y (cT_at h (a + 1)) (cBI_wi _ _ _ _ hb (by omega)) (by omega) (by omega) hm hc
          rw [f1, Option.bind_some, if_pos (gI_Tb f3.1)]
          have fr0 : fr cS_T u v := fr_trans (fr_wi _ _ _ _ _ _ rfl (fr_refl _ _)) f2
          cases hp : pr (a + 1) c with
          | error q =>
            rw [hp] at f5
            have f5' : fl T n q g' v := f5
            rw [f_expect f5'.1 f5'.2.1 16 (by decide) g', Option.bind_some, pmS_some _ _ _ _ (Nat.le_refl _) (Nat.le_refl _)]
            exact ⟨z, g', v, pmS_some _ _ _ _ f3.2.1 f3.2.2.1, fr0, f3, f4, f5'⟩
          | ok t =>
            rw [hp] at f5
            obtain ⟨k, Z, y1, y2, y3, y4, y5, y6, y7, y8, y9⟩ := f5
            show ptC T n o a b m cl g u Y (if tkK T t.2.1 = 16 then .ok (t.1, t.2.1 + 1, t.2.2) else .error (2, t.2.1)) _
            unfold F_Parser_expect
            rw [k_kind y2.1 y6 g', Option.bind_some]
            have k16 : (ie (tkK T t.2.1 : Int) = 16) ↔ tkK T t.2.1 = 16 := kq (hG.1 _) 16 (by omega)
            simp only [k16]
            by_cases e16 : tkK T t.2.1 = 16
            · have hlt2 := tkK_lt (show tkK T t.2.1 ≠ 0 by omega)
              rw [if_pos e16, if_pos e16, y2.1.2.2.2, iadd1, Option.bind_some, pmS_some _ _ _ _ (Nat.le_refl _) (Nat.le_refl _)]
              refine ⟨z, g', _, pmS_some _ _ _ _ f3.2.1 f3.2.2.1, fr_wi _ _ _ _ _ _ rfl fr0, f3, cBI_wi _ _ _ _ f4 (by omega), k, Z, y1, ?_, y3, ?_, ?_, ?_, y7, y8, ?_⟩
              · have hbl : badL T m a (t.2.1 + 1 - a) = badL T m (a + 1) (t.2.1 - (a + 1)) := by
                  rw [badL_split T m a (a + 1) (t.2.1 + 1) (by omega) (by omega), badL_split T m (a + 1) t.2.1 (t.2.1 + 1) (by omega) (by omega), show a + 1 - a = 1 by omega, hb1, show t.2.1 + 1 - t.2.1 = 1 by omega, badL_1 T m t.2.1 (by omega), oE_none]; rfl
                show cT T n (t.2.1 + 1) t.2.2 b (if o = true then m ||| tyM t.1 else m) (if o = true then cl else oE cl (badL T m a (t.2.1 + 1 - a))) g' _ (Y ++ Z)
                rw [hbl]; exact cT_at y2 _
              · show Z.length ≤ t.2.1 + 1 - a; omega
              · show a < t.2.1 + 1; omega
              · show t.2.1 + 1 ≤ T.length; omega
              · intro i hi; exact y9 i hi
            · rw [if_neg e16, if_neg e16, k_here y2.1 y6 g', Option.bind_some]
              obtain ⟨k1, k2⟩ := fl_tell y2 f4 2 t.2.1 (by omega) (by omega)
              have k1' : F_Fault_tell_3 2 (ie (tkP T n t.2.1)) g' v = some (cTell v 2 (tkP T n t.2.1)) := k1
              rw [k1', Option.bind_some, Option.bind_some, pmS_some _ _ _ _ (Nat.le_refl _) (Nat.le_refl _)]
              exact ⟨z, g', _, pmS_some _ _ _ _ f3.2.1 f3.2.2.1, fr_trans fr0 (frT_tell v _ _), f3, k2.2.1, k2⟩
        · rw [if_neg e15, if_neg e15, k_here h.1 ha g, Option.bind_some]
          obtain ⟨k1, k2⟩ := fl_tell h hb 2 a (by omega) (by omega)
          have k1' : F_Fault_tell_3 2 (ie (tkP T n a)) g u = some (cTell u 2 (tkP T n a)) := k1
          rw [k1', Option.bind_some]
          exact ⟨_, g, _, pmS_some g g _ _ (Nat.le_refl _) (Nat.le_refl _), frT_tell u _ _, gL_refl hgI, k2.2.1, k2⟩
