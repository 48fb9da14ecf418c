set_option maxRecDepth 100000
def subL : Ty → List Ty
  | .num _ => []
  | .var _ => []
  | .add a b => .add a b :: (subL a ++ subL b)
  | .mul a b => .mul a b :: (subL a ++ subL b)
theorem subL_len (p : Ty) : (subL p).length + 1 = tyL p := by
  induction p with
  | num k => rfl
  | var k => rfl
  | add a b iha ihb => show ((subL a ++ subL b).length + 1) + 1 = tyL a + tyL b; rw [List.length_append]; omega
  | mul a b iha ihb => show ((subL a ++ subL b).length + 1) + 1 = tyL a + tyL b; rw [List.length_append]; omega
theorem subL_P (f : Bool) (a b : Ty) : subL (tyP f a b) = tyP f a b :: (subL a ++ subL b) := by cases f <;> rfl
theorem subL_tr {p q r : Ty} : q ∈ subL p → r ∈ subL q → r ∈ subL p := by
  induction p with
  | num k => intro h; cases h
  | var k => intro h; cases h
  | add a b iha ihb =>
    intro h hr
    have h' : q ∈ (Nat.Internal.SOM.Expr.add a b) :: (subL a ++ subL b) := h
    rcases List.mem_cons.mp h' with rfl | h
    · exact hr
    · show r ∈ (Nat.Internal.SOM.Expr.add a b) :: (subL a ++ subL b)
      rcases List.mem_append.mp h with h | h
      · exact List.mem_cons_of_mem _ (List.mem_append.mpr (Or.inl (iha h hr)))
      · exact List.mem_cons_of_mem _ (List.mem_append.mpr (Or.inr (ihb h hr)))
  | mul a b iha ihb =>
    intro h hr
    have h' : q ∈ (Nat.Internal.SOM.Expr.mul a b) :: (subL a ++ subL b) := h
    rcases List.mem_cons.mp h' with rfl | h
    · exact hr
    · show r ∈ (Nat.Internal.SOM.Expr.mul a b) :: (subL a ++ subL b)
      rcases List.mem_append.mp h with h | h
      · exact List.mem_cons_of_mem _ (List.mem_append.mpr (Or.inl (iha h hr)))
      · exact List.mem_cons_of_mem _ (List.mem_append.mpr (Or.inr (ihb h hr)))
theorem subL_ch {p : Ty} {f : Bool} {a b : Ty} (h : tyP f a b ∈ subL p) : (∀ f' c d, a = tyP f' c d → a ∈ subL p) ∧ (∀ f' c d, b = tyP f' c d → b ∈ subL p) := by
  constructor
  · intro f' c d he
    refine subL_tr h ?_
    rw [subL_P, he, subL_P]
    exact List.mem_cons_of_mem _ (List.mem_append.mpr (Or.inl List.mem_cons_self))
  · intro f' c d he
    refine subL_tr h ?_
    rw [subL_P, he, subL_P]
    exact List.mem_cons_of_mem _ (List.mem_append.mpr (Or.inr List.mem_cons_self))
theorem sbt_sub {f : Fi} {p : Ty} : ∀ {s q : Ty}, sbt f p = some s → q ∈ subL p → ∃ s', sbt f q = some s' := by
  have two : ∀ (b : Bool) (A B : Ty), (∀ {s q : Ty}, sbt f A = some s → q ∈ subL A → ∃ s', sbt f q = some s') → (∀ {s q : Ty}, sbt f B = some s → q ∈ subL B → ∃ s', sbt f q = some s') → ∀ {s q : Ty}, sbt f (tyP b A B) = some s → q ∈ subL (tyP b A B) → ∃ s', sbt f q = some s' := by
    intro b A B ihA ihB s q h hq
    rw [subL_P] at hq
    rcases List.mem_cons.mp hq with rfl | hq
    · exact ⟨s, h⟩
    · rw [sbtP] at h
      cases h1 : sbt f A with
      | none => rw [h1] at h; cases h
      | some x =>
        cases h2 : sbt f B with
        | none => rw [h1, h2] at h; cases h
        | some y =>
          rcases List.mem_append.mp hq with hq | hq
          · exact ihA h1 hq
          · exact ihB h2 hq
  induction p with
  | num k => intro s q _ h; cases h
  | var k => intro s q _ h; cases h
  | add a b iha ihb => exact fun h hq => two false a b iha ihb h hq
  | mul a b iha ihb => exact fun h hq => two true a b iha ihb h hq
theorem pigeon {α : Type} : ∀ (L Z : List α), (∀ (i j : Nat) (x : α), Z[i]? = some x → Z[j]? = some x → i = j) → (∀ x ∈ Z, x ∈ L) → Z.length ≤ L.length
  | [], Z, _, h => by
    cases Z with
    | nil => exact Nat.le_refl _
    | cons z Z => exact absurd (h z List.mem_cons_self) (by intro hh; cases hh)
  | a :: L, Z, hi, h => by
    by_cases ha : a ∈ Z
    · obtain ⟨Z1, Z2, rfl⟩ := List.append_of_mem ha
      have hlen : (Z1 ++ a :: Z2).length = (Z1 ++ Z2).length + 1 := by rw [List.length_append, List.length_append]; show Z1.length + (Z2.length + 1) = _; omega
      have mp : ∀ i : Nat, (Z1 ++ Z2)[i]? = (Z1 ++ a :: Z2)[if i < Z1.length then i else i + 1]? := by
        intro i
        by_cases h1 : i < Z1.length
        · rw [if_pos h1, List.getElem?_append_left h1, List.getElem?_append_left h1]
        · rw [if_neg h1, List.getElem?_append_right (by omega), List.getElem?_append_right (by omega), show i + 1 - Z1.length = (i - Z1.length) + 1 by omega]; rfl
      have ih := pigeon L (Z1 ++ Z2) (fun i j x h1 h2 => by
        rw [mp] at h1 h2
        have := hi _ _ x h1 h2
        by_cases a1 : i < Z1.length
        · by_cases a2 : j < Z1.length
          · rw [if_pos a1, if_pos a2] at this; exact this
          · rw [if_pos a1, if_neg a2] at this; omega
        · by_cases a2 : j < Z1.length
          · rw [if_neg a1, if_pos a2] at this; omega
          · rw [if_neg a1, if_neg a2] at this; omega) (fun x hx => by
        have hx' : x ∈ Z1 ++ a :: Z2 := by
          rcases List.mem_append.mp hx with hx | hx
          · exact List.mem_append.mpr (Or.inl hx)
          · exact List.mem_append.mpr (Or.inr (List.mem_cons_of_mem _ hx))
        rcases List.mem_cons.mp (h x hx') with rfl | hL
        · exfalso
          obtain ⟨i, hi1⟩ := List.mem_iff_getElem?.mp hx
          rw [mp] at hi1
          have hz : (Z1 ++ x :: Z2)[Z1.length]? = some x := by rw [List.getElem?_append_right (Nat.le_refl _), Nat.sub_self]; rfl
          have := hi _ _ x hi1 hz
          by_cases a1 : i < Z1.length
          · rw [if_pos a1] at this; omega
          · rw [if_neg a1] at this; omega
        · exact hL)
      rw [hlen]; show _ ≤ L.length + 1; omega
    · have := pigeon L Z hi (fun x hx => by
        rcases List.mem_cons.mp (h x hx) with rfl | hL
        · exact absurd hx ha
        · exact hL)
      show _ ≤ L.length + 1; omega
theorem fm_len {α β : Type} (f : α → Option β) : ∀ l : List α, (l.filterMap f).length ≤ l.length := fun l => List.length_filterMap_le f l
theorem tyR_nd {u : pm_J} {Y Z : List Ty} (h : tyR u (Y ++ Z)) : ∀ (i j : Nat) (x : Ty), Z[i]? = some x → Z[j]? = some x → i = j := fun i j x hi hj => by
  have := h.2.2.2.1 (Y.length + i) (Y.length + j) x (by rw [List.getElem?_append_right (by omega), show Y.length + i - Y.length = i by omega]; exact hi) (by rw [List.getElem?_append_right (by omega), show Y.length + j - Y.length = j by omega]; exact hj)
  omega
def fil (u : pm_J) (e i : Nat) : Int32 := if i < 2 then ie (i : Nat) else if i < 6 then u.1 90 (4 * e + (i - 2)) else if u.1 73 i = 0 then ie (i : Nat) else ie (-1)
theorem r_fil (g : pm_s) (kp e : Nat) (hk : kp < 100000) (he : e < 1800) (u0 : pm_J) (r : Nat) : ∀ (i : Nat) (u : pm_J), i + r = kp + 1 → (∀ a k, ¬ (a = 101) → u.1 a k = u0.1 a k) → u.2 = u0.2 → (∀ j, j < i → u.1 101 j = fil u0 e j) → ∃ v, (∀ N f, r + 1 ≤ f → K_Md_filled_13 N g f (ie (kp : Nat)) (ie (e : Nat)) (ie (i : Nat)) u = (F_Md_mark N (ie (kp : Nat)) g v).bind fun q4 => K_Md_filled_82 N g N (ie (kp : Nat)) 6 q4) ∧ (∀ a k, ¬ (a = 101) → v.1 a k = u0.1 a k) ∧ v.2 = u0.2 ∧ ∀ j, j ≤ kp → v.1 101 j = fil u0 e j := by
  induction r with
  | zero =>
    intro i u hi h1 h2 h3
    refine ⟨u, fun N f hf => ?_, h1, h2, fun j hj => h3 j (by omega)⟩
    obtain ⟨f, rfl⟩ : ∃ f', f = f' + 1 := ⟨f - 1, by omega⟩
    rw [K_Md_filled_13, if_pos ((inlt _ _ (by omega) (by omega)).mpr (by omega))]
  | succ r ih =>
    intro i u hi h1 h2 h3
    have step : ∀ x : Int32, x = fil u0 e i → ∃ v, (∀ N f, r + 1 ≤ f → K_Md_filled_13 N g f (ie (kp : Nat)) (ie (e : Nat)) (ie ((i + 1 : Nat) : Int)) (wi u 101 i x) = (F_Md_mark N (ie (kp : Nat)) g v).bind fun q4 => K_Md_filled_82 N g N (ie (kp : Nat)) 6 q4) ∧ (∀ a k, ¬ (a = 101) → v.1 a k = u0.1 a k) ∧ v.2 = u0.2 ∧ ∀ j, j ≤ kp → v.1 101 j = fil u0 e j := by
      intro x hx
      refine ih (i + 1) (wi u 101 i x) (by omega) (fun a k ha => (wi_ne _ _ _ _ _ _ (by omega)).trans (h1 a k ha)) h2 (fun j hj => ?_)
      by_cases ej : j = i
      · rw [ej, wi_at]; exact hx
      · rw [wi_ne _ _ _ _ _ _ (by omega)]; exact h3 j (by omega)
    have ok := okn i 100000 (by omega) (by omega)
    have nt := ntn i (by omega)
    have n1 : ¬ (ie (kp : Nat) < ie (i : Nat)) := fun hh => by have := (inlt _ _ (by omega) (by omega)).mp hh; omega
    by_cases h2i : i < 2
    · obtain ⟨v, v1, v2⟩ := step (ie (i : Nat)) (by unfold fil; rw [if_pos h2i])
      refine ⟨v, fun N f hf => ?_, v2⟩
      obtain ⟨f, rfl⟩ : ∃ f', f = f' + 1 := ⟨f - 1, by omega⟩
      rw [K_Md_filled_13, if_neg n1, if_neg (show ¬ ((2 : Int32) ≤ ie (i : Nat)) from fun hh => by have := (inle 2 i (by omega) (by omega)).mp hh; omega), if_pos ok, nt, iadd1]
      exact v1 N f (by omega)
    · have c2 : (2 : Int32) ≤ ie (i : Nat) := (inle 2 i (by omega) (by omega)).mpr (by omega)
      by_cases h6i : i < 6
      · obtain ⟨v, v1, v2⟩ := step (u.1 90 (4 * e + (i - 2))) (by unfold fil; rw [if_neg h2i, if_pos h6i]; exact h1 _ _ (by omega))
        refine ⟨v, fun N f hf => ?_, v2⟩
        obtain ⟨f, rfl⟩ : ∃ f', f = f' + 1 := ⟨f - 1, by omega⟩
        have h4 : ((4 * ie (e : Nat)) + ie (i : Nat)) - 2 = ie ((4 * e + (i - 2) : Nat) : Int) := by
          rw [show (4 : Int32) = ie 4 from rfl, show (2 : Int32) = ie 2 from rfl, ie_mul, ie_add, ie_sub]; congr 1; omega
        rw [K_Md_filled_13, if_neg n1, if_pos c2, if_neg (show ¬ ((6 : Int32) ≤ ie (i : Nat)) from fun hh => by have := (inle 6 i (by omega) (by omega)).mp hh; omega), h4, if_pos (okn _ 9600 (by omega) (by omega)), if_pos ok, nt, ntn _ (by omega), iadd1]
        exact v1 N f (by omega)
      · have c6 : (6 : Int32) ≤ ie (i : Nat) := (inle 6 i (by omega) (by omega)).mpr (by omega)
        have h73 : u.1 73 i = u0.1 73 i := h1 _ _ (by omega)
        by_cases h0 : u0.1 73 i = 0
        · obtain ⟨v, v1, v2⟩ := step (ie (i : Nat)) (by unfold fil; rw [if_neg h2i, if_neg h6i, if_pos h0])
          refine ⟨v, fun N f hf => ?_, v2⟩
          obtain ⟨f, rfl⟩ : ∃ f', f = f' + 1 := ⟨f - 1, by omega⟩
          rw [K_Md_filled_13, if_neg n1, if_pos c2, if_pos c6, if_pos ok, nt, h73, if_pos h0, if_pos ok, iadd1]
          exact v1 N f (by omega)
        · obtain ⟨v, v1, v2⟩ := step (ie (-1)) (by unfold fil; rw [if_neg h2i, if_neg h6i, if_neg h0])
          refine ⟨v, fun N f hf => ?_, v2⟩
          obtain ⟨f, rfl⟩ : ∃ f', f = f' + 1 := ⟨f - 1, by omega⟩
          rw [K_Md_filled_13, if_neg n1, if_pos c2, if_pos c6, if_pos ok, nt, h73, if_neg h0, if_pos ok, iadd1]
          exact v1 N f (by omega)
theorem r_mk1 {u : pm_J} (g : pm_s) (kp : Nat) (hkp : kp < 100000) : ∀ (r i : Nat) (w : pm_J), i + r = kp + 1 → (∀ a k, a ≠ 102 → w.1 a k = u.1 a k) → w.2 = u.2 → (∀ j, j < i → w.1 102 j = ib (Nat.beq j kp)) → ∃ v, (∀ N f, r + 1 ≤ f → K_Md_mark_2 N g f (ie (kp : Nat)) (ie (i : Nat)) w = K_Md_mark_31 N g N (ie (kp : Nat)) v) ∧ (∀ a k, a ≠ 102 → v.1 a k = u.1 a k) ∧ v.2 = u.2 ∧ ∀ j, j ≤ kp → v.1 102 j = ib (Nat.beq j kp) := by
  intro r
  induction r with
  | zero =>
    intro i w hi h1 h2 h3
    refine ⟨w, fun N f hf => ?_, h1, h2, fun j hj => h3 j (by omega)⟩
    obtain ⟨f, rfl⟩ : ∃ f', f = f' + 1 := ⟨f - 1, by omega⟩
    rw [K_Md_mark_2, if_pos ((inlt _ _ (by omega) (by omega)).mpr (by omega))]
  | succ r ih =>
    intro i w hi h1 h2 h3
    obtain ⟨v, v1, v2⟩ := ih (i + 1) (wi w 102 i (ib (Nat.beq i kp))) (by omega) (fun a k ha => (wi_ne _ _ _ _ _ _ (by omega)).trans (h1 a k ha)) h2 (fun j hj => by
      by_cases ej : j = i
      · rw [ej, wi_at]
      · rw [wi_ne _ _ _ _ _ _ (by omega)]; exact h3 j (by omega))
    refine ⟨v, fun N f hf => ?_, v2⟩
    obtain ⟨f, rfl⟩ : ∃ f', f = f' + 1 := ⟨f - 1, by omega⟩
    rw [K_Md_mark_2, if_neg (fun hh => by have := (inlt _ _ (by omega) (by omega)).mp hh; omega)]
    by_cases ei : i = kp
    · have hb : Nat.beq i kp = true := Nat.beq_eq.mpr ei
      rw [hb] at v1
      rw [if_pos (by rw [ei]), if_pos (okn i 100000 (by omega) (by omega)), ntn i (by omega), iadd1]
      exact v1 N f (by omega)
    · rw [nbf ei] at v1
      rw [if_neg (fun hh => ei ((ineq _ _ (by omega) (by omega)).mp hh)), if_pos (okn i 100000 (by omega) (by omega)), ntn i (by omega), iadd1]
      exact v1 N f (by omega)
theorem r_mark {Y : List Ty} {u : pm_J} (g : pm_s) (hR : tyR u Y) (kp : Nat) (p : Ty) (hp : Y[kp]? = some p) (hc : 6 ≤ kp) : ∃ (v : pm_J) (M : Nat → Bool), (∀ N, 200000 ≤ N → F_Md_mark N (ie (kp : Nat)) g u = some v) ∧ (∀ a k, a ≠ 102 → v.1 a k = u.1 a k) ∧ v.2 = u.2 ∧ (∀ i, i ≤ kp → v.1 102 i = ib (M i)) ∧ M kp = true ∧ (∀ i, 6 ≤ i → i ≤ kp → M i = true → (∃ q ∈ subL p, Y[i]? = some q) ∧ ∀ f A B l r, Y[i]? = some (tyP f A B) → Y[l]? = some A → Y[r]? = some B → M l = true ∧ M r = true) := by
  have hkl := (List.getElem?_eq_some_iff.mp hp).1
  have hYb := hR.2.1
  obtain ⟨u1, q1, q2, q3, q4⟩ := r_mk1 g kp (by omega) (kp + 1) 0 u (by omega) (fun _ _ _ => rfl) rfl (fun j hj => by omega)
  have lp2 : ∀ (m : Nat) (w : pm_J) (M : Nat → Bool), m ≤ kp → (∀ a k, a ≠ 102 → w.1 a k = u.1 a k) → w.2 = u.2 → (∀ i, i ≤ kp → w.1 102 i = ib (M i)) → M kp = true → (∀ i, 6 ≤ i → i ≤ kp → M i = true → (∃ q ∈ subL p, Y[i]? = some q)) → (∀ i, 6 ≤ i → m < i → i ≤ kp → M i = true → ∀ f A B l r, Y[i]? = some (tyP f A B) → Y[l]? = some A → Y[r]? = some B → M l = true ∧ M r = true) → ∃ (v : pm_J) (M : Nat → Bool), (∀ N f, m + 1 ≤ f → K_Md_mark_31 N g f (ie (m : Nat)) w = some v) ∧ (∀ a k, a ≠ 102 → v.1 a k = u.1 a k) ∧ v.2 = u.2 ∧ (∀ i, i ≤ kp → v.1 102 i = ib (M i)) ∧ M kp = true ∧ (∀ i, 6 ≤ i → i ≤ kp → M i = true → (∃ q ∈ subL p, Y[i]? = some q) ∧ ∀ f A B l r, Y[i]? = some (tyP f A B) → Y[l]? = some A → Y[r]? = some B → M l = true ∧ M r = true) := by
    intro m
    induction m with
    | zero =>
      intro w M hm h1 h2 h3 h4 h5 h6
      refine ⟨w, M, fun N f hf => ?_, h1, h2, h3, h4, fun i i1 i2 i3 => ⟨h5 i i1 i2 i3, h6 i i1 (by omega) i2 i3⟩⟩
      obtain ⟨f, rfl⟩ : ∃ f', f = f' + 1 := ⟨f - 1, by omega⟩
      rw [K_Md_mark_31, if_pos (show ie ((0 : Nat) : Int) < 6 by decide)]
    | succ m ih =>
      intro w M hm h1 h2 h3 h4 h5 h6
      by_cases hm6 : m + 1 < 6
      · refine ⟨w, M, fun N f hf => ?_, h1, h2, h3, h4, fun i i1 i2 i3 => ⟨h5 i i1 i2 i3, h6 i i1 (by omega) i2 i3⟩⟩
        obtain ⟨f, rfl⟩ : ∃ f', f = f' + 1 := ⟨f - 1, by omega⟩
        rw [K_Md_mark_31, if_pos (show ie ((m + 1 : Nat) : Int) < 6 from (inlt (m + 1) 6 (by omega) (by omega)).mpr hm6)]
      · have n6 : ¬ (ie ((m + 1 : Nat) : Int) < 6) := fun hh => by have := (inlt (m + 1) 6 (by omega) (by omega)).mp hh; omega
        have ok := okn (m + 1) 100000 (by omega) (by omega)
        have nt := ntn (m + 1) (by omega)
        have hsub : ie ((m + 1 : Nat) : Int) + (-1) = ie (m : Nat) := by rw [show (-1 : Int32) = ie (-1) from rfl, ie_add]; congr 1; omega
        have w102 := h3 (m + 1) (by omega)
        cases hMm : M (m + 1) with
        | false =>
          rw [hMm] at w102
          obtain ⟨v, M', v1, v2⟩ := ih w M (by omega) h1 h2 h3 h4 h5 (fun i i1 i2 i3 i4 => by
            by_cases ei : i = m + 1
            · rw [ei, hMm] at i4; cases i4
            · exact h6 i i1 (by omega) i3 i4)
          refine ⟨v, M', fun N f hf => ?_, v2⟩
          obtain ⟨f, rfl⟩ : ∃ f', f = f' + 1 := ⟨f - 1, by omega⟩
          rw [K_Md_mark_31, if_neg n6, if_pos ok, nt, w102, if_pos (show ib false = 0 from rfl), hsub]
          exact v1 N f (by omega)
        | true =>
          rw [hMm] at w102
          obtain ⟨q, q1, q2⟩ := h5 (m + 1) (by omega) (by omega) hMm
          obtain ⟨f0, A, B, rfl⟩ := (ty_6 hR (m + 1) q q2).mp (by omega)
          obtain ⟨l, r, l1, r1, l2, r2, l3, r3, _, _⟩ := r_parts hR f0 A B (m + 1) q2
          have wl : w.1 71 (m + 1) = ie (l : Nat) := (h1 _ _ (by omega)).trans l2
          have wr : w.1 72 (m + 1) = ie (r : Nat) := (h1 _ _ (by omega)).trans r2
          obtain ⟨s1, s2⟩ := subL_ch q1
          have hM2 : ∀ i, (wi (wi w 102 l 1) 102 r 1).1 102 i = if i = r ∨ i = l then 1 else w.1 102 i := by
            intro i
            by_cases er : i = r
            · rw [er, wi_at, if_pos (Or.inl rfl)]
            · rw [wi_ne _ _ _ _ _ _ (by omega)]
              by_cases el : i = l
              · rw [el, wi_at, if_pos (Or.inr rfl)]
              · rw [wi_ne _ _ _ _ _ _ (by omega), if_neg (by omega)]
          obtain ⟨v, M', v1, v2⟩ := ih (wi (wi w 102 l 1) 102 r 1) (fun i => if i = r ∨ i = l then true else M i) (by omega) (fun a k ha => by rw [wi_ne _ _ _ _ _ _ (by omega), wi_ne _ _ _ _ _ _ (by omega)]; exact h1 a k ha) h2 (fun i hi => by
              rw [hM2 i]
              by_cases hh : i = r ∨ i = l
              · rw [if_pos hh, if_pos hh]; rfl
              · rw [if_neg hh, if_neg hh]; exact h3 i hi) (by
              show (if kp = r ∨ kp = l then true else M kp) = true
              by_cases hh : kp = r ∨ kp = l
              · rw [if_pos hh]
              · rw [if_neg hh]; exact h4) (fun i i1 i2 i3 => by
              have i3' : (if i = r ∨ i = l then true else M i) = true := i3
              by_cases hh : i = r ∨ i = l
              · rcases hh with rfl | rfl
                · obtain ⟨f', C, E, hq⟩ := (ty_6 hR i B r1).mp i1
                  exact ⟨B, s2 f' C E hq, r1⟩
                · obtain ⟨f', C, E, hq⟩ := (ty_6 hR i A l1).mp i1
                  exact ⟨A, s1 f' C E hq, l1⟩
              · rw [if_neg hh] at i3'; exact h5 i i1 i2 i3') (fun i i1 i2 i3 i4 f' C E l' r' j1 j2 j3 => by
              have i4' : (if i = r ∨ i = l then true else M i) = true := i4
              rw [if_neg (by omega)] at i4'
              show (if l' = r ∨ l' = l then true else M l') = true ∧ (if r' = r ∨ r' = l then true else M r') = true
              by_cases ei : i = m + 1
              · subst ei
                rw [q2] at j1
                have hj := Option.some.inj j1
                have hff : f0 = f' := by
                  cases f0 <;> cases f' <;> first | rfl | (exact absurd hj (by intro hh; cases hh))
                subst hff
                obtain ⟨hA, hB⟩ := tyP_inj hj
                subst hA; subst hB
                have e1 : l' = l := hR.2.2.2.1 _ _ _ j2 l1
                have e2 : r' = r := hR.2.2.2.1 _ _ _ j3 r1
                rw [if_pos (Or.inr e1), if_pos (Or.inl e2)]; exact ⟨rfl, rfl⟩
              · obtain ⟨k1, k2⟩ := h6 i i1 (by omega) i3 i4' f' C E l' r' j1 j2 j3
                constructor
                · by_cases hh : l' = r ∨ l' = l
                  · rw [if_pos hh]
                  · rw [if_neg hh]; exact k1
                · by_cases hh : r' = r ∨ r' = l
                  · rw [if_pos hh]
                  · rw [if_neg hh]; exact k2)
          refine ⟨v, M', fun N f hf => ?_, v2⟩
          obtain ⟨f, rfl⟩ : ∃ f', f = f' + 1 := ⟨f - 1, by omega⟩
          have hll := (List.getElem?_eq_some_iff.mp l1).1
          have hrl := (List.getElem?_eq_some_iff.mp r1).1
          rw [K_Md_mark_31, if_neg n6, if_pos ok, nt, w102, if_neg (show ¬ (ib true = 0) by decide), if_pos ok, wl, wr, if_pos (okn l 100000 (by omega) (by omega)), if_pos ok, if_pos (okn r 100000 (by omega) (by omega)), ntn l (by omega), ntn r (by omega), hsub]
          exact v1 N f (by omega)
  obtain ⟨f0, A, B, hpq⟩ := (ty_6 hR kp p hp).mp hc
  obtain ⟨v, M, v1, v2⟩ := lp2 kp u1 (fun i => Nat.beq i kp) (Nat.le_refl _) q2 q3 (fun i hi => q4 i hi) (Nat.beq_eq.mpr rfl) (fun i i1 i2 i3 => by
    have := Nat.beq_eq.mp i3
    rw [this]
    refine ⟨p, ?_, hp⟩
    rw [hpq, subL_P]; exact List.mem_cons_self) (fun i i1 i2 i3 => by omega)
  refine ⟨v, M, fun N hN => ?_, v2⟩
  unfold F_Md_mark
  have := q1 N N (by omega)
  have this' : K_Md_mark_2 N g N (ie (kp : Nat)) 0 u = K_Md_mark_31 N g N (ie (kp : Nat)) u1 := this
  rw [this']; exact v1 N N (by omega)
