set_option maxRecDepth 100000
def qA (c i : Nat) : Prop := ¬ ((c = 45 ∧ (i = 5 ∨ i = 6 ∨ i = 9)) ∨ (46 ≤ c ∧ c ≤ 50) ∨ (52 ≤ c ∧ c ≤ 56))
def tsC (u : pm_J) (ts : List (Int32 × Int32 × Int64)) : Prop := u.1 52 6 = ie (ts.length : Nat) ∧ ts.length ≤ 1000 ∧ ∀ (i : Nat) (x : Int32 × Int32 × Int64), ts[i]? = some x → u.1 53 i = x.1 ∧ u.1 54 i = x.2.1 ∧ u.2 55 i = x.2.2
def rsC (u : pm_J) (rs : List Int64) : Prop := u.1 52 8 = ie (rs.length : Nat) ∧ rs.length ≤ 1000 ∧ ∀ (i : Nat) (x : Int64), rs[i]? = some x → u.2 56 i = x
def qTs (c i : Nat) : Prop := (c = 52 ∧ i = 6) ∨ (53 ≤ c ∧ c ≤ 55)
def qRs (c i : Nat) : Prop := (c = 52 ∧ i = 8) ∨ c = 56
theorem tsC_ag {u v : pm_J} {ts : List (Int32 × Int32 × Int64)} (h : tsC u ts) (ha : ag qTs u v) : tsC v ts := by
  have e : ∀ c i, (c = 52 ∧ i = 6) ∨ (53 ≤ c ∧ c ≤ 55) → v.1 c i = u.1 c i ∧ v.2 c i = u.2 c i := ha
  refine ⟨(e _ _ (by omega)).1.trans h.1, h.2.1, fun i x hi => ?_⟩
  obtain ⟨a, b, d⟩ := h.2.2 i x hi
  exact ⟨(e _ _ (by omega)).1.trans a, (e _ _ (by omega)).1.trans b, (e _ _ (by omega)).2.trans d⟩
theorem rsC_ag {u v : pm_J} {rs : List Int64} (h : rsC u rs) (ha : ag qRs u v) : rsC v rs := by
  have e : ∀ c i, (c = 52 ∧ i = 8) ∨ c = 56 → v.1 c i = u.1 c i ∧ v.2 c i = u.2 c i := ha
  exact ⟨(e _ _ (by omega)).1.trans h.1, h.2.1, fun i x hi => (e _ _ (by omega)).2.trans (h.2.2 i x hi)⟩
theorem ad_task {u : pm_J} {ts : List (Int32 × Int32 × Int64)} (g : pm_s) (h : tsC u ts) (hl : ts.length < 1000) (x : Int32 × Int32 × Int64) : ∃ v, F_Adapter_addTask x.1 x.2.1 x.2.2 g u = some v ∧ tsC v (ts ++ [x]) ∧ ∀ P : Nat → Nat → Prop, (∀ c i, P c i → ¬ qTs c i) → ag P u v := by
  have c1 : ¬ ((1000 : Int32) ≤ ie (ts.length : Nat)) := fun hh => by have := (inle 1000 ts.length (by omega) (by omega)).mp hh; omega
  have ok := okn ts.length 1000 (by omega) (by omega)
  have nt := ntn ts.length (by omega)
  have hlen : (ts ++ [x]).length = ts.length + 1 := by rw [List.length_append]; rfl
  refine ⟨wi (wj (wi (wi u 53 ts.length x.1) 54 ts.length x.2.1) 55 ts.length x.2.2) 52 6 (ie ((ts.length + 1 : Nat) : Int)), ?_, ⟨?_, by omega, fun i y hi => ?_⟩, fun P hP => ?_⟩
  · unfold F_Adapter_addTask
    rw [h.1, if_neg c1, if_pos ok, if_pos ok, if_pos ok, nt, iadd1]
  · rw [wi_at, hlen]
  · by_cases e : i < ts.length
    · rw [List.getElem?_append_left e] at hi
      obtain ⟨a, b, d⟩ := h.2.2 i y hi
      refine ⟨?_, ?_, ?_⟩
      · rw [wi_ne _ _ _ _ _ _ (by omega), wj_1, wi_ne _ _ _ _ _ _ (by omega), wi_ne _ _ _ _ _ _ (by omega)]; exact a
      · rw [wi_ne _ _ _ _ _ _ (by omega), wj_1, wi_ne _ _ _ _ _ _ (by omega), wi_ne _ _ _ _ _ _ (by omega)]; exact b
      · rw [wi_2, wj_ne _ _ _ _ _ _ (by omega), wi_2, wi_2]; exact d
    · rw [List.getElem?_append_right (by omega)] at hi
      have i0 : i - ts.length = 0 := by
        have := (List.getElem?_eq_some_iff.mp hi).1
        rw [List.length_singleton] at this; omega
      rw [i0] at hi
      have hx : x = y := by cases hi; rfl
      subst hx
      have ei : i = ts.length := by omega
      subst ei
      refine ⟨?_, ?_, ?_⟩
      · rw [wi_ne _ _ _ _ _ _ (by omega), wj_1, wi_ne _ _ _ _ _ _ (by omega), wi_at]
      · rw [wi_ne _ _ _ _ _ _ (by omega), wj_1, wi_at]
      · rw [wi_2, wj_at]
  · have q : ∀ a k, qTs a k → ¬ P a k := fun a k hq hp => hP a k hp hq
    exact ag_wi (ag_wj (ag_wi (ag_wi (ag_r P u) _ _ _ (q _ _ (by unfold qTs; omega))) _ _ _ (q _ _ (by unfold qTs; omega))) _ _ _ (q _ _ (by unfold qTs; omega))) _ _ _ (q _ _ (by unfold qTs; omega))
theorem ad_res {u : pm_J} {rs : List Int64} (g : pm_s) (h : rsC u rs) (hl : rs.length < 1000) (x : Int64) : ∃ v, F_Adapter_addResult x g u = some v ∧ rsC v (rs ++ [x]) ∧ ∀ P : Nat → Nat → Prop, (∀ c i, P c i → ¬ qRs c i) → ag P u v := by
  have c1 : ¬ ((1000 : Int32) ≤ ie (rs.length : Nat)) := fun hh => by have := (inle 1000 rs.length (by omega) (by omega)).mp hh; omega
  have ok := okn rs.length 1000 (by omega) (by omega)
  have nt := ntn rs.length (by omega)
  have hlen : (rs ++ [x]).length = rs.length + 1 := by rw [List.length_append]; rfl
  refine ⟨wi (wj u 56 rs.length x) 52 8 (ie ((rs.length + 1 : Nat) : Int)), ?_, ⟨?_, by omega, fun i y hi => ?_⟩, fun P hP => ?_⟩
  · unfold F_Adapter_addResult
    rw [h.1, if_neg c1, if_pos ok, nt, iadd1]
  · rw [wi_at, hlen]
  · by_cases e : i < rs.length
    · rw [List.getElem?_append_left e] at hi
      rw [wi_2, wj_ne _ _ _ _ _ _ (by omega)]; exact h.2.2 i y hi
    · rw [List.getElem?_append_right (by omega)] at hi
      have i0 : i - rs.length = 0 := by
        have := (List.getElem?_eq_some_iff.mp hi).1
        rw [List.length_singleton] at this; omega
      rw [i0] at hi
      have hx : x = y := by cases hi; rfl
      subst hx
      have ei : i = rs.length := by omega
      subst ei
      rw [wi_2, wj_at]
  · have q : ∀ a k, qRs a k → ¬ P a k := fun a k hq hp => hP a k hp hq
    exact ag_wi (ag_wj (ag_r P u) _ _ _ (q _ _ (by unfold qRs; omega))) _ _ _ (q _ _ (by unfold qRs; omega))
theorem ad_pop {u : pm_J} {rs : List Int64} {x : Int64} (g : pm_s) (h : rsC u (rs ++ [x])) : ∃ v, F_Adapter_popResult g u = some (x, v) ∧ rsC v rs ∧ ∀ P : Nat → Nat → Prop, (∀ c i, P c i → ¬ qRs c i) → ag P u v := by
  have hlen : (rs ++ [x]).length = rs.length + 1 := by rw [List.length_append]; rfl
  obtain ⟨h1, h2, h3⟩ := h
  rw [hlen] at h1 h2
  have c1 : (1 : Int32) ≤ ie ((rs.length + 1 : Nat) : Int) := (inle 1 (rs.length + 1) (by omega) (by omega)).mpr (by omega)
  have ok := okn rs.length 1000 (by omega) (by omega)
  have nt := ntn rs.length (by omega)
  refine ⟨wi u 52 8 (ie (rs.length : Nat)), ?_, ⟨wi_at _ _ _ _, by omega, fun i y hi => ?_⟩, fun P hP => ?_⟩
  · unfold F_Adapter_popResult
    rw [h1, if_pos c1, isub1, if_pos ok, nt, h3 rs.length x (by rw [List.getElem?_append_right (Nat.le_refl _), Nat.sub_self]; rfl)]
  · rw [wi_2]; exact h3 i y (by rw [List.getElem?_append_left (List.getElem?_eq_some_iff.mp hi).1]; exact hi)
  · exact ag_wi (ag_r P u) _ _ _ (fun hp => hP _ _ hp (by unfold qRs; omega))
abbrev AdX : Type := List (Int32 × Int32 × Int64) × List Int64
def adR (Y : List Ty) (u : pm_J) (hp : Hp) (q : AdX) : Prop := hC Y u hp ∧ u.1 45 9 = ie 0 ∧ tsC u q.1 ∧ rsC u q.2
def adG (N : Nat) (Y : List Ty) (g : pm_s) (bo : Bool) (u : pm_J) (turn m : Nat) (q : AdX) (z : Option (Option Va × Hp)) : Prop := match z with
  | none => True
  | some (some y, h') => ∃ v k, k ≤ m ∧ (∀ f, K_Adapter_adapt_21 N g (f + k) (ib bo) (ie (turn : Nat)) u = K_Adapter_adapt_21 N g f (ib bo) (ie ((turn + k : Nat) : Int)) v) ∧ adR Y v h' (q.1, q.2 ++ [y.2]) ∧ ag qA u v
  | some (none, h') => ∃ v k w, k ≤ m ∧ (∀ f, K_Adapter_adapt_21 N g (f + k + 1) (ib bo) (ie (turn : Nat)) u = some (w, v)) ∧ hC Y v h' ∧ v.1 45 9 = ie 1 ∧ ag qA u v
theorem ad_turn {Y : List Ty} {u : pm_J} {hp : Hp} {ts : List (Int32 × Int32 × Int64)} {rs : List Int64} {x : Int32 × Int32 × Int64} (N : Nat) (g : pm_s) (bo : Bool) (turn : Nat) (h : adR Y u hp (ts ++ [x], rs)) (ht : turn < 1000000) : ∃ v, (∀ f, K_Adapter_adapt_21 N g (f + 1) (ib bo) (ie (turn : Nat)) u = (F_Adapter_doTask N x.1 x.2.1 x.2.2 (ib bo) g v).bind fun q => K_Adapter_adapt_21 N g f (ib bo) (ie ((turn + 1 : Nat) : Int)) q) ∧ adR Y v hp (ts, rs) ∧ ag qA u v ∧ ag qS u v := by
  obtain ⟨h1, h2, ⟨h3, h4, h5⟩, h6⟩ := h
  have hlen : (ts ++ [x]).length = ts.length + 1 := by rw [List.length_append]; rfl
  have h3' : u.1 52 6 = ie ((ts.length + 1 : Nat) : Int) := by rw [h3]; show ie ((ts ++ [x]).length : Nat) = _; rw [hlen]
  have h4' : ts.length + 1 ≤ 1000 := by rw [← hlen]; exact h4
  obtain ⟨e1, e2, e3⟩ := h5 ts.length x (by show (ts ++ [x])[ts.length]? = _; rw [List.getElem?_append_right (Nat.le_refl _), Nat.sub_self]; rfl)
  have c1 : ¬ ((1000000 : Int32) ≤ ie (turn : Nat)) := fun hh => by have := (inle 1000000 turn (by omega) (by omega)).mp hh; omega
  have c2 : ¬ (ie ((ts.length + 1 : Nat) : Int) ≤ (0 : Int32)) := fun hh => by have := (inle (ts.length + 1) 0 (by omega) (by omega)).mp hh; omega
  have ok := okn ts.length 1000 (by omega) (by omega)
  have nt := ntn ts.length (by omega)
  have hov : F_Heap_isOver g u = some (ie 0) := by unfold F_Heap_isOver; rw [h2]; rfl
  have ag1 : ∀ P : Nat → Nat → Prop, ¬ P 52 6 → ag P u (wi u 52 6 (ie (ts.length : Nat))) := fun P hP => ag_wi (ag_r P u) _ _ _ hP
  refine ⟨wi u 52 6 (ie (ts.length : Nat)), fun f => ?_, ⟨hC_ag h1 (ag1 _ (by unfold qH; omega)), by rw [wi_ne _ _ _ _ _ _ (by omega)]; exact h2, ⟨wi_at _ _ _ _, by show ts.length ≤ 1000; omega, fun i y hi => ?_⟩, rsC_ag h6 (ag1 _ (by unfold qRs; omega))⟩, ag1 _ (by unfold qA; omega), ag1 _ (by unfold qS; omega)⟩
  · rw [K_Adapter_adapt_21, if_neg c1, h3', if_neg c2, hov, Option.bind_some, if_pos (show ie 0 = (0 : Int32) from rfl), isub1, if_pos ok, if_pos ok, if_pos ok, nt, e1, e2, e3, iadd1]
  · obtain ⟨a, b, d⟩ := h5 i y (by show (ts ++ [x])[i]? = _; rw [List.getElem?_append_left (List.getElem?_eq_some_iff.mp hi).1]; exact hi)
    exact ⟨(wi_ne _ _ _ _ _ _ (by omega)).trans a, (wi_ne _ _ _ _ _ _ (by omega)).trans b, d⟩
theorem ad_one' {Y : List Ty} {u w : pm_J} {h' : Hp} {ts : List (Int32 × Int32 × Int64)} {rs : List Int64} (N : Nat) (g : pm_s) (bo : Bool) (turn m : Nat) (hm : 1 ≤ m) (hK : ∀ f, K_Adapter_adapt_21 N g (f + 1) (ib bo) (ie (turn : Nat)) u = K_Adapter_adapt_21 N g f (ib bo) (ie ((turn + 1 : Nat) : Int)) w) (y : Va) (hr : adR Y w h' (ts, rs ++ [y.2])) (ha : ag qA u w) : adG N Y g bo u turn m (ts, rs) (some (some y, h')) :=
  ⟨w, 1, hm, hK, hr, ha⟩
theorem ad_none' {Y : List Ty} {u w : pm_J} {h' : Hp} {q : AdX} (N : Nat) (g : pm_s) (bo : Bool) (turn m : Nat) {ts : List (Int32 × Int32 × Int64)} {rs : List Int64} (hm : 1 ≤ m) (ht : turn < 900000)
    (hK : ∀ f, K_Adapter_adapt_21 N g (f + 1) (ib bo) (ie (turn : Nat)) u = K_Adapter_adapt_21 N g f (ib bo) (ie ((turn + 1 : Nat) : Int)) w) (y : Int64) (hh : hC Y w h') (ho : w.1 45 9 = ie 1) (hts : tsC w ts) (hr : rsC w (rs ++ [y])) (ha : ag qA u w) : adG N Y g bo u turn m q (some (none, h')) := by
  obtain ⟨z, z1, z2, z3⟩ := ad_pop g hr
  have hov : F_Heap_isOver g w = some (ie 1) := by unfold F_Heap_isOver; rw [ho]; rfl
  have c1 : ¬ ((1000000 : Int32) ≤ ie ((turn + 1 : Nat) : Int)) := fun hh => by have := (inle 1000000 (turn + 1) (by omega) (by omega)).mp hh; omega
  refine ⟨z, 1, y, hm, fun f => ?_, hC_ag hh (z3 _ (fun c i h1 h2 => by unfold qH at h1; unfold qRs at h2; omega)), by rw [(z3 (fun c i => c = 45 ∧ i = 9) (fun c i h1 h2 => by unfold qRs at h2; omega) 45 9 ⟨rfl, rfl⟩).1]; exact ho, ag_t ha (z3 _ (fun c i h1 h2 => by unfold qA at h1; unfold qRs at h2; omega))⟩
  rw [show f + 1 + 1 = (f + 1) + 1 from rfl, hK (f + 1), K_Adapter_adapt_21, if_neg c1]
  by_cases c2 : w.1 52 6 ≤ 0
  · rw [if_pos c2, z1]; rfl
  · rw [if_neg c2, hov, Option.bind_some, if_neg (by decide), z1]; rfl
