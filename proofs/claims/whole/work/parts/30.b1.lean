set_option maxRecDepth 100000
def wZ (c i : Nat) : Prop := ¬ ((c = 64 ∧ 72 ≤ i ∧ i ≠ 107) ∨ (113 ≤ c ∧ c ≤ 138 ∧ c ≠ 131))
def wB (c i : Nat) : Prop := ¬ ((c = 64 ∧ (i = 81 ∨ i = 99 ∨ i = 100 ∨ i = 101 ∨ i = 102 ∨ i = 103)) ∨ (115 ≤ c ∧ c ≤ 122) ∨ (c = 64 ∧ (i = 96 ∨ i = 108 ∨ i = 109 ∨ i = 115 ∨ i = 118)) ∨ (132 ≤ c ∧ c ≤ 138))
theorem wB_Z {u v : pm_J} (h : ag wB u v) : ag wZ u v := ag_m h (fun c i hc => by unfold wZ at hc; unfold wB; omega)
theorem rC_ag {T : List Tok} {n : Nat} {D : List Df} {t : Tr} {c : CS} {w : Nat → Option Ty} {u v : pm_J} {Y : List Ty} (H : rC T n D t c w u Y) (h : ag wZ u v) : rC T n D t c w v Y := rC_cg H (fun a i hk => h a i (by unfold rKp at hk; unfold wZ; omega))
abbrev RTk : Type := Int32 × Int32 × Int32 × Int32 × Int64
def tsR (u : pm_J) (ts : List RTk) : Prop := u.1 64 115 = ie (ts.length : Nat) ∧ ts.length ≤ 8000 ∧ ∀ (i : Nat) (x : RTk), ts[i]? = some x → u.1 132 i = x.1 ∧ u.1 133 i = x.2.1 ∧ u.1 134 i = x.2.2.1 ∧ u.1 135 i = x.2.2.2.1 ∧ u.2 136 i = x.2.2.2.2
def rsR (u : pm_J) (rs : List Va) : Prop := u.1 64 118 = ie (rs.length : Nat) ∧ rs.length ≤ 8000 ∧ ∀ (i : Nat) (x : Va), rs[i]? = some x → u.1 137 i = ie (x.1 : Nat) ∧ u.2 138 i = x.2
def wT' (c i : Nat) : Prop := (c = 64 ∧ i = 115) ∨ (132 ≤ c ∧ c ≤ 136)
def wR' (c i : Nat) : Prop := (c = 64 ∧ i = 118) ∨ c = 137 ∨ c = 138
theorem tsR_ag {u v : pm_J} {ts : List RTk} (h : tsR u ts) (ha : ag wT' u v) : tsR v ts := by
  have e : ∀ c i, (c = 64 ∧ i = 115) ∨ (132 ≤ c ∧ c ≤ 136) → v.1 c i = u.1 c i ∧ v.2 c i = u.2 c i := ha
  refine ⟨(e _ _ (by omega)).1.trans h.1, h.2.1, fun i x hi => ?_⟩
  obtain ⟨a, b, d, f, k⟩ := h.2.2 i x hi
  exact ⟨(e _ _ (by omega)).1.trans a, (e _ _ (by omega)).1.trans b, (e _ _ (by omega)).1.trans d, (e _ _ (by omega)).1.trans f, (e _ _ (by omega)).2.trans k⟩
theorem rsR_ag {u v : pm_J} {rs : List Va} (h : rsR u rs) (ha : ag wR' u v) : rsR v rs := by
  have e : ∀ c i, (c = 64 ∧ i = 118) ∨ c = 137 ∨ c = 138 → v.1 c i = u.1 c i ∧ v.2 c i = u.2 c i := ha
  exact ⟨(e _ _ (by omega)).1.trans h.1, h.2.1, fun i x hi => ⟨(e _ _ (by omega)).1.trans (h.2.2 i x hi).1, (e _ _ (by omega)).2.trans (h.2.2 i x hi).2⟩⟩
theorem r_ask {u : pm_J} {ts : List RTk} (g : pm_s) (h : tsR u ts) (hl : ts.length < 8000) (x : RTk) : ∃ v, F_Md_ask x.1 x.2.1 x.2.2.1 x.2.2.2.1 x.2.2.2.2 g u = some v ∧ tsR v (ts ++ [x]) ∧ ∀ P : Nat → Nat → Prop, (∀ c i, P c i → ¬ wT' c i) → ag P u v := by
  have ok := okn ts.length 9000 (by omega) (by omega)
  have nt := ntn ts.length (by omega)
  have hlen : (ts ++ [x]).length = ts.length + 1 := by rw [List.length_append]; rfl
  refine ⟨wi (wj (wi (wi (wi (wi u 132 ts.length x.1) 133 ts.length x.2.1) 134 ts.length x.2.2.1) 135 ts.length x.2.2.2.1) 136 ts.length x.2.2.2.2) 64 115 (ie ((ts.length + 1 : Nat) : Int)), ?_, ⟨?_, by omega, fun i y hi => ?_⟩, fun P hP => ?_⟩
  · unfold F_Md_ask
    rw [h.1, if_pos ok, if_pos ok, if_pos ok, if_pos ok, if_pos ok, nt, iadd1]
  · rw [wi_at, hlen]
  · by_cases e : i < ts.length
    · rw [List.getElem?_append_left e] at hi
      obtain ⟨a, b, d, f, k⟩ := h.2.2 i y hi
      have z : ∀ c, (wi (wj (wi (wi (wi (wi u 132 ts.length x.1) 133 ts.length x.2.1) 134 ts.length x.2.2.1) 135 ts.length x.2.2.2.1) 136 ts.length x.2.2.2.2) 64 115 (ie ((ts.length + 1 : Nat) : Int))).1 c i = if c = 64 ∧ i = 115 then ie ((ts.length + 1 : Nat) : Int) else u.1 c i := fun c => by
        rw [wi_1]
        by_cases e1 : c = 64 ∧ i = 115
        · rw [if_pos e1, if_pos e1]
        · rw [if_neg e1, if_neg e1, wj_1, wi_ne _ _ _ _ _ _ (by omega), wi_ne _ _ _ _ _ _ (by omega), wi_ne _ _ _ _ _ _ (by omega), wi_ne _ _ _ _ _ _ (by omega)]
      refine ⟨?_, ?_, ?_, ?_, ?_⟩
      · rw [z, if_neg (by omega)]; exact a
      · rw [z, if_neg (by omega)]; exact b
      · rw [z, if_neg (by omega)]; exact d
      · rw [z, if_neg (by omega)]; exact f
      · rw [wi_2, wj_ne _ _ _ _ _ _ (by omega), wi_2, wi_2, wi_2, wi_2]; exact k
    · rw [List.getElem?_append_right (by omega)] at hi
      have i0 : i - ts.length = 0 := by
        have := (List.getElem?_eq_some_iff.mp hi).1
        rw [List.length_singleton] at this; omega
      rw [i0] at hi
      have hx : x = y := by cases hi; rfl
      subst hx
      have ei : i = ts.length := by omega
      subst ei
      refine ⟨?_, ?_, ?_, ?_, ?_⟩
      · rw [wi_ne _ _ _ _ _ _ (by omega), wj_1, wi_ne _ _ _ _ _ _ (by omega), wi_ne _ _ _ _ _ _ (by omega), wi_ne _ _ _ _ _ _ (by omega), wi_at]
      · rw [wi_ne _ _ _ _ _ _ (by omega), wj_1, wi_ne _ _ _ _ _ _ (by omega), wi_ne _ _ _ _ _ _ (by omega), wi_at]
      · rw [wi_ne _ _ _ _ _ _ (by omega), wj_1, wi_ne _ _ _ _ _ _ (by omega), wi_at]
      · rw [wi_ne _ _ _ _ _ _ (by omega), wj_1, wi_at]
      · rw [wi_2, wj_at]
  · have q : ∀ a k, wT' a k → ¬ P a k := fun a k hq hp => hP a k hp hq
    exact ag_wi (ag_wj (ag_wi (ag_wi (ag_wi (ag_wi (ag_r P u) _ _ _ (q _ _ (by unfold wT'; omega))) _ _ _ (q _ _ (by unfold wT'; omega))) _ _ _ (q _ _ (by unfold wT'; omega))) _ _ _ (q _ _ (by unfold wT'; omega))) _ _ _ (q _ _ (by unfold wT'; omega))) _ _ _ (q _ _ (by unfold wT'; omega))
theorem r_answer {u : pm_J} {rs : List Va} (g : pm_s) (h : rsR u rs) (hl : rs.length < 8000) (x : Va) : ∃ v, F_Md_answer (ie (x.1 : Nat)) x.2 g u = some v ∧ rsR v (rs ++ [x]) ∧ ∀ P : Nat → Nat → Prop, (∀ c i, P c i → ¬ wR' c i) → ag P u v := by
  have ok := okn rs.length 9000 (by omega) (by omega)
  have nt := ntn rs.length (by omega)
  have hlen : (rs ++ [x]).length = rs.length + 1 := by rw [List.length_append]; rfl
  refine ⟨wi (wj (wi u 137 rs.length (ie (x.1 : Nat))) 138 rs.length x.2) 64 118 (ie ((rs.length + 1 : Nat) : Int)), ?_, ⟨?_, by omega, fun i y hi => ?_⟩, fun P hP => ?_⟩
  · unfold F_Md_answer
    rw [h.1, if_pos ok, if_pos ok, nt, iadd1]
  · rw [wi_at, hlen]
  · by_cases e : i < rs.length
    · rw [List.getElem?_append_left e] at hi
      exact ⟨by rw [wi_ne _ _ _ _ _ _ (by omega), wj_1, wi_ne _ _ _ _ _ _ (by omega)]; exact (h.2.2 i y hi).1, by rw [wi_2, wj_ne _ _ _ _ _ _ (by omega), wi_2]; exact (h.2.2 i y hi).2⟩
    · rw [List.getElem?_append_right (by omega)] at hi
      have i0 : i - rs.length = 0 := by
        have := (List.getElem?_eq_some_iff.mp hi).1
        rw [List.length_singleton] at this; omega
      rw [i0] at hi
      have hx : x = y := by cases hi; rfl
      subst hx
      have ei : i = rs.length := by omega
      subst ei
      exact ⟨by rw [wi_ne _ _ _ _ _ _ (by omega), wj_1, wi_at], by rw [wi_2, wj_at]⟩
  · have q : ∀ a k, wR' a k → ¬ P a k := fun a k hq hp => hP a k hp hq
    exact ag_wi (ag_wj (ag_wi (ag_r P u) _ _ _ (q _ _ (by unfold wR'; omega))) _ _ _ (q _ _ (by unfold wR'; omega))) _ _ _ (q _ _ (by unfold wR'; omega))
abbrev RdX : Type := List RTk × List Va
def rdR (Y : List Ty) (u : pm_J) (hp : Hp) (q : RdX) : Prop := hR Y u hp ∧ u.1 64 96 = ie 0 ∧ tsR u q.1 ∧ rsR u q.2
def rdG (N : Nat) (Y : List Ty) (g : pm_s) (u : pm_J) (m : Nat) (q : RdX) (z : Option (Option Va × Hp)) : Prop := match z with
  | none => True
  | some (some y, h') => ∃ v k, k ≤ m ∧ (∀ f, K_Md_convert_25 N g (f + k) u = K_Md_convert_25 N g f v) ∧ rdR Y v h' (q.1, q.2 ++ [y]) ∧ ag wB u v
  | some (none, h') => ∃ v k, k ≤ m ∧ (∀ f, K_Md_convert_25 N g (f + k + 1) u = some v) ∧ hR Y v h' ∧ v.1 64 96 = ie 4 ∧ ag wB u v
theorem rdG_pre {N : Nat} {Y : List Ty} {g : pm_s} {u v : pm_J} {k m m' : Nat} {q : RdX} {z : Option (Option Va × Hp)} (hK : ∀ f, K_Md_convert_25 N g (f + k) u = K_Md_convert_25 N g f v) (ha : ag wB u v) (h : rdG N Y g v m q z) (hm : k + m ≤ m') : rdG N Y g u m' q z := by
  cases z with
  | none => exact trivial
  | some z =>
    obtain ⟨x, h'⟩ := z
    cases x with
    | some y =>
      obtain ⟨w, k', k1, k2, k3, k4⟩ := h
      refine ⟨w, k' + k, by omega, fun f => ?_, k3, ag_t ha k4⟩
      rw [← Nat.add_assoc, hK, k2]
    | none =>
      obtain ⟨w, k', k1, k2, k3, k4, k5⟩ := h
      refine ⟨w, k' + k, by omega, fun f => ?_, k3, k4, ag_t ha k5⟩
      rw [show f + (k' + k) + 1 = (f + k' + 1) + k by omega, hK, k2]
theorem rdG_b {N : Nat} {Y : List Ty} {g : pm_s} {u : pm_J} {m m1 m2 : Nat} {q q' : RdX} {z : Option (Option Va × Hp)} {f : Va → Hp → Option (Option Va × Hp)} (h : rdG N Y g u m1 q z) (hf : ∀ (y : Va) (h' : Hp) (v : pm_J), ag wB u v → rdR Y v h' (q.1, q.2 ++ [y]) → rdG N Y g v m2 q' (f y h')) (hm : m1 + m2 ≤ m) : rdG N Y g u m q' (oB z f) := by
  cases z with
  | none => exact trivial
  | some z =>
    obtain ⟨x, h'⟩ := z
    cases x with
    | some y =>
      obtain ⟨w, k, k1, k2, k3, k4⟩ := h
      exact rdG_pre k2 k4 (hf y h' w k4 k3) (by omega)
    | none =>
      obtain ⟨w, k', k1, k2, k3, k4, k5⟩ := h
      exact ⟨w, k', by omega, k2, k3, k4, k5⟩
theorem nB (c i : Nat) : wB c i → ¬ wT' c i ∧ ¬ wR' c i ∧ ¬ wH c i := fun h => by unfold wB at h; unfold wT' wR' wH; omega
theorem r_turn {Y : List Ty} {u : pm_J} {hp : Hp} {ts : List RTk} {rs : List Va} {x : RTk} (N : Nat) (g : pm_s) (h : rdR Y u hp (ts ++ [x], rs)) (hx : x.1 ≠ 9) : ∃ v, (∀ f, K_Md_convert_25 N g (f + 1) u = (F_Md_convertOne N x.1 x.2.1 x.2.2.1 x.2.2.2.1 x.2.2.2.2 g v).bind fun q => K_Md_convert_25 N g f q) ∧ rdR Y v hp (ts, rs) ∧ ag wB u v := by
  obtain ⟨h1, h2, ⟨h3, h4, h5⟩, h6⟩ := h
  have hlen : (ts ++ [x]).length = ts.length + 1 := by rw [List.length_append]; rfl
  have h3' : u.1 64 115 = ie ((ts.length + 1 : Nat) : Int) := by rw [h3]; show ie ((ts ++ [x]).length : Nat) = _; rw [hlen]
  have h4' : ts.length + 1 ≤ 8000 := by rw [← hlen]; exact h4
  obtain ⟨e1, e2, e3, e4, e5⟩ := h5 ts.length x (by show (ts ++ [x])[ts.length]? = _; rw [List.getElem?_append_right (Nat.le_refl _), Nat.sub_self]; rfl)
  have c2 : ¬ (ie ((ts.length + 1 : Nat) : Int) ≤ (0 : Int32)) := fun hh => by have := (inle (ts.length + 1) 0 (by omega) (by omega)).mp hh; omega
  have ok := okn ts.length 9000 (by omega) (by omega)
  have nt := ntn ts.length (by omega)
  have ag1 : ∀ P : Nat → Nat → Prop, ¬ P 64 115 → ag P u (wi u 64 115 (ie (ts.length : Nat))) := fun P hP => ag_wi (ag_r P u) _ _ _ hP
  refine ⟨wi u 64 115 (ie (ts.length : Nat)), fun f => ?_, ⟨hR_ag h1 (ag1 _ (by unfold wH; omega)), by rw [wi_ne _ _ _ _ _ _ (by omega)]; exact h2, ⟨wi_at _ _ _ _, by show ts.length ≤ 8000; omega, fun i y hi => ?_⟩, rsR_ag h6 (ag1 _ (by unfold wR'; omega))⟩, ag1 _ (by unfold wB; omega)⟩
  · rw [K_Md_convert_25, h3', if_neg c2, h2, if_pos (show ie 0 = (0 : Int32) from rfl), isub1, if_pos ok, nt, e1, if_neg hx, if_pos ok, if_pos ok, if_pos ok, if_pos ok, if_pos ok, e2, e3, e4, e5]
  · obtain ⟨a, b, d, f, k⟩ := h5 i y (by show (ts ++ [x])[i]? = _; rw [List.getElem?_append_left (List.getElem?_eq_some_iff.mp hi).1]; exact hi)
    exact ⟨(wi_ne _ _ _ _ _ _ (by omega)).trans a, (wi_ne _ _ _ _ _ _ (by omega)).trans b, (wi_ne _ _ _ _ _ _ (by omega)).trans d, (wi_ne _ _ _ _ _ _ (by omega)).trans f, k⟩
theorem r_turnJ {Y : List Ty} {u : pm_J} {hp : Hp} {ts : List RTk} {rs : List Va} {a b : Va} (N : Nat) (g : pm_s) (h : rdR Y u hp (ts ++ [(9, 0, 0, 0, 0)], rs ++ [a] ++ [b])) : ∃ v, (∀ f, K_Md_convert_25 N g (f + 1) u = (F_Md_makePair (ie (a.1 : Nat)) a.2 (ie (b.1 : Nat)) b.2 g v).bind fun q19 => (F_Md_answer (q19.1 64 108) (q19.2 64 109) g q19).bind fun q => K_Md_convert_25 N g f q) ∧ rdR Y v hp (ts, rs) ∧ ag wB u v := by
  obtain ⟨h1, h2, ⟨h3, h4, h5⟩, ⟨h6, h7, h8⟩⟩ := h
  have hlen : (ts ++ [((9 : Int32), (0 : Int32), (0 : Int32), (0 : Int32), (0 : Int64))]).length = ts.length + 1 := by rw [List.length_append]; rfl
  have h3' : u.1 64 115 = ie ((ts.length + 1 : Nat) : Int) := by rw [h3]; show ie ((ts ++ [((9 : Int32), (0 : Int32), (0 : Int32), (0 : Int32), (0 : Int64))]).length : Nat) = _; rw [hlen]
  have h4' : ts.length + 1 ≤ 8000 := by rw [← hlen]; exact h4
  obtain ⟨e1, _⟩ := h5 ts.length (9, 0, 0, 0, 0) (by show (ts ++ [((9 : Int32), (0 : Int32), (0 : Int32), (0 : Int32), (0 : Int64))])[ts.length]? = _; rw [List.getElem?_append_right (Nat.le_refl _), Nat.sub_self]; rfl)
  have hlr : (rs ++ [a] ++ [b]).length = rs.length + 2 := by rw [List.length_append, List.length_append]; rfl
  have h6' : u.1 64 118 = ie ((rs.length + 2 : Nat) : Int) := by rw [h6]; show ie ((rs ++ [a] ++ [b]).length : Nat) = _; rw [hlr]
  have h7' : rs.length + 2 ≤ 8000 := by rw [← hlr]; exact h7
  obtain ⟨a1, a2⟩ := h8 rs.length a (by show (rs ++ [a] ++ [b])[rs.length]? = _; rw [List.append_assoc, List.getElem?_append_right (Nat.le_refl _), Nat.sub_self]; rfl)
  obtain ⟨b1, b2⟩ := h8 (rs.length + 1) b (by show (rs ++ [a] ++ [b])[rs.length + 1]? = _; rw [List.append_assoc, List.getElem?_append_right (by omega), show rs.length + 1 - rs.length = 1 by omega]; rfl)
  have c2 : ¬ (ie ((ts.length + 1 : Nat) : Int) ≤ (0 : Int32)) := fun hh => by have := (inle (ts.length + 1) 0 (by omega) (by omega)).mp hh; omega
  have ok := okn ts.length 9000 (by omega) (by omega)
  have nt := ntn ts.length (by omega)
  have s2 : ie ((rs.length + 2 : Nat) : Int) - 2 = ie (rs.length : Nat) := by rw [show (2 : Int32) = ie 2 from rfl, ie_sub]; congr 1; omega
  have okr := okn rs.length 9000 (by omega) (by omega)
  have okr1 := okn (rs.length + 1) 9000 (by omega) (by omega)
  have ntr := ntn rs.length (by omega)
  have ntr1 := ntn (rs.length + 1) (by omega)
  have ag1 : ∀ P : Nat → Nat → Prop, ¬ P 64 115 → ¬ P 64 118 → ag P u (wi (wi u 64 115 (ie (ts.length : Nat))) 64 118 (ie (rs.length : Nat))) := fun P hP hP' => ag_wi (ag_wi (ag_r P u) _ _ _ hP) _ _ _ hP'
  refine ⟨wi (wi u 64 115 (ie (ts.length : Nat))) 64 118 (ie (rs.length : Nat)), fun f => ?_, ⟨hR_ag h1 (ag1 _ (by unfold wH; omega) (by unfold wH; omega)), by rw [wi_ne _ _ _ _ _ _ (by omega), wi_ne _ _ _ _ _ _ (by omega)]; exact h2, ⟨by rw [wi_ne _ _ _ _ _ _ (by omega), wi_at], by show ts.length ≤ 8000; omega, fun i y hi => ?_⟩, ⟨wi_at _ _ _ _, by show rs.length ≤ 8000; omega, fun i y hi => ?_⟩⟩, ag1 _ (by unfold wB; omega) (by unfold wB; omega)⟩
  · rw [K_Md_convert_25, h3', if_neg c2, h2, if_pos (show ie 0 = (0 : Int32) from rfl), isub1, if_pos ok, nt, e1, if_pos rfl, h6', s2, iadd1, if_pos okr, if_pos okr, if_pos okr1, if_pos okr1, ntr, ntr1, a1, a2, b1, b2]
  · obtain ⟨a, b, d, f, k⟩ := h5 i y (by show (ts ++ [((9 : Int32), (0 : Int32), (0 : Int32), (0 : Int32), (0 : Int64))])[i]? = _; rw [List.getElem?_append_left (List.getElem?_eq_some_iff.mp hi).1]; exact hi)
    refine ⟨?_, ?_, ?_, ?_, k⟩
    · rw [wi_ne _ _ _ _ _ _ (by omega), wi_ne _ _ _ _ _ _ (by omega)]; exact a
    · rw [wi_ne _ _ _ _ _ _ (by omega), wi_ne _ _ _ _ _ _ (by omega)]; exact b
    · rw [wi_ne _ _ _ _ _ _ (by omega), wi_ne _ _ _ _ _ _ (by omega)]; exact d
    · rw [wi_ne _ _ _ _ _ _ (by omega), wi_ne _ _ _ _ _ _ (by omega)]; exact f
  · have hi' := (List.getElem?_eq_some_iff.mp hi).1
    obtain ⟨a, b⟩ := h8 i y (by show (rs ++ [a] ++ [b])[i]? = _; rw [List.append_assoc, List.getElem?_append_left hi']; exact hi)
    exact ⟨by rw [wi_ne _ _ _ _ _ _ (by omega), wi_ne _ _ _ _ _ _ (by omega)]; exact a, b⟩
theorem r_full {u : pm_J} (N : Nat) (g : pm_s) (f : Nat) (h : u.1 64 96 = ie 4) : K_Md_convert_25 N g (f + 1) u = some u := by
  have hk : K_Md_convert_184 N g u = some u := by unfold K_Md_convert_184; rw [h, if_neg (by decide)]
  rw [K_Md_convert_25]
  by_cases e : u.1 64 115 ≤ 0
  · rw [if_pos e, hk]
  · rw [if_neg e, h, if_neg (by decide), hk]
