set_option maxRecDepth 100000
abbrev YT : Type := Lc × Tr
def cO (y : YT) (n0 e : Nat) (c : Int) : Prop := ∃ j : Nat, c = j ∧ n0 ≤ j ∧ j < e ∧ (y.2.2.1 j).1 ≠ 4
def lOK (y : YT) (f0 e l : Nat) : Prop := l < y.1.1 ∧ ((y.1.2.2 l = -1 ∧ ∃ t, y.1.2.1 l = some t) ∨ ∃ b : Nat, y.1.2.2 l = b ∧ f0 ≤ b ∧ b < e ∧ (y.2.2.1 b).1 ≠ 4)
def row (x : Nd) : List Nat := if x.1 = 16 then x.2.2.1.toNat :: x.2.2.2.2.2.2 else []
def cn (f : Nat → Int) : List Nat → Prop
  | [] => True
  | [a] => f a = -1
  | a :: b :: l => f a = b ∧ cn f (b :: l)
def nC (y : YT) (n0 e : Nat) (x : Nd) : Prop := 0 ≤ x.2.2.1 ∧ (row x).Pairwise (· < ·) ∧ (∀ a ∈ row x, n0 ≤ a ∧ a < e) ∧ (∀ a ∈ x.2.2.2.2.2.2, (y.2.2.1 a).1 ≠ 4) ∧ x.2.2.2.2.1 = (x.2.2.2.2.2.2.length : Nat) ∧ 1 ≤ x.2.2.2.2.2.2.length ∧ x.2.2.2.2.2.2.length ≤ 8 ∧ cn y.2.2.2.1 (row x) ∧ cn y.2.2.2.2.2.2 x.2.2.2.2.2.2 ∧ (y.2.2.2.2.2.1 x.2.2.1.toNat = true → (y.2.2.1 x.2.2.1.toNat).1 = 2 ∨ (y.2.2.1 x.2.2.1.toNat).1 = 4) ∧ (y.2.2.2.2.2.1 x.2.2.1.toNat = false → (y.2.2.1 x.2.2.1.toNat).1 ≠ 4)
def nW (T : List Tok) (d f0 n0 : Nat) (y : YT) (e : Nat) : Prop :=
  (y.2.2.1 e).2.1 < T.length ∧ ((y.2.2.1 e).1 ≤ 16 ∧ (y.2.2.1 e).1 ≠ 5 ∧ (y.2.2.1 e).1 ≠ 6) ∧
  ((y.2.2.1 e).1 = 2 → ∃ l : Nat, (y.2.2.1 e).2.2.1 = l ∧ lOK y f0 e l) ∧
  ((y.2.2.1 e).1 = 3 ∨ (y.2.2.1 e).1 = 4 → tkK T (y.2.2.1 e).2.1 = 1 ∧ (y.2.2.1 e).2.2.2.2.2.1 = tkV T (y.2.2.1 e).2.1) ∧
  ((y.2.2.1 e).1 = 3 → y.2.2.2.2.2.1 e = false) ∧
  ((y.2.2.1 e).1 = 7 → ∃ l : Nat, (y.2.2.1 e).2.2.2.2.1 = l ∧ l < y.1.1 ∧ y.1.2.2 l = (y.2.2.1 e).2.2.1) ∧
  ((y.2.2.1 e).1 = 9 → (y.2.2.1 e).2.2.2.2.2.1 = je d ∧ ∃ l : Nat, (y.2.2.1 e).2.2.2.2.1 = l ∧ l < y.1.1 ∧ y.1.2.2 l = -1 ∧ ∃ t, y.1.2.1 l = some t) ∧
  (7 ≤ (y.2.2.1 e).1 → (y.2.2.1 e).1 ≤ 15 → cO y n0 e (y.2.2.1 e).2.2.1) ∧
  ((y.2.2.1 e).1 = 7 ∨ (y.2.2.1 e).1 = 8 ∨ (10 ≤ (y.2.2.1 e).1 ∧ (y.2.2.1 e).1 ≤ 13) → cO y n0 e (y.2.2.1 e).2.2.2.1) ∧
  ((y.2.2.1 e).1 = 8 → cO y n0 e (y.2.2.1 e).2.2.2.2.1) ∧
  ((y.2.2.1 e).1 = 16 → nC y n0 e (y.2.2.1 e))
theorem cO_mono {y y' : YT} {n0 n0' e : Nat} {c : Int} (h : cO y n0 e c) (hn : ∀ i, i ≤ e → y'.2.2.1 i = y.2.2.1 i) (h0 : n0' ≤ n0) : cO y' n0' e c := by
  obtain ⟨j, h1, h2, h3, h4⟩ := h
  exact ⟨j, h1, by omega, h3, by rw [hn j (by omega)]; exact h4⟩
theorem lOK_mono {y y' : YT} {f0 e e' l : Nat} (h : lOK y f0 e l) (he : e ≤ e') (hn : ∀ i, i < e → y'.2.2.1 i = y.2.2.1 i) (hl : y.1.1 ≤ y'.1.1) (hl2 : ∀ l, l < y.1.1 → (y.1.2.2 l ≠ -1 ∨ y.1.2.1 l ≠ none) → y'.1.2.1 l = y.1.2.1 l ∧ y'.1.2.2 l = y.1.2.2 l) : lOK y' f0 e' l := by
  obtain ⟨h1, h2⟩ := h
  refine ⟨by omega, ?_⟩
  rcases h2 with ⟨a, t, ht⟩ | ⟨b, h3, h4, h5, h6⟩
  · obtain ⟨q1, q2⟩ := hl2 l h1 (Or.inr (by rw [ht]; intro hh; cases hh))
    exact Or.inl ⟨q2.trans a, t, q1.trans ht⟩
  · obtain ⟨q1, q2⟩ := hl2 l h1 (Or.inl (by rw [h3]; omega))
    exact Or.inr ⟨b, q2.trans h3, h4, by omega, by rw [hn b h5]; exact h6⟩
theorem cn_mono {f f' : Nat → Int} : ∀ {l : List Nat}, cn f l → (∀ a ∈ l, f' a = f a) → cn f' l
  | [], _, _ => trivial
  | [a], h, hf => (hf a (by simp)).trans h
  | a :: b :: l, h, hf => ⟨(hf a (by simp)).trans h.1, cn_mono h.2 (fun x hx => hf x (List.mem_cons_of_mem _ hx))⟩
theorem row_c {x : Nd} (h : x.1 = 16) : row x = x.2.2.1.toNat :: x.2.2.2.2.2.2 := by unfold row; rw [if_pos h]
theorem nW_mono {T : List Tok} {d f0 n0 n0' : Nat} {y y' : YT} {e : Nat} (h : nW T d f0 n0 y e) (hn : ∀ i, i ≤ e → y'.2.2.1 i = y.2.2.1 i) (hr : ∀ a ∈ row (y.2.2.1 e), y'.2.2.2.1 a = y.2.2.2.1 a ∧ y'.2.2.2.2.2.2 a = y.2.2.2.2.2.2 a ∧ y'.2.2.2.2.2.1 a = y.2.2.2.2.2.1 a) (h3 : (y.2.2.1 e).1 = 3 → y'.2.2.2.2.2.1 e = y.2.2.2.2.2.1 e) (hl : y.1.1 ≤ y'.1.1) (hl2 : ∀ l, l < y.1.1 → (y.1.2.2 l ≠ -1 ∨ y.1.2.1 l ≠ none) → y'.1.2.1 l = y.1.2.1 l ∧ y'.1.2.2 l = y.1.2.2 l) (h0 : n0' ≤ n0) : nW T d f0 n0' y' e := by
  obtain ⟨a1, a2, a3, a4, a5, a6, a7, a8, a9, a10, a11⟩ := h
  have he := hn e (Nat.le_refl _)
  unfold nW
  rw [he]
  refine ⟨a1, a2, fun hk => ?_, a4, fun hk => (h3 hk).trans (a5 hk), fun hk => ?_, fun hk => ?_, fun h1 h2 => cO_mono (a8 h1 h2) hn h0, fun h1 => cO_mono (a9 h1) hn h0, fun h1 => cO_mono (a10 h1) hn h0, fun hk => ?_⟩
  · obtain ⟨l, l1, l2⟩ := a3 hk
    exact ⟨l, l1, lOK_mono l2 (Nat.le_refl _) (fun i hi => hn i (by omega)) hl hl2⟩
  · obtain ⟨l, l1, l2, l3⟩ := a6 hk
    obtain ⟨j, j1, _⟩ := a8 (by omega) (by omega)
    obtain ⟨_, q2⟩ := hl2 l l2 (Or.inl (by rw [l3, j1]; omega))
    exact ⟨l, l1, by omega, q2.trans l3⟩
  · obtain ⟨b1, l, l1, l2, l3, t, l4⟩ := a7 hk
    obtain ⟨q1, q2⟩ := hl2 l l2 (Or.inr (by rw [l4]; intro hh; cases hh))
    exact ⟨b1, l, l1, by omega, q2.trans l3, t, q1.trans l4⟩
  · obtain ⟨b1, b2, b3, b4, b5, b6, b7, b8, b9, b10, b11⟩ := a11 hk
    rw [row_c hk] at hr b3
    have hh := hr _ (List.mem_cons_self)
    have hhe := (b3 _ (List.mem_cons_self)).2
    refine ⟨b1, b2, fun a ha => ?_, fun a ha => ?_, b5, b6, b7, cn_mono b8 (fun a ha => ?_), cn_mono b9 (fun a ha => (hr a (List.mem_cons_of_mem _ ha)).2.1), ?_, ?_⟩
    · rw [row_c hk] at ha; have := b3 a ha; omega
    · rw [hn a (by have := b3 a (List.mem_cons_of_mem _ ha); omega)]; exact b4 a ha
    · rw [row_c hk] at ha; exact (hr a ha).1
    · rw [hh.2.2, hn _ (by omega)]; exact b10
    · rw [hh.2.2, hn _ (by omega)]; exact b11
def kpT (s q : YT) : Prop := ∀ i, i < s.2.1 → q.2.2.1 i = s.2.2.1 i ∧ q.2.2.2.1 i = s.2.2.2.1 i ∧ q.2.2.2.2.1 i = s.2.2.2.2.1 i ∧ q.2.2.2.2.2.1 i = s.2.2.2.2.2.1 i ∧ q.2.2.2.2.2.2 i = s.2.2.2.2.2.2 i
def kpL (s q : YT) : Prop := ∀ l, l < s.1.1 → q.1.2.1 l = s.1.2.1 l ∧ q.1.2.2 l = s.1.2.2 l
def pu_W (T : List Tok) (d f0 : Nat) (s q : YT) (P : List Nat) (X : List (Nat × Nat)) : Prop :=
  (f0 ≤ s.2.1 ∧ s.2.1 ≤ q.2.1 ∧ s.1.1 ≤ q.1.1) ∧ kpT s q ∧ kpL s q ∧
  (∀ e, s.2.1 ≤ e → e < q.2.1 → nW T d f0 s.2.1 q e) ∧
  (∀ e e' a, s.2.1 ≤ e → e < q.2.1 → s.2.1 ≤ e' → e' < q.2.1 → a ∈ row (q.2.2.1 e) → a ∈ row (q.2.2.1 e') → e = e') ∧
  (P.Pairwise (· < ·) ∧ ∀ a ∈ P, s.2.1 ≤ a ∧ a < q.2.1 ∧ ∀ e, s.2.1 ≤ e → e < q.2.1 → a ∉ row (q.2.2.1 e)) ∧
  (∀ e, s.2.1 ≤ e → e < q.2.1 → (q.2.2.1 e).1 = 4 → e ∈ P ∨ q.2.2.2.2.2.1 e = true) ∧
  (∀ e, s.2.1 ≤ e → e < q.2.1 → q.2.2.2.2.1 e = -1 ∨ ∃ l : Nat, q.2.2.2.2.1 e = l ∧ l < q.1.1 ∧ q.1.2.2 l = e) ∧
  (∀ l, s.1.1 ≤ l → l < q.1.1 → q.1.2.2 l = -1 ∨ ∃ e : Nat, q.1.2.2 l = e ∧ s.2.1 ≤ e ∧ e < q.2.1 ∧ (q.2.2.2.2.1 e = l ∨ (l, e) ∈ X))
theorem row_ge {T : List Tok} {d f0 n0 : Nat} {y : YT} {e a : Nat} (h : nW T d f0 n0 y e) (ha : a ∈ row (y.2.2.1 e)) : n0 ≤ a ∧ a < e := by
  by_cases hk : (y.2.2.1 e).1 = 16
  · exact (h.2.2.2.2.2.2.2.2.2.2 hk).2.2.1 a ha
  · unfold row at ha; rw [if_neg hk] at ha; cases ha
theorem W_refl {T : List Tok} {d f0 : Nat} {s : YT} (h : f0 ≤ s.2.1) : pu_W T d f0 s s [] [] :=
  ⟨⟨h, Nat.le_refl _, Nat.le_refl _⟩, fun _ _ => ⟨rfl, rfl, rfl, rfl, rfl⟩, fun _ _ => ⟨rfl, rfl⟩, fun e h1 h2 => by omega, fun e _ _ h1 h2 => by omega, ⟨List.Pairwise.nil, fun a ha => by cases ha⟩, fun e h1 h2 => by omega, fun e h1 h2 => by omega, fun e h1 h2 => by omega⟩
theorem W_trans {T : List Tok} {d f0 : Nat} {s q p : YT} {P P' : List Nat} {X X' : List (Nat × Nat)} (h : pu_W T d f0 s q P X) (h' : pu_W T d f0 q p P' X') : pu_W T d f0 s p (P ++ P') (X ++ X') := by
  obtain ⟨⟨a1, a2, a3⟩, a4, a5, a6, a7, ⟨a8, a9⟩, a10, a11, a12⟩ := h
  obtain ⟨⟨b1, b2, b3⟩, b4, b5, b6, b7, ⟨b8, b9⟩, b10, b11, b12⟩ := h'
  have rw1 : ∀ e, s.2.1 ≤ e → e < q.2.1 → ∀ a ∈ row (p.2.2.1 e), s.2.1 ≤ a ∧ a < e := fun e h1 h2 a ha => by
    rw [(b4 e h2).1] at ha; exact row_ge (a6 e h1 h2) ha
  have rw2 : ∀ e, q.2.1 ≤ e → e < p.2.1 → ∀ a ∈ row (p.2.2.1 e), q.2.1 ≤ a ∧ a < e := fun e h1 h2 a ha => row_ge (b6 e h1 h2) ha
  refine ⟨⟨a1, by omega, by omega⟩, fun i hi => ?_, fun l hl => ?_, fun e h1 h2 => ?_, fun e e' a h1 h2 h3 h4 ha ha' => ?_, ⟨?_, fun a ha => ?_⟩, fun e h1 h2 hk => ?_, fun e h1 h2 => ?_, fun l h1 h2 => ?_⟩
  · obtain ⟨c1, c2, c3, c4, c5⟩ := a4 i hi
    obtain ⟨d1, d2, d3, d4, d5⟩ := b4 i (by omega)
    exact ⟨d1.trans c1, d2.trans c2, d3.trans c3, d4.trans c4, d5.trans c5⟩
  · obtain ⟨c1, c2⟩ := a5 l hl
    obtain ⟨d1, d2⟩ := b5 l (by omega)
    exact ⟨d1.trans c1, d2.trans c2⟩
  · by_cases hq : e < q.2.1
    · refine nW_mono (a6 e h1 hq) (fun i hi => (b4 i (by omega)).1) (fun a ha => ?_) (fun _ => (b4 e hq).2.2.2.1) b3 (fun l hl _ => b5 l hl) (Nat.le_refl _)
      have := row_ge (a6 e h1 hq) ha
      obtain ⟨_, d2, _, d4, d5⟩ := b4 a (by omega)
      exact ⟨d2, d5, d4⟩
    · exact nW_mono (b6 e (by omega) h2) (fun _ _ => rfl) (fun _ _ => ⟨rfl, rfl, rfl⟩) (fun _ => rfl) (Nat.le_refl _) (fun _ _ _ => ⟨rfl, rfl⟩) a2
  · by_cases hq : e < q.2.1
    · by_cases hq' : e' < q.2.1
      · rw [(b4 e hq).1] at ha; rw [(b4 e' hq').1] at ha'
        exact a7 e e' a h1 hq h3 hq' ha ha'
      · have := rw1 e h1 hq a ha; have := rw2 e' (by omega) h4 a ha'; omega
    · by_cases hq' : e' < q.2.1
      · have := rw1 e' h3 hq' a ha'; have := rw2 e (by omega) h2 a ha; omega
      · exact b7 e e' a (by omega) h2 (by omega) h4 ha ha'
  · rw [List.pairwise_append]
    exact ⟨a8, b8, fun x hx z hz => by have := a9 x hx; have := b9 z hz; omega⟩
  · rcases List.mem_append.mp ha with ha | ha
    · obtain ⟨c1, c2, c3⟩ := a9 a ha
      refine ⟨c1, by omega, fun e h1 h2 hh => ?_⟩
      by_cases hq : e < q.2.1
      · rw [(b4 e hq).1] at hh; exact c3 e h1 hq hh
      · have := rw2 e (by omega) h2 a hh; omega
    · obtain ⟨c1, c2, c3⟩ := b9 a ha
      refine ⟨by omega, c2, fun e h1 h2 hh => ?_⟩
      by_cases hq : e < q.2.1
      · have := rw1 e h1 hq a hh; omega
      · exact c3 e (by omega) h2 hh
  · by_cases hq : e < q.2.1
    · obtain ⟨d1, _, _, d4, _⟩ := b4 e hq
      rw [d1] at hk
      rcases a10 e h1 hq hk with hh | hh
      · exact Or.inl (List.mem_append.mpr (Or.inl hh))
      · exact Or.inr (d4.trans hh)
    · rcases b10 e (by omega) h2 hk with hh | hh
      · exact Or.inl (List.mem_append.mpr (Or.inr hh))
      · exact Or.inr hh
  · by_cases hq : e < q.2.1
    · rw [(b4 e hq).2.2.1]
      rcases a11 e h1 hq with hh | ⟨l, l1, l2, l3⟩
      · exact Or.inl hh
      · exact Or.inr ⟨l, l1, by omega, (b5 l l2).2.trans l3⟩
    · exact b11 e (by omega) h2
  · by_cases hq : l < q.1.1
    · rw [(b5 l hq).2]
      rcases a12 l h1 hq with hh | ⟨e, e1, e2, e3, e4⟩
      · exact Or.inl hh
      · refine Or.inr ⟨e, e1, e2, by omega, ?_⟩
        rw [(b4 e e3).2.2.1]
        rcases e4 with e4 | e4
        · exact Or.inl e4
        · exact Or.inr (List.mem_append.mpr (Or.inl e4))
    · rcases b12 l (by omega) h2 with hh | ⟨e, e1, e2, e3, e4⟩
      · exact Or.inl hh
      · refine Or.inr ⟨e, e1, by omega, e3, ?_⟩
        rcases e4 with e4 | e4
        · exact Or.inl e4
        · exact Or.inr (List.mem_append.mpr (Or.inr e4))
