set_option maxRecDepth 100000
def rf (q : YT) (i : Nat) : Prop := q.2.2.2.1 i = -1 ∧ q.2.2.2.2.1 i = -1 ∧ q.2.2.2.2.2.1 i = false ∧ q.2.2.2.2.2.2 i = -1
theorem tAdd_lt {t : Tr} {x : Nd} {i : Nat} (h : i < t.1) : (tAdd t x).2.1 i = t.2.1 i ∧ (tAdd t x).2.2.1 i = t.2.2.1 i ∧ (tAdd t x).2.2.2.1 i = t.2.2.2.1 i ∧ (tAdd t x).2.2.2.2.1 i = t.2.2.2.2.1 i ∧ (tAdd t x).2.2.2.2.2 i = t.2.2.2.2.2 i := by
  unfold tAdd
  exact ⟨upd_ne _ _ _ _ (by omega), upd_ne _ _ _ _ (by omega), upd_ne _ _ _ _ (by omega), upd_ne _ _ _ _ (by omega), upd_ne _ _ _ _ (by omega)⟩
theorem tAdd_at (t : Tr) (x : Nd) : (tAdd t x).2.1 t.1 = x ∧ (tAdd t x).2.2.1 t.1 = -1 ∧ (tAdd t x).2.2.2.1 t.1 = -1 ∧ (tAdd t x).2.2.2.2.1 t.1 = false ∧ (tAdd t x).2.2.2.2.2 t.1 = -1 ∧ (tAdd t x).1 = t.1 + 1 := by
  unfold tAdd
  exact ⟨upd_same _ _ _, upd_same _ _ _, upd_same _ _ _, upd_same _ _ _, upd_same _ _ _, rfl⟩
theorem rf_add (q : YT) (x : Nd) : rf (q.1, tAdd q.2 x) q.2.1 := by
  obtain ⟨_, h2, h3, h4, h5, _⟩ := tAdd_at q.2 x
  exact ⟨h2, h3, h4, h5⟩
theorem W_ch {T : List Tok} {d f0 : Nat} {s q q' : YT} {P : List Nat} {X : List (Nat × Nat)} (h : pu_W T d f0 s q P X) (h1 : q'.1 = q.1) (h2 : q'.2.1 = q.2.1 ∧ q'.2.2.1 = q.2.2.1 ∧ q'.2.2.2.2.1 = q.2.2.2.2.1) (hp : ∀ i, i ∉ P → q'.2.2.2.1 i = q.2.2.2.1 i ∧ q'.2.2.2.2.2.1 i = q.2.2.2.2.2.1 i ∧ q'.2.2.2.2.2.2 i = q.2.2.2.2.2.2 i) (h3 : ∀ e, s.2.1 ≤ e → e < q.2.1 → (q.2.2.1 e).1 = 3 → q'.2.2.2.2.2.1 e = q.2.2.2.2.2.1 e) : pu_W T d f0 s q' P X := by
  obtain ⟨⟨a1, a2, a3⟩, a4, a5, a6, a7, ⟨a8, a9⟩, a10, a11, a12⟩ := h
  obtain ⟨c1, c2, c3⟩ := h2
  have np : ∀ i, i < s.2.1 → i ∉ P := fun i hi hh => by have := a9 i hh; omega
  refine ⟨⟨a1, by omega, by rw [h1]; exact a3⟩, fun i hi => ?_, ?_, fun e e1 e2 => ?_, ?_, ⟨a8, ?_⟩, fun e e1 e2 hk => ?_, ?_, ?_⟩
  · obtain ⟨d1, d2, d3, d4, d5⟩ := a4 i hi
    obtain ⟨f1, f2, f3⟩ := hp i (np i hi)
    exact ⟨by rw [c2]; exact d1, f1.trans d2, by rw [c3]; exact d3, f2.trans d4, f3.trans d5⟩
  · intro l hl; rw [h1]; exact a5 l hl
  · have e2' : e < q.2.1 := by omega
    refine nW_mono (a6 e e1 e2') (fun i hi => by rw [c2]) (fun a ha => ?_) (fun hk => h3 e e1 e2' hk) (by rw [h1]; exact Nat.le_refl _) (fun l _ _ => by rw [h1]; exact ⟨rfl, rfl⟩) (Nat.le_refl _)
    have hnp : a ∉ P := fun hh => (a9 a hh).2.2 e e1 e2' ha
    obtain ⟨f1, f2, f3⟩ := hp a hnp
    exact ⟨f1, f3, f2⟩
  · rw [c1, c2]; exact a7
  · rw [c1, c2]; exact a9
  · rw [c2] at hk
    by_cases hm : e ∈ P
    · exact Or.inl hm
    · rcases a10 e e1 (by omega) hk with hh | hh
      · exact Or.inl hh
      · exact Or.inr ((hp e hm).2.1.trans hh)
  · rw [c1, c3, h1]; exact a11
  · rw [c1, c3, h1]; exact a12
theorem W_add {T : List Tok} {d f0 : Nat} {s q : YT} {P1 C : List Nat} {X : List (Nat × Nat)} (h : pu_W T d f0 s q (P1 ++ C) X) (x : Nd) (hC : ∀ a ∈ C, (q.2.2.1 a).1 = 4 → q.2.2.2.2.2.1 a = true) (hx : nW T d f0 s.2.1 (q.1, tAdd q.2 x) q.2.1) (hr : ∀ a ∈ row x, a ∈ C) : pu_W T d f0 s (q.1, tAdd q.2 x) (P1 ++ [q.2.1]) X := by
  obtain ⟨⟨a1, a2, a3⟩, a4, a5, a6, a7, ⟨a8, a9⟩, a10, a11, a12⟩ := h
  have ad : ∀ i, i < q.2.1 → (tAdd q.2 x).2.1 i = q.2.2.1 i ∧ (tAdd q.2 x).2.2.1 i = q.2.2.2.1 i ∧ (tAdd q.2 x).2.2.2.1 i = q.2.2.2.2.1 i ∧ (tAdd q.2 x).2.2.2.2.1 i = q.2.2.2.2.2.1 i ∧ (tAdd q.2 x).2.2.2.2.2 i = q.2.2.2.2.2.2 i := fun i hi => tAdd_lt hi
  obtain ⟨z1, z2, z3, z4, z5, z6⟩ := tAdd_at q.2 x
  have hn : ∀ e, e < (tAdd q.2 x).1 → e < q.2.1 ∨ e = q.2.1 := fun e he => by rw [z6] at he; omega
  have hP := List.pairwise_append.mp a8
  refine ⟨⟨a1, by show s.2.1 ≤ (tAdd q.2 x).1; omega, a3⟩, fun i hi => ?_, a5, fun e e1 e2 => ?_, fun e e' a e1 e2 e3 e4 ha ha' => ?_, ⟨?_, fun a ha => ?_⟩, fun e e1 e2 hk => ?_, fun e e1 e2 => ?_, fun l e1 e2 => ?_⟩
  · obtain ⟨d1, d2, d3, d4, d5⟩ := a4 i hi
    obtain ⟨f1, f2, f3, f4, f5⟩ := ad i (by omega)
    exact ⟨f1.trans d1, f2.trans d2, f3.trans d3, f4.trans d4, f5.trans d5⟩
  · rcases hn e e2 with hh | hh
    · refine nW_mono (a6 e e1 hh) (fun i hi => (ad i (by omega)).1) (fun a ha => ?_) (fun _ => (ad e hh).2.2.2.1) (Nat.le_refl _) (fun _ _ _ => ⟨rfl, rfl⟩) (Nat.le_refl _)
      have := row_ge (a6 e e1 hh) ha
      obtain ⟨_, f2, _, f4, f5⟩ := ad a (by omega)
      exact ⟨f2, f5, f4⟩
    · subst hh; exact hx
  · have hmem : ∀ a, a ∈ row x → ∀ e, s.2.1 ≤ e → e < q.2.1 → a ∉ row (q.2.2.1 e) := fun a ha => (a9 a (List.mem_append.mpr (Or.inr (hr a ha)))).2.2
    have ha2 : a ∈ row ((tAdd q.2 x).2.1 e) := ha
    have ha2' : a ∈ row ((tAdd q.2 x).2.1 e') := ha'
    rcases hn e e2 with hh | hh
    · rcases hn e' e4 with hh' | hh'
      · rw [(ad e hh).1] at ha2; rw [(ad e' hh').1] at ha2'; exact a7 e e' a e1 hh e3 hh' ha2 ha2'
      · rw [(ad e hh).1] at ha2; rw [hh', z1] at ha2'
        exact absurd ha2 (hmem a ha2' e e1 hh)
    · rcases hn e' e4 with hh' | hh'
      · rw [(ad e' hh').1] at ha2'; rw [hh, z1] at ha2
        exact absurd ha2' (hmem a ha2 e' e3 hh')
      · rw [hh, hh']
  · rw [List.pairwise_append]
    refine ⟨hP.1, List.pairwise_singleton _ _, fun a ha b hb => ?_⟩
    have := (a9 a (List.mem_append.mpr (Or.inl ha))).2.1
    rw [List.mem_singleton.mp hb]; exact this
  · rcases List.mem_append.mp ha with ha | ha
    · obtain ⟨c1, c2, c3⟩ := a9 a (List.mem_append.mpr (Or.inl ha))
      refine ⟨c1, by show a < (tAdd q.2 x).1; omega, fun e e1 e2 hh => ?_⟩
      have hh2 : a ∈ row ((tAdd q.2 x).2.1 e) := hh
      rcases hn e e2 with he | he
      · rw [(ad e he).1] at hh2; exact c3 e e1 he hh2
      · rw [he, z1] at hh2
        have := hP.2.2 a ha a (hr a hh2); omega
    · rw [List.mem_singleton.mp ha]
      refine ⟨a2, by show q.2.1 < (tAdd q.2 x).1; omega, fun e e1 e2 hh => ?_⟩
      have hh2 : q.2.1 ∈ row ((tAdd q.2 x).2.1 e) := hh
      rcases hn e e2 with he | he
      · rw [(ad e he).1] at hh2; have := row_ge (a6 e e1 he) hh2; omega
      · rw [he, z1] at hh2
        have := (a9 _ (List.mem_append.mpr (Or.inr (hr _ hh2)))).2.1; omega
  · have hk2 : ((tAdd q.2 x).2.1 e).1 = 4 := hk
    rcases hn e e2 with he | he
    · obtain ⟨f1, f2, f3, f4, f5⟩ := ad e he
      rw [f1] at hk2
      rcases a10 e e1 he hk2 with hh | hh
      · rcases List.mem_append.mp hh with hh | hh
        · exact Or.inl (List.mem_append.mpr (Or.inl hh))
        · exact Or.inr (f4.trans (hC e hh hk2))
      · exact Or.inr (f4.trans hh)
    · exact Or.inl (List.mem_append.mpr (Or.inr (by rw [he]; exact List.mem_singleton.mpr rfl)))
  · rcases hn e e2 with he | he
    · have := a11 e e1 he
      rw [← (ad e he).2.2.1] at this; exact this
    · rw [he]; exact Or.inl z3
  · rcases a12 l e1 e2 with hh | ⟨e, e3, e4, e5, e6⟩
    · exact Or.inl hh
    · refine Or.inr ⟨e, e3, e4, by show e < (tAdd q.2 x).1; omega, ?_⟩
      rw [← (ad e e5).2.2.1] at e6; exact e6
theorem W_lc {T : List Tok} {d f0 : Nat} {s q : YT} {P : List Nat} {X X' : List (Nat × Nat)} (h : pu_W T d f0 s q P X) (lc : Lc) (h1 : q.1.1 ≤ lc.1) (h2 : ∀ l, l < q.1.1 → (q.1.2.2 l ≠ -1 ∨ q.1.2.1 l ≠ none ∨ l < s.1.1) → lc.2.1 l = q.1.2.1 l ∧ lc.2.2 l = q.1.2.2 l) (h3 : ∀ l, s.1.1 ≤ l → l < lc.1 → lc.2.2 l = -1 ∨ (l < q.1.1 ∧ lc.2.2 l = q.1.2.2 l) ∨ ∃ e : Nat, lc.2.2 l = e ∧ s.2.1 ≤ e ∧ e < q.2.1 ∧ (l, e) ∈ X') (h4 : ∀ x ∈ X, x ∈ X') : pu_W T d f0 s (lc, q.2) P X' := by
  obtain ⟨⟨a1, a2, a3⟩, a4, a5, a6, a7, ⟨a8, a9⟩, a10, a11, a12⟩ := h
  refine ⟨⟨a1, a2, by show s.1.1 ≤ lc.1; omega⟩, a4, fun l hl => ?_, fun e e1 e2 => ?_, a7, ⟨a8, a9⟩, a10, fun e e1 e2 => ?_, fun l e1 e2 => ?_⟩
  · obtain ⟨c1, c2⟩ := h2 l (by omega) (Or.inr (Or.inr hl))
    obtain ⟨d1, d2⟩ := a5 l hl
    exact ⟨c1.trans d1, c2.trans d2⟩
  · exact nW_mono (a6 e e1 e2) (fun _ _ => rfl) (fun _ _ => ⟨rfl, rfl, rfl⟩) (fun _ => rfl) h1 (fun l hl hh => h2 l hl (by rcases hh with hh | hh; exact Or.inl hh; exact Or.inr (Or.inl hh))) (Nat.le_refl _)
  · rcases a11 e e1 e2 with hh | ⟨l, l1, l2, l3⟩
    · exact Or.inl hh
    · exact Or.inr ⟨l, l1, by show l < lc.1; omega, (h2 l l2 (Or.inl (by rw [l3]; omega))).2.trans l3⟩
  · rcases h3 l e1 e2 with hh | ⟨hh, hh2⟩ | ⟨e, q1, q2, q3, q4⟩
    · exact Or.inl hh
    · have hh2' : ((lc, q.2) : YT).1.2.2 l = q.1.2.2 l := hh2
      rw [hh2']
      rcases a12 l e1 hh with hh | ⟨e, q1, q2, q3, q4⟩
      · exact Or.inl hh
      · exact Or.inr ⟨e, q1, q2, q3, by rcases q4 with q4 | q4; exact Or.inl q4; exact Or.inr (h4 _ q4)⟩
    · exact Or.inr ⟨e, q1, q2, q3, Or.inr q4⟩
theorem W_bd {T : List Tok} {d f0 : Nat} {s q : YT} {P : List Nat} {a l : Nat} (h : pu_W T d f0 s q P [(l, a)]) (ha : s.2.1 ≤ a ∧ a < q.2.1) (hb : q.2.2.2.2.1 a = -1) (hl : l < q.1.1) (hB : q.1.2.2 l = (a : Nat)) : pu_W T d f0 s (q.1, tBd q.2 a l) P [] := by
  obtain ⟨⟨a1, a2, a3⟩, a4, a5, a6, a7, ⟨a8, a9⟩, a10, a11, a12⟩ := h
  have nb : ∀ i, i ≠ a → (tBd q.2 a l).2.2.2.1 i = q.2.2.2.2.1 i := fun i hi => upd_ne _ _ _ _ hi
  have ab : (tBd q.2 a l).2.2.2.1 a = l := upd_same _ _ _
  refine ⟨⟨a1, a2, a3⟩, fun i hi => ?_, a5, fun e e1 e2 => nW_mono (a6 e e1 e2) (fun _ _ => rfl) (fun _ _ => ⟨rfl, rfl, rfl⟩) (fun _ => rfl) (Nat.le_refl _) (fun _ _ _ => ⟨rfl, rfl⟩) (Nat.le_refl _), a7, ⟨a8, a9⟩, a10, fun e e1 e2 => ?_, fun l' e1 e2 => ?_⟩
  · obtain ⟨d1, d2, d3, d4, d5⟩ := a4 i hi
    exact ⟨d1, d2, (nb i (by omega)).trans d3, d4, d5⟩
  · by_cases he : e = a
    · subst he; exact Or.inr ⟨l, ab, hl, hB⟩
    · have := a11 e e1 e2
      rw [← nb e he] at this; exact this
  · rcases a12 l' e1 e2 with hh | ⟨e, q1, q2, q3, q4⟩
    · exact Or.inl hh
    · refine Or.inr ⟨e, q1, q2, q3, Or.inl ?_⟩
      rcases q4 with q4 | q4
      · by_cases he : e = a
        · rw [he, hb] at q4; omega
        · exact (nb e he).trans q4
      · have := List.mem_singleton.mp q4
        injection this with t1 t2
        subst t1; subst t2; exact ab
theorem nW_new {T : List Tok} {d f0 n0 : Nat} {q : YT} {x : Nd} (h1 : x.2.1 < T.length) (h2 : x.1 < 16 ∧ x.1 ≠ 5 ∧ x.1 ≠ 6) (h3 : x.1 = 2 → ∃ l : Nat, x.2.2.1 = l ∧ lOK q f0 q.2.1 l) (h4 : x.1 = 3 ∨ x.1 = 4 → tkK T x.2.1 = 1 ∧ x.2.2.2.2.2.1 = tkV T x.2.1) (h6 : x.1 = 7 → ∃ l : Nat, x.2.2.2.2.1 = l ∧ l < q.1.1 ∧ q.1.2.2 l = x.2.2.1) (h7 : x.1 = 9 → x.2.2.2.2.2.1 = je d ∧ ∃ l : Nat, x.2.2.2.2.1 = l ∧ l < q.1.1 ∧ q.1.2.2 l = -1 ∧ ∃ t, q.1.2.1 l = some t) (h8 : 7 ≤ x.1 → x.1 ≤ 15 → cO q n0 q.2.1 x.2.2.1) (h9 : x.1 = 7 ∨ x.1 = 8 ∨ (10 ≤ x.1 ∧ x.1 ≤ 13) → cO q n0 q.2.1 x.2.2.2.1) (h10 : x.1 = 8 → cO q n0 q.2.1 x.2.2.2.2.1) : nW T d f0 n0 (q.1, tAdd q.2 x) q.2.1 := by
  obtain ⟨z1, z2, z3, z4, z5, z6⟩ := tAdd_at q.2 x
  have cm : ∀ c, cO q n0 q.2.1 c → cO (q.1, tAdd q.2 x) n0 q.2.1 c := fun c hc => by
    obtain ⟨j, j1, j2, j3, j4⟩ := hc
    exact ⟨j, j1, j2, j3, by rw [show ((q.1, tAdd q.2 x) : YT).2.2.1 j = q.2.2.1 j from (tAdd_lt j3).1]; exact j4⟩
  unfold nW
  rw [show ((q.1, tAdd q.2 x) : YT).2.2.1 q.2.1 = x from z1]
  refine ⟨h1, ⟨by omega, h2.2⟩, fun hk => ?_, h4, fun _ => z4, h6, h7, fun e1 e2 => cm _ (h8 e1 e2), fun e1 => cm _ (h9 e1), fun e1 => cm _ (h10 e1), fun hk => by omega⟩
  obtain ⟨l, l1, l2⟩ := h3 hk
  refine ⟨l, l1, l2.1, ?_⟩
  rcases l2.2 with hh | ⟨b, b1, b2, b3, b4⟩
  · exact Or.inl hh
  · exact Or.inr ⟨b, b1, b2, b3, by rw [show ((q.1, tAdd q.2 x) : YT).2.2.1 b = q.2.2.1 b from (tAdd_lt b3).1]; exact b4⟩
