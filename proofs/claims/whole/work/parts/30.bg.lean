set_option maxRecDepth 100000
def qK (c _i : Nat) : Prop := (3 ≤ c ∧ c ≤ 43) ∨ 140 ≤ c
def qY (c _i : Nat) : Prop := (10 ≤ c ∧ c ≤ 17) ∨ 140 ≤ c
theorem tyC_ag {g : pm_s} {u v : pm_J} {Y : List Ty} (h : tyC g u Y) (ha : ag qY u v) : tyC g v Y := by
  refine tyC_fr h (fun c i hc => (ha c i ?_).1)
  unfold cS_y at hc
  simp only [Bool.or_eq_true, Bool.and_eq_true, Nat.beq_eq, Nat.ble_eq] at hc
  unfold qY; omega
theorem cF_agK {T : List Tok} {n : Nat} {D : List Df} {t : Tr} {c : CS} {s : Nat → Ta} {g : pm_s} {u v : pm_J} {Y : List Ty} (H : cF T n D t c s g u Y) (h : ag qK u v) : cF T n D t c s g v Y := by
  obtain ⟨h1, h2, h3, h4, h5, h6⟩ := H
  have e : ∀ c i, (3 ≤ c ∧ c ≤ 43) → v.1 c i = u.1 c i ∧ v.2 c i = u.2 c i := fun c i hc => h c i (Or.inl hc)
  refine ⟨(e _ _ (by omega)).1.trans h1, tyC_ag h2 (ag_m h (fun c i hc => by unfold qY at hc; unfold qK; omega)), ⟨(e _ _ (by omega)).1.trans h3.1, h3.2⟩, ⟨(e _ _ (by omega)).1.trans h4.1, h4.2⟩, fun i x hx => ⟨?_, ?_⟩, fun i hi => ?_⟩
  · obtain ⟨a1, a2, ⟨k, a3, a4⟩, a5, a6, ⟨b1, b2, b3⟩, a8, a9⟩ := (h5 i x hx).1
    refine ⟨(e _ _ (by omega)).2.trans a1, (e _ _ (by omega)).1.trans a2, ⟨k, (e _ _ (by omega)).1.trans a3, a4⟩, (e _ _ (by omega)).1.trans a5, (e _ _ (by omega)).1.trans a6, ⟨(e _ _ (by omega)).1.trans b1, b2, fun l hl => ?_⟩, (e _ _ (by omega)).1.trans a8, (e _ _ (by omega)).1.trans a9⟩
    obtain ⟨c1, c2⟩ := b3 l hl
    refine ⟨?_, (e _ _ (by omega)).1.trans c2⟩
    cases hlt : x.2.2.2.2.2.2.2.1 l with
    | none => rw [hlt] at c1; exact (e _ _ (by omega)).1.trans c1
    | some s => rw [hlt] at c1; obtain ⟨k, k1, k2⟩ := c1; exact ⟨k, (e _ _ (by omega)).1.trans k1, k2⟩
  · obtain ⟨a1, a2, a3, a4⟩ := (h5 i x hx).2
    exact ⟨(e _ _ (by omega)).1.trans a1, (e _ _ (by omega)).1.trans a2, (e _ _ (by omega)).1.trans a3, (e _ _ (by omega)).1.trans a4⟩
  · have := cKn_fr (c' := c) (v := v) (h6 i hi) [] ⟨rfl, rfl, rfl, rfl⟩ (fun x k hk => e x k (by omega))
    rw [List.append_nil] at this; exact this
/-! what holds of both between two calls -/
abbrev Cmp : Type := Sum (Nat × Nat) (List Tok × List Df × Tr × CS)
def rCq (n : Nat) (r : Cmp) (v : pm_J) : Prop := match r with
  | .inl q => v.1 64 44 = ie 0 ∧ v.1 64 5 = ie (q.2 : Nat)
  | .inr q => v.1 64 5 = ie (-1) ∧ ∃ Y, rC q.1 n q.2.1 q.2.2.1 q.2.2.2 q.2.2.2.1 v Y
def liT (o : Nat → Int) (n : Nat) (u : pm_J) : Prop := tx_o o n ∧ u.1 0 1 = ie n ∧ (∀ i, i < n → u.1 1 i = ie (o i)) ∧ rTx o n u
def liB (u : pm_J) : Prop := cW u ∧ cBJ u ∧ rBs u
def okA (pu_W : List Int64) (u : pm_J) : Prop := pu_W.length ≤ 6 ∧ u.1 0 4 = ie (pu_W.length : Nat) ∧ u.1 64 107 = ie (pu_W.length : Nat) ∧ ∀ (i : Nat) (x : Int64), pu_W[i]? = some x → u.2 2 i = x ∧ u.2 131 i = x
def tdR (u : pm_J) : Prop := u.1 44 8 = u.1 64 97 ∧ u.1 50 2 + u.1 50 3 = u.1 64 99 ∧ u.1 45 6 = u.1 64 100 ∧ u.1 50 4 + u.1 50 5 = u.1 64 101 ∧ u.1 50 0 = u.1 64 102 ∧ u.1 50 1 = u.1 64 103 ∧ u.1 57 7 = u.1 64 89 ∧ u.1 44 9 = u.1 64 104
def rsV (u : pm_J) (l : Nat) : Ty → Va → Prop
  | .num k, v => k < 2 ∧ v.1 = k
  | .var _, _ => False
  | .add a b, v => v.1 = 2 ∧ ∃ (i : Nat) (x y : Va), v.2 = je (i : Nat) ∧ i < l ∧ u.2 47 i = x.2 ∧ u.2 48 i = y.2 ∧ u.1 119 i = ie (x.1 : Nat) ∧ u.2 120 i = x.2 ∧ u.1 121 i = ie (y.1 : Nat) ∧ u.2 122 i = y.2 ∧ rsV u l a x ∧ rsV u l b y
  | .mul _ _, v => v.1 = 3
def liV (g : pm_s) (u : pm_J) : Prop := ∃ (Y : List Ty) (R : Ty) (k : Nat) (v : Va) (l : Nat), tyC g u Y ∧ u.1 44 16 = ie (k : Nat) ∧ Y[k]? = some R ∧ u.2 44 15 = v.2 ∧ u.1 64 93 = ie (v.1 : Nat) ∧ u.2 64 94 = v.2 ∧ u.1 45 5 = ie (l : Nat) ∧ l ≤ 4000 ∧ rsV u l R v
def liW (g : pm_s) (u : pm_J) : Prop := (u.1 44 10 ≠ 1 ∧ u.1 64 105 = ie 0) ∨ (u.1 44 10 = ie 1 ∧ u.1 64 105 = ie 1 ∧ liV g u)
def liC2 (o : Nat → Int) (n : Nat) (g : pm_s) (u : pm_J) : Prop := u.1 0 2 = ie 1 ∧ cCp n (cmpS o n) g u ∧ gdS (cmpS o n) ∧ rCq n (cmpS o n) u
def liC1 (g : pm_s) (u : pm_J) : Prop := u.1 0 2 = ie 0 ∧ u.1 64 5 = ie (-1) ∧ u.1 64 44 = ie 0 ∧ tyB g u
def liC (o : Nat → Int) (n : Nat) (g : pm_s) (u : pm_J) : Prop := (liC1 g u ∧ u.1 44 10 = ie 0 ∧ u.1 64 105 = ie 0) ∨ liC2 o n g u
def LI (g : pm_s) (u : pm_J) : Prop := ∃ (o : Nat → Int) (n : Nat) (pu_W : List Int64), liT o n u ∧ liB u ∧ okA pu_W u ∧ tdR u ∧ liW g u ∧ liC o n g u ∧ gI g
def aK (c i : Nat) : Prop := ¬ (44 ≤ c ∧ c ≤ 63) ∧ ¬ (c = 0 ∧ i = 4) ∧ c ≠ 139 ∧ c ≠ 2 ∧ ¬ (c = 64 ∧ (i = 2 ∨ 72 ≤ i)) ∧ ¬ (113 ≤ c ∧ c ≤ 138)
def aR (c i : Nat) : Prop := (10 ≤ c ∧ c ≤ 17) ∨ (44 ≤ c ∧ c ≤ 63) ∨ 140 ≤ c ∨ (c = 64 ∧ 72 ≤ i ∧ i ≠ 107 ∧ i ≠ 108 ∧ i ≠ 109) ∨ (113 ≤ c ∧ c ≤ 130)
theorem liT_ag {o : Nat → Int} {n : Nat} {u v : pm_J} (h : liT o n u) (ha : ag aK u v) : liT o n v := by
  obtain ⟨h1, h2, h3, h4, h5⟩ := h
  exact ⟨h1, (ha _ _ (by unfold aK; omega)).1.trans h2, fun i hi => (ha _ _ (by unfold aK; omega)).1.trans (h3 i hi), (ha _ _ (by unfold aK; omega)).1.trans h4, fun i hi => (ha _ _ (by unfold aK; omega)).1.trans (h5 i hi)⟩
theorem liB_ag {u v : pm_J} (h : liB u) (ha : ag aK u v) : liB v := by
  obtain ⟨⟨w0, w1, w2, w3, w4, w5, w6, w7, w8, w9⟩, ⟨⟨b1, b1', b1''⟩, ⟨b2, b2', b2''⟩, ⟨b3, b3', b3''⟩, ⟨b4, b4', b4''⟩, b5⟩, h3⟩ := h
  have e : ∀ c i, c = 9 ∨ c = 39 ∨ c = 18 ∨ c = 29 ∨ c = 35 ∨ c = 73 ∨ c = 74 → v.1 c i = u.1 c i ∧ v.2 c i = u.2 c i := fun c i hc => ha c i (by unfold aK; omega)
  refine ⟨⟨?_, ?_, ?_, ?_, ?_, ?_, ?_, ?_, ?_, ?_⟩, ⟨⟨b1, b1', (e _ _ (by omega)).1.trans b1''⟩, ⟨b2, b2', (e _ _ (by omega)).1.trans b2''⟩, ⟨b3, b3', (e _ _ (by omega)).1.trans b3''⟩, ⟨b4, b4', (e _ _ (by omega)).1.trans b4''⟩, fun d hd => ?_⟩, fun k hk => ⟨(e _ _ (by omega)).1.trans (h3 k hk).1, (e _ _ (by omega)).1.trans (h3 k hk).2⟩⟩
  · exact (e _ _ (by omega)).2.trans w0
  · exact (e _ _ (by omega)).2.trans w1
  · exact (e _ _ (by omega)).2.trans w2
  · exact (e _ _ (by omega)).2.trans w3
  · exact (e _ _ (by omega)).2.trans w4
  · exact (e _ _ (by omega)).2.trans w5
  · exact (e _ _ (by omega)).2.trans w6
  · exact (e _ _ (by omega)).2.trans w7
  · exact (e _ _ (by omega)).2.trans w8
  · exact (e _ _ (by omega)).2.trans w9
  · obtain ⟨b, x, y⟩ := b5 d hd
    exact ⟨b, x, (e _ _ (by omega)).1.trans y⟩
theorem tdR_ag {u v : pm_J} (h : tdR u) (ha : ag aR u v) : tdR v := by
  have e : ∀ c i, (c = 44 ∨ c = 45 ∨ c = 50 ∨ c = 57) ∨ (c = 64 ∧ (i = 89 ∨ 97 ≤ i ∧ i ≤ 104)) → v.1 c i = u.1 c i := fun c i hc => (ha c i (by unfold aR; omega)).1
  obtain ⟨h1, h2, h3, h4, h5, h6, h7, h8⟩ := h
  refine ⟨?_, ?_, ?_, ?_, ?_, ?_, ?_, ?_⟩
  · rw [e _ _ (by omega), e 64 _ (by omega)]; exact h1
  · rw [e _ _ (by omega), e 50 3 (by omega), e 64 _ (by omega)]; exact h2
  · rw [e _ _ (by omega), e 64 _ (by omega)]; exact h3
  · rw [e _ _ (by omega), e 50 5 (by omega), e 64 _ (by omega)]; exact h4
  · rw [e _ _ (by omega), e 64 _ (by omega)]; exact h5
  · rw [e _ _ (by omega), e 64 _ (by omega)]; exact h6
  · rw [e _ _ (by omega), e 64 _ (by omega)]; exact h7
  · rw [e _ _ (by omega), e 64 _ (by omega)]; exact h8
theorem rsV_ag {u v : pm_J} {l : Nat} (ha : ag aR u v) {R : Ty} : ∀ {x : Va}, rsV u l R x → rsV v l R x := by
  induction R with
  | num k => intro x h; exact h
  | var k => intro x h; exact h
  | add a b iha ihb =>
    intro x h
    obtain ⟨h1, i, y, z, h2, h3, h4, h5, h6, h7, h8, h9, h10, h11⟩ := h
    have e : ∀ c, c = 47 ∨ c = 48 ∨ c = 119 ∨ c = 120 ∨ c = 121 ∨ c = 122 → v.1 c i = u.1 c i ∧ v.2 c i = u.2 c i := fun c hc => ha c i (by unfold aR; omega)
    exact ⟨h1, i, y, z, h2, h3, (e _ (by omega)).2.trans h4, (e _ (by omega)).2.trans h5, (e _ (by omega)).1.trans h6, (e _ (by omega)).2.trans h7, (e _ (by omega)).1.trans h8, (e _ (by omega)).2.trans h9, iha h10, ihb h11⟩
  | mul a b _ _ => intro x h; exact h
theorem liV_ag {g : pm_s} {u v : pm_J} (h : liV g u) (ha : ag aR u v) : liV g v := by
  obtain ⟨Y, R, k, x, l, h1, h2, h3, h4, h5, h6, h7, h8, h9⟩ := h
  exact ⟨Y, R, k, x, l, tyC_ag h1 (ag_m ha (fun c i hc => by unfold qY at hc; unfold aR; omega)), (ha _ _ (by unfold aR; omega)).1.trans h2, h3, (ha _ _ (by unfold aR; omega)).2.trans h4, (ha _ _ (by unfold aR; omega)).1.trans h5, (ha _ _ (by unfold aR; omega)).2.trans h6, (ha _ _ (by unfold aR; omega)).1.trans h7, h8, rsV_ag ha h9⟩
theorem liW_ag {g : pm_s} {u v : pm_J} (h : liW g u) (ha : ag aR u v) : liW g v := by
  have e1 := (ha 44 10 (by unfold aR; omega)).1
  have e2 := (ha 64 105 (by unfold aR; omega)).1
  rcases h with ⟨h1, h2⟩ | ⟨h1, h2, h3⟩
  · exact Or.inl ⟨by rw [e1]; exact h1, e2.trans h2⟩
  · exact Or.inr ⟨e1.trans h1, e2.trans h2, liV_ag h3 ha⟩
theorem liC2_ag {o : Nat → Int} {n : Nat} {g : pm_s} {u v : pm_J} (h : liC2 o n g u) (ha : ag aK u v) : liC2 o n g v := by
  obtain ⟨h1, h2, h3, h4⟩ := h
  refine ⟨(ha _ _ (by unfold aK; omega)).1.trans h1, ?_, h3, ?_⟩
  · revert h2
    generalize cmpS o n = r
    intro h2
    cases r with
    | inl q =>
      obtain ⟨a1, a2, a3, a4, Y, a5⟩ := h2
      exact ⟨(ha _ _ (by unfold aK; omega)).1.trans a1, a2, a3, (ha _ _ (by unfold aK; omega)).1.trans a4, Y, tyC_ag a5 (ag_m ha (fun c i hc => by unfold qY at hc; unfold aK; omega))⟩
    | inr q =>
      obtain ⟨Y, a1, a2⟩ := h2
      exact ⟨Y, cF_agK a1 (ag_m ha (fun c i hc => by unfold qK at hc; unfold aK; omega)), a2⟩
  · revert h4
    generalize cmpS o n = r
    intro h4
    cases r with
    | inl q => exact ⟨(ha _ _ (by unfold aK; omega)).1.trans h4.1, (ha _ _ (by unfold aK; omega)).1.trans h4.2⟩
    | inr q =>
      obtain ⟨a1, Y, a2⟩ := h4
      exact ⟨(ha _ _ (by unfold aK; omega)).1.trans a1, Y, rC_cg a2 (fun c i hc => ha c i (by unfold rKp at hc; unfold aK; omega))⟩
theorem liC_ag {o : Nat → Int} {n : Nat} {g : pm_s} {u v : pm_J} (h : liC o n g u) (ha : ag aK u v) (h10 : v.1 44 10 = u.1 44 10) (h105 : v.1 64 105 = u.1 64 105) : liC o n g v := by
  rcases h with ⟨⟨h1, h2, h3, h4⟩, h5, h6⟩ | h
  · exact Or.inl ⟨⟨(ha _ _ (by unfold aK; omega)).1.trans h1, (ha _ _ (by unfold aK; omega)).1.trans h2, (ha _ _ (by unfold aK; omega)).1.trans h3, tyB_ag h4 (ag_m ha (fun c i hc => by unfold aK; omega))⟩, h10.trans h5, h105.trans h6⟩
  · exact Or.inr (liC2_ag h ha)
def aL (c i : Nat) : Prop := c ≠ 139 ∧ ¬ (c = 64 ∧ (i = 2 ∨ i = 108 ∨ i = 109))
theorem LI_ag {g : pm_s} {u v : pm_J} (h : LI g u) (ha : ag aL u v) : LI g v := by
  obtain ⟨o, n, pu_W, h1, h2, ⟨a1, a2, a3, a4⟩, h4, h5, h6, h7⟩ := h
  have k : ag aK u v := ag_m ha (fun c i hc => by unfold aK at hc; unfold aL; omega)
  have r : ag aR u v := ag_m ha (fun c i hc => by unfold aR at hc; unfold aL; omega)
  exact ⟨o, n, pu_W, liT_ag h1 k, liB_ag h2 k, ⟨a1, (ha _ _ (by unfold aL; omega)).1.trans a2, (ha _ _ (by unfold aL; omega)).1.trans a3, fun i x hi => ⟨(ha _ _ (by unfold aL; omega)).2.trans (a4 i x hi).1, (ha _ _ (by unfold aL; omega)).2.trans (a4 i x hi).2⟩⟩, tdR_ag h4 r, liW_ag h5 r, liC_ag h6 k (ha _ _ (by unfold aL; omega)).1 (ha _ _ (by unfold aL; omega)).1, h7⟩
/-! one thing more in the heap: what was thrown -/
theorem gI_sx {g : pm_s} (h : gI g) : gI (sx g) := by
  obtain ⟨h1, h2, h3, h4⟩ := h
  exact ⟨h1, by show 140 ≤ g.1 + 1; omega, by show g.2.2.1 + 6 ≤ g.1 + 1; omega, h4⟩
theorem tyC_sx {g : pm_s} {u : pm_J} {Y : List Ty} (h : tyC g u Y) : tyC (sx g) u Y := by
  obtain ⟨h1, h2, h3, h4⟩ := h
  exact ⟨h1, h2, gI_sx h3, h4⟩
theorem LI_sx {g : pm_s} {u : pm_J} (h : LI g u) : LI (sx g) u := by
  obtain ⟨o, n, pu_W, h1, h2, h3, h4, h5, h6, h7⟩ := h
  refine ⟨o, n, pu_W, h1, h2, h3, h4, ?_, ?_, gI_sx h7⟩
  · rcases h5 with h5 | ⟨a1, a2, Y, R, k, x, l, a3, a4⟩
    · exact Or.inl h5
    · exact Or.inr ⟨a1, a2, Y, R, k, x, l, tyC_sx a3, a4⟩
  · rcases h6 with ⟨⟨a1, a2, a3, a4⟩, a5⟩ | ⟨a1, a2, a3, a4⟩
    · exact Or.inl ⟨⟨a1, a2, a3, ⟨gI_sx a4.1, a4.2⟩⟩, a5⟩
    · refine Or.inr ⟨a1, ?_, a3, a4⟩
      revert a2
      generalize cmpS o n = r
      intro a2
      cases r with
      | inl q =>
        obtain ⟨b1, b2, b3, b4, Y, b5⟩ := a2
        exact ⟨b1, b2, b3, b4, Y, tyC_sx b5⟩
      | inr q =>
        obtain ⟨Y, ⟨b1, b2, b3⟩, b4⟩ := a2
        exact ⟨Y, ⟨b1, tyC_sx b2, b3⟩, b4⟩
theorem gA_sx {c s : Nat} {g : pm_s} (h : gA c s g) : gA (c + 1) (s + 6) (sx g) := by
  unfold gA at h ⊢
  show g.1 + 1 ≤ c + 1 + 6 * (g.2.2.2 / 2048) ∧ g.2.1 + 6 ≤ s + 6 + 12 * g.2.2.2
  omega
theorem gA_s {c s : Nat} {g : pm_s} (h : gA c s g) : gA (c + 1) (s + 6) g := by
  unfold gA at h ⊢
  omega
theorem pmS_ok {α : Type} {g : pm_s} {r : Option (α × pm_s × pm_J)} {o : α × pm_s × pm_J} (h : r = some o) (h1 : g.1 ≤ o.2.1.1) (h2 : g.2.1 ≤ o.2.1.2.1) : pm_S g r = some o := by
  unfold pm_S; rw [h, Option.bind_some, if_pos ⟨h1, h2⟩]
def gLB (g : pm_s) (r : Option (Unit × pm_s × pm_J)) : Prop := ∃ g' v, r = some ((), g', v) ∧ LI g' v ∧ g.1 ≤ g'.1 ∧ g.2.1 ≤ g'.2.1 ∧ ∀ c s, gA c s g → gA (c + 1) (s + 6) g'
theorem gLB_0 {g : pm_s} {v : pm_J} (h : LI g v) : gLB g (some ((), g, v)) := ⟨g, v, rfl, h, Nat.le_refl _, Nat.le_refl _, fun _ _ h => gA_s h⟩
theorem gLB_1 {g : pm_s} {v : pm_J} (h : LI (sx g) v) : gLB g (some ((), sx g, v)) := ⟨sx g, v, rfl, h, Nat.le_succ _, by show g.2.1 ≤ g.2.1 + 6; omega, fun _ _ h => gA_sx h⟩
theorem gLB_S {g : pm_s} {r : Option (Unit × pm_s × pm_J)} (h : gLB g r) : gLB g (pm_S g r) := by
  obtain ⟨g', v, h1, h2, h3, h4, h5⟩ := h
  exact ⟨g', v, pmS_ok h1 h3 h4, h2, h3, h4, h5⟩
theorem LI_g {g : pm_s} {u : pm_J} (h : LI g u) : gI g := by
  obtain ⟨_, _, _, _, _, _, _, _, _, h⟩ := h
  exact h
theorem gLB_x {g : pm_s} {u q : pm_J} {a : Int32 × pm_s × pm_J} {m : Int32} {o : Option (Int32 × pm_s × pm_J)} {F : pm_s → pm_J → Option (Int32 × pm_J)} (ho : o = some a) (hg : a.2.1 = g ∨ a.2.1 = sx g) (hF : F a.2.1 a.2.2 = some (m, q)) (hI : LI a.2.1 q) (h2 : q.1 64 2 = a.1) (h0 : a.1 = 0 → q.2 139 0 = m.toInt64) : gLB g (o.bind fun q2 => if sh_Tb q2.2.1 = true then pm_S q2.2.1 ((F q2.2.1 q2.2.2).bind fun q5 => (F_Md_thrown q2.2.1 q5.2).bind fun q6 => if q6 = q2.1 then if q2.1 = 0 then if pm_ok 0 1 = true then if (lg_cmp (q5.2.2 139 0) q5.1.toInt64) = 0 then some ((), q2.2.1, q5.2) else none else none else some ((), q2.2.1, q5.2) else none) else none) := by
  subst ho
  rw [Option.bind_some, if_pos (gI_Tb (LI_g hI))]
  have hin : ((F a.2.1 a.2.2).bind fun q5 => (F_Md_thrown a.2.1 q5.2).bind fun q6 => if q6 = a.1 then if a.1 = 0 then if pm_ok 0 1 = true then if (lg_cmp (q5.2.2 139 0) q5.1.toInt64) = 0 then some ((), a.2.1, q5.2) else none else none else some ((), a.2.1, q5.2) else none) = some ((), a.2.1, q) := by
    rw [hF, Option.bind_some]
    unfold F_Md_thrown
    rw [Option.bind_some]
    show (if q.1 64 2 = a.1 then _ else _) = _
    rw [if_pos h2]
    by_cases e : a.1 = 0
    · rw [if_pos e, if_pos (by decide)]
      show (if lg_cmp (q.2 139 0) m.toInt64 = 0 then _ else _) = _
      rw [if_pos ((lg_eq0 _ _).mpr (h0 e))]
    · rw [if_neg e]
  rw [pmS_ok hin (Nat.le_refl _) (Nat.le_refl _)]
  rcases hg with hg | hg
  · rw [hg] at hI ⊢; exact gLB_0 hI
  · rw [hg] at hI ⊢; exact gLB_1 hI
