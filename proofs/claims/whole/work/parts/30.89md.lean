set_option maxRecDepth 100000
theorem itp_k {ρ : Nat → Ty} {k : Nat} (h : ¬ (k < 2)) : itp ρ (.num k) = ρ (k - 2) := if_neg h
theorem bxp_k {ρ : Nat → Ty} {k : Nat} (h : ¬ (k < 2)) : bxp ρ (.num k) = ρ (k - 2) := if_neg h
theorem tgO_k {k : Nat} (h : ¬ (k < 2)) : tgO (.num k) = 4 := if_neg h
def hG (T : List Tok) (D : List Df) (t : Tr) (c : CS) (E : Ev) (τ : List Ty) (h : Hp) (dst : Ty) (q : Option (Option Va × Hp)) : Prop := ∃ (x : Option Va) (h' : Hp) (σ : List Ty), q = some (x, h') ∧ (∃ Z, h'.1 = h.1 ++ Z) ∧ hT T D t c (τ ++ σ) E h'.1 ∧ ∀ y, x = some y → vT (τ ++ σ) y dst
theorem hG_id {T : List Tok} {D : List Df} {t : Tr} {c : CS} {E : Ev} {τ : List Ty} {h : Hp} {dst : Ty} {v : Va} (k : Nat) (hh : hT T D t c τ E h.1) (hv : vT τ v dst) : hG T D t c E τ h dst (some (some v, (h.1, k))) :=
  ⟨some v, (h.1, k), [], rfl, ⟨[], (List.append_nil _).symm⟩, by rw [List.append_nil]; exact hh, fun y hy => by cases hy; rw [List.append_nil]; exact hv⟩
theorem hG_mk {T : List Tok} {D : List Df} {t : Tr} {c : CS} {E : Ev} {τ : List Ty} {h : Hp} {dst : Ty} (tag : Nat) (it : It) (hh : hT T D t c τ E h.1) (ht : tgO dst = tag) (h2 : 2 ≤ tag) (hi : iT T D t c τ E it dst) : hG T D t c E τ h dst (some (mkI h tag it)) := by
  unfold mkI
  by_cases e : h.1.length < 4000
  · rw [if_pos e]
    refine ⟨_, _, [dst], rfl, ⟨[it], rfl⟩, hT_add hh e hi, fun y hy => ?_⟩
    cases hy
    rw [← ht]; exact vT_new hh.1 e dst (by omega)
  · rw [if_neg e]
    exact ⟨_, _, [], rfl, ⟨[], (List.append_nil _).symm⟩, by rw [List.append_nil]; exact hh, fun y hy => by cases hy⟩
theorem hG_b {T : List Tok} {D : List Df} {t : Tr} {c : CS} {E : Ev} {τ : List Ty} {h : Hp} {d1 d2 : Ty} {q : Option (Option Va × Hp)} {f : Va → Hp → Option (Option Va × Hp)} (hq : hG T D t c E τ h d1 q) (hf : ∀ (y : Va) (h' : Hp) (σ : List Ty), (∃ Z, h'.1 = h.1 ++ Z) → hT T D t c (τ ++ σ) E h'.1 → vT (τ ++ σ) y d1 → hG T D t c E (τ ++ σ) h' d2 (f y h')) : hG T D t c E τ h d2 (oB q f) := by
  obtain ⟨x, h', σ, rfl, ⟨Z, hZ⟩, h2, h3⟩ := hq
  cases x with
  | none => exact ⟨none, h', σ, rfl, ⟨Z, hZ⟩, h2, fun y hy => by cases hy⟩
  | some y =>
    obtain ⟨x, h'', σ', a1, ⟨Z', hZ'⟩, a3, a4⟩ := hf y h' σ ⟨Z, hZ⟩ h2 (h3 y rfl)
    refine ⟨x, h'', σ ++ σ', a1, ⟨Z ++ Z', ?_⟩, ?_, fun z hz => ?_⟩
    · rw [hZ', hZ, List.append_assoc]
    · rw [← List.append_assoc]; exact a3
    · rw [← List.append_assoc]; exact a4 z hz
theorem sdA_n {c : CS} {ρ : Nat → Ty} {s : Ty} (bo : Bool) : sdA c ρ bo (-1) s = if bo = true then bxp ρ s else itp ρ s := by unfold sdA; rw [if_pos rfl]
theorem sdA_e {c : CS} {ρ : Nat → Ty} {s : Ty} (bo : Bool) (e : Nat) : sdA c ρ bo (e : Int) s = itp (fun k => if bo = true then bxp ρ (fo c e k) else itp ρ (fo c e k)) s := by unfold sdA; rw [if_neg (by omega)]; rfl
theorem bx_T {T : List Tok} {D : List Df} {t : Tr} {c : CS} {E : Ev} (ρ : Nat → Ty) (bo : Bool) (s : Ty) : ∀ (v : Va) (h : Hp) (τ : List Ty), tyG s → tyL s ≤ 200 → hT T D t c τ E h.1 → vT τ v (sdA c ρ (!bo) (-1) s) → hG T D t c E τ h (sdA c ρ bo (-1) s) (bxA bo s v h) := by
  induction s with
  | num k =>
    intro v h τ hg hl hh hv
    unfold bxA
    by_cases hk : 2 ≤ k
    · rw [if_pos hk]
      have e : sdA c ρ bo (-1) (.num k) = sdA c ρ (!bo) (-1) (.num k) := by
        rw [sdA_n, sdA_n, bxp_k (by omega), itp_k (by omega)]; cases bo <;> rfl
      rw [e]; exact hG_id h.2 hh hv
    · rw [if_neg hk]
      have eb : bxp ρ (.num k) = .num (k + 2) := by unfold bxp; rw [if_pos (by omega)]
      have ei : itp ρ (.num k) = .num k := by unfold itp; rw [if_pos (by omega)]
      cases bo with
      | true =>
        rw [if_pos rfl]
        rw [sdA_n] at hv ⊢
        have hv' : vT τ v (itp ρ (.num k)) := hv
        rw [ei] at hv'
        show hG T D t c E τ h (bxp ρ (.num k)) _
        rw [eb]
        refine hG_mk 4 _ hh ?_ (by omega) ⟨by omega, by show 2 + k = k + 2; omega, hv'⟩
        exact tgO_k (by omega)
      | false =>
        rw [if_neg (by decide)]
        rw [sdA_n] at hv ⊢
        have hv' : vT τ v (bxp ρ (.num k)) := hv
        rw [eb] at hv'
        show hG T D t c E τ h (itp ρ (.num k)) _
        rw [ei]
        obtain ⟨i, it, a1, a2, a3, a4, a5⟩ := vT_it hh hv' (by rw [tgO_k (by omega)]; omega)
        obtain ⟨b1, b2, b3⟩ := a5
        rw [hAt_je a1 a2, a3]
        show hG T D t c E τ h (.num k) (if it.1 = 2 ∨ it.1 = 3 then some (some it.2.1, (h.1, h.2 + 1)) else none)
        rw [if_pos (by omega)]
        exact hG_id _ hh b3
  | var k => intro v h τ hg; exact hg.elim
  | add a b iha ihb =>
    intro v h τ hg hl hh hv
    have hl' : tyL a + tyL b ≤ 200 := hl
    unfold bxA
    have ea : ∀ bo : Bool, sdA c ρ bo (-1) (.add a b) = .add (sdA c ρ bo (-1) a) (sdA c ρ bo (-1) b) := fun bo => by
      rw [sdA_n, sdA_n, sdA_n]; cases bo <;> rfl
    rw [ea] at hv ⊢
    obtain ⟨i, it, a1, a2, a3, a4, a5⟩ := vT_it hh hv (by show ¬ (2 < 2); omega)
    obtain ⟨b1, b2, b3⟩ := a5
    rw [hAt_je a1 a2, a3]
    show hG T D t c E τ h _ (if it.1 = 0 then _ else none)
    rw [if_pos b1]
    refine hG_b (iha it.2.1 h τ hg.1 (by omega) hh b2) (fun x h1 σ _ g1 g2 => ?_)
    refine hG_b (ihb it.2.2.1 h1 (τ ++ σ) hg.2 (by omega) g1 (vT_app b3 σ)) (fun y h2 σ' _ g3 g4 => ?_)
    exact hG_mk 2 _ g3 rfl (by omega) ⟨rfl, vT_app g2 σ', g4⟩
  | mul a b _ _ =>
    intro v h τ hg hl hh hv
    unfold bxA
    refine hG_mk 3 _ hh ?_ (by omega) ?_
    · rw [sdA_mul]; rfl
    · rw [sdA_mul]
      refine Or.inr ⟨bo, ρ, a, b, rfl, rfl, ⟨hg, Or.inl ⟨rfl, hl⟩⟩, hv, ?_⟩
      rw [sdA_mul]
theorem ad_T {T : List Tok} {D : List Df} {t : Tr} {c : CS} {E : Ev} (ρ : Nat → Ty) (bo : Bool) {e : Nat} (he : e < t.1) (hf : ∀ k r, c.2.2.1 e k = some r → tyL r ≤ 200 ∧ tyG r) (s : Ty) : ∀ (v : Va) (h : Hp) (τ : List Ty), tyG s → tyL s ≤ 100 → (∃ r, sbt (c.2.2.1 e) s = some r) → hT T D t c τ E h.1 → vT τ v (sdA c ρ (!bo) (e : Int) s) → hG T D t c E τ h (sdA c ρ bo (e : Int) s) (adA bo (c.2.2.1 e) e s v h) := by
  have e0 : ∀ (s : Ty), tyM s = 0 → ∀ b b' : Bool, sdA c ρ b (e : Int) s = sdA c ρ b' (e : Int) s := fun s hs b b' => by
    rw [sdA_e, sdA_e]; exact itp_0 _ _ hs
  induction s with
  | num k =>
    intro v h τ hg hl hr hh hv
    unfold adA
    by_cases hk : k < 2
    · rw [if_pos hk, e0 (.num k) (by show (if k < 2 then 0 else _) = 0; rw [if_pos hk]) bo (!bo)]
      exact hG_id h.2 hh hv
    · rw [if_neg hk]
      obtain ⟨r, hr⟩ := hr
      unfold sbt at hr
      rw [if_neg hk] at hr
      obtain ⟨r1, r2⟩ := hf _ _ hr
      have es : ∀ b : Bool, sdA c ρ b (e : Int) (.num k) = sdA c ρ b (-1) r := fun b => by
        have : fo c e (k - 2) = r := by unfold fo; rw [hr]
        rw [sdA_e, sdA_n, itp_k hk, this]
      rw [hr, es]
      rw [es] at hv
      exact bx_T ρ bo r v h τ r2 r1 hh hv
  | var k => intro v h τ hg; exact hg.elim
  | add a b iha ihb =>
    intro v h τ hg hl hr hh hv
    have hl' : tyL a + tyL b ≤ 100 := hl
    unfold adA
    by_cases h0 : tyM (.add a b) = 0
    · rw [if_pos h0, e0 _ h0 bo (!bo)]; exact hG_id h.2 hh hv
    · rw [if_neg h0]
      obtain ⟨r, hr⟩ := hr
      unfold sbt at hr
      obtain ⟨x, x1, hr⟩ := Option.bind_eq_some_iff.mp hr
      obtain ⟨y, y1, hr⟩ := Option.bind_eq_some_iff.mp hr
      have ea : ∀ bo : Bool, sdA c ρ bo (e : Int) (.add a b) = .add (sdA c ρ bo (e : Int) a) (sdA c ρ bo (e : Int) b) := fun bo => by
        rw [sdA_e, sdA_e, sdA_e]; rfl
      rw [ea] at hv ⊢
      obtain ⟨i, it, a1, a2, a3, a4, a5⟩ := vT_it hh hv (by show ¬ (2 < 2); omega)
      obtain ⟨b1, b2, b3⟩ := a5
      rw [hAt_je a1 a2, a3]
      show hG T D t c E τ h _ (if it.1 = 0 then _ else none)
      rw [if_pos b1]
      refine hG_b (iha it.2.1 h τ hg.1 (by omega) ⟨x, x1⟩ hh b2) (fun x h1 σ _ g1 g2 => ?_)
      refine hG_b (ihb it.2.2.1 h1 (τ ++ σ) hg.2 (by omega) ⟨y, y1⟩ g1 (vT_app b3 σ)) (fun y h2 σ' _ g3 g4 => ?_)
      exact hG_mk 2 _ g3 rfl (by omega) ⟨rfl, vT_app g2 σ', g4⟩
  | mul a b _ _ =>
    intro v h τ hg hl hr hh hv
    unfold adA
    by_cases h0 : tyM (.mul a b) = 0
    · rw [if_pos h0, e0 _ h0 bo (!bo)]; exact hG_id h.2 hh hv
    · rw [if_neg h0]
      refine hG_mk 3 _ hh ?_ (by omega) ?_
      · rw [sdA_mul]; rfl
      · rw [sdA_mul]
        refine Or.inr ⟨bo, ρ, a, b, rfl, rfl, ⟨hg, Or.inr ⟨e, rfl, he, hl, hf, hr⟩⟩, hv, ?_⟩
        rw [sdA_mul]
theorem adp_T {T : List Tok} {D : List Df} {t : Tr} {c : CS} {E : Ev} (ρ : Nat → Ty) (bo : Bool) {site : Int} {s : Ty} (ha : aOK t c site s) {v : Va} {h : Hp} {τ : List Ty} (hh : hT T D t c τ E h.1) (hv : vT τ v (sdA c ρ (!bo) site s)) : hG T D t c E τ h (sdA c ρ bo site s) (adp c bo site s v h) := by
  obtain ⟨hg, ⟨rfl, hl⟩ | ⟨e, rfl, he, hl, hf, hr⟩⟩ := ha
  · unfold adp; rw [if_pos rfl]; exact bx_T ρ bo s v h τ hg hl hh hv
  · unfold adp; rw [if_neg (by omega)]; exact ad_T ρ bo he hf s v h τ hg hl hr hh hv
theorem aOK_mul {t : Tr} {c : CS} {site : Int} {A B : Ty} (h : aOK t c site (.mul A B)) : aOK t c site A ∧ aOK t c site B := by
  obtain ⟨hg, ⟨rfl, hl⟩ | ⟨e, rfl, he, hl, hf, r, hr⟩⟩ := h
  · have hl' : tyL A + tyL B ≤ 200 := hl
    exact ⟨⟨hg.1, Or.inl ⟨rfl, by omega⟩⟩, ⟨hg.2, Or.inl ⟨rfl, by omega⟩⟩⟩
  · have hl' : tyL A + tyL B ≤ 100 := hl
    unfold sbt at hr
    obtain ⟨x, x1, hr⟩ := Option.bind_eq_some_iff.mp hr
    obtain ⟨y, y1, hr⟩ := Option.bind_eq_some_iff.mp hr
    exact ⟨⟨hg.1, Or.inr ⟨e, rfl, he, by omega, hf, x, x1⟩⟩, ⟨hg.2, Or.inr ⟨e, rfl, he, by omega, hf, y, y1⟩⟩⟩
def rt (c : CS) (bx : Bool) (ρ : Nat → Ty) (e : Nat) : Ty := if bx = true ∧ c.2.2.2 e = true then bxp ρ (tE c e) else itp ρ (tE c e)
def cEn (c : CS) (bx : Bool) (ρ : Nat → Ty) (e : Nat) : Nat → Ty := fun k => if bx = true then bxp ρ (fo c e k) else itp ρ (fo c e k)
theorem rt_n {c : CS} {bx : Bool} {ρ : Nat → Ty} {e : Nat} (h : c.2.2.2 e = false) : rt c bx ρ e = itp ρ (tE c e) := by
  unfold rt; rw [if_neg (by rw [h]; rintro ⟨_, h⟩; cases h)]
def fC (D : List Df) (t : Tr) (c : CS) (bx : Bool) (τ : List Ty) (e q j : Nat) (hd : List Va) (ρ : Nat → Ty) (r : Ty) : Prop :=
  (q = 1 ∧ ((j = (t.2.1 e).2.2.2.2.2.2.length ∧ r = rt c bx ρ e) ∨ (j < (t.2.1 e).2.2.2.2.2.2.length ∧ c.2.2.2 e = false ∧ (∀ d, c.2.1 e = some d → (dPs D d).length ≤ j) ∧ ∃ X, r = itp ρ X ∧ apF c.1 X ((t.2.1 e).2.2.2.2.2.2.drop j) = some (tE c e)))) ∨
  (q = 2 ∧ 1 ≤ j ∧ j ≤ (t.2.1 e).2.2.2.2.2.2.length ∧ c.2.2.2 e = false ∧ (∀ d, c.2.1 e = some d → (dPs D d).length ≤ j) ∧ ∃ f X s, hd = [f] ∧ vT τ f (.mul (itp ρ s) (itp ρ X)) ∧ r = itp ρ s ∧ apF c.1 X ((t.2.1 e).2.2.2.2.2.2.drop j) = some (tE c e)) ∨
  (q = 3 ∧ j = hd.length + 1 ∧ ∃ d a : Nat, c.2.1 e = some d ∧ hd.length < (dPs D d).length ∧ (t.2.1 e).2.2.2.2.2.2[hd.length]? = some a ∧ r = rt c bx ρ a ∧ ∀ (k : Nat) (x : Va) (p : Ty), hd[k]? = some x → (dPs D d)[k]? = some p → vT τ x (itp (cEn c bx ρ e) p)) ∨
  (q = 4 ∧ ∃ d, c.2.1 e = some d ∧ j = (dPs D d).length ∧ r = itp (cEn c bx ρ e) (dTy D d))
def fN (D : List Df) (t : Tr) (c : CS) (bx : Bool) (τ : List Ty) (e q j : Nat) (hd : List Va) (ρ : Nat → Ty) (r : Ty) : Prop :=
  (q = 0 ∧ j = 0 ∧ hd = []) ∨
  ((t.2.1 e).1 = 7 ∧ ((q = 1 ∧ r = itp ρ (tE c (t.2.1 e).2.2.1.toNat)) ∨ (q = 2 ∧ r = itp ρ (tE c e)))) ∨
  ((t.2.1 e).1 = 8 ∧ (q = 1 ∨ (q = 2 ∧ r = itp ρ (tE c e)))) ∨
  (((t.2.1 e).1 = 14 ∨ (t.2.1 e).1 = 15) ∧ q = 1 ∧ r = itp ρ (tE c (t.2.1 e).2.2.1.toNat)) ∨
  ((10 ≤ (t.2.1 e).1 ∧ (t.2.1 e).1 ≤ 13) ∧ ((q = 1 ∧ hd = [] ∧ r = itp ρ (tE c (t.2.1 e).2.2.1.toNat)) ∨ (q = 2 ∧ ∃ a, hd = [a] ∧ vT τ a (itp ρ (tE c (t.2.1 e).2.2.1.toNat)) ∧ r = itp ρ (tE c (t.2.1 e).2.2.2.1.toNat)))) ∨
  (((t.2.1 e).1 = 3 ∨ (t.2.1 e).1 = 4) ∧ (q = 4 ∨ q = 1) ∧ r = itp ρ (tE c e)) ∨
  ((t.2.1 e).1 = 16 ∧ fC D t c bx τ e q j hd ρ r)
def nOK (T : List Tok) (D : List Df) (t : Tr) (c : CS) (E : Ev) (e b : Nat) (ρ : Nat → Ty) : Prop := ∃ (d : Nat) (S : Nat → Prop), nS T D t d S e ∧ eT D c E d ρ S b ∧ b ≤ 60000 ∧ ∃ s, c.1 e = some s
def fT (T : List Tok) (D : List Df) (t : Tr) (c : CS) (bx : Bool) (τ : List Ty) (E : Ev) (H : List It) (fr : Fr) (r r' : Ty) : Prop := match fr.1 with
  | some e => ∃ ρ, nOK T D t c E e fr.2.1 ρ ∧ r' = rt c bx ρ e ∧ fN D t c bx τ e fr.2.2.1 fr.2.2.2.1 fr.2.2.2.2 ρ r
  | none => ∃ (f : Va) (i : Nat) (it : It) (ρ : Nat → Ty) (bo : Bool) (A B : Ty), fr.2 = (0, 1, 0, [f]) ∧ f.2 = je (i : Nat) ∧ i < 4000 ∧ H[i]? = some it ∧ it.1 = (if bo = true then 4 else 5) ∧ it.2.2.2.1 = .mul A B ∧ aOK t c it.2.2.2.2 (.mul A B) ∧ r = sdA c ρ (!bo) it.2.2.2.2 B ∧ r' = sdA c ρ bo it.2.2.2.2 B
def sTk (T : List Tok) (D : List Df) (t : Tr) (c : CS) (bx : Bool) (τ : List Ty) (E : Ev) (H : List It) (R : Ty) : List Fr → Ty → Prop
  | [], r => r = R
  | fr :: F, r => ∃ r', fT T D t c bx τ E H fr r r' ∧ sTk T D t c bx τ E H R F r'
theorem nOK_mono {T : List Tok} {D : List Df} {t : Tr} {c : CS} {E E' : Ev} {e b : Nat} {ρ : Nat → Ty} (h : nOK T D t c E e b ρ) (hM : mE E E') : nOK T D t c E' e b ρ := by
  obtain ⟨d, S, h1, h2, h3⟩ := h
  exact ⟨d, S, h1, eT_mono h2 hM, h3⟩
theorem fN_mono {D : List Df} {t : Tr} {c : CS} {bx : Bool} {τ : List Ty} {e q j : Nat} {hd : List Va} {ρ : Nat → Ty} {r : Ty} (h : fN D t c bx τ e q j hd ρ r) (σ : List Ty) : fN D t c bx (τ ++ σ) e q j hd ρ r := by
  rcases h with h | h | h | h | ⟨h, h' | ⟨h1, a, h2, h3, h4⟩⟩ | h | ⟨h, h'⟩
  · exact Or.inl h
  · exact Or.inr (Or.inl h)
  · exact Or.inr (Or.inr (Or.inl h))
  · exact Or.inr (Or.inr (Or.inr (Or.inl h)))
  · exact Or.inr (Or.inr (Or.inr (Or.inr (Or.inl ⟨h, Or.inl h'⟩))))
  · exact Or.inr (Or.inr (Or.inr (Or.inr (Or.inl ⟨h, Or.inr ⟨h1, a, h2, vT_app h3 σ, h4⟩⟩))))
  · exact Or.inr (Or.inr (Or.inr (Or.inr (Or.inr (Or.inl h)))))
  · refine Or.inr (Or.inr (Or.inr (Or.inr (Or.inr (Or.inr ⟨h, ?_⟩)))))
    rcases h' with h' | ⟨k1, k2, k3, k4, k5, f, X, s, k6, k7, k8⟩ | ⟨k1, k2, d, a, k3, k4, k5, k6, k7⟩ | h'
    · exact Or.inl h'
    · exact Or.inr (Or.inl ⟨k1, k2, k3, k4, k5, f, X, s, k6, vT_app k7 σ, k8⟩)
    · exact Or.inr (Or.inr (Or.inl ⟨k1, k2, d, a, k3, k4, k5, k6, fun k x p h1 h2 => vT_app (k7 k x p h1 h2) σ⟩))
    · exact Or.inr (Or.inr (Or.inr h'))
theorem getz {α : Type} {H : List α} {i : Nat} {it : α} (h : H[i]? = some it) (Z : List α) : (H ++ Z)[i]? = some it := by rw [List.getElem?_append_left (List.getElem?_eq_some_iff.mp h).1]; exact h
theorem fT_mono {T : List Tok} {D : List Df} {t : Tr} {c : CS} {bx : Bool} {τ : List Ty} {E E' : Ev} {H : List It} {fr : Fr} {r r' : Ty} (h : fT T D t c bx τ E H fr r r') (σ : List Ty) (Z : List It) (hM : mE E E') : fT T D t c bx (τ ++ σ) E' (H ++ Z) fr r r' := by
  obtain ⟨n, w⟩ := fr
  cases n with
  | some e =>
    obtain ⟨ρ, h1, h2, h3⟩ := h
    exact ⟨ρ, nOK_mono h1 hM, h2, fN_mono h3 σ⟩
  | none =>
    obtain ⟨f, i, it, ρ, bo, A, B, k1, k2, k3, k4, k5⟩ := h
    exact ⟨f, i, it, ρ, bo, A, B, k1, k2, k3, getz k4 Z, k5⟩
theorem sTk_mono {T : List Tok} {D : List Df} {t : Tr} {c : CS} {bx : Bool} {τ : List Ty} {E E' : Ev} {H : List It} {R : Ty} (σ : List Ty) (Z : List It) (hM : mE E E') : ∀ {F : List Fr} {r : Ty}, sTk T D t c bx τ E H R F r → sTk T D t c bx (τ ++ σ) E' (H ++ Z) R F r
  | [], _, h => h
  | _ :: _, _, ⟨r', h1, h2⟩ => ⟨r', fT_mono h1 σ Z hM, sTk_mono σ Z hM h2⟩
def lT (τ : List Ty) (E : Ev) : Prop := ∀ i v, E.2.1 i = some v → ∃ r, E.1 i = some r ∧ vT τ v r
theorem lT_app {τ : List Ty} {E : Ev} (h : lT τ E) (σ : List Ty) : lT (τ ++ σ) E := fun i v hi => by
  obtain ⟨r, h2, h3⟩ := h i v hi
  exact ⟨r, h2, vT_app h3 σ⟩
def wM (T : List Tok) (D : List Df) (t : Tr) (c : CS) (bx : Bool) (R : Ty) (τ : List Ty) (E : Ev) (H : List It) (F : List Fr) (v : Va) (m : Mo) : Prop :=
  (∃ a b ρ, m = (0, a, b, v0) ∧ nOK T D t c E a b ρ ∧ sTk T D t c bx τ E H R F (rt c bx ρ a)) ∨
  (∃ f a r, m = (1, 0, 0, f) ∧ vT τ f (.mul a r) ∧ vT τ v a ∧ sTk T D t c bx τ E H R F r) ∨
  (∃ f F' i it a r, m = (3, 0, 0, f) ∧ F = (none, 0, 0, 0, [f]) :: F' ∧ vT τ f (.mul a r) ∧ f.2 = je (i : Nat) ∧ H[i]? = some it ∧ (it.1 = 4 ∨ it.1 = 5) ∧ vT τ v a ∧ sTk T D t c bx τ E H R F' r) ∨
  (m = rM ∧ ∃ r, sTk T D t c bx τ E H R F r ∧ (vT τ v r ∨ ∃ e b F', F = (some e, b, 0, 0, []) :: F'))
def wT (T : List Tok) (D : List Df) (t : Tr) (c : CS) (bx : Bool) (R : Ty) (hp : Hp) (L : Lo) (lc : Nat) (F : List Fr) (v : Va) (m : Mo) : Prop := ∃ τ M, hT T D t c τ (M, L, lc) hp.1 ∧ lT τ (M, L, lc) ∧ lc ≤ 60000 ∧ wM T D t c bx R τ (M, L, lc) hp.1 F v m
def wS (T : List Tok) (D : List Df) (t : Tr) (c : CS) (bx : Bool) (R : Ty) (s : Ms) : Prop := wT T D t c bx R s.1 s.2.1 s.2.2.1 s.2.2.2.1 s.2.2.2.2.1 s.2.2.2.2.2.2.2.2
