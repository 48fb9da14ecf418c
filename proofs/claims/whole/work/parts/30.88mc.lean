set_option maxRecDepth 100000
theorem tyQ_imp {a : Ty} : ∀ {b : Ty}, tyQ a b = true → a = b := by
  induction a with
  | num k => intro b h; cases b with
    | num l => have h' : Nat.beq k l = true := h; rw [Nat.beq_eq] at h'; rw [h']
    | var l => cases h
    | add c d => cases h
    | mul c d => cases h
  | var k => intro b h; cases b <;> cases h
  | add a b iha ihb => intro x h; cases x with
    | num l => cases h
    | var l => cases h
    | add c d => have h' : (tyQ a c && tyQ b d) = true := h; rw [Bool.and_eq_true] at h'; rw [iha h'.1, ihb h'.2]
    | mul c d => cases h
  | mul a b iha ihb => intro x h; cases x with
    | num l => cases h
    | var l => cases h
    | add c d => cases h
    | mul c d => have h' : (tyQ a c && tyQ b d) = true := h; rw [Bool.and_eq_true] at h'; rw [iha h'.1, ihb h'.2]
theorem sbt_mono {f f' : Fi} (h : ∀ b r, f b = some r → f' b = some r) {p : Ty} : ∀ {s : Ty}, sbt f p = some s → sbt f' p = some s := by
  induction p with
  | num k =>
    intro s hs
    unfold sbt at hs ⊢
    by_cases hk : k < 2
    · rw [if_pos hk] at hs ⊢; exact hs
    · rw [if_neg hk] at hs ⊢; exact h _ _ hs
  | var k => intro s hs; cases hs
  | add a b iha ihb =>
    intro s hs
    unfold sbt at hs ⊢
    obtain ⟨x, x1, hs⟩ := Option.bind_eq_some_iff.mp hs
    obtain ⟨y, y1, hs⟩ := Option.bind_eq_some_iff.mp hs
    rw [iha x1, ihb y1]; exact hs
  | mul a b iha ihb =>
    intro s hs
    unfold sbt at hs ⊢
    obtain ⟨x, x1, hs⟩ := Option.bind_eq_some_iff.mp hs
    obtain ⟨y, y1, hs⟩ := Option.bind_eq_some_iff.mp hs
    rw [iha x1, ihb y1]; exact hs
theorem fit_sbt {p : Ty} : ∀ {s : Ty} {f f' : Fi}, tyG p → fit p s f = some f' → sbt f' p = some s := by
  induction p with
  | num k =>
    intro s f f' _ h
    unfold fit at h
    unfold sbt
    by_cases hk : k < 2
    · rw [if_pos hk] at h ⊢
      by_cases e : tyQ (.num k) s = true
      · rw [tyQ_imp e]
      · rw [if_neg e] at h; cases h
    · rw [if_neg hk] at h ⊢
      cases e : f (k - 2) with
      | none => rw [e] at h; cases h; exact upd_same _ _ _
      | some r =>
        rw [e] at h
        have h' : (if tyQ r s = true then some f else none) = some f' := h
        by_cases e2 : tyQ r s = true
        · rw [if_pos e2] at h'; cases h'; rw [e, tyQ_imp e2]
        · rw [if_neg e2] at h'; cases h'
  | var k => intro s f f' hg; exact hg.elim
  | add a b iha ihb =>
    intro s f f' hg h
    unfold fit at h
    by_cases e0 : tyM (.add a b) = 0
    · rw [if_pos e0] at h
      by_cases e : tyQ (.add a b) s = true
      · rw [← tyQ_imp e]; exact sbt_0 _ hg e0
      · rw [if_neg e] at h; cases h
    · rw [if_neg e0] at h
      cases s with
      | num l => cases h
      | var l => cases h
      | mul c d => cases h
      | add c d =>
        have h' : (fit a c f).bind (fun f' => fit b d f') = some f' := h
        obtain ⟨f1, h1, h2⟩ := Option.bind_eq_some_iff.mp h'
        unfold sbt
        rw [sbt_mono (fit_dom h2).1 (iha hg.1 h1), ihb hg.2 h2]; rfl
  | mul a b iha ihb =>
    intro s f f' hg h
    unfold fit at h
    by_cases e0 : tyM (.mul a b) = 0
    · rw [if_pos e0] at h
      by_cases e : tyQ (.mul a b) s = true
      · rw [← tyQ_imp e]; exact sbt_0 _ hg e0
      · rw [if_neg e] at h; cases h
    · rw [if_neg e0] at h
      cases s with
      | num l => cases h
      | var l => cases h
      | add c d => cases h
      | mul c d =>
        have h' : (fit a c f).bind (fun f' => fit b d f') = some f' := h
        obtain ⟨f1, h1, h2⟩ := Option.bind_eq_some_iff.mp h'
        unfold sbt
        rw [sbt_mono (fit_dom h2).1 (iha hg.1 h1), ihb hg.2 h2]; rfl
theorem fits_sbt {ty : Nat → Option Ty} : ∀ (ps : List Ty) (l : List Nat) (f f' : Fi), (∀ p ∈ ps, tyG p) → fits ty ps l f = some f' → ∀ (i : Nat) (p : Ty), ps[i]? = some p → ∃ a s, l[i]? = some a ∧ ty a = some s ∧ sbt f' p = some s
  | [], _, _, _, _, _, i, p, hp => by cases hp
  | _ :: _, [], _, _, _, h, _, _, _ => by cases h
  | p :: ps, a :: l, f, f', hg, h, i, q, hq => by
    unfold fits at h
    cases e : ty a with
    | none => rw [e] at h; cases h
    | some s =>
      rw [e] at h
      obtain ⟨f1, h1, h2⟩ := Option.bind_eq_some_iff.mp h
      cases i with
      | zero =>
        cases hq
        exact ⟨a, s, rfl, e, sbt_mono (fits_dom ps l f1 f' h2).1 (fit_sbt (hg p List.mem_cons_self) h1)⟩
      | succ i => exact fits_sbt ps l f1 f' (fun p hp => hg p (List.mem_cons_of_mem _ hp)) h2 i q hq
theorem fit_ran {p : Ty} (Q : Ty → Prop) : ∀ {s : Ty} {f f' : Fi}, (∀ a b, Q (.add a b) → Q a ∧ Q b) → (∀ a b, Q (.mul a b) → Q a ∧ Q b) → Q s → (∀ k r, f k = some r → Q r) → fit p s f = some f' → ∀ k r, f' k = some r → Q r := by
  induction p with
  | num k =>
    intro s f f' _ _ hs hf h j r hr
    unfold fit at h
    by_cases hk : k < 2
    · rw [if_pos hk] at h
      by_cases e : tyQ (.num k) s = true
      · rw [if_pos e] at h; cases h; exact hf j r hr
      · rw [if_neg e] at h; cases h
    · rw [if_neg hk] at h
      cases e : f (k - 2) with
      | none =>
        rw [e] at h; cases h
        by_cases ej : j = k - 2
        · rw [ej, upd_same] at hr; cases hr; exact hs
        · rw [upd_ne _ _ _ _ ej] at hr; exact hf j r hr
      | some r' =>
        rw [e] at h
        have h' : (if tyQ r' s = true then some f else none) = some f' := h
        by_cases e2 : tyQ r' s = true
        · rw [if_pos e2] at h'; cases h'; exact hf j r hr
        · rw [if_neg e2] at h'; cases h'
  | var k => intro s f f' _ _ _ _ h; cases h
  | add a b iha ihb =>
    intro s f f' q1 q2 hs hf h
    unfold fit at h
    by_cases e0 : tyM (.add a b) = 0
    · rw [if_pos e0] at h
      by_cases e : tyQ (.add a b) s = true
      · rw [if_pos e] at h; cases h; exact hf
      · rw [if_neg e] at h; cases h
    · rw [if_neg e0] at h
      cases s with
      | num l => cases h
      | var l => cases h
      | mul c d => cases h
      | add c d =>
        have h' : (fit a c f).bind (fun f' => fit b d f') = some f' := h
        obtain ⟨f1, h1, h2⟩ := Option.bind_eq_some_iff.mp h'
        exact ihb q1 q2 (q1 _ _ hs).2 (iha q1 q2 (q1 _ _ hs).1 hf h1) h2
  | mul a b iha ihb =>
    intro s f f' q1 q2 hs hf h
    unfold fit at h
    by_cases e0 : tyM (.mul a b) = 0
    · rw [if_pos e0] at h
      by_cases e : tyQ (.mul a b) s = true
      · rw [if_pos e] at h; cases h; exact hf
      · rw [if_neg e] at h; cases h
    · rw [if_neg e0] at h
      cases s with
      | num l => cases h
      | var l => cases h
      | add c d => cases h
      | mul c d =>
        have h' : (fit a c f).bind (fun f' => fit b d f') = some f' := h
        obtain ⟨f1, h1, h2⟩ := Option.bind_eq_some_iff.mp h'
        exact ihb q1 q2 (q2 _ _ hs).2 (iha q1 q2 (q2 _ _ hs).1 hf h1) h2
theorem fits_ran {ty : Nat → Option Ty} (Q : Ty → Prop) (q1 : ∀ a b, Q (.add a b) → Q a ∧ Q b) (q2 : ∀ a b, Q (.mul a b) → Q a ∧ Q b) : ∀ (ps : List Ty) (l : List Nat) (f f' : Fi), (∀ a ∈ l, ∀ s, ty a = some s → Q s) → (∀ k r, f k = some r → Q r) → fits ty ps l f = some f' → ∀ k r, f' k = some r → Q r
  | [], _, _, _, _, hf, h => by cases h; exact hf
  | _ :: _, [], _, _, _, _, h => by cases h
  | p :: ps, a :: l, f, f', hl, hf, h => by
    unfold fits at h
    cases e : ty a with
    | none => rw [e] at h; cases h
    | some s =>
      rw [e] at h
      obtain ⟨f1, h1, h2⟩ := Option.bind_eq_some_iff.mp h
      exact fits_ran Q q1 q2 ps l f1 f' (fun a ha => hl a (List.mem_cons_of_mem _ ha)) (fit_ran Q q1 q2 (hl a List.mem_cons_self s e) hf h1) h2
def itp (ρ : Nat → Ty) : Ty → Ty
  | .num k => if k < 2 then .num k else ρ (k - 2)
  | .var i => .var i
  | .add a b => .add (itp ρ a) (itp ρ b)
  | .mul a b => .mul (itp ρ a) (itp ρ b)
def bxp (ρ : Nat → Ty) : Ty → Ty
  | .num k => if k < 2 then .num (k + 2) else ρ (k - 2)
  | .var i => .var i
  | .add a b => .add (bxp ρ a) (bxp ρ b)
  | .mul a b => .mul (bxp ρ a) (bxp ρ b)
theorem itp_0 {s : Ty} (ρ ρ' : Nat → Ty) (h : tyM s = 0) : itp ρ s = itp ρ' s := by
  induction s with
  | num k =>
    by_cases hk : k < 2
    · unfold itp; rw [if_pos hk, if_pos hk]
    · exfalso
      have h' : (if k < 2 then 0 else 2 ^ (k - 2)) = 0 := h
      rw [if_neg hk] at h'
      have := Nat.pow_pos (n := k - 2) (show 0 < 2 by omega)
      omega
  | var k => rfl
  | add a b iha ihb =>
    have h' : tyM a ||| tyM b = 0 := h
    have := Nat.or_eq_zero_iff.mp h'
    unfold itp; rw [iha this.1, ihb this.2]
  | mul a b iha ihb =>
    have h' : tyM a ||| tyM b = 0 := h
    have := Nat.or_eq_zero_iff.mp h'
    unfold itp; rw [iha this.1, ihb this.2]
def fo (c : CS) (e k : Nat) : Ty := match c.2.2.1 e k with
  | some s => s
  | none => .num 0
theorem itp_sbt {c : CS} {e : Nat} {p : Ty} : ∀ {s : Ty} (ρ : Nat → Ty), sbt (c.2.2.1 e) p = some s → itp ρ s = itp (fun k => itp ρ (fo c e k)) p := by
  induction p with
  | num k =>
    intro s ρ h
    unfold sbt at h
    by_cases hk : k < 2
    · rw [if_pos hk] at h; cases h; unfold itp; rw [if_pos hk, if_pos hk]
    · rw [if_neg hk] at h
      show itp ρ s = (if k < 2 then .num k else itp ρ (fo c e (k - 2)))
      rw [if_neg hk]; unfold fo; rw [h]
  | var k => intro s ρ h; cases h
  | add a b iha ihb =>
    intro s ρ h
    unfold sbt at h
    obtain ⟨x, x1, h⟩ := Option.bind_eq_some_iff.mp h
    obtain ⟨y, y1, h⟩ := Option.bind_eq_some_iff.mp h
    cases h
    show Nat.Internal.SOM.Expr.add (itp ρ x) (itp ρ y) = .add (itp _ a) (itp _ b)
    rw [iha ρ x1, ihb ρ y1]
  | mul a b iha ihb =>
    intro s ρ h
    unfold sbt at h
    obtain ⟨x, x1, h⟩ := Option.bind_eq_some_iff.mp h
    obtain ⟨y, y1, h⟩ := Option.bind_eq_some_iff.mp h
    cases h
    show Nat.Internal.SOM.Expr.mul (itp ρ x) (itp ρ y) = .mul (itp _ a) (itp _ b)
    rw [iha ρ x1, ihb ρ y1]
def tgO : Ty → Nat
  | .num k => if k < 2 then k else 4
  | .var _ => 9
  | .add _ _ => 2
  | .mul _ _ => 3
def vT (τ : List Ty) (v : Va) (r : Ty) : Prop := v.1 = tgO r ∧ (v.1 < 2 ∨ ∃ i : Nat, v.2 = je (i : Nat) ∧ i < 4000 ∧ τ[i]? = some r)
theorem vT_app {τ : List Ty} {v : Va} {r : Ty} (h : vT τ v r) (σ : List Ty) : vT (τ ++ σ) v r := ⟨h.1, h.2.imp id fun ⟨i, a, b, d⟩ => ⟨i, a, b, gapp d σ⟩⟩
theorem hAt_je {H : List It} {v : Va} {i : Nat} (h : v.2 = je (i : Nat)) (hi : i < 4000) : hAt H v = H[i]? := by
  unfold hAt; rw [h, je_toInt _ (by omega) (by omega), if_pos (by omega)]; rfl
def sdA (c : CS) (ρ : Nat → Ty) (bo : Bool) (site : Int) (s : Ty) : Ty := if site = -1 then (if bo = true then bxp ρ s else itp ρ s) else itp (fun k => if bo = true then bxp ρ (fo c site.toNat k) else itp ρ (fo c site.toNat k)) s
theorem sdA_mul (c : CS) (ρ : Nat → Ty) (bo : Bool) (site : Int) (a b : Ty) : sdA c ρ bo site (.mul a b) = .mul (sdA c ρ bo site a) (sdA c ρ bo site b) := by
  unfold sdA
  by_cases h : site = -1
  · rw [if_pos h, if_pos h, if_pos h]; cases bo <;> rfl
  · rw [if_neg h, if_neg h, if_neg h]; rfl
def lTd (D : List Df) (c : CS) (d l : Nat) : Option Ty := match D[d]? with
  | some x => lTy x.2.2.2.2.2.2 c.1 l
  | none => none
def tE (c : CS) (e : Nat) : Ty := match c.1 e with
  | some s => s
  | none => .num 0
theorem tE_s {c : CS} {e : Nat} {s : Ty} (h : c.1 e = some s) : tE c e = s := by unfold tE; rw [h]
abbrev Ev : Type := (Nat → Option Ty) × Lo × Nat
def eT (D : List Df) (c : CS) (E : Ev) (d : Nat) (ρ : Nat → Ty) (S : Nat → Prop) (b : Nat) : Prop := b + dWd D d ≤ E.2.2 ∧ (∀ l, l < dWd D d → E.1 (b + l) = (lTd D c d l).map (itp ρ)) ∧ ∀ l, S l → l < dWd D d ∧ ∃ v, E.2.1 (b + l) = some v
def fnT (T : List Tok) (D : List Df) (t : Tr) (c : CS) (E : Ev) (it : It) (a r : Ty) : Prop := it.1 = 1 ∧ ∃ (e b d : Nat) (ρ : Nat → Ty) (S : Nat → Prop), it.2.1.2 = je (e : Nat) ∧ it.2.2.1.2 = je (b : Nat) ∧ nS T D t d S e ∧ (t.2.1 e).1 = 9 ∧ eT D c E d ρ S b ∧ (∃ s, lTd D c d (t.2.1 e).2.2.2.2.1.toNat = some s ∧ a = itp ρ s) ∧ r = itp ρ (tE c (t.2.1 e).2.2.1.toNat)
def cvT (t : Tr) (c : CS) (τ : List Ty) (it : It) (r : Ty) : Prop := ∃ (bo : Bool) (ρ : Nat → Ty) (A B : Ty), it.1 = (if bo = true then 4 else 5) ∧ it.2.2.2.1 = .mul A B ∧ aOK t c it.2.2.2.2 (.mul A B) ∧ vT τ it.2.1 (sdA c ρ (!bo) it.2.2.2.2 (.mul A B)) ∧ r = sdA c ρ bo it.2.2.2.2 (.mul A B)
def iT (T : List Tok) (D : List Df) (t : Tr) (c : CS) (τ : List Ty) (E : Ev) (it : It) (r : Ty) : Prop := match r with
  | .num k => (k = 2 ∨ k = 3) ∧ it.1 = k ∧ vT τ it.2.1 (.num (k - 2))
  | .var _ => False
  | .add a b => it.1 = 0 ∧ vT τ it.2.1 a ∧ vT τ it.2.2.1 b
  | .mul a b => fnT T D t c E it a b ∨ cvT t c τ it (.mul a b)
def hT (T : List Tok) (D : List Df) (t : Tr) (c : CS) (τ : List Ty) (E : Ev) (H : List It) : Prop := H.length = τ.length ∧ H.length ≤ 4000 ∧ ∀ (i : Nat) (r : Ty) (it : It), τ[i]? = some r → H[i]? = some it → iT T D t c τ E it r
def mE (E E' : Ev) : Prop := E.2.2 ≤ E'.2.2 ∧ (∀ i, i < E.2.2 → E'.1 i = E.1 i) ∧ ∀ i v, i < E.2.2 → E.2.1 i = some v → ∃ v', E'.2.1 i = some v'
theorem mE_r (E : Ev) : mE E E := ⟨Nat.le_refl _, fun _ _ => rfl, fun _ v _ h => ⟨v, h⟩⟩
theorem eT_mono {D : List Df} {c : CS} {E E' : Ev} {d : Nat} {ρ : Nat → Ty} {S : Nat → Prop} {b : Nat} (h : eT D c E d ρ S b) (hM : mE E E') : eT D c E' d ρ S b := by
  obtain ⟨h1, h2, h3⟩ := h
  refine ⟨Nat.le_trans h1 hM.1, fun l hl => (hM.2.1 _ (by omega)).trans (h2 l hl), fun l hs => ?_⟩
  obtain ⟨a1, v, a2⟩ := h3 l hs
  exact ⟨a1, hM.2.2 _ v (by omega) a2⟩
theorem iT_mono {T : List Tok} {D : List Df} {t : Tr} {c : CS} {τ : List Ty} {E E' : Ev} {it : It} {r : Ty} (h : iT T D t c τ E it r) (σ : List Ty) (hM : mE E E') : iT T D t c (τ ++ σ) E' it r := by
  cases r with
  | num k => exact ⟨h.1, h.2.1, vT_app h.2.2 σ⟩
  | var k => exact h
  | add a b => exact ⟨h.1, vT_app h.2.1 σ, vT_app h.2.2 σ⟩
  | mul a b =>
    rcases h with ⟨h1, e, b', d, ρ, S, k1, k2, k3, k4, k5, k6⟩ | ⟨bo, ρ, A, B, k1, k2, k3, k4, k5⟩
    · exact Or.inl ⟨h1, e, b', d, ρ, S, k1, k2, k3, k4, eT_mono k5 hM, k6⟩
    · exact Or.inr ⟨bo, ρ, A, B, k1, k2, k3, vT_app k4 σ, k5⟩
theorem hT_mono {T : List Tok} {D : List Df} {t : Tr} {c : CS} {τ : List Ty} {E E' : Ev} {H : List It} (h : hT T D t c τ E H) (hM : mE E E') : hT T D t c τ E' H := by
  refine ⟨h.1, h.2.1, fun i r it h1 h2 => ?_⟩
  have := iT_mono (h.2.2 i r it h1 h2) [] hM
  rw [List.append_nil] at this; exact this
theorem hT_add {T : List Tok} {D : List Df} {t : Tr} {c : CS} {τ : List Ty} {E : Ev} {H : List It} (h : hT T D t c τ E H) (hl : H.length < 4000) {it : It} {r : Ty} (hi : iT T D t c τ E it r) : hT T D t c (τ ++ [r]) E (H ++ [it]) := by
  have hM := mE_r E
  refine ⟨by rw [List.length_append, List.length_append, h.1]; rfl, by rw [List.length_append]; show H.length + 1 ≤ 4000; omega, fun i r' it' h1 h2 => ?_⟩
  by_cases e : i < H.length
  · rw [List.getElem?_append_left e] at h2
    rw [List.getElem?_append_left (by rw [← h.1]; exact e)] at h1
    exact iT_mono (h.2.2 i r' it' h1 h2) _ hM
  · rw [List.getElem?_append_right (by omega)] at h2
    rw [List.getElem?_append_right (by rw [← h.1]; omega)] at h1
    have i0 : i - H.length = 0 := by
      have := (List.getElem?_eq_some_iff.mp h2).1
      rw [List.length_singleton] at this; omega
    rw [i0] at h2
    rw [← h.1, i0] at h1
    cases h1; cases h2
    exact iT_mono hi _ hM
theorem vT_new {τ : List Ty} {H : List It} (h : H.length = τ.length) (hl : H.length < 4000) (r : Ty) (hr : ¬ (tgO r < 2)) : vT (τ ++ [r]) (tgO r, je (H.length : Nat)) r := by
  refine ⟨rfl, Or.inr ⟨H.length, rfl, hl, ?_⟩⟩
  rw [h, List.getElem?_append_right (Nat.le_refl _), Nat.sub_self]; rfl
theorem vT_it {T : List Tok} {D : List Df} {t : Tr} {c : CS} {τ : List Ty} {E : Ev} {H : List It} {v : Va} {r : Ty} (h : hT T D t c τ E H) (hv : vT τ v r) (hr : ¬ (tgO r < 2)) : ∃ (i : Nat) (it : It), v.2 = je (i : Nat) ∧ i < 4000 ∧ H[i]? = some it ∧ τ[i]? = some r ∧ iT T D t c τ E it r := by
  rcases hv.2 with h1 | ⟨i, h1, h2, h3⟩
  · rw [hv.1] at h1; exact absurd h1 hr
  · have hi := (List.getElem?_eq_some_iff.mp h3).1
    rw [← h.1] at hi
    exact ⟨i, H[i], h1, h2, List.getElem?_eq_getElem hi, h3, h.2.2 i r _ h3 (List.getElem?_eq_getElem hi)⟩
