set_option maxRecDepth 100000
def wO (T : List Tok) (d f0 : Nat) (s : PS) (q : Nat × PS) : Prop := pu_W T d f0 s.2.2 q.2.2.2 [q.1] [] ∧ rf q.2.2.2 q.1 ∧ q.1 + 1 = q.2.2.2.2.1
def scG (f0 : Nat) (y : YT) (sc : Sc) : Prop := ∀ x ∈ sc, lOK y f0 y.2.1 x.2
def wR (T : List Tok) (d f0 : Nat) (r : PR) : Prop := ∀ sc s q, s.1 ≤ T.length → s.2.2.1.1 ≤ 24 → scG f0 s.2.2 sc → f0 ≤ s.2.2.2.1 → r sc s = .ok q → wO T d f0 s q ∧ (q.2.2.2.2.2.1 q.1).1 ≠ 4
theorem scG_W {T : List Tok} {d f0 : Nat} {s q : YT} {P : List Nat} {X : List (Nat × Nat)} {sc : Sc} (h : scG f0 s sc) (w : pu_W T d f0 s q P X) : scG f0 q sc := fun x hx =>
  lOK_mono (h x hx) w.1.2.1 (fun i hi => (w.2.1 i hi).1) w.1.2.2 (fun l hl _ => w.2.2.1 l hl)
theorem fnd_mem {sc : Sc} {v : Int64} {l : Nat} (h : fnd sc v = some l) : (v, l) ∈ sc := by
  induction sc with
  | nil => cases h
  | cons x sc ih =>
    unfold fnd at h
    by_cases e : x.1 = v
    · rw [if_pos e] at h; cases h; rw [← e]; exact List.mem_cons_self
    · rw [if_neg e] at h; exact List.mem_cons_of_mem _ (ih h)
theorem w_leaf {T : List Tok} {d f0 k : Nat} {l : Int} {s : PS} (hf : f0 ≤ s.2.2.2.1) (h1 : s.1 < T.length) (h2 : k ≤ 4) (h3 : k = 2 → ∃ l' : Nat, l = l' ∧ lOK s.2.2 f0 s.2.2.2.1 l') (h4 : k = 3 ∨ k = 4 → tkK T s.1 = 1) : wO T d f0 s (pLeaf T k l s) := by
  refine ⟨?_, rf_add _ _, rfl⟩
  exact W_add (P1 := []) (C := []) (W_refl hf) (k, s.1, l, -1, -1, tkV T s.1, []) (fun a ha => by cases ha) (nW_new h1 ⟨by show k < 16; omega, by show k ≠ 5; omega, by show k ≠ 6; omega⟩ h3 (fun hk => ⟨h4 hk, rfl⟩) (fun hk => by have : k = 7 := hk; omega) (fun hk => by have : k = 9 := hk; omega) (fun hk => by have : 7 ≤ k := hk; omega) (fun hk => by have : k = 7 ∨ k = 8 ∨ 10 ≤ k ∧ k ≤ 13 := hk; omega) (fun hk => by have : k = 8 := hk; omega)) (fun a ha => by unfold row at ha; rw [if_neg (show ¬ (k = 16) by omega)] at ha; cases ha)
theorem wO_c {T : List Tok} {d f0 : Nat} {s : PS} {q : Nat × PS} (h : wO T d f0 s q) (hk : (q.2.2.2.2.2.1 q.1).1 ≠ 4) {P X} {p : YT} (w : pu_W T d f0 q.2.2.2 p P X) : cO p s.2.2.2.1 p.2.1 (q.1 : Nat) := by
  obtain ⟨h1, h2, h3⟩ := h
  obtain ⟨c1, c2, _⟩ := h1.2.2.2.2.2.1.2 q.1 (List.mem_singleton.mpr rfl)
  have := w.1.2.1
  exact ⟨q.1, rfl, c1, by have : q.2.2.2.2.1 ≤ p.2.1 := this; omega, by rw [(w.2.1 q.1 c2).1]; exact hk⟩
theorem row0 {x : Nd} (h : x.1 ≠ 16) {C : List Nat} : ∀ a ∈ row x, a ∈ C := fun a ha => by unfold row at ha; rw [if_neg h] at ha; cases ha
theorem w_two {T : List Tok} {d f0 : Nat} {s : PS} {q p : Nat × PS} (hq : wO T d f0 s q) (kq : (q.2.2.2.2.2.1 q.1).1 ≠ 4) (hp : wO T d f0 q.2 p) (kp : (p.2.2.2.2.2.1 p.1).1 ≠ 4) (k tk : Nat) (hk : 10 ≤ k ∧ k ≤ 13) (ht : tk < T.length) : pu_W T d f0 s.2.2 (p.2.2.2.1, tAdd p.2.2.2.2 (k, tk, q.1, p.1, -1, 0, [])) [p.2.2.2.2.1] [] := by
  have w2 : pu_W T d f0 s.2.2 p.2.2.2 ([] ++ [q.1, p.1]) [] := W_trans hq.1 hp.1
  have k4 : ∀ a ∈ [q.1, p.1], (p.2.2.2.2.2.1 a).1 ≠ 4 := by
    intro a ha
    rcases List.mem_cons.mp ha with rfl | ha
    · obtain ⟨j, j1, _, j3, j4⟩ := wO_c hq kq hp.1
      have : j = q.1 := by omega
      subst this; exact j4
    · rw [List.mem_singleton.mp ha]; exact kp
  refine W_add (P1 := []) w2 (k, tk, q.1, p.1, -1, 0, []) (fun a ha hh => absurd hh (k4 a ha)) (nW_new ht ⟨by show k < 16; omega, by show k ≠ 5; omega, by show k ≠ 6; omega⟩ (fun hh => by have : k = 2 := hh; omega) (fun hh => by have : k = 3 ∨ k = 4 := hh; omega) (fun hh => by have : k = 7 := hh; omega) (fun hh => by have : k = 9 := hh; omega) (fun _ _ => wO_c hq kq hp.1) (fun _ => ?_) (fun hh => by have : k = 8 := hh; omega)) (row0 (by show k ≠ 16; omega))
  obtain ⟨j, j1, j2, j3, j4⟩ := wO_c hp kp (W_refl (T := T) (d := d) (f0 := f0) (s := p.2.2.2) (by have := hp.1.1; omega))
  exact ⟨j, j1, by have := hq.1.1.2.1; have : s.2.2.2.1 ≤ q.2.2.2.2.1 := this; omega, j3, j4⟩
theorem w_atom {T : List Tok} {d f0 : Nat} {r : PR} (hb : bR T r) (hr : wR T d f0 r) (sc : Sc) (hd : Bool) (s : PS) (q : Nat × PS) (hs : s.1 ≤ T.length) (h24 : s.2.2.1.1 ≤ 24) (hsc : scG f0 s.2.2 sc) (hf : f0 ≤ s.2.2.2.1) (hq : pAtom r T sc hd s = .ok q) :
    wO T d f0 s q ∧ (tkK T s.1 = 1 → q.2.1 = s.1 + 1 ∧ ((q.2.2.2.2.2.1 q.1).1 = 2 ∨ (q.2.2.2.2.2.1 q.1).1 = if hd = true ∧ bgA (tkK T (s.1 + 1)) = true then 4 else 3)) ∧ (tkK T s.1 ≠ 1 → (q.2.2.2.2.2.1 q.1).1 ≠ 4) := by
  have kl : ∀ (k : Nat) (l : Int), ((pLeaf T k l s).2.2.2.2.2.1 (pLeaf T k l s).1).1 = k := fun k l => by
    show ((tAdd s.2.2.2 _).2.1 s.2.2.2.1).1 = k
    rw [(tAdd_at s.2.2.2 _).1]
  unfold pAtom at hq
  by_cases e2 : tkK T s.1 = 2
  · rw [if_pos e2] at hq; cases hq
    exact ⟨w_leaf hf (tkK_lt (by omega)) (by omega) (fun h => by omega) (fun h => by omega), fun h => by omega, fun _ => by rw [kl]; omega⟩
  rw [if_neg e2] at hq
  by_cases e3 : tkK T s.1 = 3
  · rw [if_pos e3] at hq; cases hq
    exact ⟨w_leaf hf (tkK_lt (by omega)) (by omega) (fun h => by omega) (fun h => by omega), fun h => by omega, fun _ => by rw [kl]; omega⟩
  rw [if_neg e3] at hq
  by_cases e1 : tkK T s.1 = 1
  · rw [if_pos e1] at hq
    cases hfd : fnd sc (tkV T s.1) with
    | some l =>
      rw [hfd] at hq; cases hq
      exact ⟨w_leaf hf (tkK_lt (by omega)) (by omega) (fun _ => ⟨l, rfl, hsc _ (fnd_mem hfd)⟩) (fun h => by omega), fun _ => ⟨rfl, Or.inl (kl 2 l)⟩, fun h => absurd e1 h⟩
    | none =>
      rw [hfd] at hq
      have hq' : (.ok (pLeaf T (if hd = true ∧ bgA (tkK T (s.1 + 1)) = true then 4 else 3) (-1) s) : PE (Nat × PS)) = .ok q := hq
      cases hq'
      exact ⟨w_leaf hf (tkK_lt (by omega)) (by split <;> omega) (fun h => by exfalso; revert h; split <;> omega) (fun _ => e1), fun _ => ⟨rfl, Or.inr (kl _ _)⟩, fun h => absurd e1 h⟩
  rw [if_neg e1] at hq
  by_cases e15 : tkK T s.1 = 15
  · rw [if_pos e15] at hq
    have hlt := tkK_lt (show tkK T s.1 ≠ 0 by omega)
    obtain ⟨p, p1, p2⟩ := pB_ok hq
    obtain ⟨w1, k1⟩ := hr sc (sAt s (s.1 + 1)) p (by show s.1 + 1 ≤ _; omega) h24 hsc hf p1
    obtain ⟨a1, a2, a3, a4, a5, a6, a7⟩ := bR_u hb p1 (by show s.1 + 1 ≤ _; omega) h24
    have w1' : wO T d f0 s p := w1
    by_cases e20 : tkK T p.2.1 = 20
    · rw [if_pos e20] at p2
      have hlt2 := tkK_lt (show tkK T p.2.1 ≠ 0 by omega)
      obtain ⟨z, z1, z2⟩ := pB_ok p2
      have hf2 : f0 ≤ p.2.2.2.2.1 := by have := w1.1.1; have h2 : s.2.2.2.1 ≤ p.2.2.2.2.1 := this.2.1; omega
      obtain ⟨w2, k2⟩ := hr sc (sAt p.2 (p.2.1 + 1)) z (by show p.2.1 + 1 ≤ _; omega) a7 (scG_W hsc w1.1) hf2 z1
      obtain ⟨y, y1, y2⟩ := pB_ok z2
      obtain ⟨rfl, y3, y4⟩ := pX_ok (by omega) y1
      cases y2
      exact ⟨⟨w_two w1' k1 w2 k2 13 p.2.1 (by omega) hlt2, rf_add _ _, rfl⟩, fun h => absurd h e1, fun _ => by
        show ((tAdd z.2.2.2.2 _).2.1 z.2.2.2.2.1).1 ≠ 4
        rw [(tAdd_at z.2.2.2.2 _).1]; show 13 ≠ 4; omega⟩
    · rw [if_neg e20] at p2
      obtain ⟨y, y1, y2⟩ := pB_ok p2
      obtain ⟨rfl, y3, y4⟩ := pX_ok (by omega) y1
      cases y2
      exact ⟨w1', fun h => absurd h e1, fun _ => k1⟩
  · rw [if_neg e15] at hq; cases hq
theorem lkN_no : ∀ (l : List Nat) (f : Nat → Int) (i : Nat), i ∉ l → lkN f l i = f i
  | [], _, _, _ => rfl
  | [_], _, _, _ => rfl
  | a :: b :: l, f, i, h => by
    rw [lkN, lkN_no (b :: l) _ i (fun hh => h (List.mem_cons_of_mem _ hh)), upd_ne _ _ _ _ (fun hh => h (by rw [hh]; exact List.mem_cons_self))]
theorem cn_lkN : ∀ (l : List Nat) (f : Nat → Int), l.Pairwise (· < ·) → (∀ a ∈ l, f a = -1) → cn (lkN f l) l
  | [], _, _, _ => trivial
  | [a], f, _, h => h a (List.mem_singleton.mpr rfl)
  | a :: b :: l, f, hp, h => by
    rw [lkN]
    obtain ⟨h1, h2⟩ := List.pairwise_cons.mp hp
    refine ⟨?_, cn_lkN (b :: l) _ h2 (fun x hx => ?_)⟩
    · rw [lkN_no (b :: l) _ a (fun hh => by have := h1 a hh; omega), upd_same]
    · have := h1 x hx
      rw [upd_ne _ _ _ _ (by omega)]; exact h x (List.mem_cons_of_mem _ hx)
theorem cn_snoc : ∀ (l : List Nat) (a : Nat) (f : Nat → Int) (z : Nat), (a :: l).Pairwise (· < ·) → cn f (a :: l) → (∀ x ∈ a :: l, x < z) → f z = -1 → cn (pu_upd f ((a :: l).getLast (List.cons_ne_nil _ _)) z) ((a :: l) ++ [z])
  | [], a, f, z, _, h, hz, h1 => by
    have := hz a (List.mem_singleton.mpr rfl)
    exact ⟨upd_same _ _ _, (upd_ne _ _ _ _ (by show z ≠ a; omega)).trans h1⟩
  | b :: l, a, f, z, hp, h, hz, h1 => by
    obtain ⟨g1, g2⟩ := List.pairwise_cons.mp hp
    have hm : (b :: l).getLast (List.cons_ne_nil _ _) ∈ b :: l := List.getLast_mem _
    have := g1 _ hm
    refine ⟨?_, cn_snoc l b f z g2 h.2 (fun x hx => hz x (List.mem_cons_of_mem _ hx)) h1⟩
    rw [upd_ne _ _ _ _ (by show a ≠ (b :: l).getLast _; omega)]; exact h.1
