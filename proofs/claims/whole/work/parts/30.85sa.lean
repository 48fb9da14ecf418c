set_option maxRecDepth 100000
def insS (S : Nat → Prop) (l : Int) : Nat → Prop := fun i => S i ∨ (i : Int) = l
def ptS (x : Nd) (S : Nat → Prop) : List ((Nat → Prop) × Nat) :=
  if x.1 = 7 then [(S, x.2.2.1.toNat), (insS S x.2.2.2.2.1, x.2.2.2.1.toNat)]
  else if x.1 = 8 then [(S, x.2.2.1.toNat), (S, x.2.2.2.1.toNat), (S, x.2.2.2.2.1.toNat)]
  else if x.1 = 9 then [(insS S x.2.2.2.2.1, x.2.2.1.toNat)]
  else if x.1 = 14 ∨ x.1 = 15 then [(S, x.2.2.1.toNat)]
  else if 10 ≤ x.1 ∧ x.1 ≤ 13 then [(S, x.2.2.1.toNat), (S, x.2.2.2.1.toNat)]
  else if x.1 = 16 then (row x).map (fun a => (S, a))
  else []
def chn (R : (Nat → Prop) → Nat → Nat → Prop) : Nat → List ((Nat → Prop) × Nat) → Nat → Prop
  | lo, [], e => lo = e
  | lo, x :: l, e => lo ≤ x.2 ∧ x.2 < e ∧ R x.1 lo x.2 ∧ chn R (x.2 + 1) l e
theorem chn_mono {R R' : (Nat → Prop) → Nat → Nat → Prop} {e : Nat} : ∀ {l : List ((Nat → Prop) × Nat)} {lo : Nat}, chn R lo l e → (∀ S lo a, a < e → R S lo a → R' S lo a) → chn R' lo l e
  | [], _, h, _ => h
  | _ :: _, _, ⟨h1, h2, h3, h4⟩, hR => ⟨h1, h2, hR _ _ _ h2 h3, chn_mono h4 hR⟩
theorem chn_le {R : (Nat → Prop) → Nat → Nat → Prop} {e : Nat} : ∀ {l : List ((Nat → Prop) × Nat)} {lo : Nat}, chn R lo l e → lo ≤ e
  | [], _, h => by (have : _ = _ := h); omega
  | _ :: _, _, ⟨h1, h2, _, _⟩ => by omega
theorem chn_up {R : (Nat → Prop) → Nat → Nat → Prop} {e : Nat} : ∀ {l : List ((Nat → Prop) × Nat)} {lo : Nat}, chn R lo l e → ∀ S a, e ≤ a → R S e a → chn R lo (l ++ [(S, a)]) (a + 1)
  | [], _, h, S, a, ha, hr => by
    have h' : _ = e := h
    subst h'
    exact ⟨ha, Nat.lt_succ_self _, hr, rfl⟩
  | _ :: _, _, ⟨h1, h2, h3, h4⟩, S, a, ha, hr => ⟨h1, by omega, h3, chn_up h4 S a ha hr⟩
def sL (T : List Tok) (f : Nat → Nd) (R : (Nat → Prop) → Nat → Nat → Prop) (S : Nat → Prop) (lo e : Nat) : Prop :=
  ((f e).1 = 2 → S (f e).2.2.1.toNat) ∧ (((f e).1 ≤ 1 → (f e).2.2.2.2.2.1 = tkV T (f e).2.1 ∧ tkK T (f e).2.1 = (f e).1 + 2) ∧ ((f e).1 = 3 ∨ (f e).1 = 4 → (f e).2.2.1 = -1)) ∧ chn R lo (ptS (f e) S) e
theorem sL_mono {T : List Tok} {f : Nat → Nd} {R R' : (Nat → Prop) → Nat → Nat → Prop} {S : Nat → Prop} {lo e : Nat} (h : sL T f R S lo e) (hR : ∀ S lo a, a < e → R S lo a → R' S lo a) : sL T f R' S lo e := ⟨h.1, h.2.1, chn_mono h.2.2 hR⟩
def sC (T : List Tok) (f : Nat → Nd) (S : Nat → Prop) (lo e : Nat) : Prop := ∃ R : (Nat → Prop) → Nat → Nat → Prop, R S lo e ∧ ∀ S lo e, R S lo e → sL T f R S lo e
theorem sC_out {T : List Tok} {f : Nat → Nd} {S : Nat → Prop} {lo e : Nat} (h : sC T f S lo e) : sL T f (sC T f) S lo e := by
  obtain ⟨R, h1, h2⟩ := h
  exact sL_mono (h2 S lo e h1) (fun S' lo' a _ ha => ⟨R, ha, h2⟩)
theorem sC_in {T : List Tok} {f : Nat → Nd} {S : Nat → Prop} {lo e : Nat} (h : sL T f (sC T f) S lo e) : sC T f S lo e :=
  ⟨fun S lo e => sC T f S lo e ∨ sL T f (sC T f) S lo e, Or.inr h, fun S lo e hh => by
    rcases hh with hh | hh
    · exact sL_mono (sC_out hh) (fun S' _ a _ ha => Or.inl ha)
    · exact sL_mono hh (fun S' _ a _ ha => Or.inl ha)⟩
theorem sC_keep {T : List Tok} {f f' : Nat → Nd} {S : Nat → Prop} {lo e n : Nat} (h : sC T f S lo e) (he : e < n) (hf : ∀ i, i < n → f' i = f i) : sC T f' S lo e :=
  ⟨fun S lo e => sC T f S lo e ∧ e < n, ⟨h, he⟩, fun S lo e hh => by
    have := sL_mono (R' := fun S lo e => sC T f S lo e ∧ e < n) (sC_out hh.1) (fun S' _ a h1 ha => ⟨ha, by omega⟩)
    unfold sL at this ⊢
    rw [hf e hh.2]; exact this⟩
theorem sC_lo {T : List Tok} {f : Nat → Nd} {S : Nat → Prop} {lo e : Nat} (h : sC T f S lo e) : lo ≤ e := chn_le (sC_out h).2.2
theorem insS_mono {S S' : Nat → Prop} (h : ∀ i, S i → S' i) (l : Int) : ∀ i, insS S l i → insS S' l i := fun i hi => hi.elim (fun a => Or.inl (h i a)) Or.inr
theorem chn_S {T : List Tok} {f : Nat → Nd} {e : Nat} (g : (Nat → Prop) → (Nat → Prop)) : ∀ {l l' : List ((Nat → Prop) × Nat)} {lo : Nat}, chn (sC T f) lo l e → l'.map Prod.snd = l.map Prod.snd → (∀ (i : Nat) (x y : (Nat → Prop) × Nat), l[i]? = some x → l'[i]? = some y → ∀ k, x.1 k → y.1 k) → chn (fun S' lo e => ∃ S : Nat → Prop, (∀ i, S i → S' i) ∧ sC T f S lo e) lo l' e
  | [], [], _, h, _, _ => h
  | [], _ :: _, _, _, h, _ => by cases h
  | _ :: _, [], _, _, h, _ => by cases h
  | x :: l, y :: l', lo, ⟨h1, h2, h3, h4⟩, hm, hs => by
    have e1 : y.2 = x.2 := (List.cons.inj hm).1
    have e2 := (List.cons.inj hm).2
    refine ⟨by rw [e1]; exact h1, by rw [e1]; exact h2, ⟨x.1, hs 0 x y rfl rfl, by rw [e1]; exact h3⟩, ?_⟩
    rw [e1]
    exact chn_S g h4 e2 (fun i a b ha hb => hs (i + 1) a b ha hb)
theorem ptS_snd (x : Nd) (S S' : Nat → Prop) : (ptS x S').map Prod.snd = (ptS x S).map Prod.snd := by
  unfold ptS
  repeat (first | (split; · first | rfl | (rw [List.map_map, List.map_map]; rfl)) | rfl)
theorem ptS_m (x : Nd) {S S' : Nat → Prop} (hS : ∀ i, S i → S' i) : ∀ (i : Nat) (a b : (Nat → Prop) × Nat), (ptS x S)[i]? = some a → (ptS x S')[i]? = some b → ∀ k, a.1 k → b.1 k := by
  intro i a b
  have one : ∀ (l l' : List ((Nat → Prop) × Nat)), (∀ x ∈ l.zip l', ∀ k, x.1.1 k → x.2.1 k) → l[i]? = some a → l'[i]? = some b → ∀ k, a.1 k → b.1 k := fun l l' h h1 h2 => h (a, b) (by
    have : (l.zip l')[i]? = some (a, b) := by rw [List.getElem?_zip_eq_some]; exact ⟨h1, h2⟩
    exact List.mem_of_getElem? this)
  have ins := fun l : Int => insS_mono hS l
  apply one
  intro y hy
  unfold ptS at hy
  by_cases e7 : x.1 = 7
  · rw [if_pos e7, if_pos e7] at hy
    rcases List.mem_cons.mp hy with rfl | hy
    · exact hS
    · rcases List.mem_cons.mp hy with rfl | hy
      · exact ins _
      · cases hy
  rw [if_neg e7, if_neg e7] at hy
  by_cases e8 : x.1 = 8
  · rw [if_pos e8, if_pos e8] at hy
    rcases List.mem_cons.mp hy with rfl | hy
    · exact hS
    · rcases List.mem_cons.mp hy with rfl | hy
      · exact hS
      · rcases List.mem_cons.mp hy with rfl | hy
        · exact hS
        · cases hy
  rw [if_neg e8, if_neg e8] at hy
  by_cases e9 : x.1 = 9
  · rw [if_pos e9, if_pos e9] at hy
    rcases List.mem_cons.mp hy with rfl | hy
    · exact ins _
    · cases hy
  rw [if_neg e9, if_neg e9] at hy
  by_cases e14 : x.1 = 14 ∨ x.1 = 15
  · rw [if_pos e14, if_pos e14] at hy
    rcases List.mem_cons.mp hy with rfl | hy
    · exact hS
    · cases hy
  rw [if_neg e14, if_neg e14] at hy
  by_cases e10 : 10 ≤ x.1 ∧ x.1 ≤ 13
  · rw [if_pos e10, if_pos e10] at hy
    rcases List.mem_cons.mp hy with rfl | hy
    · exact hS
    · rcases List.mem_cons.mp hy with rfl | hy
      · exact hS
      · cases hy
  rw [if_neg e10, if_neg e10] at hy
  by_cases e16 : x.1 = 16
  · rw [if_pos e16, if_pos e16, List.zip_map'] at hy
    obtain ⟨z, _, rfl⟩ := List.mem_map.mp hy
    exact hS
  · rw [if_neg e16, if_neg e16] at hy; cases hy
theorem sC_mono {T : List Tok} {f : Nat → Nd} {S S' : Nat → Prop} {lo e : Nat} (h : sC T f S lo e) (hS : ∀ i, S i → S' i) : sC T f S' lo e :=
  ⟨fun S' lo e => ∃ S : Nat → Prop, (∀ i, S i → S' i) ∧ sC T f S lo e, ⟨S, hS, h⟩, fun S' lo e ⟨S, h1, h2⟩ => by
    obtain ⟨a1, a2, a3⟩ := sC_out h2
    exact ⟨fun k => h1 _ (a1 k), a2, chn_S id a3 (ptS_snd _ _ _) (ptS_m _ h1)⟩⟩
def scP (sc : Sc) : Nat → Prop := fun l => ∃ x ∈ sc, x.2 = l
theorem fnd_in : ∀ {sc : Sc} {v : Int64} {l : Nat}, fnd sc v = some l → scP sc l
  | [], _, _, h => by cases h
  | x :: s, v, l, h => by
    unfold fnd at h
    by_cases e : x.1 = v
    · rw [if_pos e] at h; cases h; exact ⟨x, List.mem_cons_self, rfl⟩
    · rw [if_neg e] at h
      obtain ⟨y, h1, h2⟩ := fnd_in h
      exact ⟨y, List.mem_cons_of_mem _ h1, h2⟩
def gK (s q : PS) : Prop := s.2.2.2.1 ≤ q.2.2.2.1 ∧ ∀ i, i < s.2.2.2.1 → q.2.2.2.2.1 i = s.2.2.2.2.1 i
theorem gK_t {s q p : PS} (h : gK s q) (h' : gK q p) : gK s p := ⟨Nat.le_trans h.1 h'.1, fun i hi => (h'.2 i (by have := h.1; omega)).trans (h.2 i hi)⟩
theorem gK_r (s : PS) : gK s s := ⟨Nat.le_refl _, fun _ _ => rfl⟩
theorem gK_n (s : PS) (x : Nd) : gK s (sNode s x) := ⟨by show s.2.2.2.1 ≤ s.2.2.2.1 + 1; omega, fun i hi => upd_ne _ _ _ _ (by omega)⟩
def gO (T : List Tok) (sc : Sc) (s : PS) (q : Nat × PS) : Prop := gK s q.2 ∧ q.1 + 1 = q.2.2.2.2.1 ∧ sC T q.2.2.2.2.2.1 (scP sc) s.2.2.2.1 q.1
theorem gO_k {T : List Tok} {sc : Sc} {s p : PS} {q : Nat × PS} (h : gO T sc s q) (h' : gK q.2 p) : sC T p.2.2.2.2.1 (scP sc) s.2.2.2.1 q.1 := sC_keep h.2.2 (by have := h.2.1; omega : q.1 < q.2.2.2.2.1) h'.2
def gR (T : List Tok) (r : PR) : Prop := ∀ sc s q, r sc s = .ok q → gO T sc s q
theorem gO_new {T : List Tok} {sc : Sc} {s q : PS} (x : Nd) (hk : gK s q) (h1 : x.1 = 2 → scP sc x.2.2.1.toNat) (h2 : x.1 ≤ 1 → x.2.2.2.2.2.1 = tkV T x.2.1 ∧ tkK T x.2.1 = x.1 + 2) (h34 : x.1 = 3 ∨ x.1 = 4 → x.2.2.1 = -1) (h3 : chn (sC T (sNode q x).2.2.2.2.1) s.2.2.2.1 (ptS x (scP sc)) q.2.2.2.1) : gO T sc s (q.2.2.2.1, sNode q x) := by
  have hx : (sNode q x).2.2.2.2.1 q.2.2.2.1 = x := upd_same _ _ _
  refine ⟨gK_t hk (gK_n q x), rfl, sC_in ?_⟩
  show sL T (sNode q x).2.2.2.2.1 _ _ _ q.2.2.2.1
  unfold sL; rw [hx]; exact ⟨h1, ⟨h2, h34⟩, h3⟩
theorem g_leaf {T : List Tok} {sc : Sc} {s : PS} (k : Nat) (l : Int) (hk : k ≤ 4) (hl : k = 2 → scP sc l.toNat) (ht : k ≤ 1 → tkK T s.1 = k + 2) (hm : k = 3 ∨ k = 4 → l = -1) : gO T sc s (pLeaf T k l s) := by
  have := gO_new (T := T) (sc := sc) (s := s) (k, s.1, l, -1, -1, tkV T s.1, []) (gK_r s) hl (fun h => ⟨rfl, ht h⟩) hm (by
    unfold ptS
    rw [if_neg (show ¬ (k = 7) by omega), if_neg (show ¬ (k = 8) by omega), if_neg (show ¬ (k = 9) by omega), if_neg (show ¬ (k = 14 ∨ k = 15) by omega), if_neg (show ¬ (10 ≤ k ∧ k ≤ 13) by omega), if_neg (show ¬ (k = 16) by omega)]; rfl)
  exact this
theorem g_atom {T : List Tok} {r : PR} (hr : gR T r) (sc : Sc) (hd : Bool) (s : PS) (q : Nat × PS) (hq : pAtom r T sc hd s = .ok q) : gO T sc s q := by
  unfold pAtom at hq
  by_cases e2 : tkK T s.1 = 2
  · rw [if_pos e2] at hq; cases hq; exact g_leaf 0 _ (by omega) (by omega) (by omega) (by omega)
  rw [if_neg e2] at hq
  by_cases e3 : tkK T s.1 = 3
  · rw [if_pos e3] at hq; cases hq; exact g_leaf 1 _ (by omega) (by omega) (by omega) (by omega)
  rw [if_neg e3] at hq
  by_cases e1 : tkK T s.1 = 1
  · rw [if_pos e1] at hq
    cases hfd : fnd sc (tkV T s.1) with
    | some l => rw [hfd] at hq; cases hq; exact g_leaf 2 _ (by omega) (fun _ => fnd_in hfd) (by omega) (by omega)
    | none =>
      rw [hfd] at hq
      have hq' : (.ok (pLeaf T (if hd = true ∧ bgA (tkK T (s.1 + 1)) = true then 4 else 3) (-1) s) : PE (Nat × PS)) = .ok q := hq
      cases hq'; exact g_leaf _ _ (by split <;> omega) (fun h => by split at h <;> omega) (fun h => by split at h <;> omega) (fun _ => rfl)
  rw [if_neg e1] at hq
  by_cases e15 : tkK T s.1 = 15
  · rw [if_pos e15] at hq
    obtain ⟨p, p1, p2⟩ := pB_ok hq
    have a := hr _ _ _ p1
    by_cases e20 : tkK T p.2.1 = 20
    · rw [if_pos e20] at p2
      obtain ⟨z, z1, z2⟩ := pB_ok p2
      have b := hr _ _ _ z1
      obtain ⟨y, y1, y2⟩ := pB_ok z2
      obtain ⟨rfl, _, _⟩ := pX_ok (by omega) y1
      cases y2
      have hk : gK s (sAt z.2 (z.2.1 + 1)) := gK_t a.1 b.1
      have k2 : gK p.2 (sNode (sAt z.2 (z.2.1 + 1)) (13, p.2.1, p.1, z.1, -1, 0, [])) := gK_t b.1 (gK_n (sAt z.2 (z.2.1 + 1)) _)
      have c1 := gO_k a k2
      have c2 := gO_k b (gK_n (sAt z.2 (z.2.1 + 1)) (13, p.2.1, p.1, z.1, -1, 0, []))
      have z1' : p.1 + 1 = p.2.2.2.2.1 := a.2.1
      have z2' : z.1 + 1 = z.2.2.2.2.1 := b.2.1
      have l1 := sC_lo c1
      have l2 := sC_lo c2
      have l2' : p.2.2.2.2.1 ≤ z.1 := l2
      have c2' : sC T (sNode (sAt z.2 (z.2.1 + 1)) (13, p.2.1, p.1, z.1, -1, 0, [])).2.2.2.2.1 (scP sc) p.2.2.2.2.1 z.1 := c2
      rw [← z1'] at c2'
      refine gO_new (sc := sc) (13, p.2.1, p.1, z.1, -1, 0, []) hk (fun h => by cases h) (fun h => by (have : 13 ≤ 1 := h); omega) (fun h => by rcases h with h | h <;> cases h) ⟨l1, ?_, c1, ?_, ?_, c2', ?_⟩
      · show p.1 < z.2.2.2.2.1; omega
      · show p.1 + 1 ≤ z.1; omega
      · show z.1 < z.2.2.2.2.1; omega
      · exact z2'
    · rw [if_neg e20] at p2
      obtain ⟨y, y1, y2⟩ := pB_ok p2
      obtain ⟨rfl, _, _⟩ := pX_ok (by omega) y1
      cases y2
      exact a
  · rw [if_neg e15] at hq; cases hq
theorem g_atoms {T : List Tok} {r : PR} (hr : gR T r) (sc : Sc) (h : Nat) (nm : Bool) (s0 : PS) (j : Nat) : ∀ (last : Nat) (acc : List Nat) (s : PS) (q : Nat × PS), gK s0 s → chn (sC T s.2.2.2.2.1) s0.2.2.2.1 ((h :: acc).map fun a => (scP sc, a)) s.2.2.2.1 → pAtoms r T sc h nm j last acc s = .ok q → gO T sc s0 q := by
  have fin : ∀ (acc : List Nat) (s : PS) (q : Nat × PS), gK s0 s → chn (sC T s.2.2.2.2.1) s0.2.2.2.1 ((h :: acc).map fun a => (scP sc, a)) s.2.2.2.1 → (.ok (s.2.2.2.1, sTr s (tAdd (tNr (tHr s.2.2.2 h nm) acc) (16, (s.2.2.2.2.1 h).2.1, h, -1, acc.length, 0, acc))) : PE (Nat × PS)) = .ok q → gO T sc s0 q := by
    intro acc s q hk ha hq
    cases hq
    refine gO_new (sc := sc) (s := s0) (q := sTr s (tNr (tHr s.2.2.2 h nm) acc)) (16, (s.2.2.2.2.1 h).2.1, h, -1, acc.length, 0, acc) hk (fun h => by cases h) (fun h => by (have : 16 ≤ 1 := h); omega) (fun h => by rcases h with h | h <;> cases h) ?_
    show chn _ _ ((h :: acc).map fun a => (scP sc, a)) s.2.2.2.1
    exact chn_mono ha (fun S lo a h1 h2 => sC_keep h2 h1 (fun i hi => upd_ne _ _ _ _ (by show i ≠ s.2.2.2.1; omega)))
  induction j with
  | zero =>
    intro last acc s q hk ha hq
    rw [pAtoms] at hq
    by_cases hb : bgA (tkK T s.1) = true
    · rw [if_pos hb] at hq; cases hq
    · rw [if_neg hb] at hq; exact fin acc s q hk ha hq
  | succ j ih =>
    intro last acc s q hk ha hq
    rw [pAtoms] at hq
    by_cases hb : bgA (tkK T s.1) = true
    · rw [if_pos hb] at hq
      obtain ⟨p, p1, p2⟩ := pB_ok hq
      have a := g_atom hr sc false s p p1
      refine ih p.1 (acc ++ [p.1]) (sTr p.2 (tNx p.2.2.2.2 last p.1)) q (show gK s0 (sTr p.2 (tNx p.2.2.2.2 last p.1)) from gK_t hk a.1) ?_ p2
      show chn (sC T p.2.2.2.2.2.1) _ _ p.2.2.2.2.1
      have := chn_up (chn_mono ha (R' := sC T p.2.2.2.2.2.1) (fun S lo x h1 h2 => sC_keep h2 h1 a.1.2)) (scP sc) p.1 (sC_lo a.2.2) a.2.2
      rw [a.2.1] at this
      have e : (h :: (acc ++ [p.1])).map (fun a => (scP sc, a)) = ((h :: acc).map fun a => (scP sc, a)) ++ [(scP sc, p.1)] := by
        rw [← List.cons_append, List.map_append]; rfl
      rw [e]; exact this
    · rw [if_neg hb] at hq; exact fin acc s q hk ha hq
theorem g_call {T : List Tok} {r : PR} (hr : gR T r) : gR T (fun sc s => pCall r T sc s) := by
  intro sc s q hq
  have hq : pCall r T sc s = .ok q := hq
  unfold pCall at hq
  by_cases e : tkK T s.1 = 13 ∨ tkK T s.1 = 14
  · rw [if_pos e] at hq
    obtain ⟨p, p1, p2⟩ := pB_ok hq
    have a := g_atom hr sc false _ p p1
    cases p2
    have c1 := gO_k a (gK_n p.2 (tkK T s.1 + 1, s.1, p.1, -1, -1, 0, []))
    have a2 := a.2.1
    refine gO_new (sc := sc) (s := s) (tkK T s.1 + 1, s.1, p.1, -1, -1, 0, []) a.1 (fun h => by (have : tkK T s.1 + 1 = 2 := h); omega) (fun h => by (have : tkK T s.1 + 1 ≤ 1 := h); omega) (fun h => by (have : tkK T s.1 + 1 = 3 ∨ tkK T s.1 + 1 = 4 := h); omega) ?_
    unfold ptS
    rw [if_neg (show ¬ (tkK T s.1 + 1 = 7) by omega), if_neg (show ¬ (tkK T s.1 + 1 = 8) by omega), if_neg (show ¬ (tkK T s.1 + 1 = 9) by omega), if_pos (show tkK T s.1 + 1 = 14 ∨ tkK T s.1 + 1 = 15 by omega)]
    exact ⟨sC_lo c1, by show p.1 < p.2.2.2.2.1; omega, c1, a2⟩
  · rw [if_neg e] at hq
    obtain ⟨p, p1, p2⟩ := pB_ok hq
    have a := g_atom hr sc true _ p p1
    by_cases hb : bgA (tkK T p.2.1) = true
    · rw [if_pos hb] at p2
      exact g_atoms hr sc _ _ s 8 p.1 [] p.2 q a.1 ⟨sC_lo a.2.2, by have := a.2.1; show p.1 < p.2.2.2.2.1; omega, a.2.2, a.2.1⟩ p2
    · rw [if_neg hb] at p2; cases p2; exact a
theorem g_two {T : List Tok} {sc : Sc} {s : PS} {p z : Nat × PS} {p' z' : PS} (k a : Nat) (hk : 10 ≤ k ∧ k ≤ 13) (hp : gO T sc s p) (hp' : p'.2.2.2 = p.2.2.2.2) (hz : gO T sc p' z) (hz' : z'.2.2.2 = z.2.2.2.2) : gO T sc s (z'.2.2.2.1, sNode z' (k, a, p.1, z.1, -1, 0, [])) := by
  have kp : gK p.2 p' := ⟨by rw [hp']; exact Nat.le_refl _, fun i _ => by rw [hp']⟩
  have kz : gK z.2 z' := ⟨by rw [hz']; exact Nat.le_refl _, fun i _ => by rw [hz']⟩
  have c1 := gO_k hp (gK_t kp (gK_t hz.1 (gK_t kz (gK_n z' (k, a, p.1, z.1, -1, 0, [])))))
  have c2 := gO_k hz (gK_t kz (gK_n z' (k, a, p.1, z.1, -1, 0, [])))
  have e1 := hp.2.1
  have e2 := hz.2.1
  have l2 := sC_lo c2
  rw [hp', ← e1] at c2 l2
  refine gO_new (sc := sc) (k, a, p.1, z.1, -1, 0, []) (gK_t hp.1 (gK_t kp (gK_t hz.1 kz))) (fun h => by (have : k = 2 := h); omega) (fun h => by (have : k ≤ 1 := h); omega) (fun h => by (have : k = 3 ∨ k = 4 := h); omega) ?_
  unfold ptS
  rw [if_neg (show ¬ (k = 7) by omega), if_neg (show ¬ (k = 8) by omega), if_neg (show ¬ (k = 9) by omega), if_neg (show ¬ (k = 14 ∨ k = 15) by omega), if_pos (show 10 ≤ k ∧ k ≤ 13 from hk)]
  refine ⟨sC_lo c1, ?_, c1, l2, ?_, c2, ?_⟩
  · show p.1 < z'.2.2.2.1; rw [hz']; omega
  · show z.1 < z'.2.2.2.1; rw [hz']; omega
  · show z.1 + 1 = z'.2.2.2.1; rw [hz']; exact e2
theorem g_sums {T : List Tok} {r : PR} (hr : gR T r) (sc : Sc) (j : Nat) : ∀ (e : Nat) (s0 s : PS) (q : Nat × PS), gO T sc s0 (e, s) → pSums r T sc j e s = .ok q → gO T sc s0 q := by
  induction j with
  | zero =>
    intro e s0 s q h0 hq
    rw [pSums] at hq
    by_cases hbb : tkK T s.1 = 22 ∨ tkK T s.1 = 23
    · rw [if_pos hbb] at hq; cases hq
    · rw [if_neg hbb] at hq; cases hq; exact h0
  | succ j ih =>
    intro e s0 s q h0 hq
    rw [pSums] at hq
    by_cases hbb : tkK T s.1 = 22 ∨ tkK T s.1 = 23
    · rw [if_pos hbb] at hq
      obtain ⟨p, p1, p2⟩ := pB_ok hq
      have a := g_call (T := T) hr sc _ p p1
      exact ih _ s0 _ _ (g_two (p := (e, s)) (p' := sAt s (s.1 + 1)) (z := p) (tkK T s.1 - 12) s.1 (by omega) h0 rfl a rfl) p2
    · rw [if_neg hbb] at hq; cases hq; exact h0
theorem g_sum {T : List Tok} {r : PR} (hr : gR T r) : gR T (fun sc s => pSum r T sc s) := by
  intro sc s q hq
  have hq : pSum r T sc s = .ok q := hq
  unfold pSum at hq
  obtain ⟨p, p1, p2⟩ := pB_ok hq
  have a := g_call (T := T) hr sc _ p p1
  exact g_sums hr sc 8 p.1 s p.2 q a p2
theorem g_cmp {T : List Tok} {r : PR} (hr : gR T r) : gR T (fun sc s => pCmp r T sc s) := by
  intro sc s q hq
  have hq : pCmp r T sc s = .ok q := hq
  unfold pCmp at hq
  obtain ⟨p, p1, p2⟩ := pB_ok hq
  have a := g_sum (T := T) hr sc _ p p1
  by_cases e : tkK T p.2.1 = 24
  · rw [if_pos e] at p2
    obtain ⟨z, z1, z2⟩ := pB_ok p2
    have b := g_sum (T := T) hr sc _ z z1
    cases z2
    exact g_two (p := p) (p' := sAt p.2 (p.2.1 + 1)) (z := z) 12 p.2.1 (by omega) a rfl b rfl
  · rw [if_neg e] at p2; cases p2; exact a
theorem scP_ins {sc : Sc} {v : Int64} {l : Nat} : ∀ i, scP ((v, l) :: sc) i → insS (scP sc) (l : Int) i := fun i ⟨x, h1, h2⟩ => by
  rcases List.mem_cons.mp h1 with rfl | h1
  · right; rw [← h2]
  · left; exact ⟨x, h1, h2⟩
theorem g_E {T : List Tok} (d m : Nat) (r : Nat) : gR T (pE T d m r) := by
  induction r with
  | zero => intro sc s q hq; cases hq
  | succ r ih =>
    intro sc s q hq
    unfold pE at hq
    by_cases e7 : tkK T s.1 = 7
    · rw [if_pos e7] at hq
      unfold pLet at hq
      obtain ⟨l, l1, hq⟩ := pB_ok hq
      obtain ⟨x, x1, hq⟩ := pB_ok hq
      obtain ⟨a, a1, hq⟩ := pB_ok hq
      obtain ⟨y, y1, hq⟩ := pB_ok hq
      obtain ⟨p, p1, hfin⟩ := pB_ok hq
      obtain ⟨rfl, _, _, _⟩ := pDecl_eq l1
      obtain ⟨rfl, _, _⟩ := pX_ok (by omega) x1
      obtain ⟨rfl, _, _⟩ := pX_ok (by omega) y1
      have c := ih _ _ _ a1
      have b := ih _ _ _ p1
      cases hfin
      have kb : gK a.2 p.2 := b.1
      have c1 := gO_k c (gK_t kb (gK_n p.2 (7, s.1, a.1, p.1, s.2.2.1.1, 0, [])))
      have c2 := gO_k b (gK_n p.2 (7, s.1, a.1, p.1, s.2.2.1.1, 0, []))
      have e1 : a.1 + 1 = a.2.2.2.2.1 := c.2.1
      have e2 : p.1 + 1 = p.2.2.2.2.1 := b.2.1
      have c2' : sC T (sNode p.2 (7, s.1, a.1, p.1, s.2.2.1.1, 0, [])).2.2.2.2.1 (scP ((tkV T (s.1 + 1), s.2.2.1.1) :: sc)) a.2.2.2.2.1 p.1 := c2
      rw [← e1] at c2'
      have l2 := sC_lo c2'
      have fin := gO_new (T := T) (sc := sc) (s := s) (q := p.2) (7, s.1, a.1, p.1, s.2.2.1.1, 0, []) (gK_t c.1 kb) (fun h => by cases h) (fun h => by (have : 7 ≤ 1 := h); omega) (fun h => by rcases h with h | h <;> cases h) ⟨sC_lo c1, by show a.1 < p.2.2.2.2.1; omega, c1, l2, by show p.1 < p.2.2.2.2.1; omega, sC_mono c2' scP_ins, e2⟩
      exact fin
    rw [if_neg e7] at hq
    by_cases e9 : tkK T s.1 = 9
    · rw [if_pos e9] at hq
      unfold pIf at hq
      obtain ⟨c, c1, hq⟩ := pB_ok hq
      obtain ⟨x, x1, hq⟩ := pB_ok hq
      obtain ⟨y, y1, hq⟩ := pB_ok hq
      obtain ⟨z, z1, hq⟩ := pB_ok hq
      obtain ⟨w, w1, hfin⟩ := pB_ok hq
      obtain ⟨rfl, x2, _⟩ := pX_ok (by omega) x1
      obtain ⟨rfl, z2, _⟩ := pX_ok (by omega) z1
      have f := ih _ _ _ c1
      have g := ih _ _ _ y1
      have h := ih _ _ _ w1
      cases hfin
      have kg : gK c.2 y.2 := g.1
      have kh : gK y.2 w.2 := h.1
      have kn := gK_n w.2 (8, s.1, c.1, y.1, w.1, 0, [])
      have e1 : c.1 + 1 = c.2.2.2.2.1 := f.2.1
      have e2 : y.1 + 1 = y.2.2.2.2.1 := g.2.1
      have e3 : w.1 + 1 = w.2.2.2.2.1 := h.2.1
      have d1 := gO_k f (gK_t kg (gK_t kh kn))
      have d2 : sC T (sNode w.2 (8, s.1, c.1, y.1, w.1, 0, [])).2.2.2.2.1 (scP sc) c.2.2.2.2.1 y.1 := gO_k g (gK_t kh kn)
      have d3 : sC T (sNode w.2 (8, s.1, c.1, y.1, w.1, 0, [])).2.2.2.2.1 (scP sc) y.2.2.2.2.1 w.1 := gO_k h kn
      rw [← e1] at d2
      rw [← e2] at d3
      have l2 := sC_lo d2
      have l3 := sC_lo d3
      exact gO_new (T := T) (sc := sc) (s := s) (q := w.2) (8, s.1, c.1, y.1, w.1, 0, []) (gK_t f.1 (gK_t kg kh)) (fun h => by cases h) (fun h => by (have : 8 ≤ 1 := h); omega) (fun h => by rcases h with h | h <;> cases h) ⟨sC_lo d1, by show c.1 < w.2.2.2.2.1; omega, d1, l2, by show y.1 < w.2.2.2.2.1; omega, d2, l3, by show w.1 < w.2.2.2.2.1; omega, d3, e3⟩
    rw [if_neg e9] at hq
    by_cases e12 : tkK T s.1 = 12
    · rw [if_pos e12] at hq
      unfold pFn at hq
      obtain ⟨o, o1, hq⟩ := pB_ok hq
      obtain ⟨l, l1, hq⟩ := pB_ok hq
      obtain ⟨x, x1, hq⟩ := pB_ok hq
      obtain ⟨t, t1, hq⟩ := pB_ok hq
      obtain ⟨y, y1, hq⟩ := pB_ok hq
      obtain ⟨z, z1, hq⟩ := pB_ok hq
      obtain ⟨p, p1, hfin⟩ := pB_ok hq
      obtain ⟨rfl, _, _⟩ := pX_ok (by omega) o1
      obtain ⟨rfl, _, _, _⟩ := pDecl_eq l1
      obtain ⟨rfl, _, _⟩ := pX_ok (by omega) x1
      obtain ⟨rfl, _, _⟩ := pX_ok (by omega) y1
      obtain ⟨rfl, _, _⟩ := pX_ok (by omega) z1
      have f := ih _ _ _ p1
      cases hfin
      have e1 : p.1 + 1 = p.2.2.2.2.1 := f.2.1
      have c1 := gO_k f (gK_n p.2 (9, s.1, p.1, -1, s.2.2.1.1, je d, []))
      exact gO_new (T := T) (sc := sc) (s := s) (q := p.2) (9, s.1, p.1, -1, s.2.2.1.1, je d, []) f.1 (fun h => by cases h) (fun h => by (have : 9 ≤ 1 := h); omega) (fun h => by rcases h with h | h <;> cases h) ⟨sC_lo c1, by show p.1 < p.2.2.2.2.1; omega, sC_mono c1 scP_ins, e1⟩
    rw [if_neg e12] at hq
    exact g_cmp (T := T) ih sc s q hq
def pS (T : List Tok) (D : List Df) (t : Tr) : Prop := ∀ (i : Nat) (x : Df), D[i]? = some x → x.2.2.2.1 < t.1 ∧ sC T t.2.1 (fun l => l < x.2.1.length) x.2.2.2.2.1 x.2.2.2.1
theorem s_def {T : List Tok} {D : List Df} {a : Nat} {t : Tr} {q : Df × Nat × Tr} (h : pS T D t) (hq : pDef T D.length a t = .ok q) : pS T (D ++ [q.1]) q.2.2 := by
  unfold pDef at hq
  by_cases e1 : tkK T a = 1
  · rw [if_pos e1] at hq
    by_cases e30 : D.length = 30
    · rw [if_pos e30] at hq; cases hq
    · rw [if_neg e30] at hq
      obtain ⟨p, p1, hq⟩ := pB_ok hq
      obtain ⟨x, x1, hq⟩ := pB_ok hq
      obtain ⟨y, y1, hq⟩ := pB_ok hq
      obtain ⟨z, z1, hq⟩ := pB_ok hq
      obtain ⟨r, r1, hq⟩ := pB_ok hq
      obtain ⟨w, w1, hfin⟩ := pB_ok hq
      obtain ⟨hg, hp1⟩ := pPar_g 6 [] [] _ p rfl ⟨rfl, by show 0 ≤ 6; omega, fun x hx => (by cases hx), fun i x hi => (by cases hi)⟩ p1
      have ht' : p.2.2.2.2.2 = t := pPar_t 6 _ _ _ _ p1
      obtain ⟨rfl, x2, _⟩ := pX_ok (by omega) x1
      obtain ⟨rfl, z2, _⟩ := pX_ok (by omega) z1
      obtain ⟨rfl, w2, _⟩ := pX_ok (by omega) w1
      obtain ⟨⟨c1, c2⟩, c3, c4⟩ := g_E D.length (pmM p.2.1) 20 _ _ _ r1
      have c1' : p.2.2.2.2.2.1 ≤ r.2.2.2.2.1 := c1
      have c2' : ∀ i, i < p.2.2.2.2.2.1 → r.2.2.2.2.2.1 i = p.2.2.2.2.2.2.1 i := c2
      have c4' : sC T r.2.2.2.2.2.1 (scP p.1) p.2.2.2.2.2.1 r.1 := c4
      rw [ht'] at c1' c2' c4'
      cases hfin
      intro i xx hi
      show xx.2.2.2.1 < r.2.2.2.2.1 ∧ sC T r.2.2.2.2.2.1 _ _ _
      by_cases ei : i < D.length
      · rw [List.getElem?_append_left ei] at hi
        obtain ⟨b1, b2⟩ := h i xx hi
        exact ⟨by omega, sC_keep b2 b1 c2'⟩
      · rw [List.getElem?_append_right (by omega)] at hi
        have : i - D.length = 0 := by
          have := (List.getElem?_eq_some_iff.mp hi).1
          rw [List.length_singleton] at this; omega
        rw [this] at hi
        cases hi
        refine ⟨by show r.1 < _; omega, sC_mono c4' (fun l ⟨v, hv, hl⟩ => ?_)⟩
        have h1 := hg.2.2.1 v hv
        have h2 := hg.1
        show l < p.2.1.length
        omega
  · rw [if_neg e1] at hq; cases hq
theorem s_prog {T : List Tok} (f : Nat) : ∀ (D : List Df) (a : Nat) (t : Tr) (q : List Df × Tr), pS T D t → pProg T f D a t = .ok q → pS T q.1 q.2 := by
  induction f with
  | zero => intro D a t q _ hq; cases hq
  | succ f ih =>
    intro D a t q hw hq
    rw [pProg] at hq
    by_cases e0 : tkK T a = 0
    · rw [if_pos e0] at hq; cases hq; exact hw
    · rw [if_neg e0] at hq
      obtain ⟨p, p1, p2⟩ := pB_ok hq
      exact ih _ _ _ _ (s_def hw p1) p2
theorem s_all {T : List Tok} {q : List Df × Tr} (hq : pProg T 31 [] 0 tr0 = .ok q) : pS T q.1 q.2 := s_prog 31 [] 0 tr0 q (fun i x hi => (by cases hi)) hq
