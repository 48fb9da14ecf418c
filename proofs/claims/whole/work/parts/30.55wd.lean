set_option maxRecDepth 100000
theorem gl (l : List Nat) (a p : Nat) : p = (a :: (l ++ [p])).getLast (List.cons_ne_nil _ _) := by
  induction l generalizing a with
  | nil => rfl
  | cons b l ih => exact ih b
theorem W_call {T : List Tok} {d f0 : Nat} {s0 y : YT} {h : Nat} {acc : List Nat} (hW : pu_W T d f0 s0 y (h :: acc) []) (hcn : cn y.2.2.2.1 (h :: acc)) (hnr : cn y.2.2.2.2.2.2 acc) (hacc : ∀ a ∈ acc, (y.2.2.1 a).1 ≠ 4) (hln : 1 ≤ acc.length) (h8 : acc.length ≤ 8) (hn1 : y.2.2.2.2.2.1 h = true → (y.2.2.1 h).1 = 2 ∨ (y.2.2.1 h).1 = 4) (hn2 : y.2.2.2.2.2.1 h = false → (y.2.2.1 h).1 ≠ 4) : pu_W T d f0 s0 (y.1, tAdd y.2 (16, (y.2.2.1 h).2.1, h, -1, acc.length, 0, acc)) [y.2.1] [] := by
  obtain ⟨⟨a1, a2, a3⟩, a4, a5, a6, a7, ⟨a8, a9⟩, a10, a11, a12⟩ := id hW
  have htn : (h : Int).toNat = h := by omega
  generalize hx : ((16, (y.2.2.1 h).2.1, (h : Int), -1, (acc.length : Int), 0, acc) : Nd) = x
  have x1 : x.1 = 16 := by rw [← hx]
  have x2 : x.2.1 = (y.2.2.1 h).2.1 := by rw [← hx]
  have x3 : x.2.2.1 = h := by rw [← hx]
  have x5 : x.2.2.2.2.1 = acc.length := by rw [← hx]
  have x7 : x.2.2.2.2.2.2 = acc := by rw [← hx]
  clear hx
  have hrow : row x = h :: acc := by rw [row_c x1, x3, x7, htn]
  have hm : ∀ a ∈ h :: acc, s0.2.1 ≤ a ∧ a < y.2.1 := fun a ha => ⟨(a9 a ha).1, (a9 a ha).2.1⟩
  have hh := hm h List.mem_cons_self
  have hW2 : pu_W T d f0 s0 y ([] ++ (h :: acc)) [] := hW
  obtain ⟨z1, _, _, _, _, _⟩ := tAdd_at y.2 x
  have z1' : ((y.1, tAdd y.2 x) : YT).2.2.1 y.2.1 = x := z1
  have ad : ∀ a ∈ h :: acc, ((y.1, tAdd y.2 x) : YT).2.2.1 a = y.2.2.1 a ∧ ((y.1, tAdd y.2 x) : YT).2.2.2.1 a = y.2.2.2.1 a ∧ ((y.1, tAdd y.2 x) : YT).2.2.2.2.2.1 a = y.2.2.2.2.2.1 a ∧ ((y.1, tAdd y.2 x) : YT).2.2.2.2.2.2 a = y.2.2.2.2.2.2 a := fun a ha => by
    obtain ⟨f1, f2, f3, f4, f5⟩ := tAdd_lt (x := x) (hm a ha).2
    exact ⟨f1, f2, f4, f5⟩
  refine W_add (P1 := []) hW2 x (fun a ha hk => ?_) ?_ (fun a ha => by rw [hrow] at ha; exact ha)
  · rcases List.mem_cons.mp ha with rfl | ha
    · cases hnm : y.2.2.2.2.2.1 a with
      | true => rfl
      | false => exact absurd hk (hn2 hnm)
    · exact absurd hk (hacc a ha)
  · have adh := ad h List.mem_cons_self
    unfold nW
    rw [z1']
    refine ⟨by rw [x2]; exact (a6 h hh.1 hh.2).1, ⟨by omega, by omega, by omega⟩, fun hk => by omega, fun hk => by omega, fun hk => by omega, fun hk => by omega, fun hk => by omega, fun _ hk => by omega, fun hk => by omega, fun hk => by omega, fun _ => ⟨by omega, by rw [hrow]; exact a8, fun a hm' => by rw [hrow] at hm'; exact hm a hm', fun a hm' => ?_, by rw [x5, x7], by rw [x7]; exact hln, by rw [x7]; exact h8, ?_, ?_, ?_, ?_⟩⟩
    · rw [x7] at hm'; rw [(ad a (List.mem_cons_of_mem _ hm')).1]; exact hacc a hm'
    · rw [hrow]; exact cn_mono hcn (fun a ha => (ad a ha).2.1)
    · rw [x7]; exact cn_mono hnr (fun a ha => (ad a (List.mem_cons_of_mem _ ha)).2.2.2)
    · rw [x3, htn, adh.1, adh.2.2.1]; exact hn1
    · rw [x3, htn, adh.1, adh.2.2.1]; exact hn2
theorem w_atoms {T : List Tok} {d f0 : Nat} {r : PR} (hb : bR T r) (hr : wR T d f0 r) (sc : Sc) (h : Nat) (nm : Bool) (s0 : YT) (j : Nat) : ∀ (last : Nat) (acc : List Nat) (s : PS) (q : Nat × PS), s.1 ≤ T.length → s.2.2.1.1 ≤ 24 → scG f0 s.2.2 sc → acc.length + j = 8 → (acc = [] → bgA (tkK T s.1) = true) →
    pu_W T d f0 s0 s.2.2 (h :: acc) [] → cn s.2.2.2.2.2.1 (h :: acc) → (∀ a ∈ acc, (s.2.2.2.2.1 a).1 ≠ 4 ∧ s.2.2.2.2.2.2.2.2 a = -1) → last = (h :: acc).getLast (List.cons_ne_nil _ _) → (nm = true → (s.2.2.2.2.1 h).1 = 2 ∨ (s.2.2.2.2.1 h).1 = 4) → (nm = false → (s.2.2.2.2.1 h).1 ≠ 4) →
    pAtoms r T sc h nm j last acc s = .ok q → pu_W T d f0 s0 q.2.2.2 [q.1] [] ∧ rf q.2.2.2 q.1 ∧ q.1 + 1 = q.2.2.2.2.1 ∧ (q.2.2.2.2.2.1 q.1).1 = 16 := by
  have fin : ∀ (acc : List Nat) (s : PS) (q : Nat × PS), acc ≠ [] → acc.length ≤ 8 → pu_W T d f0 s0 s.2.2 (h :: acc) [] → cn s.2.2.2.2.2.1 (h :: acc) → (∀ a ∈ acc, (s.2.2.2.2.1 a).1 ≠ 4 ∧ s.2.2.2.2.2.2.2.2 a = -1) → (nm = true → (s.2.2.2.2.1 h).1 = 2 ∨ (s.2.2.2.2.1 h).1 = 4) → (nm = false → (s.2.2.2.2.1 h).1 ≠ 4) →
      (.ok (s.2.2.2.1, sTr s (tAdd (tNr (tHr s.2.2.2 h nm) acc) (16, (s.2.2.2.2.1 h).2.1, h, -1, acc.length, 0, acc))) : PE (Nat × PS)) = .ok q → pu_W T d f0 s0 q.2.2.2 [q.1] [] ∧ rf q.2.2.2 q.1 ∧ q.1 + 1 = q.2.2.2.2.1 ∧ (q.2.2.2.2.2.1 q.1).1 = 16 := by
    intro acc s q ha h8 hW hcn hacc hn1 hn2 hq
    cases hq
    obtain ⟨⟨a1, a2, a3⟩, a4, a5, a6, a7, ⟨a8, a9⟩, a10, a11, a12⟩ := id hW
    obtain ⟨ha8, hpw⟩ := List.pairwise_cons.mp a8
    have hni : ∀ i, i ∉ h :: acc → i ≠ h ∧ i ∉ acc := fun i hi => ⟨fun hh => hi (by rw [hh]; exact List.mem_cons_self), fun hh => hi (List.mem_cons_of_mem _ hh)⟩
    have hW2 : pu_W T d f0 s0 (s.2.2.1, tNr (tHr s.2.2.2 h nm) acc) (h :: acc) [] := by
      refine W_ch hW rfl ⟨rfl, rfl, rfl⟩ (fun i hi => ⟨rfl, ?_, ?_⟩) (fun e e1 e2 hk => ?_)
      · exact upd_ne _ _ _ _ (hni i hi).1
      · exact lkN_no acc _ i (hni i hi).2
      · show pu_upd s.2.2.2.2.2.2.2.1 h nm e = s.2.2.2.2.2.2.2.1 e
        by_cases eh : e = h
        · rw [eh, upd_same]
          cases hnm : nm with
          | true => rw [eh] at hk; rcases hn1 hnm with hh | hh <;> (have : (s.2.2.2.2.1 h).1 = 3 := hk; omega)
          | false => have := (a6 e e1 e2).2.2.2.2.1 hk; rw [eh] at this; exact this.symm
        · exact upd_ne _ _ _ _ eh
    have hnr : ∀ a, a ∈ acc → s.2.2.2.2.2.2.2.2 a = -1 := fun a ha => (hacc a ha).2
    have hhr : (tNr (tHr s.2.2.2 h nm) acc).2.2.2.2.1 h = nm := upd_same _ _ _
    have hln : 1 ≤ acc.length := by
      cases acc with
      | nil => exact absurd rfl ha
      | cons x l => show 1 ≤ l.length + 1; omega
    have hA := W_call hW2 hcn (cn_lkN acc s.2.2.2.2.2.2.2.2 hpw hnr) (fun a hm => (hacc a hm).1) hln h8 (fun hh => hn1 (hhr.symm.trans hh)) (fun hh => hn2 (hhr.symm.trans hh))
    exact ⟨hA, rf_add (s.2.2.1, tNr (tHr s.2.2.2 h nm) acc) _, rfl, congrArg Prod.fst (tAdd_at (tNr (tHr s.2.2.2 h nm) acc) (16, (s.2.2.2.2.1 h).2.1, h, -1, acc.length, 0, acc)).1⟩
  induction j with
  | zero =>
    intro last acc s q hs h24 hsc hj hne hW hcn hacc hlast hn1 hn2 hq
    rw [pAtoms] at hq
    by_cases hbg : bgA (tkK T s.1) = true
    · rw [if_pos hbg] at hq; cases hq
    · rw [if_neg hbg] at hq
      exact fin acc s q (fun hh => hbg (hne hh)) (by omega) hW hcn hacc hn1 hn2 hq
  | succ j ih =>
    intro last acc s q hs h24 hsc hj hne hW hcn hacc hlast hn1 hn2 hq
    rw [pAtoms] at hq
    by_cases hbg : bgA (tkK T s.1) = true
    · rw [if_pos hbg] at hq
      obtain ⟨p, p1, p2⟩ := pB_ok hq
      obtain ⟨b1, b2, b3, b4, b5, b6, b7⟩ := b_atom hb sc false s h24 p p1
      obtain ⟨w1, w2, w3⟩ := w_atom hb hr sc false s p hs h24 hsc (by have := hW.1; have h1 : s0.2.1 ≤ s.2.2.2.1 := this.2.1; omega) p1
      obtain ⟨w4, w5, w6⟩ := w1
      have kp : (p.2.2.2.2.2.1 p.1).1 ≠ 4 := by
        by_cases e1 : tkK T s.1 = 1
        · obtain ⟨_, hh⟩ := w2 e1
          rcases hh with hh | hh
          · rw [hh]; omega
          · rw [if_neg (by rintro ⟨h1, _⟩; cases h1)] at hh; rw [hh]; omega
        · exact w3 e1
      have hWp : pu_W T d f0 s0 p.2.2.2 ((h :: acc) ++ [p.1]) [] := W_trans hW w4
      have hlm : last ∈ h :: acc := by rw [hlast]; exact List.getLast_mem _
      have hml : ∀ a ∈ h :: acc, a < s.2.2.2.1 := fun a ha => (hW.2.2.2.2.2.1.2 a ha).2.1
      have kp2 : ∀ a, a < s.2.2.2.1 → p.2.2.2.2.2.1 a = s.2.2.2.2.1 a ∧ p.2.2.2.2.2.2.1 a = s.2.2.2.2.2.1 a ∧ p.2.2.2.2.2.2.2.2.2 a = s.2.2.2.2.2.2.2.2 a := fun a ha => by
        obtain ⟨c1, c2, c3, c4, c5⟩ := w4.2.1 a ha
        exact ⟨c1, c2, c5⟩
      have hWx : pu_W T d f0 s0 (sTr p.2 (tNx p.2.2.2.2 last p.1)).2.2 (h :: (acc ++ [p.1])) [] := by
        refine W_ch hWp rfl ⟨rfl, rfl, rfl⟩ (fun i hi => ⟨upd_ne _ _ _ _ (fun hh => hi (by rw [hh]; exact List.mem_append.mpr (Or.inl hlm))), rfl, rfl⟩) (fun _ _ _ _ => rfl)
      refine ih p.1 (acc ++ [p.1]) (sTr p.2 (tNx p.2.2.2.2 last p.1)) q b2 b7 ?_ (by rw [List.length_append, List.length_singleton]; omega) (fun hh => by cases acc <;> cases hh) hWx ?_ (fun a ha => ?_) ?_ ?_ ?_ p2
      · have := scG_W hsc w4
        exact this
      · show cn (pu_upd p.2.2.2.2.2.2.1 last p.1) ((h :: acc) ++ [p.1])
        rw [hlast]
        refine cn_snoc acc h _ p.1 hW.2.2.2.2.2.1.1 (cn_mono hcn (fun a ha => (kp2 a (hml a ha)).2.1)) (fun x hx => by have := hml x hx; omega) w5.1
      · rcases List.mem_append.mp ha with ha | ha
        · obtain ⟨c1, c2, c3⟩ := kp2 a (hml a (List.mem_cons_of_mem _ ha))
          obtain ⟨d1, d2⟩ := hacc a ha
          exact ⟨by show (p.2.2.2.2.2.1 a).1 ≠ 4; rw [c1]; exact d1, c3.trans d2⟩
        · rw [List.mem_singleton.mp ha]; exact ⟨kp, w5.2.2.2⟩
      · exact gl acc h p.1
      · show nm = true → (p.2.2.2.2.2.1 h).1 = 2 ∨ (p.2.2.2.2.2.1 h).1 = 4
        rw [(kp2 h (hml h List.mem_cons_self)).1]; exact hn1
      · show nm = false → (p.2.2.2.2.2.1 h).1 ≠ 4
        rw [(kp2 h (hml h List.mem_cons_self)).1]; exact hn2
    · rw [if_neg hbg] at hq
      exact fin acc s q (fun hh => hbg (hne hh)) (by omega) hW hcn hacc hn1 hn2 hq
