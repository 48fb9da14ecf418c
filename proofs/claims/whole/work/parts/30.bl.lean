set_option maxRecDepth 100000
theorem cmp_S {o : Nat → Int} {n : Nat} {q : List Tok × List Df × Tr × CS} (h : cmpS o n = .inr q) : pS q.1 q.2.1 q.2.2.1 := by
  unfold cmpS at h
  cases hs : scS o n 3001 0 [] with
  | inl p => rw [hs] at h; cases h
  | inr T =>
    rw [hs] at h
    dsimp only at h
    cases hp : pProg T 31 [] 0 tr0 with
    | error e => rw [hp] at h; cases h
    | ok p =>
      rw [hp] at h
      dsimp only at h
      cases hc : clash T [] p.1 with
      | some w => rw [hc] at h; cases h
      | none =>
        rw [hc] at h
        dsimp only at h
        cases hk : ckA T p.1 p.2 p.1 cs0 with
        | error f => rw [hk] at h; cases h
        | ok c =>
          rw [hk] at h
          cases h
          exact s_all hp
theorem gX_of {T : List Tok} {n : Nat} {D : List Df} {t : Tr} {c : CS} {sT : Nat → Ta} {g : pm_s} {u u' : pm_J} {Y Y' : List Ty} (hg : gdS (.inr (T, D, t, c))) (hS : pS T D t) (H : cF T n D t c sT g u Y) (H' : rC T n D t c c.1 u' Y') : gX T D t c := by
  obtain ⟨g1, g2, g3, g4, g5⟩ := hg
  refine ⟨g1, hS, g2, g4, g5, fun e s hs => ?_, fun d x hx => ⟨?_, fun p hp => ?_⟩⟩
  · by_cases he : e < t.1
    · have hk := (H.2.2.2.2.2 e he).2.2.2.2.2.2.1
      rw [hs] at hk
      obtain ⟨k, _, k2⟩ := hk
      exact tyC_g H.2.1 k s k2
    · have hn := (g4.2.2 e (Nat.le_of_not_lt he)).1
      rw [hn] at hs; cases hs
  · obtain ⟨⟨_, _, ⟨k, _, k2⟩, _⟩, _⟩ := H'.2.2.2.2.2.1 d x hx
    exact tyR_g H'.2.2.2.2.1 k _ k2
  · obtain ⟨⟨_, ⟨_, _, p3⟩, _⟩, _⟩ := H'.2.2.2.2.2.1 d x hx
    obtain ⟨i, hi⟩ := List.mem_iff_getElem?.mp (List.mem_reverse.mpr hp)
    obtain ⟨_, k, _, k2⟩ := p3 i p hi
    exact tyR_g H'.2.2.2.2.1 k _ k2
theorem rs_of {T : List Tok} {D : List Df} {t : Tr} {c : CS} {τ : List Ty} {E : Ev} {hp : Hp} {Y Y' : List Ty} {u : pm_J} (hT' : hT T D t c τ E hp.1) (hc : hC Y u hp) (hr : hR Y' u hp) {s : Ty} : ∀ {v : Va}, tyG s → tyM s = 0 → vT τ v s → rsV u hp.1.length s v := by
  induction s with
  | num k =>
    intro v _ hM hv
    have hk : k < 2 := by
      by_cases e : k < 2
      · exact e
      · exfalso
        have h' : (if k < 2 then 0 else 2 ^ (k - 2)) = 0 := hM
        rw [if_neg e] at h'
        have := Nat.pow_pos (n := k - 2) (show 0 < 2 by omega); omega
    have h1 := hv.1
    have h2 : tgO (.num k) = k := by show (if k < 2 then k else 4) = k; rw [if_pos hk]
    exact ⟨hk, h1.trans h2⟩
  | var k => intro v hg; exact hg.elim
  | add a b iha ihb =>
    intro v hg hM hv
    have h' : tyM a ||| tyM b = 0 := hM
    have h2 := Nat.or_eq_zero_iff.mp h'
    have h1 : v.1 = 2 := hv.1
    rcases hv.2 with hh | ⟨i, i1, i2, i3⟩
    · omega
    · have hil := (List.getElem?_eq_some_iff.mp i3).1
      obtain ⟨it, hit⟩ : ∃ it, hp.1[i]? = some it := ⟨_, List.getElem?_eq_getElem (by rw [hT'.1]; exact hil)⟩
      obtain ⟨k0, ka, kb⟩ := hT'.2.2 i _ it i3 hit
      obtain ⟨_, _, c3, c4, _⟩ := hc.2.2.1 i it hit
      obtain ⟨r1, r2, r3, r4⟩ := (hr.2.2.1 i it hit).1 k0
      have hil' := (List.getElem?_eq_some_iff.mp hit).1
      exact ⟨h1, i, it.2.1, it.2.2.1, i1, hil', c3, c4 (by omega), r1, r2, r3, r4, iha hg.1 h2.1 ka, ihb hg.2 h2.2 kb⟩
  | mul a b _ _ => intro v _ _ hv; exact hv.1
theorem tyK_01 {p : Ty} (hg : tyG p) : (tyK p ≤ 1) ↔ ∃ q, q < 2 ∧ p = .num q := by
  cases p with
  | num k =>
    show (if k < 2 then k else 2) ≤ 1 ↔ _
    by_cases e : k < 2
    · rw [if_pos e]; exact ⟨fun _ => ⟨k, e, rfl⟩, fun _ => by omega⟩
    · rw [if_neg e]; exact ⟨fun h => by omega, fun ⟨q, h1, h2⟩ => by cases h2; omega⟩
  | var k => exact hg.elim
  | add a b => exact ⟨fun h => by have h' : (3 : Nat) ≤ 1 := h; omega, fun ⟨q, h1, h2⟩ => by cases h2⟩
  | mul a b => exact ⟨fun h => by have h' : (4 : Nat) ≤ 1 := h; omega, fun ⟨q, h1, h2⟩ => by cases h2⟩
theorem tk_loop {T : List Tok} {n : Nat} {D : List Df} {t : Tr} {c : CS} {sT : Nat → Ta} {g g' : pm_s} {u u' : pm_J} {Y Y' : List Ty} {d : Nat} {x2 x3 : Int32} (N : Nat) (G : gX T D t c) (H : cF T n D t c sT g u Y) (H' : rC T n D t c c.1 u' Y') (hd : d < D.length) (h4 : u.1 0 4 = ie ((dPs D d).length : Nat)) (m : Nat) : ∀ (i f f' : Nat), i + m = (dPs D d).length → m + 1 < f → m + 1 < f' → ((∀ k p, i ≤ k → (dPs D d)[k]? = some p → ∃ q, q < 2 ∧ p = .num q) ∧ K_BC_takesArguments_19 N g u f (ie (d : Nat)) (ie (i : Nat)) = some 1) ∨ (K_BC_takesArguments_19 N g u f (ie (d : Nat)) (ie (i : Nat)) = some 0 ∧ K_Md_run_42 N g' f' (ie (d : Nat)) x2 x3 1 (ie (i : Nat)) u' = K_Md_run_87 N g' (ie (d : Nat)) x2 x3 0 u') := by
  have hx : D[d]? = some D[d] := List.getElem?_eq_getElem hd
  have h30 := H.2.2.2.1.2
  have hw : dWd D d = D[d].2.2.2.2.2.2.1 := by unfold dWd; rw [hx]
  have hpw : (dPs D d).length ≤ D[d].2.2.2.2.2.2.1 ∧ (dPs D d).length ≤ 6 := by
    rw [(dPs_some hx).2.2]
    exact ⟨(G.1.1 d _ hx).2.2.2.2.2.2.1.2.1, (G.1.1 d _ hx).2.2.2.2.2.2.1.1⟩
  have okd := okn d 30 (by omega) (by omega)
  have ntd := ntn d (by omega)
  obtain ⟨_, _, b3, _, b5⟩ := rtb_all H' hd
  induction m with
  | zero =>
    intro i f f' hi hf hf'
    obtain ⟨f, rfl⟩ : ∃ f'', f = f'' + 1 := ⟨f - 1, by omega⟩
    refine Or.inl ⟨fun k p hk hp => ?_, ?_⟩
    · have := (List.getElem?_eq_some_iff.mp hp).1; omega
    · rw [K_BC_takesArguments_19, h4, if_pos ((inle _ _ (by omega) (by omega)).mpr (by omega))]
  | succ m ih =>
    intro i f f' hi hf hf'
    obtain ⟨f, rfl⟩ : ∃ f'', f = f'' + 1 := ⟨f - 1, by omega⟩
    obtain ⟨f', rfl⟩ : ∃ f'', f' = f'' + 1 := ⟨f' - 1, by omega⟩
    obtain ⟨p, hp⟩ : ∃ p, (dPs D d)[i]? = some p := ⟨_, List.getElem?_eq_getElem (by omega)⟩
    obtain ⟨l1, l2, _⟩ := par_ty G hx hp
    obtain ⟨e1, e2⟩ := tb_loc2 (g := g) H.2.2.2.1 hx (H.2.2.2.2.1 d _ hx).1 i (by omega)
    have hloc : D[d].2.2.2.2.2.2.2.1 i = some p := by
      obtain ⟨q, q1, q2⟩ := dPs_i hx hp
      have := ((G.1.1 d _ hx).2.2.2.2.2.2.1.2.2.2 i q q1).1
      rw [this, q2]
    have e2' := e2
    rw [hloc] at e2'
    obtain ⟨ky, k1, k2⟩ := e2'
    have hkd := (c_row H.2.1 ky p k2).1
    have hcl : K_BC_takesArguments_19 N g u (f + 1) (ie (d : Nat)) (ie (i : Nat)) = if ie (tyK p : Nat) = 0 then K_BC_takesArguments_19 N g u f (ie (d : Nat)) (ie ((i + 1 : Nat) : Int)) else if ie (tyK p : Nat) = 1 then K_BC_takesArguments_19 N g u f (ie (d : Nat)) (ie ((i + 1 : Nat) : Int)) else some 0 := by
      rw [K_BC_takesArguments_19, h4, if_neg (fun hh => by have := (inle _ _ (by omega) (by omega)).mp hh; omega), e1, Option.bind_some, k1, hkd, Option.bind_some, iadd1]
    obtain ⟨kr, r1, r2, r3⟩ := b5 i p hp
    have e6 : (6 : Int32) * ie (d : Nat) + ie (i : Nat) = ie ((6 * d + i : Nat) : Int) := by
      rw [show (6 : Int32) = ie ((6 : Nat) : Int) from rfl, ie_mul, ie_add]; rfl
    have hrl : K_Md_run_42 N g' (f' + 1) (ie (d : Nat)) x2 x3 1 (ie (i : Nat)) u' = if (2 : Int32) ≤ ie (kr : Nat) then K_Md_run_42 N g' f' (ie (d : Nat)) x2 x3 0 (ie ((i + 1 : Nat) : Int)) u' else K_Md_run_42 N g' f' (ie (d : Nat)) x2 x3 1 (ie ((i + 1 : Nat) : Int)) u' := by
      rw [K_Md_run_42, if_neg (by decide), if_pos okd, ntd, b3, if_neg (fun hh => by have := (inle _ _ (by omega) (by omega)).mp hh; omega), e6, if_pos (okn (6 * d + i) 180 (by omega) (by omega)), ntn _ (by omega), r1, iadd1]
    have hK4 : tyK p ≤ 4 := by
      cases p with
      | num k => show (if k < 2 then k else 2) ≤ 4; by_cases e : k < 2
                 · rw [if_pos e]; omega
                 · rw [if_neg e]; omega
      | var k => exact Nat.zero_le _
      | add a b => show (3 : Nat) ≤ 4; omega
      | mul a b => show (4 : Nat) ≤ 4; omega
    by_cases hq : ∃ q, q < 2 ∧ p = .num q
    · have h1 := (tyK_01 l2).mpr hq
      obtain ⟨q, q1, q2⟩ := hq
      have hkq : kr = q := by rw [q2] at r3; exact (ty_num H'.2.2.2.2.1 r3).1
      have hcl' : K_BC_takesArguments_19 N g u (f + 1) (ie (d : Nat)) (ie (i : Nat)) = K_BC_takesArguments_19 N g u f (ie (d : Nat)) (ie ((i + 1 : Nat) : Int)) := by
        rw [hcl]
        rcases (show tyK p = 0 ∨ tyK p = 1 by omega) with e | e
        · rw [e, if_pos (by decide)]
        · rw [e, if_neg (by decide), if_pos (by decide)]
      rw [hcl', hrl, if_neg (show ¬ ((2 : Int32) ≤ ie (kr : Nat)) from fun hh => by have := (inle 2 _ (by omega) (by omega)).mp hh; omega)]
      rcases ih (i + 1) f f' (by omega) (by omega) (by omega) with ⟨a1, a2⟩ | a
      · refine Or.inl ⟨fun k p' hk hp' => ?_, a2⟩
        by_cases e : k = i
        · subst e; rw [hp] at hp'; cases hp'; exact ⟨q, q1, q2⟩
        · exact a1 k p' (by omega) hp'
      · exact Or.inr a
    · have h1 : ¬ (tyK p ≤ 1) := fun hh => hq ((tyK_01 l2).mp hh)
      refine Or.inr ⟨?_, ?_⟩
      · rw [hcl, if_neg (show ¬ (ie (tyK p : Nat) = (0 : Int32)) from fun hh => by have := (ineq _ 0 (by omega) (by omega)).mp hh; omega), if_neg (show ¬ (ie (tyK p : Nat) = (1 : Int32)) from fun hh => by have := (ineq _ 1 (by omega) (by omega)).mp hh; omega)]
      · have hk2 : 2 ≤ kr := by
          by_cases e : 2 ≤ kr
          · exact e
          · exfalso
            have hb := H'.2.2.2.2.1.2.2.2.2.1 kr (by omega)
            rw [hb] at r3; cases r3
            exact hq ⟨kr, by omega, rfl⟩
        rw [hrl, if_pos (show (2 : Int32) ≤ ie (kr : Nat) from (inle 2 _ (by omega) (by omega)).mpr hk2)]
        obtain ⟨f', rfl⟩ : ∃ f'', f' = f'' + 1 := ⟨f' - 1, by omega⟩
        rw [K_Md_run_42, if_pos rfl]
