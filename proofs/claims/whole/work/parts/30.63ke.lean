set_option maxRecDepth 100000
def parI (D : List Df) : Prop := ∀ (d : Nat) (x : Df), D[d]? = some x → x.2.1.length ≤ 6 ∧ x.2.1.length ≤ x.2.2.2.2.2.2.1 ∧ (∀ k p, x.2.1.reverse[k]? = some p → x.2.2.2.2.2.2.2.1 k = some p.2 ∧ x.2.2.2.2.2.2.2.2 k = -1 ∧ tyL p.2 ≤ 100) ∧ tyL x.2.2.1 ≤ 100
theorem pW_par {T : List Tok} {D : List Df} {t : Tr} (h : pW T D t) : parI D := fun d x hx => by
  obtain ⟨_, _, _, _, _, _, ⟨a1, a2, a3, a4⟩, a5, _⟩ := h.1 d x hx
  exact ⟨a1, a2, a4, a5⟩
theorem par_pl {D : List Df} (h : parI D) : plI D := fun d x hx => (h d x hx).1
theorem dPs_i {D : List Df} {d i : Nat} {x : Df} {p : Ty} (hx : D[d]? = some x) (h : (dPs D d)[i]? = some p) : ∃ q, x.2.1.reverse[i]? = some q ∧ q.2 = p := by
  rw [(dPs_some hx).1, List.getElem?_map] at h
  cases hq : x.2.1.reverse[i]? with
  | none => rw [hq] at h; cases h
  | some q => rw [hq] at h; exact ⟨q, rfl, Option.some.inj h⟩
theorem cK_sh {T : List Tok} {n : Nat} {D : List Df} {t : Tr} {c : CS} {g : pm_s} {u : pm_J} {Y : List Ty} {a : Nat} (H : cK T n D t c g u Y) (ha : a < t.1) : cK T n D t (c.1, c.2.1, c.2.2.1, pu_upd c.2.2.2 a true) g (wi u 27 a 1) Y := by
  obtain ⟨a1, a2, a3, a4, a5, a6, a7, a8, a9, a10⟩ := H.2.2.2.2.2 a ha
  refine cK_at a H ha (fun x k' h1 h2 => ⟨wi_ne _ _ _ _ _ _ (by omega), rfl⟩) (fun i hi => ⟨rfl, rfl, rfl, upd_ne _ _ _ _ hi⟩) ⟨(wi_ne _ _ _ _ _ _ (by omega)).trans a1, (wi_ne _ _ _ _ _ _ (by omega)).trans a2, (wi_ne _ _ _ _ _ _ (by omega)).trans a3, (wi_ne _ _ _ _ _ _ (by omega)).trans a4, (wi_ne _ _ _ _ _ _ (by omega)).trans a5, (wi_ne _ _ _ _ _ _ (by omega)).trans a6, ?_, a8, ?_, fun l' hl' => ?_⟩
  · rw [wi_ne _ _ _ _ _ _ (by omega)]; exact a7
  · rw [wi_at]; show 1 = ib (pu_upd c.2.2.2 a true a); rw [upd_same]; rfl
  · rw [wi_ne _ _ _ _ _ _ (by omega)]; exact a10 l' hl'
def atO (t : Tr) (c : CS) (a : Nat) : Prop := a < t.1 ∧ (t.2.1 a).1 ≤ 16 ∧ ((t.2.1 a).1 = 16 → (t.2.1 a).2.2.2.2.1 = ((t.2.1 a).2.2.2.2.2.2.length : Nat) ∧ (t.2.1 a).2.2.2.2.2.2.length ≤ 8) ∧ ∃ s, c.1 a = some s
theorem c_fits {T : List Tok} {n : Nat} {D : List Df} {t : Tr} {g : pm_s} {Y : List Ty} {e d : Nat} {x : Df} (N : Nat) (hN : 100000 ≤ N) (he : e < t.1) (hx : D[d]? = some x) (hpar : parI D) (j : Nat) : ∀ (i : Nat) (l : List Nat) (c : CS) (u : pm_J) (fuel : Nat), i + j = (dPs D d).length → j ≤ l.length → j + 1 ≤ fuel → cn t.2.2.1 l → (∀ a ∈ l, atO t c a) → cK T n D t c g u Y → dfI D c →
    ∃ (v : pm_J) (b : Bool) (c' : CS), K_Checker_fitAtoms_19 N g fuel (ie (e : Nat)) (ie (d : Nat)) (hdI l) (ie (i : Nat)) u = some (ib b, v) ∧ cK T n D t c' g v Y ∧ frK u v ∧ (match fits c.1 ((dPs D d).drop i) l (c.2.2.1 e) with | none => b = false | some f => b = true ∧ c' = (c.1, c.2.1, pu_upd c.2.2.1 e f, shs D t c ((dPs D d).drop i) l c.2.2.2)) := by
  have hd := (List.getElem?_eq_some_iff.mp hx).1
  obtain ⟨p1, p2, p3⟩ := dPs_some hx
  obtain ⟨r1, r2, r3, r4⟩ := hpar d x hx
  induction j with
  | zero =>
    intro i l c u fuel hi hl hf hcn hat H hdf
    obtain ⟨fuel, rfl⟩ : ∃ f', fuel = f' + 1 := ⟨fuel - 1, by omega⟩
    have hD := H.2.2.2.2.1 d x hx
    obtain ⟨_, _, _, _, _, b6, _⟩ := tb_row (g := g) H.2.2.2.1 d hd
    refine ⟨u, true, c, ?_, H, frK_refl _, ?_⟩
    · rw [K_Checker_fitAtoms_19, b6, Option.bind_some, hD.2.2.2.2.2.2.1, if_pos ((inle _ _ (by omega) (by omega)).mpr (by omega))]; rfl
    · rw [List.drop_eq_nil_of_le (by omega)]
      show true = true ∧ c = (c.1, c.2.1, pu_upd c.2.2.1 e (c.2.2.1 e), shs D t c [] l c.2.2.2)
      refine ⟨rfl, ?_⟩
      have h1 := sFt_same c e
      unfold sFt at h1
      have h2 : shs D t c [] l c.2.2.2 = c.2.2.2 := by unfold shs; rfl
      rw [h2]; exact h1.symm
  | succ j ih =>
    intro i l c u fuel hi hl hf hcn hat H hdf
    obtain ⟨fuel, rfl⟩ : ∃ f', fuel = f' + 1 := ⟨fuel - 1, by omega⟩
    cases l with
    | nil => exact absurd hl (by show ¬ (j + 1 ≤ 0); omega)
    | cons a l =>
      have hD := H.2.2.2.2.1 d x hx
      obtain ⟨_, _, _, _, _, b6, _⟩ := tb_row (g := g) H.2.2.2.1 d hd
      have hil : i < (dPs D d).length := by omega
      have hpi : (dPs D d)[i]? = some (dPs D d)[i] := List.getElem?_eq_getElem hil
      have hdr : (dPs D d).drop i = (dPs D d)[i] :: (dPs D d).drop (i + 1) := List.drop_eq_getElem_cons hil
      generalize (dPs D d)[i] = p at hpi hdr
      obtain ⟨pp, q1, q2⟩ := dPs_i hx hpi
      obtain ⟨t1, t2, t3⟩ := r3 i pp q1
      obtain ⟨l1, _, l3⟩ := tb_loc (g := g) H.2.2.2.1 hx hD i (by omega)
      rw [t1, q2] at l3
      obtain ⟨kp, kp1, kp2⟩ := l3
      rw [q2] at t3
      obtain ⟨ha1, ha2, ha3, s, hs⟩ := hat a List.mem_cons_self
      obtain ⟨_, _, _, _, _, m6, m7, _⟩ := tr_row (g := g) H.2.2.1 a ha1
      have ks := (H.2.2.2.2.2 a ha1).2.2.2.2.2.2.1
      rw [hs] at ks
      obtain ⟨ks, ks1, ks2⟩ := ks
      obtain ⟨v1, bb, f1, w1, w2, w3, w4⟩ := c_fit (T := T) (n := n) (D := D) (t := t) (g := g) (Y := Y) (e := e) N he p 104 0 kp ks s c u (by omega) (by omega) kp2 ks2 H
      have w1' : F_Checker_fit N 104 (ie (kp : Nat)) (ie (ks : Nat)) (ie (e : Nat)) 0 g u = some (ib bb, v1) := w1
      have hst : ∀ z, z = K_Checker_fitAtoms_19 N g (fuel + 1) (ie (e : Nat)) (ie (d : Nat)) (hdI (a :: l)) (ie (i : Nat)) u → z = (if ib bb = 0 then some (0, v1) else (F_Types_kind (ie (kp : Nat)) g v1).bind fun q9 => if q9 = 2 then (F_Checker_answersLetter (ie (a : Nat)) g v1).bind fun q12 => if q12 = 0 then (F_Tree_next (ie (a : Nat)) g v1).bind fun q14 => K_Checker_fitAtoms_19 N g fuel (ie (e : Nat)) (ie (d : Nat)) q14 (ie (i : Nat) + 1) v1 else (F_Tree_markShort (ie (a : Nat)) g v1).bind fun q15 => (F_Tree_next (ie (a : Nat)) g q15).bind fun q16 => K_Checker_fitAtoms_19 N g fuel (ie (e : Nat)) (ie (d : Nat)) q16 (ie (i : Nat) + 1) q15 else (F_Tree_next (ie (a : Nat)) g v1).bind fun q11 => K_Checker_fitAtoms_19 N g fuel (ie (e : Nat)) (ie (d : Nat)) q11 (ie (i : Nat) + 1) v1) := by
        intro z hz
        rw [hz, K_Checker_fitAtoms_19, b6, Option.bind_some, hD.2.2.2.2.2.2.1, if_neg (fun hh => by have := (inle _ _ (by omega) (by omega)).mp hh; omega), l1, Option.bind_some, kp1]
        show ((F_Tree_type (ie (a : Nat)) g u).bind fun q6 => _) = _
        rw [m7, Option.bind_some, ks1, w1', Option.bind_some]
        rfl
      rw [hdr]
      have hfits : fits c.1 (p :: (dPs D d).drop (i + 1)) (a :: l) (c.2.2.1 e) = (fit p s (c.2.2.1 e)).bind fun f' => fits c.1 ((dPs D d).drop (i + 1)) l f' := by rw [fits, hs]
      rw [hfits, hst _ rfl]
      cases hfit : fit p s (c.2.2.1 e) with
      | none =>
        rw [hfit] at w4
        subst w4
        exact ⟨v1, false, sFt c e f1, by rw [if_pos (show ib false = 0 from rfl)]; rfl, w2, w3, rfl⟩
      | some f =>
        rw [hfit] at w4
        obtain ⟨rfl, rfl⟩ := w4
        rw [if_neg (show ¬ (ib true = 0) by decide)]
        show ∃ v b c', _ ∧ _ ∧ _ ∧ (match fits c.1 ((dPs D d).drop (i + 1)) l f1 with | none => _ | some f => _)
        obtain ⟨kr, _⟩ := c_row w2.2.1 kp p kp2
        have haL := c_aL (a := a) w2 ha1 hdf ha3 ha2 (par_pl hpar)
        rw [aLt_c D t (show (sFt c e f1).2.1 = c.2.1 from rfl)] at haL
        rw [kr, Option.bind_some]
        obtain ⟨hh1, hh2⟩ := cn_hd hcn
        obtain ⟨_, _, _, _, _, n6, _⟩ := tr_row (g := g) w2.2.2.1 a ha1
        have n24 : v1.1 24 a = hdI l := (w2.2.2.2.2.2 a ha1).2.2.2.2.2.1.trans hh1
        have hle := tyK_le p
        have go : (isL p && aLt D t c a) = false → ∃ (v : pm_J) (b : Bool) (c' : CS), K_Checker_fitAtoms_19 N g fuel (ie (e : Nat)) (ie (d : Nat)) (hdI l) (ie (i : Nat) + 1) v1 = some (ib b, v) ∧ cK T n D t c' g v Y ∧ frK u v ∧ (match fits c.1 ((dPs D d).drop (i + 1)) l f1 with | none => b = false | some f => b = true ∧ c' = (c.1, c.2.1, pu_upd c.2.2.1 e f, shs D t c (p :: (dPs D d).drop (i + 1)) (a :: l) c.2.2.2)) := by
          intro hsb
          obtain ⟨v, b, c', i1, i2, i3, i4⟩ := ih (i + 1) l (sFt c e f1) v1 fuel (by omega) (by have : j + 1 ≤ l.length + 1 := hl; omega) (by omega) hh2 (fun b hb => hat b (List.mem_cons_of_mem _ hb)) w2 hdf
          rw [iadd1]
          have hup : (sFt c e f1).2.2.1 e = f1 := upd_same _ _ _
          rw [hup] at i4
          refine ⟨v, b, c', i1, i2, frK_trans w3 i3, ?_⟩
          have i4' : match fits c.1 ((dPs D d).drop (i + 1)) l f1 with | none => b = false | some f => b = true ∧ c' = (c.1, c.2.1, pu_upd (pu_upd c.2.2.1 e f1) e f, shs D t (sFt c e f1) ((dPs D d).drop (i + 1)) l c.2.2.2) := i4
          cases hff : fits c.1 ((dPs D d).drop (i + 1)) l f1 with
          | none => rw [hff] at i4'; exact i4'
          | some f =>
            rw [hff] at i4'
            refine ⟨i4'.1, ?_⟩
            have h2 := sFt_2 c e f1 f
            have h2' : pu_upd (pu_upd c.2.2.1 e f1) e f = pu_upd c.2.2.1 e f := congrArg (fun z : CS => z.2.2.1) h2
            rw [i4'.2, h2', shs, hsb, if_neg (by decide), shs_c D t (show (sFt c e f1).2.1 = c.2.1 from rfl)]
        by_cases e2 : tyK p = 2
        · rw [if_pos (show ie (tyK p : Nat) = 2 by rw [e2]; rfl), haL, Option.bind_some]
          cases hal : aLt D t c a with
          | false =>
            rw [if_pos (show ib false = 0 from rfl), n6, Option.bind_some, n24]
            exact go (by rw [hal, Bool.and_false])
          | true =>
            obtain ⟨_, _, _, s4, _⟩ := tr_set (g := g) w2.2.2.1 a ha1
            have H3 := cK_sh w2 ha1
            obtain ⟨_, _, _, _, _, o6, _⟩ := tr_row (g := g) H3.2.2.1 a ha1
            have o24 : (wi v1 27 a 1).1 24 a = hdI l := (H3.2.2.2.2.2 a ha1).2.2.2.2.2.1.trans hh1
            rw [if_neg (show ¬ (ib true = 0) by decide), s4, Option.bind_some, o6, Option.bind_some, o24]
            obtain ⟨v, b, c', i1, i2, i3, i4⟩ := ih (i + 1) l (c.1, c.2.1, pu_upd c.2.2.1 e f1, pu_upd c.2.2.2 a true) (wi v1 27 a 1) fuel (by omega) (by have : j + 1 ≤ l.length + 1 := hl; omega) (by omega) hh2 (fun b hb => hat b (List.mem_cons_of_mem _ hb)) H3 hdf
            rw [iadd1]
            have i4' : match fits c.1 ((dPs D d).drop (i + 1)) l (pu_upd c.2.2.1 e f1 e) with | none => b = false | some f => b = true ∧ c' = (c.1, c.2.1, pu_upd (pu_upd c.2.2.1 e f1) e f, shs D t (c.1, c.2.1, pu_upd c.2.2.1 e f1, pu_upd c.2.2.2 a true) ((dPs D d).drop (i + 1)) l (pu_upd c.2.2.2 a true)) := i4
            rw [upd_same] at i4'
            refine ⟨v, b, c', i1, i2, frK_trans (frK_wi w3 _ _ _ (by unfold cSKp; omega)) i3, ?_⟩
            cases hff : fits c.1 ((dPs D d).drop (i + 1)) l f1 with
            | none => rw [hff] at i4'; exact i4'
            | some f =>
              rw [hff] at i4'
              refine ⟨i4'.1, ?_⟩
              have h2 := sFt_2 c e f1 f
              have h2' : pu_upd (pu_upd c.2.2.1 e f1) e f = pu_upd c.2.2.1 e f := congrArg (fun z : CS => z.2.2.1) h2
              rw [i4'.2, h2', shs, hal, isL_K.mp e2, if_pos (by rfl), shs_c D t (show ((c.1, c.2.1, pu_upd c.2.2.1 e f1, pu_upd c.2.2.2 a true) : CS).2.1 = c.2.1 from rfl)]
        · rw [if_neg (show ¬ (ie (tyK p : Nat) = 2) from fun hh => e2 ((ineq _ 2 (by omega) (by omega)).mp hh)), n6, Option.bind_some, n24]
          exact go (by rw [show isL p = false from Bool.eq_false_iff.mpr (fun hh => e2 (isL_K.mpr hh)), Bool.false_and])
theorem c_apF {T : List Tok} {n : Nat} {D : List Df} {t : Tr} {c : CS} {g : pm_s} {u : pm_J} {Y : List Ty} (N : Nat) (H : cK T n D t c g u Y) (l : List Nat) : ∀ (s : Ty) (ks i m fuel : Nat), i + l.length = m → m ≤ 8 → l.length + 1 ≤ fuel → Y[ks]? = some s → cn t.2.2.1 l → (∀ a ∈ l, atO t c a) → ∃ w, K_Checker_typeOfCall_169 N fuel (ie (ks : Nat)) (hdI l) (ie (m : Nat)) (ie (i : Nat)) g u = some (w, g, u) ∧ tyN Y w (apF c.1 s l) := by
  induction l with
  | nil =>
    intro s ks i m fuel hi hm hf hks hcn hat
    obtain ⟨fuel, rfl⟩ : ∃ f', fuel = f' + 1 := ⟨fuel - 1, by omega⟩
    have hi' : i + 0 = m := hi
    refine ⟨ie (ks : Nat), ?_, ?_⟩
    · rw [K_Checker_typeOfCall_169, if_pos ((inle _ _ (by omega) (by omega)).mpr (by omega))]
    · have : apF c.1 s [] = some s := by unfold apF; rfl
      rw [this]; exact ⟨ks, rfl, hks⟩
  | cons a l ih =>
    intro s ks i m fuel hi hm hf hks hcn hat
    obtain ⟨fuel, rfl⟩ : ∃ f', fuel = f' + 1 := ⟨fuel - 1, by omega⟩
    have hi' : i + (l.length + 1) = m := hi
    have hf' : l.length + 1 + 1 ≤ fuel + 1 := hf
    obtain ⟨ha1, ha2, ha3, sa, hsa⟩ := hat a List.mem_cons_self
    obtain ⟨_, _, _, _, _, m6, m7, _⟩ := tr_row (g := g) H.2.2.1 a ha1
    obtain ⟨k1, _⟩ := c_row H.2.1 ks s hks
    have kv := (H.2.2.2.2.2 a ha1).2.2.2.2.2.2.1
    rw [hsa] at kv
    obtain ⟨ka, ka1, ka2⟩ := kv
    obtain ⟨hh1, hh2⟩ := cn_hd hcn
    have n24 : u.1 24 a = hdI l := (H.2.2.2.2.2 a ha1).2.2.2.2.2.1.trans hh1
    have hle := tyK_le s
    rw [K_Checker_typeOfCall_169, if_neg (fun hh => by have := (inle _ _ (by omega) (by omega)).mp hh; omega), k1, Option.bind_some]
    by_cases e4 : tyK s = 4
    · obtain ⟨A, B, hAB⟩ := tyK_eq (f := true) (show tyK s = tyF true from e4)
      subst hAB
      obtain ⟨l1, l2, l3, l4, l5, l6, _⟩ := c_parts H.2.1 true A B ks hks
      have hap : apF c.1 (tyP true A B) (a :: l) = if tyQ A sa = true then apF c.1 B l else none := by
        show apF c.1 (.mul A B) (a :: l) = _
        rw [apF, hsa]
      rw [if_pos (show ie (tyK (tyP true A B) : Nat) = 4 by rw [e4]; rfl), l5, Option.bind_some]
      show ∃ w, ((F_Tree_type (ie (a : Nat)) g u).bind fun q12 => _) = _ ∧ _
      rw [m7, Option.bind_some, ka1, hap]
      by_cases eq : A = sa
      · rw [if_pos ((c_same H.2.1 l1 ka A sa l3 ka2).mpr eq), if_pos ((tyQ_eq (tyC_g H.2.1 l1 A l3)).mpr eq), l6, Option.bind_some]
        show ∃ w, ((F_Tree_next (ie (a : Nat)) g u).bind fun q15 => _) = _ ∧ _
        rw [m6, Option.bind_some, n24, iadd1]
        exact ih B l2 (i + 1) m fuel (by omega) hm (by omega) l4 hh2 (fun b hb => hat b (List.mem_cons_of_mem _ hb))
      · rw [if_neg (fun hh => eq ((c_same H.2.1 l1 ka A sa l3 ka2).mp hh)), if_neg (fun hh => eq ((tyQ_eq (tyC_g H.2.1 l1 A l3)).mp hh))]
        exact ⟨_, rfl, rfl⟩
    · rw [if_neg (show ¬ (ie (tyK s : Nat) = 4) from fun hh => e4 ((ineq _ 4 (by omega) (by omega)).mp hh))]
      refine ⟨_, rfl, ?_⟩
      have : apF c.1 s (a :: l) = none := by
        cases s with
        | mul A B => exact absurd rfl e4
        | num k => unfold apF; rfl
        | var k => unfold apF; rfl
        | add A B => unfold apF; rfl
      rw [this]; rfl
theorem c_skip {T : List Tok} {n : Nat} {D : List Df} {t : Tr} {c : CS} {g : pm_s} {u : pm_J} {Y : List Ty} (N : Nat) (H : cK T n D t c g u Y) (x3 x5 : Int32) (m : Nat) (hm : m ≤ 8) (j : Nat) : ∀ (i : Nat) (l : List Nat) (fuel : Nat), i + j = m → j ≤ l.length → j + 1 ≤ fuel → cn t.2.2.1 l → (∀ a ∈ l, a < t.1) → K_Checker_typeOfCall_141 N fuel x3 (hdI l) x5 (ie (m : Nat)) (ie (i : Nat)) g u = K_Checker_typeOfCall_169 N N x3 (hdI (l.drop j)) x5 (ie (m : Nat)) g u ∧ cn t.2.2.1 (l.drop j) := by
  induction j with
  | zero =>
    intro i l fuel hi hl hf hcn _
    obtain ⟨fuel, rfl⟩ : ∃ f', fuel = f' + 1 := ⟨fuel - 1, by omega⟩
    rw [K_Checker_typeOfCall_141, if_pos ((inle _ _ (by omega) (by omega)).mpr (by omega))]
    exact ⟨rfl, hcn⟩
  | succ j ih =>
    intro i l fuel hi hl hf hcn hat
    obtain ⟨fuel, rfl⟩ : ∃ f', fuel = f' + 1 := ⟨fuel - 1, by omega⟩
    cases l with
    | nil => exact absurd hl (by show ¬ (j + 1 ≤ 0); omega)
    | cons a l =>
      have ha1 := hat a List.mem_cons_self
      obtain ⟨_, _, _, _, _, m6, _⟩ := tr_row (g := g) H.2.2.1 a ha1
      obtain ⟨hh1, hh2⟩ := cn_hd hcn
      have n24 : u.1 24 a = hdI l := (H.2.2.2.2.2 a ha1).2.2.2.2.2.1.trans hh1
      rw [K_Checker_typeOfCall_141, if_neg (fun hh => by have := (inle _ _ (by omega) (by omega)).mp hh; omega)]
      show ((F_Tree_next (ie (a : Nat)) g u).bind fun q28 => _) = _ ∧ _
      rw [m6, Option.bind_some, n24, iadd1]
      exact ih (i + 1) l fuel (by omega) (by have : j + 1 ≤ l.length + 1 := hl; omega) (by omega) hh2 (fun b hb => hat b (List.mem_cons_of_mem _ hb))
