set_option maxRecDepth 100000
def tOK (T : List Tok) (D : List Df) (t : Tr) (lc : Lc) (c : CS) (e : Nat) : Prop :=
  (((t.2.1 e).1 = 3 ∨ (t.2.1 e).1 = 4) → ∃ d : Nat, fDef T (t.2.1 e).2.2.2.2.2.1 D 0 = (d : Nat) ∧ d < D.length ∧ c.2.1 e = some d ∧ ((dPs D d).length = 0 → c.1 e = some (dTy D d)) ∧ ((dPs D d).length ≠ 0 → (t.2.1 e).1 = 4 ∧ c.1 e = none)) ∧
  (¬ ((t.2.1 e).1 = 3 ∨ (t.2.1 e).1 = 4) → (t.2.1 e).1 ≠ 16 → c.2.1 e = none ∧ ∃ s, nty lc c.1 (t.2.1 e) = some s ∧ c.1 e = some s ∧ tyL s ≤ 200) ∧
  ((t.2.1 e).1 = 16 → ∃ r, c.1 e = some r ∧ tyL r ≤ 200 ∧ (match calD D t c (t.2.1 e).2.2.1.toNat with
    | none => c.2.1 e = none ∧ ∃ s, c.1 (t.2.1 e).2.2.1.toNat = some s ∧ apF c.1 s (t.2.1 e).2.2.2.2.2.2 = some r
    | some d => c.2.1 e = some d ∧ (dPs D d).length ≤ (t.2.1 e).2.2.2.2.2.2.length ∧ fits c.1 (dPs D d) (t.2.1 e).2.2.2.2.2.2 (fun _ => none) = some (c.2.2.1 e) ∧ ∃ s, sbt (c.2.2.1 e) (dTy D d) = some s ∧ apF c.1 s ((t.2.1 e).2.2.2.2.2.2.drop (dPs D d).length) = some r))
def agr (e : Nat) (c c' : CS) : Prop := ∀ j, j < e → c'.1 j = c.1 j ∧ c'.2.1 j = c.2.1 j ∧ c'.2.2.1 j = c.2.2.1 j
theorem agr_t {e : Nat} {a b c : CS} (h : agr e a b) (h' : agr e b c) : agr e a c := fun j hj => ⟨(h' j hj).1.trans (h j hj).1, (h' j hj).2.1.trans (h j hj).2.1, (h' j hj).2.2.trans (h j hj).2.2⟩
theorem agr_le {e e' : Nat} {a b : CS} (h : agr e' a b) (he : e ≤ e') : agr e a b := fun j hj => h j (by omega)
theorem agr_r (e : Nat) (c : CS) : agr e c c := fun _ _ => ⟨rfl, rfl, rfl⟩
theorem apF_cg {ty ty' : Nat → Option Ty} : ∀ (l : List Nat) (s : Ty), (∀ a ∈ l, ty' a = ty a) → apF ty' s l = apF ty s l
  | [], s, _ => by unfold apF; rfl
  | a :: l, .mul A B, h => by
    rw [apF, apF, h a List.mem_cons_self]
    cases ty a with
    | none => rfl
    | some r => show (if tyQ A r = true then _ else _) = (if tyQ A r = true then _ else _); rw [apF_cg l B (fun b hb => h b (List.mem_cons_of_mem _ hb))]
  | a :: l, .num k, _ => by unfold apF; rfl
  | a :: l, .var k, _ => by unfold apF; rfl
  | a :: l, .add A B, _ => by unfold apF; rfl
theorem fits_cg {ty ty' : Nat → Option Ty} : ∀ (ps : List Ty) (l : List Nat) (f : Fi), (∀ a ∈ l, ty' a = ty a) → fits ty' ps l f = fits ty ps l f
  | [], _, _, _ => by unfold fits; rfl
  | _ :: _, [], _, _ => by unfold fits; rfl
  | p :: ps, a :: l, f, h => by
    rw [fits, fits, h a List.mem_cons_self]
    cases ty a with
    | none => rfl
    | some r =>
      show ((fit p r f).bind fun f' => _) = ((fit p r f).bind fun f' => _)
      congr 1; funext f'
      exact fits_cg ps l f' (fun b hb => h b (List.mem_cons_of_mem _ hb))
theorem lTy_cg {y : YT} {f0 e l : Nat} {ty ty' : Nat → Option Ty} (h : lOK y f0 e l) (hh : ∀ j, j < e → ty' j = ty j) : lTy y.1 ty' l = lTy y.1 ty l := by
  unfold lTy
  rcases h.2 with ⟨h1, _⟩ | ⟨b, b1, b2, b3, _⟩
  · rw [h1, if_pos (by omega), if_pos (by omega)]
  · rw [b1, if_neg (by omega), if_neg (by omega), show ((b : Nat) : Int).toNat = b by omega, hh b b3]
theorem nty_cg {T : List Tok} {d f0 : Nat} {lc : Lc} {t : Tr} {e : Nat} {ty ty' : Nat → Option Ty} (hW : nW T d f0 f0 (lc, t) e) (hk : ¬ ((t.2.1 e).1 = 3 ∨ (t.2.1 e).1 = 4)) (hk16 : (t.2.1 e).1 ≠ 16) (hh : ∀ j, j < e → ty' j = ty j) : nty lc ty' (t.2.1 e) = nty lc ty (t.2.1 e) := by
  unfold nW at hW
  dsimp only at hW
  obtain ⟨_, w2, w3, _, _, _, w7, w8, w9, w10, _⟩ := hW
  have cc : ∀ z, cO (lc, t) f0 e z → ty' z.toNat = ty z.toNat := fun z ⟨j, j1, _, j3, _⟩ => by rw [j1, show ((j : Nat) : Int).toNat = j by omega]; exact hh j j3
  unfold nty
  by_cases k0 : (t.2.1 e).1 = 0
  · rw [if_pos k0, if_pos k0]
  rw [if_neg k0, if_neg k0]
  by_cases k1 : (t.2.1 e).1 = 1
  · rw [if_pos k1, if_pos k1]
  rw [if_neg k1, if_neg k1]
  by_cases k2 : (t.2.1 e).1 = 2
  · rw [if_pos k2, if_pos k2]
    obtain ⟨l, l1, l2⟩ := w3 k2
    rw [l1, show ((l : Nat) : Int).toNat = l by omega]
    exact lTy_cg l2 hh
  rw [if_neg k2, if_neg k2]
  by_cases k7 : (t.2.1 e).1 = 7
  · rw [if_pos k7, if_pos k7]; exact cc _ (w9 (Or.inl k7))
  rw [if_neg k7, if_neg k7]
  have hb := k16 w2.1 w2.2.1 w2.2.2 hk
  rw [cc _ (w8 (by clear w3 w7 w8 w9 w10 cc; omega) (by clear w3 w7 w8 w9 w10 cc; omega))]
  cases ty (t.2.1 e).2.2.1.toNat with
  | none => rfl
  | some a =>
    by_cases k9 : (t.2.1 e).1 = 9
    · obtain ⟨_, l, l1, l2, l3, l4⟩ := w7 k9
      have := lTy_cg (y := (lc, t)) (f0 := f0) (e := e) (ty := ty) (ty' := ty') (l := l) ⟨l2, Or.inl ⟨l3, l4⟩⟩ hh
      have this' : lTy lc ty' l = lTy lc ty l := this
      show (if (t.2.1 e).1 = 9 then _ else _) = (if (t.2.1 e).1 = 9 then _ else _)
      rw [if_pos k9, if_pos k9, l1, show ((l : Nat) : Int).toNat = l by omega, this']
    · show (if (t.2.1 e).1 = 9 then _ else _) = (if (t.2.1 e).1 = 9 then _ else _)
      rw [if_neg k9, if_neg k9]
      by_cases k14 : (t.2.1 e).1 = 14
      · rw [if_pos k14, if_pos k14]
      rw [if_neg k14, if_neg k14]
      by_cases k15 : (t.2.1 e).1 = 15
      · rw [if_pos k15, if_pos k15]
      rw [if_neg k15, if_neg k15, cc _ (w9 (by clear w3 w7 w8 w9 w10 cc; omega))]
      cases ty (t.2.1 e).2.2.2.1.toNat with
      | none => rfl
      | some b =>
        show (if (t.2.1 e).1 = 8 then _ else _) = (if (t.2.1 e).1 = 8 then _ else _)
        by_cases k8 : (t.2.1 e).1 = 8
        · rw [if_pos k8, if_pos k8, cc _ (w10 k8)]
        · rw [if_neg k8, if_neg k8]
theorem calD_cg {D : List Df} {t : Tr} {c c' : CS} {h : Nat} (hh : c'.2.1 h = c.2.1 h) : calD D t c' h = calD D t c h := by unfold calD; rw [hh]
theorem tOK_mono {T : List Tok} {D : List Df} {t : Tr} {lc : Lc} {d f0 e : Nat} {c c' : CS} (hW : nW T d f0 f0 (lc, t) e) (h : tOK T D t lc c e) (ha : agr (e + 1) c c') : tOK T D t lc c' e := by
  obtain ⟨a1, a2, a3⟩ := h
  obtain ⟨b1, b2, b3⟩ := ha e (by omega)
  have hty : ∀ j, j < e → c'.1 j = c.1 j := fun j hj => (ha j (by omega)).1
  refine ⟨?_, fun h1 h2 => ?_, fun h1 => ?_⟩
  · rw [b1, b2]; exact a1
  · rw [b1, b2, nty_cg hW h1 h2 hty]; exact a2 h1 h2
  · obtain ⟨r, r1, r2, r3⟩ := a3 h1
    obtain ⟨c1, _, c3, _⟩ := hW.2.2.2.2.2.2.2.2.2.2 h1
    have hrow : row (t.2.1 e) = (t.2.1 e).2.2.1.toNat :: (t.2.1 e).2.2.2.2.2.2 := row_c h1
    have hm : ∀ a ∈ (t.2.1 e).2.2.1.toNat :: (t.2.1 e).2.2.2.2.2.2, a < e := fun a hm => by
      have hm' : a ∈ row (t.2.1 e) := by rw [hrow]; exact hm
      exact (c3 a hm').2
    have hh := hm _ List.mem_cons_self
    have hat : ∀ a ∈ (t.2.1 e).2.2.2.2.2.2, c'.1 a = c.1 a := fun a hm' => hty a (hm a (List.mem_cons_of_mem _ hm'))
    refine ⟨r, b1.trans r1, r2, ?_⟩
    rw [calD_cg (ha _ (by omega)).2.1]
    cases hcal : calD D t c (t.2.1 e).2.2.1.toNat with
    | none =>
      rw [hcal] at r3
      obtain ⟨q1, s, q2, q3⟩ := r3
      exact ⟨b2.trans q1, s, (hty _ hh).trans q2, by rw [apF_cg _ _ hat]; exact q3⟩
    | some d' =>
      rw [hcal] at r3
      obtain ⟨q1, q2, q3, s, q4, q5⟩ := r3
      exact ⟨b2.trans q1, q2, by rw [fits_cg _ _ _ hat, b3]; exact q3, s, by rw [b3]; exact q4, by rw [apF_cg _ _ (fun a ha' => hat a (List.mem_of_mem_drop ha'))]; exact q5⟩
theorem ck_step {T : List Tok} {D : List Df} {t : Tr} {lc : Lc} {d f0 e : Nat} {c c' : CS} (hW : nW T d f0 f0 (lc, t) e) (hI : kI D t f0 e c) (hq : ck T D t lc c e = .ok c') : agr e c c' ∧ tOK T D t lc c' e ∧ (∀ dd, (t.2.1 e).1 = 16 → c'.2.1 e = some dd → c'.2.2.2 = shs D t c (dPs D dd) (t.2.1 e).2.2.2.2.2.2 c.2.2.2) ∧ (((t.2.1 e).1 = 16 → c'.2.1 e = none) → c'.2.2.2 = c.2.2.2) := by
  unfold ck at hq
  have i5 := hI.2.2.2.2 e (Nat.le_refl _)
  by_cases h34 : (t.2.1 e).1 = 3 ∨ (t.2.1 e).1 = 4
  · rw [if_pos h34] at hq
    by_cases hm : fDef T (t.2.1 e).2.2.2.2.2.1 D 0 = -1
    · rw [if_pos hm] at hq; cases hq
    · rw [if_neg hm] at hq
      obtain ⟨dd, d1, d2⟩ := fDef_n hm
      rw [d1, show ((dd : Nat) : Int).toNat = dd by omega] at hq
      by_cases h0 : (dPs D dd).length = 0
      · rw [if_pos h0] at hq; cases hq
        refine ⟨fun j hj => ⟨upd_ne _ _ _ _ (by omega), upd_ne _ _ _ _ (by omega), rfl⟩, ⟨fun _ => ⟨dd, d1, d2, upd_same _ _ _, fun _ => upd_same _ _ _, fun hh => absurd h0 hh⟩, fun hh => absurd h34 hh, fun hh => by omega⟩, fun dd' h16 _ => by omega, fun _ => rfl⟩
      · rw [if_neg h0] at hq
        by_cases e4 : (t.2.1 e).1 = 4
        · rw [if_pos e4] at hq; cases hq
          exact ⟨fun j hj => ⟨rfl, upd_ne _ _ _ _ (by omega), rfl⟩, ⟨fun _ => ⟨dd, d1, d2, upd_same _ _ _, fun hh => absurd hh h0, fun _ => ⟨e4, i5.1⟩⟩, fun hh => absurd h34 hh, fun hh => by omega⟩, fun dd' h16 _ => by omega, fun _ => rfl⟩
        · rw [if_neg e4] at hq; cases hq
  · rw [if_neg h34] at hq
    have hL : ∀ z, ckL (t.2.1 e) e z = .ok c' → ∃ p, z = some p ∧ c' = sTy p.2 e p.1 ∧ tyL p.1 ≤ 200 := by
      intro z hz
      cases z with
      | none => cases hz
      | some p =>
        have hz' : (if 200 < tyL p.1 then .error (7, (t.2.1 e).2.1) else .ok (sTy p.2 e p.1) : PE CS) = .ok c' := hz
        by_cases hl : 200 < tyL p.1
        · rw [if_pos hl] at hz'; cases hz'
        · rw [if_neg hl] at hz'; cases hz'; exact ⟨p, rfl, rfl, by omega⟩
    obtain ⟨p, p1, p2, p3⟩ := hL _ hq
    by_cases e16 : (t.2.1 e).1 = 16
    · rw [if_pos e16] at p1
      obtain ⟨c1, _, c3, _⟩ := hW.2.2.2.2.2.2.2.2.2.2 e16
      have hrow : row (t.2.1 e) = (t.2.1 e).2.2.1.toNat :: (t.2.1 e).2.2.2.2.2.2 := row_c e16
      have hm : ∀ a ∈ (t.2.1 e).2.2.1.toNat :: (t.2.1 e).2.2.2.2.2.2, a < e := fun a hm => by
        have hm' : a ∈ row (t.2.1 e) := by rw [hrow]; exact hm
        exact (c3 a hm').2
      have hh := hm _ List.mem_cons_self
      have hat : ∀ s : Ty, ∀ a ∈ (t.2.1 e).2.2.2.2.2.2, pu_upd c.1 e (some s) a = c.1 a := fun s a hm' => upd_ne _ _ _ _ (by have := hm a (List.mem_cons_of_mem _ hm'); omega)
      unfold ckC at p1
      cases hcal : calD D t c (t.2.1 e).2.2.1.toNat with
      | none =>
        rw [hcal] at p1
        cases hhd : c.1 (t.2.1 e).2.2.1.toNat with
        | none => rw [hhd] at p1; cases p1
        | some s =>
          rw [hhd] at p1
          have p1' : ((apF c.1 s (t.2.1 e).2.2.2.2.2.2).map fun r => (r, c)) = some p := p1
          cases hap : apF c.1 s (t.2.1 e).2.2.2.2.2.2 with
          | none => rw [hap] at p1'; cases p1'
          | some r =>
            rw [hap] at p1'; cases p1'
            subst p2
            refine ⟨fun j hj => ⟨upd_ne _ _ _ _ (by omega), rfl, rfl⟩, ⟨fun hx => absurd hx h34, fun _ hx => absurd e16 hx, fun _ => ⟨r, upd_same _ _ _, p3, ?_⟩⟩, fun dd' _ hh => (by have hh' : c.2.1 e = some dd' := hh; rw [i5.2.1] at hh'; cases hh'), fun _ => rfl⟩
            rw [calD_cg (c := c) (c' := sTy c e r) rfl, hcal]
            exact ⟨i5.2.1, s, (upd_ne _ _ _ _ (by omega)).trans hhd, (apF_cg _ _ (hat r)).trans hap⟩
      | some dd =>
        rw [hcal] at p1
        have p1' : (if (t.2.1 e).2.2.2.2.2.2.length < (dPs D dd).length then none else (fits c.1 (dPs D dd) (t.2.1 e).2.2.2.2.2.2 (fun _ => none)).bind fun f => (sbt f (dTy D dd)).bind fun s => (apF c.1 s ((t.2.1 e).2.2.2.2.2.2.drop (dPs D dd).length)).map fun r => (r, (c.1, pu_upd c.2.1 e (some dd), pu_upd c.2.2.1 e f, shs D t c (dPs D dd) (t.2.1 e).2.2.2.2.2.2 c.2.2.2))) = some p := p1
        by_cases hs : (t.2.1 e).2.2.2.2.2.2.length < (dPs D dd).length
        · rw [if_pos hs] at p1'; cases p1'
        · rw [if_neg hs] at p1'
          cases hf : fits c.1 (dPs D dd) (t.2.1 e).2.2.2.2.2.2 (fun _ => none) with
          | none => rw [hf] at p1'; cases p1'
          | some f =>
            rw [hf, Option.bind_some] at p1'
            cases hsb : sbt f (dTy D dd) with
            | none => rw [hsb] at p1'; cases p1'
            | some s =>
              rw [hsb, Option.bind_some] at p1'
              cases hap : apF c.1 s ((t.2.1 e).2.2.2.2.2.2.drop (dPs D dd).length) with
              | none => rw [hap] at p1'; cases p1'
              | some r =>
                rw [hap] at p1'; cases p1'
                subst p2
                refine ⟨fun j hj => ⟨upd_ne _ _ _ _ (by omega), upd_ne _ _ _ _ (by omega), upd_ne _ _ _ _ (by omega)⟩, ⟨fun hx => absurd hx h34, fun _ hx => absurd e16 hx, fun _ => ⟨r, upd_same _ _ _, p3, ?_⟩⟩, fun dd' _ hh => (by have hh' : pu_upd c.2.1 e (some dd) e = some dd' := hh; rw [upd_same] at hh'; cases hh'; rfl), fun hno => (by have hx : pu_upd c.2.1 e (some dd) e = none := hno e16; rw [upd_same] at hx; cases hx)⟩
                have hcc : calD D t (sTy (c.1, pu_upd c.2.1 e (some dd), pu_upd c.2.2.1 e f, shs D t c (dPs D dd) (t.2.1 e).2.2.2.2.2.2 c.2.2.2) e r) (t.2.1 e).2.2.1.toNat = some dd := (calD_cg (c := c) (upd_ne _ _ _ _ (by omega))).trans hcal
                rw [hcc]
                have hfe : (sTy (c.1, pu_upd c.2.1 e (some dd), pu_upd c.2.2.1 e f, shs D t c (dPs D dd) (t.2.1 e).2.2.2.2.2.2 c.2.2.2) e r).2.2.1 e = f := upd_same _ _ _
                rw [hfe]
                exact ⟨upd_same _ _ _, by omega, (fits_cg _ _ _ (hat r)).trans hf, s, hsb, (apF_cg _ _ (fun a ha => hat r a (List.mem_of_mem_drop ha))).trans hap⟩
    · rw [if_neg e16] at p1
      cases hn : nty lc c.1 (t.2.1 e) with
      | none => rw [hn] at p1; cases p1
      | some s =>
        rw [hn] at p1; cases p1
        subst p2
        refine ⟨fun j hj => ⟨upd_ne _ _ _ _ (by omega), rfl, rfl⟩, ⟨fun hx => absurd hx h34, fun _ _ => ⟨i5.2.1, s, ?_, upd_same _ _ _, p3⟩, fun hx => absurd hx e16⟩, fun _ hx => absurd hx e16, fun _ => rfl⟩
        exact (nty_cg (ty' := pu_upd c.1 e (some s)) (ty := c.1) hW h34 e16 (fun j hj => upd_ne _ _ _ _ (by omega))).trans hn
