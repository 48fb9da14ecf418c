set_option maxRecDepth 100000
theorem taA_k (c : CS) : ∀ (ps : List Ty) (l : List Nat) (s : Ta), (taA c ps l s).1 = s.1 ∧ (taA c ps l s).2.2.1 = s.2.2.1
  | [], _, s => ⟨rfl, rfl⟩
  | _ :: _, [], s => ⟨rfl, rfl⟩
  | p :: ps, a :: l, s => by
    have h := taA_k c ps l (if c.2.2.2 a = true then (s.1, s.2.1, s.2.2.1, s.2.2.2 + 1) else if tyM p = 0 then s else (s.1, s.2.1 + 1, s.2.2))
    unfold taA
    rw [h.1, h.2]
    by_cases e : c.2.2.2 a = true
    · rw [if_pos e]; exact ⟨rfl, rfl⟩
    · rw [if_neg e]
      by_cases e2 : tyM p = 0
      · rw [if_pos e2]; exact ⟨rfl, rfl⟩
      · rw [if_neg e2]; exact ⟨rfl, rfl⟩
abbrev K7 : Type := Int32 → Int32 → Int32 → Int32 → Int32 → Int32 → Int32 → Int32 → pm_J → Option (Int32 × pm_J)
theorem df_at {T : List Tok} {n : Nat} {D : List Df} {t : Tr} {c : CS} {u : pm_J} {Y : List Ty} (N : Nat) (g : pm_s) (k107 : K7) (hW : pW T D t) (H : rC T n D t c c.1 u Y) {e d : Nat} (he : e < t.1) (h16 : (t.2.1 e).1 = 16) (hd : d < D.length) (hJ : (dPs D d).length ≤ (t.2.1 e).2.2.2.2.2.2.length) (x1 x2 x3 x4 x6 : Int32) (m : Nat) : ∀ (i : Nat) (s : Ta) (f : Nat) (x11 : Int32), i + m = (dPs D d).length → m < f → (∀ a, (t.2.1 e).2.2.2.2.2.2[i]? = some a → x11 = ie (a : Nat)) → K_Md_def_278 N g k107 f x1 x2 x3 x4 (ie (s.2.1 : Nat)) x6 (ie (s.2.2.2 : Nat)) (ie (e : Nat)) (ie (d : Nat)) x11 (ie (i : Nat)) u = k107 x1 x2 x3 x4 (ie ((taA c ((dPs D d).drop i) ((t.2.1 e).2.2.2.2.2.2.drop i) s).2.1 : Nat)) x6 (ie ((taA c ((dPs D d).drop i) ((t.2.1 e).2.2.2.2.2.2.drop i) s).2.2.2 : Nat)) (ie ((e + 1 : Nat) : Int)) u := by
  obtain ⟨_, _, hnC⟩ := nC_any hW he h16
  have h18 := H.2.2.2.1.2
  have h30 := H.2.2.1.2
  have hcn : cn t.2.2.2.2.2 (t.2.1 e).2.2.2.2.2.2 := hnC.2.2.2.2.2.2.2.2.1
  have hlt : ∀ x ∈ (t.2.1 e).2.2.2.2.2.2, x < t.1 := fun x hx => by
    have := hnC.2.2.1 x (by rw [row_c h16]; exact List.mem_cons_of_mem _ hx); omega
  obtain ⟨_, _, b3, _, b5⟩ := rtb_all H hd
  have hx0 : D[d]? = some D[d] := List.getElem?_eq_getElem hd
  have h6p : (dPs D d).length ≤ 6 := by rw [(dPs_some hx0).2.2]; exact (hW.1 d _ hx0).2.2.2.2.2.2.1.1
  have okd := okn d 30 (by omega) (by omega)
  have ntd := ntn d (by omega)
  induction m with
  | zero =>
    intro i s f x11 hi hf hx
    obtain ⟨f, rfl⟩ : ∃ f', f = f' + 1 := ⟨f - 1, by omega⟩
    have hdr : (dPs D d).drop i = [] := List.drop_eq_nil_of_le (by omega)
    rw [K_Md_def_278, if_pos okd, ntd, b3, if_pos ((inle _ _ (by omega) (by omega)).mpr (by omega)), iadd1, hdr]
    unfold taA; rfl
  | succ m ih =>
    intro i s f x11 hi hf hx
    obtain ⟨f, rfl⟩ : ∃ f', f = f' + 1 := ⟨f - 1, by omega⟩
    obtain ⟨p, hp⟩ : ∃ p, (dPs D d)[i]? = some p := ⟨_, List.getElem?_eq_getElem (by omega)⟩
    obtain ⟨a, hat⟩ : ∃ a, (t.2.1 e).2.2.2.2.2.2[i]? = some a := ⟨_, List.getElem?_eq_getElem (by omega)⟩
    have hxa := hx a hat
    subst hxa
    have hal := hlt a (List.mem_of_getElem? hat)
    obtain ⟨ky, k1, k2, k3⟩ := b5 i p hp
    have hmm := tyM_ie H.2.2.2.2.1 k3
    have hd1 : (dPs D d).drop i = p :: (dPs D d).drop (i + 1) := by
      have hil := (List.getElem?_eq_some_iff.mp hp)
      rw [List.drop_eq_getElem_cons hil.1, hil.2]
    have hd2 : (t.2.1 e).2.2.2.2.2.2.drop i = a :: (t.2.1 e).2.2.2.2.2.2.drop (i + 1) := by
      have hil := (List.getElem?_eq_some_iff.mp hat)
      rw [List.drop_eq_getElem_cons hil.1, hil.2]
    have hrow := H.2.2.2.2.2.2 a hal
    have c7 := hrow.2.2.2.2.2.2.1
    have c13 := hrow.2.2.2.2.2.2.2.2.2.2.2.2.1
    have oka := okn a 2400 (by omega) (by omega)
    have nta := ntn a (by omega)
    have okk := okn ky 100000 k2 (by omega)
    have e6 : (6 : Int32) * ie (d : Nat) + ie (i : Nat) = ie ((6 * d + i : Nat) : Int) := by
      rw [show (6 : Int32) = ie ((6 : Nat) : Int) from rfl, ie_mul, ie_add]; rfl
    have ok6 := okn (6 * d + i) 180 (by omega) (by omega)
    have hnx : ∀ a', (t.2.1 e).2.2.2.2.2.2[i + 1]? = some a' → u.1 83 a = ie (a' : Nat) := fun a' ha' => by
      rw [c7, (cn_get hcn hat).1 a' ha']
    have z0 : ∀ x : Nat, ie (x : Nat) + (0 : Int32) = ie (x : Nat) := fun x => Int32.add_zero _
    have h307 : ∀ q x5 x7 : Nat, K_Md_def_307 N g (K_Md_def_278 N g k107 f) x1 x2 x3 x4 (ie (x5 : Nat)) x6 (ie (e : Nat)) (ie (d : Nat)) (ie (a : Nat)) (ie (i : Nat)) (ie (q : Nat)) (ie (x7 : Nat)) u = K_Md_def_278 N g k107 f x1 x2 x3 x4 (ie ((x5 + (if tyM p = 0 then 0 else if c.2.2.2 a = true then 0 else 1) : Nat) : Int)) x6 (ie ((x7 + q : Nat) : Int)) (ie (e : Nat)) (ie (d : Nat)) (u.1 83 a) (ie ((i + 1 : Nat) : Int)) u := fun q x5 x7 => by
      unfold K_Md_def_307 K_Md_def_348
      rw [e6, if_pos ok6, ntn (6 * d + i) (by omega), k1, if_pos okk, ntn ky (by omega), ie_bl x7 q, iadd1, nta]
      by_cases eM : tyM p = 0
      · rw [if_pos (hmm.mpr eM), if_pos oka, z0, if_pos eM]; rfl
      · rw [if_neg (fun hh => eM (hmm.mp hh)), if_pos oka, c13, if_neg eM]
        by_cases es : c.2.2.2 a = true
        · rw [if_neg (fun hh => by rw [(ib_z _).mp hh] at es; cases es), if_pos oka, z0, if_pos es]; rfl
        · have es' : c.2.2.2 a = false := by
            cases h : c.2.2.2 a with
            | true => exact absurd h es
            | false => rfl
          rw [if_pos ((ib_z _).mpr es'), if_pos oka, iadd1, if_neg es]
    rw [hd1, hd2]
    rw [K_Md_def_278, if_pos okd, ntd, b3, if_neg (fun hh => by have := (inle _ _ (by omega) (by omega)).mp hh; omega), if_pos oka, nta, c13]
    unfold taA
    by_cases es : c.2.2.2 a = true
    · rw [if_pos es, if_neg (fun hh => by rw [(ib_z _).mp hh] at es; cases es)]
      have h1 := h307 1 s.2.1 s.2.2.2
      rw [if_pos es] at h1
      have h2 : (if tyM p = 0 then (0 : Nat) else 0) = 0 := ite_self 0
      rw [h2] at h1
      exact h1.trans (ih (i + 1) (s.1, s.2.1, s.2.2.1, s.2.2.2 + 1) f (u.1 83 a) (by omega) (by omega) hnx)
    · have es' : c.2.2.2 a = false := by
        cases h : c.2.2.2 a with
        | true => exact absurd h es
        | false => rfl
      rw [if_neg es, if_pos ((ib_z _).mpr es')]
      have h1 := h307 0 s.2.1 s.2.2.2
      rw [if_neg es] at h1
      by_cases eM : tyM p = 0
      · rw [if_pos eM] at h1 ⊢
        exact h1.trans (ih (i + 1) s f (u.1 83 a) (by omega) (by omega) hnx)
      · rw [if_neg eM] at h1 ⊢
        exact h1.trans (ih (i + 1) (s.1, s.2.1 + 1, s.2.2) f (u.1 83 a) (by omega) (by omega) hnx)
def dfA (D : List Df) (d : Nat) (mk : Int32) (x2 : Int32) (s : Ta) (g : pm_s) (u : pm_J) : Option (Int32 × pm_J) := if x2 = 0 then some (ie ((dPs D d).length : Nat), u) else if x2 = 1 then (F_Md_bits mk g u).bind fun q16 => some (q16, u) else if x2 = 2 then some (ie (s.1 : Nat), u) else if x2 = 3 then some (ie (s.2.1 : Nat), u) else if x2 = 4 then some (ie (s.2.2.1 : Nat), u) else some (ie (s.2.2.2 : Nat), u)
theorem df_ex {T : List Tok} {n : Nat} {D : List Df} {t : Tr} {c : CS} {u : pm_J} {Y : List Ty} (N : Nat) (hN : 10000 ≤ N) (g : pm_s) (G : gX T D t c) (H : rC T n D t c c.1 u Y) {d : Nat} (hd : d < D.length) (x2 x3 : Int32) (m : Nat) : ∀ (e : Nat) (s : Ta) (f : Nat), e + m = dRt D d + 1 → m < f → K_Md_def_107 N g f (ie (d : Nat)) x2 x3 (ie (s.1 : Nat)) (ie (s.2.1 : Nat)) (ie (s.2.2.1 : Nat)) (ie (s.2.2.2 : Nat)) (ie (e : Nat)) u = dfA D d x3 x2 (taN D t c m e s) g u := by
  have h18 := H.2.2.2.1.2
  have h30 := H.2.2.1.2
  obtain ⟨b1, b2, b3, _, b5⟩ := rtb_all H hd
  have hx0 : D[d]? = some D[d] := List.getElem?_eq_getElem hd
  have okd := okn d 30 (by omega) (by omega)
  have ntd := ntn d (by omega)
  have hrt : dRt D d < t.1 := by
    have := (dF_mono G.1 hx0).2.2
    unfold dRt; rw [hx0]; exact this
  have z0 : ∀ x : Nat, ie (x : Nat) + (0 : Int32) = ie (x : Nat) := fun x => Int32.add_zero _
  induction m with
  | zero =>
    intro e s f he hf
    obtain ⟨f, rfl⟩ : ∃ f', f = f' + 1 := ⟨f - 1, by omega⟩
    rw [K_Md_def_107, if_pos okd, ntd, b1, if_pos ((inlt _ _ (by omega) (by omega)).mpr (by omega)), if_pos okd, b3]
    rfl
  | succ m ih =>
    intro e s f he hf
    obtain ⟨f, rfl⟩ : ∃ f', f = f' + 1 := ⟨f - 1, by omega⟩
    have het : e < t.1 := by omega
    have oke := okn e 2400 (by omega) (by omega)
    have nte := ntn e (by omega)
    obtain ⟨c1, c2, c3, c4, c5, c6, c7, c8, _, _, _, c12, c13, _⟩ := H.2.2.2.2.2.2 e het
    have hk16 : (t.2.1 e).1 ≤ 16 := by
      rw [G.1.2.1] at het
      obtain ⟨i, x, _, hx, h1, h2⟩ := in_def G.1 D.length (Nat.le_refl _) e het
      exact ((G.1.1 i x hx).2.1 e h1 h2).2.1.1
    have hrop : rop (t.2.1 e).1 < 100 := by
      have : ∀ k : Fin 17, rop k.1 < 100 := by decide
      exact this ⟨(t.2.1 e).1, Nat.lt_succ_of_le hk16⟩
    have hop1 : ((t.2.1 e).1 = 2 ∨ (t.2.1 e).1 = 3 ∨ (t.2.1 e).1 = 4) ↔ rop (t.2.1 e).1 = 1 := by
      have : ∀ k : Fin 17, (k.1 = 2 ∨ k.1 = 3 ∨ k.1 = 4) ↔ rop k.1 = 1 := by decide
      exact this ⟨(t.2.1 e).1, Nat.lt_succ_of_le hk16⟩
    have hop30 : (t.2.1 e).1 = 16 ↔ rop (t.2.1 e).1 = 30 := by
      have : ∀ k : Fin 17, k.1 = 16 ↔ rop k.1 = 30 := by decide
      exact this ⟨(t.2.1 e).1, Nat.lt_succ_of_le hk16⟩
    have i1 : (ie (rop (t.2.1 e).1 : Nat) = (1 : Int32)) ↔ rop (t.2.1 e).1 = 1 := ineq _ 1 (by omega) (by omega)
    have i30 : (ie (rop (t.2.1 e).1 : Nat) = (30 : Int32)) ↔ rop (t.2.1 e).1 = 30 := ineq _ 30 (by omega) (by omega)
    have hN1 : taN D t c (m + 1) e s = taN D t c m (e + 1) (taE D t c e s) := rfl
    rw [hN1]
    rw [K_Md_def_107, if_pos okd, ntd, b1, if_neg (fun hh => by have := (inlt _ _ (by omega) (by omega)).mp hh; omega), if_pos oke, nte, c1, c12, if_pos oke]
    have nxt : taE D t c e s = s → K_Md_def_107 N g f (ie (d : Nat)) x2 x3 (ie (s.1 : Nat)) (ie (s.2.1 : Nat)) (ie (s.2.2.1 : Nat)) (ie (s.2.2.2 : Nat)) (ie (e : Nat) + 1) u = dfA D d x3 x2 (taN D t c m (e + 1) (taE D t c e s)) g u := fun hh => by
      rw [hh, iadd1]; exact ih (e + 1) s f (by omega) (by omega)
    cases hc : c.2.1 e with
    | none =>
      have hs : taE D t c e s = s := by unfold taE; rw [hc]
      have hneg : ie (oI none) < (0 : Int32) := by decide
      have h159 : K_Md_def_159 N g (K_Md_def_107 N g f) (ie (d : Nat)) x2 x3 (ie (s.1 : Nat)) (ie (s.2.1 : Nat)) (ie (s.2.2.1 : Nat)) (ie (s.2.2.2 : Nat)) (ie (e : Nat)) 0 u = dfA D d x3 x2 (taN D t c m (e + 1) (taE D t c e s)) g u := by
        unfold K_Md_def_159
        rw [if_pos rfl, if_pos oke, nte, c1, c12, hc]
        by_cases e16 : (t.2.1 e).1 = 16
        · rw [if_pos (i30.mpr (hop30.mp e16)), if_pos oke, if_pos hneg]; exact nxt hs
        · rw [if_neg (fun hh => e16 (hop30.mpr (i30.mp hh)))]; exact nxt hs
      by_cases e1 : rop (t.2.1 e).1 = 1
      · rw [if_pos (i1.mpr e1), if_pos hneg]; exact h159
      · rw [if_neg (fun hh => e1 (i1.mp hh))]; exact h159
    | some d' =>
      have hd' := G.2.2.2.1.1 e d' hc
      obtain ⟨_, _, p3, ⟨ky, k1, k2, k3⟩, p5⟩ := rtb_all H hd'
      have hx' : D[d']? = some D[d'] := List.getElem?_eq_getElem hd'
      have h6p : (dPs D d').length ≤ 6 := by rw [(dPs_some hx').2.2]; exact (G.1.1 d' _ hx').2.2.2.2.2.2.1.1
      have okd' := okn d' 30 (by omega) (by omega)
      have ntd' := ntn d' (by omega)
      have hnn : ¬ (ie (oI (some d')) < (0 : Int32)) := fun hh => by
        have := (inlt d' 0 (by omega) (by omega)).mp hh; omega
      have hoi : ie (oI (some d')) = ie (d' : Nat) := rfl
      have hmm := tyM_ie H.2.2.2.2.1 k3
      have okk := okn ky 100000 k2 (by omega)
      have p0 : (ie ((dPs D d').length : Nat) = (0 : Int32)) ↔ (dPs D d').length = 0 := ineq _ 0 (by omega) (by omega)
      have p0' : (ie ((dPs D d').length : Nat) ≤ (0 : Int32)) ↔ (dPs D d').length ≤ 0 := inle _ 0 (by omega) (by omega)
      have h203 : ((t.2.1 e).1 = 16 ∨ (dPs D d').length = 0) → K_Md_def_203 N g (K_Md_def_107 N g f) (ie (d : Nat)) x2 x3 (ie (s.1 : Nat)) (ie (s.2.1 : Nat)) (ie (s.2.2.1 : Nat)) (ie (s.2.2.2 : Nat)) (ie (e : Nat)) u = dfA D d x3 x2 (taN D t c m (e + 1) (taE D t c e s)) g u := fun hor => by
        have h247 : ∀ o : Nat, (o = if tyM (dTy D d') = 0 then 0 else if c.2.2.2 e = true then 0 else 1) → K_Md_def_247 N g (K_Md_def_107 N g f) (ie (d : Nat)) x2 x3 (ie ((s.1 + 1 : Nat) : Int)) (ie (s.2.1 : Nat)) (ie (s.2.2.2 : Nat)) (ie (e : Nat)) (ie (d' : Nat)) (ie (o : Nat)) (ie (s.2.2.1 : Nat)) u = dfA D d x3 x2 (taN D t c m (e + 1) (taE D t c e s)) g u := fun o ho => by
          unfold K_Md_def_247
          rw [if_pos oke, nte, c1, ie_bl]
          by_cases e16 : (t.2.1 e).1 = 16
          · rw [if_pos (i30.mpr (hop30.mp e16)), if_pos oke, c4]
            have hJ := kJ_of G.1 G.2.2.2.2.1 e d' het e16 hc
            have hat := df_at (u := u) N g (K_Md_def_107 N g f) G.1 H het e16 hd' hJ (ie (d : Nat)) x2 x3 (ie ((s.1 + 1 : Nat) : Int)) (ie ((s.2.2.1 + o : Nat) : Int)) (dPs D d').length 0 (s.1 + 1, s.2.1, s.2.2.1, s.2.2.2) N (ie (rvb (t.2.1 e))) (by omega) (by omega) (fun a ha => by
              have : rvb (t.2.1 e) = (a : Int) := by
                unfold rvb; rw [if_pos e16]
                revert ha
                generalize (t.2.1 e).2.2.2.2.2.2 = l
                intro ha
                cases l with
                | nil => cases ha
                | cons x l => cases ha; rfl
              rw [this])
            rw [List.drop_zero, List.drop_zero] at hat
            have hat' : K_Md_def_278 N g (K_Md_def_107 N g f) N (ie (d : Nat)) x2 x3 (ie ((s.1 + 1 : Nat) : Int)) (ie (s.2.1 : Nat)) (ie ((s.2.2.1 + o : Nat) : Int)) (ie (s.2.2.2 : Nat)) (ie (e : Nat)) (ie (d' : Nat)) (ie (rvb (t.2.1 e))) 0 u = _ := hat
            rw [hat']
            have hE : taE D t c e s = taR D c e d' (taA c (dPs D d') (t.2.1 e).2.2.2.2.2.2 (s.1 + 1, s.2)) := by
              unfold taE; rw [hc]
              show (if (t.2.1 e).1 = 16 then _ else _) = _
              rw [if_pos e16]
            obtain ⟨j1, j2⟩ := taA_k c (dPs D d') (t.2.1 e).2.2.2.2.2.2 (s.1 + 1, s.2)
            have hE1 : (taE D t c e s).1 = s.1 + 1 ∧ (taE D t c e s).2.1 = (taA c (dPs D d') (t.2.1 e).2.2.2.2.2.2 (s.1 + 1, s.2)).2.1 ∧ (taE D t c e s).2.2.1 = s.2.2.1 + o ∧ (taE D t c e s).2.2.2 = (taA c (dPs D d') (t.2.1 e).2.2.2.2.2.2 (s.1 + 1, s.2)).2.2.2 := by
              rw [hE]
              unfold taR
              by_cases eM : tyM (dTy D d') = 0
              · rw [if_pos eM] at ho ⊢
                exact ⟨j1, rfl, by rw [j2, ho]; rfl, rfl⟩
              · rw [if_neg eM] at ho ⊢
                by_cases es : c.2.2.2 e = true
                · rw [if_pos es] at ho ⊢
                  exact ⟨j1, rfl, by rw [j2, ho]; rfl, rfl⟩
                · rw [if_neg es] at ho ⊢
                  exact ⟨j1, rfl, by rw [ho]; show (taA c (dPs D d') (t.2.1 e).2.2.2.2.2.2 (s.1 + 1, s.2)).2.2.1 + 1 = _; rw [j2], rfl⟩
            have := ih (e + 1) (taE D t c e s) f (by omega) (by omega)
            rw [hE1.1, hE1.2.1, hE1.2.2.1, hE1.2.2.2] at this
            exact this
          · have hz : (dPs D d').length = 0 := by
              rcases hor with h | h
              · exact absurd h e16
              · exact h
            have hM := no_let G hd' hz
            rw [if_pos hM] at ho
            subst ho
            rw [if_neg (fun hh => e16 (hop30.mpr (i30.mp hh)))]
            obtain ⟨f0, hf0⟩ : ∃ f', N = f' + 1 := ⟨N - 1, by omega⟩
            have hK : K_Md_def_278 N g (K_Md_def_107 N g f) (f0 + 1) (ie (d : Nat)) x2 x3 (ie ((s.1 + 1 : Nat) : Int)) (ie (s.2.1 : Nat)) (ie ((s.2.2.1 + 0 : Nat) : Int)) (ie (s.2.2.2 : Nat)) (ie (e : Nat)) (ie (d' : Nat)) (-1) 0 u = K_Md_def_107 N g f (ie (d : Nat)) x2 x3 (ie ((s.1 + 1 : Nat) : Int)) (ie (s.2.1 : Nat)) (ie ((s.2.2.1 + 0 : Nat) : Int)) (ie (s.2.2.2 : Nat)) (ie (e : Nat) + 1) u := by
              rw [K_Md_def_278, if_pos okd', ntd', p3, hz, if_pos (by decide)]
            rw [← hf0] at hK
            rw [hK, iadd1]
            have hE : taE D t c e s = (s.1 + 1, s.2) := by
              unfold taE; rw [hc]
              show (if (t.2.1 e).1 = 16 then _ else if (dPs D d').length = 0 then (s.1 + 1, s.2) else s) = _
              rw [if_neg e16, if_pos hz]
            rw [hE]
            exact ih (e + 1) (s.1 + 1, s.2) f (by omega) (by omega)
        unfold K_Md_def_203
        rw [if_pos oke, nte, c12, hc, hoi, if_pos okd', ntd', k1, if_pos okk, ntn ky (by omega), iadd1, if_pos oke, c13]
        by_cases eM : tyM (dTy D d') = 0
        · rw [if_pos (hmm.mpr eM)]
          exact h247 0 (by rw [if_pos eM])
        · rw [if_neg (fun hh => eM (hmm.mp hh))]
          by_cases es : c.2.2.2 e = true
          · rw [if_neg (fun hh => by rw [(ib_z _).mp hh] at es; cases es)]
            exact h247 0 (by rw [if_neg eM, if_pos es])
          · have es' : c.2.2.2 e = false := by
              cases h : c.2.2.2 e with
              | true => exact absurd h es
              | false => rfl
            rw [if_pos ((ib_z _).mpr es')]
            exact h247 1 (by rw [if_neg eM, if_neg es])
      have h159 : ¬ ((dPs D d').length = 0 ∧ (t.2.1 e).1 ≠ 16) → K_Md_def_159 N g (K_Md_def_107 N g f) (ie (d : Nat)) x2 x3 (ie (s.1 : Nat)) (ie (s.2.1 : Nat)) (ie (s.2.2.1 : Nat)) (ie (s.2.2.2 : Nat)) (ie (e : Nat)) 0 u = dfA D d x3 x2 (taN D t c m (e + 1) (taE D t c e s)) g u := fun hno => by
        unfold K_Md_def_159
        rw [if_pos rfl, if_pos oke, nte, c1, c12, hc, hoi]
        by_cases e16 : (t.2.1 e).1 = 16
        · have hnz : (dPs D d').length ≠ 0 := by
            rcases G.2.2.2.1.2.1 e d' hc with ⟨a, _⟩ | a | ⟨_, a⟩
            · omega
            · omega
            · exact a
          rw [if_pos (i30.mpr (hop30.mp e16)), if_pos oke, if_neg (show ¬ (ie (d' : Nat) < (0 : Int32)) from hnn), if_pos oke, if_pos okd', ntd', p3, if_neg (fun hh => by have := p0'.mp hh; omega)]
          exact h203 (Or.inl e16)
        · rw [if_neg (fun hh => e16 (hop30.mpr (i30.mp hh)))]
          refine nxt ?_
          unfold taE; rw [hc]
          show (if (t.2.1 e).1 = 16 then _ else if (dPs D d').length = 0 then (s.1 + 1, s.2) else s) = _
          rw [if_neg e16, if_neg (fun hh => hno ⟨hh, e16⟩)]
      by_cases e1 : rop (t.2.1 e).1 = 1
      · have ne16 : (t.2.1 e).1 ≠ 16 := by have := hop1.mpr e1; omega
        rw [if_pos (i1.mpr e1), if_neg hnn, if_pos oke, hoi, if_pos okd', ntd', p3]
        by_cases ez : (dPs D d').length = 0
        · rw [if_pos (p0.mpr ez)]
          unfold K_Md_def_159
          rw [if_neg (by decide)]
          exact h203 (Or.inr ez)
        · rw [if_neg (fun hh => ez (p0.mp hh))]
          exact h159 (fun hh => ez hh.1)
      · rw [if_neg (fun hh => e1 (i1.mp hh))]
        refine h159 (fun hh => ?_)
        rcases G.2.2.2.1.2.1 e d' hc with ⟨a, _⟩ | a | ⟨a, _⟩
        · exact e1 (hop1.mp (by omega))
        · exact e1 (hop1.mp (by omega))
        · exact hh.2 a
