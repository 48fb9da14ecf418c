set_option maxRecDepth 100000
theorem cnt_mono (f : Nat → Nd) : ∀ {a b : Nat}, a ≤ b → cnt f a ≤ cnt f b := by
  intro a b h
  induction b with
  | zero => have : a = 0 := by omega
            subst this; exact Nat.le_refl _
  | succ b ih =>
    by_cases e : a = b + 1
    · subst e; exact Nat.le_refl _
    · have := ih (by omega); rw [cnt]; omega
def kI0 (D : List Df) (t : Tr) (e : Nat) (c : CS) : Prop := dfI D c ∧ (∀ i d, c.2.1 i = some d → ((t.2.1 i).1 = 3 ∧ (dPs D d).length = 0) ∨ (t.2.1 i).1 = 4 ∨ ((t.2.1 i).1 = 16 ∧ (dPs D d).length ≠ 0)) ∧ ∀ j, e ≤ j → c.1 j = none ∧ c.2.1 j = none ∧ c.2.2.1 j = fun _ => none
theorem kI_0 {D : List Df} {t : Tr} {f0 e : Nat} {c : CS} (h : kI D t f0 e c) : kI0 D t e c := ⟨h.1, h.2.1, h.2.2.2.2⟩
theorem kI_s {D : List Df} {t : Tr} {e : Nat} {c : CS} (h : kI0 D t e c) : kI D t e e c := ⟨h.1, h.2.1, fun j h1 h2 => by omega, fun j h1 h2 => by omega, h.2.2⟩
theorem fDef_n {T : List Tok} {v : Int64} {D : List Df} (h : fDef T v D 0 ≠ -1) : ∃ d : Nat, fDef T v D 0 = (d : Nat) ∧ d < D.length := by
  rcases fDef_rg T v D 0 with h1 | ⟨h1, h2⟩
  · exact absurd h1 h
  · exact ⟨(fDef T v D 0).toNat, by omega, by omega⟩
theorem kI_next {T : List Tok} {D : List Df} {t : Tr} {lc : Lc} {f0 e : Nat} {c c' : CS} (h : kI D t f0 e c) (hq : ck T D t lc c e = .ok c') : kI D t f0 (e + 1) c' := by
  obtain ⟨h1, h2, h3, h4, h5⟩ := h
  have ndf : ∀ d, d < D.length → ((t.2.1 e).1 = 3 ∧ (dPs D d).length = 0 ∨ (t.2.1 e).1 = 4 ∨ (t.2.1 e).1 = 16 ∧ (dPs D d).length ≠ 0) → (∀ i d', pu_upd c.2.1 e (some d) i = some d' → d' < D.length) ∧ ∀ i d', pu_upd c.2.1 e (some d) i = some d' → ((t.2.1 i).1 = 3 ∧ (dPs D d').length = 0) ∨ (t.2.1 i).1 = 4 ∨ ((t.2.1 i).1 = 16 ∧ (dPs D d').length ≠ 0) := by
    intro d hd hk
    constructor
    · intro i d' hi
      by_cases ei : i = e
      · rw [ei, upd_same] at hi; cases hi; exact hd
      · rw [upd_ne _ _ _ _ ei] at hi; exact h1 i d' hi
    · intro i d' hi
      by_cases ei : i = e
      · rw [ei, upd_same] at hi; cases hi; rw [ei]; exact hk
      · rw [upd_ne _ _ _ _ ei] at hi; exact h2 i d' hi
  have hty : ∀ (s : Ty) j, f0 ≤ j → j < e + 1 → (j ≠ e → ∃ s', c.1 j = some s') → ∃ s', pu_upd c.1 e (some s) j = some s' := fun s j _ _ hh => by
    by_cases ej : j = e
    · rw [ej, upd_same]; exact ⟨s, rfl⟩
    · rw [upd_ne _ _ _ _ ej]; exact hh ej
  unfold ck at hq
  by_cases h34 : (t.2.1 e).1 = 3 ∨ (t.2.1 e).1 = 4
  · rw [if_pos h34] at hq
    by_cases hm : fDef T (t.2.1 e).2.2.2.2.2.1 D 0 = -1
    · rw [if_pos hm] at hq; cases hq
    · rw [if_neg hm] at hq
      obtain ⟨d, d1, d2⟩ := fDef_n hm
      rw [d1, show ((d : Nat) : Int).toNat = d by omega] at hq
      by_cases h0 : (dPs D d).length = 0
      · rw [if_pos h0] at hq
        cases hq
        obtain ⟨n1, n2⟩ := ndf d d2 (by rcases h34 with hh | hh; exact Or.inl ⟨hh, h0⟩; exact Or.inr (Or.inl hh))
        refine ⟨n1, n2, fun j j1 j2 j3 => hty _ j j1 j2 (fun ej => h3 j j1 (by omega) j3), fun j j1 j2 j3 => ?_, fun j hj => ?_⟩
        · by_cases ej : j = e
          · refine ⟨d, by rw [ej]; exact upd_same _ _ _, fun _ => hty _ j j1 j2 (fun hh => absurd ej hh)⟩
          · obtain ⟨d', q1, q2⟩ := h4 j j1 (by omega) j3
            exact ⟨d', by show pu_upd c.2.1 e (some d) j = _; rw [upd_ne _ _ _ _ ej]; exact q1, fun q => hty _ j j1 j2 (fun _ => q2 q)⟩
        · obtain ⟨q1, q2, q3⟩ := h5 j (by omega)
          exact ⟨(upd_ne _ _ _ _ (by omega)).trans q1, (upd_ne _ _ _ _ (by omega)).trans q2, q3⟩
      · rw [if_neg h0] at hq
        by_cases e4 : (t.2.1 e).1 = 4
        · rw [if_pos e4] at hq; cases hq
          obtain ⟨n1, n2⟩ := ndf d d2 (Or.inr (Or.inl e4))
          refine ⟨n1, n2, fun j j1 j2 j3 => ?_, fun j j1 j2 j3 => ?_, fun j hj => ?_⟩
          · have ej : j ≠ e := fun ej => by rw [ej] at j3; exact j3 e4
            exact h3 j j1 (by omega) j3
          · by_cases ej : j = e
            · exact ⟨d, by rw [ej]; exact upd_same _ _ _, fun q => absurd q h0⟩
            · obtain ⟨d', q1, q2⟩ := h4 j j1 (by omega) j3
              exact ⟨d', by show pu_upd c.2.1 e (some d) j = _; rw [upd_ne _ _ _ _ ej]; exact q1, q2⟩
          · obtain ⟨q1, q2, q3⟩ := h5 j (by omega)
            exact ⟨q1, (upd_ne _ _ _ _ (by omega)).trans q2, q3⟩
        · rw [if_neg e4] at hq; cases hq
  · rw [if_neg h34] at hq
    have plain : ∀ s, c' = sTy c e s → kI D t f0 (e + 1) c' := by
      intro s hc; subst hc
      refine ⟨h1, h2, fun j j1 j2 j3 => hty _ j j1 j2 (fun ej => h3 j j1 (by omega) j3), fun j j1 j2 j3 => ?_, fun j hj => ?_⟩
      · have ej : j ≠ e := fun ej => by rw [ej] at j3; exact h34 (Or.inr j3)
        obtain ⟨d', q1, q2⟩ := h4 j j1 (by omega) j3
        exact ⟨d', q1, fun q => hty _ j j1 j2 (fun _ => q2 q)⟩
      · obtain ⟨q1, q2, q3⟩ := h5 j (by omega)
        exact ⟨(upd_ne _ _ _ _ (by omega)).trans q1, q2, q3⟩
    have hL : ∀ z, ckL (t.2.1 e) e z = .ok c' → ∃ p, z = some p ∧ c' = sTy p.2 e p.1 := by
      intro z hz
      cases z with
      | none => cases hz
      | some p =>
        have hz' : (if 200 < tyL p.1 then .error (7, (t.2.1 e).2.1) else .ok (sTy p.2 e p.1) : PE CS) = .ok c' := hz
        by_cases hl : 200 < tyL p.1
        · rw [if_pos hl] at hz'; cases hz'
        · rw [if_neg hl] at hz'; cases hz'; exact ⟨p, rfl, rfl⟩
    obtain ⟨p, p1, p2⟩ := hL _ hq
    by_cases e16 : (t.2.1 e).1 = 16
    · rw [if_pos e16] at p1
      unfold ckC at p1
      cases hcal : calD D t c (t.2.1 e).2.2.1.toNat with
      | none =>
        rw [hcal] at p1
        cases hh : c.1 (t.2.1 e).2.2.1.toNat with
        | none => rw [hh] at p1; cases p1
        | some s =>
          rw [hh] at p1
          have p1' : ((apF c.1 s (t.2.1 e).2.2.2.2.2.2).map fun r => (r, c)) = some p := p1
          cases ha : apF c.1 s (t.2.1 e).2.2.2.2.2.2 with
          | none => rw [ha] at p1'; cases p1'
          | some r => rw [ha] at p1'; cases p1'; exact plain r p2
      | some d =>
        rw [hcal] at p1
        have p1' : (if (t.2.1 e).2.2.2.2.2.2.length < (dPs D d).length then none else (fits c.1 (dPs D d) (t.2.1 e).2.2.2.2.2.2 (fun _ => none)).bind fun f => (sbt f (dTy D d)).bind fun s => (apF c.1 s ((t.2.1 e).2.2.2.2.2.2.drop (dPs D d).length)).map fun r => (r, (c.1, pu_upd c.2.1 e (some d), pu_upd c.2.2.1 e f, shs D t c (dPs D d) (t.2.1 e).2.2.2.2.2.2 c.2.2.2))) = some p := p1
        have hcd : d < D.length ∧ (dPs D d).length ≠ 0 := by
          unfold calD at hcal
          by_cases k4 : (t.2.1 (t.2.1 e).2.2.1.toNat).1 = 4
          · rw [if_pos k4] at hcal
            cases hdf : c.2.1 (t.2.1 e).2.2.1.toNat with
            | none => rw [hdf] at hcal; cases hcal
            | some d' =>
              rw [hdf] at hcal
              have hcal' : (if (dPs D d').length = 0 then none else some d') = some d := hcal
              by_cases h0 : (dPs D d').length = 0
              · rw [if_pos h0] at hcal'; cases hcal'
              · rw [if_neg h0] at hcal'; cases hcal'; exact ⟨h1 _ _ hdf, h0⟩
          · rw [if_neg k4] at hcal; cases hcal
        by_cases hs : (t.2.1 e).2.2.2.2.2.2.length < (dPs D d).length
        · rw [if_pos hs] at p1'; cases p1'
        · rw [if_neg hs] at p1'
          cases hf : fits c.1 (dPs D d) (t.2.1 e).2.2.2.2.2.2 (fun _ => none) with
          | none => rw [hf] at p1'; cases p1'
          | some f =>
            rw [hf, Option.bind_some] at p1'
            cases hsb : sbt f (dTy D d) with
            | none => rw [hsb] at p1'; cases p1'
            | some s =>
              rw [hsb, Option.bind_some] at p1'
              cases ha : apF c.1 s ((t.2.1 e).2.2.2.2.2.2.drop (dPs D d).length) with
              | none => rw [ha] at p1'; cases p1'
              | some r =>
                rw [ha] at p1'; cases p1'
                subst p2
                obtain ⟨n1, n2⟩ := ndf d hcd.1 (Or.inr (Or.inr ⟨e16, hcd.2⟩))
                refine ⟨n1, n2, fun j j1 j2 j3 => hty _ j j1 j2 (fun ej => h3 j j1 (by omega) j3), fun j j1 j2 j3 => ?_, fun j hj => ?_⟩
                · have ej : j ≠ e := fun ej => by rw [ej] at j3; exact h34 (Or.inr j3)
                  obtain ⟨d', q1, q2⟩ := h4 j j1 (by omega) j3
                  exact ⟨d', by show pu_upd c.2.1 e (some d) j = _; rw [upd_ne _ _ _ _ ej]; exact q1, fun q => hty _ j j1 j2 (fun _ => q2 q)⟩
                · obtain ⟨q1, q2, q3⟩ := h5 j (by omega)
                  exact ⟨(upd_ne _ _ _ _ (by omega)).trans q1, (upd_ne _ _ _ _ (by omega)).trans q2, (upd_ne _ _ _ _ (by omega)).trans q3⟩
    · rw [if_neg e16] at p1
      cases hn : nty lc c.1 (t.2.1 e) with
      | none => rw [hn] at p1; cases p1
      | some s => rw [hn] at p1; cases p1; exact plain s p2
theorem ck_tell {T : List Tok} {n : Nat} {g : pm_s} {u : pm_J} {Y : List Ty} (h3 : u.1 3 0 = ie 0) (hy : tyC g u Y) (f w : Nat) (hf : 1 ≤ f ∧ f ≤ 7) : F_Fault_tell_3 (ie (f : Nat)) (ie (tkP T n w : Nat)) g u = some (wi (wi u 3 0 (ie (f : Nat))) 3 1 (ie (tkP T n w : Nat))) ∧ cFl T n (f, w) (wi (wi u 3 0 (ie (f : Nat))) 3 1 (ie (tkP T n w : Nat))) ∧ tyC g (wi (wi u 3 0 (ie (f : Nat))) 3 1 (ie (tkP T n w : Nat))) Y ∧ frK u (wi (wi u 3 0 (ie (f : Nat))) 3 1 (ie (tkP T n w : Nat))) := by
  refine ⟨?_, ⟨?_, hf.1, hf.2, wi_at _ _ _ _⟩, tyC_fr hy (fun c i hc => ?_), frK_wi (frK_wi (frK_refl _) _ _ _ (by unfold cSKp; omega)) _ _ _ (by unfold cSKp; omega)⟩
  · unfold F_Fault_tell_3; rw [h3, if_pos (show ie 0 = 0 from rfl)]
  · rw [wi_ne _ _ _ _ _ _ (by omega), wi_at]
  · have hne : c ≠ 3 := fun hh => by rw [hh, cSy_no (by omega)] at hc; cases hc
    rw [wi_ne _ _ _ _ _ _ (by omega), wi_ne _ _ _ _ _ _ (by omega)]
theorem cFl_fr {T : List Tok} {n : Nat} {q : Nat × Nat} {u v : pm_J} (h : cFl T n q u) (h0 : v.1 3 0 = u.1 3 0) (h1 : v.1 3 1 = u.1 3 1) : cFl T n q v := ⟨h0.trans h.1, h.2.1, h.2.2.1, h1.trans h.2.2.2⟩
def kO (T : List Tok) (n : Nat) (D : List Df) (t : Tr) (x : PE CS) (g : pm_s) (v : pm_J) (Y : List Ty) : Prop := match x with
  | .error q => cFl T n q v ∧ tyC g v Y
  | .ok c => cK T n D t c g v Y
theorem k_node {T : List Tok} {n : Nat} {D : List Df} {t : Tr} {c : CS} {g : pm_s} {u : pm_J} {Y : List Ty} {e f0 di : Nat} {x : Df} (N : Nat) (hN : 100000 ≤ N) (H : cK T n D t c g u Y) (hx : D[di]? = some x) (h43 : u.1 43 4 = ie (di : Nat)) (he : e < t.1) (hW : ∀ j, f0 ≤ j → j ≤ e → nW T di f0 f0 (x.2.2.2.2.2.2, t) j) (hf : f0 ≤ e) (hI : kI D t f0 e c) (hpar : parI D) (hlet : ltI D) (hY : Y.length + 200 ≤ 60000) :
    ∃ (g' : pm_s) (v : pm_J) (Z : List Ty), F_Checker_checkNode N (ie (e : Nat)) g u = some ((), g', v) ∧ frK u v ∧ gL g g' ∧ Z.length ≤ (if (t.2.1 e).1 = 16 then 99 else 1) ∧ kO T n D t (ck T D t x.2.2.2.2.2.2 c e) g' v (Y ++ Z) := by
  have hgI := H.2.1.2.2.1
  have h18 := H.2.2.1.2
  have h30 := H.2.2.2.1.2
  obtain ⟨m1, m2, m3, m4, m5, m6, m7, m8⟩ := tr_row (g := g) H.2.2.1 e he
  obtain ⟨k1, k2, k3, k4, k5, k6, k7, k8, k9, k10⟩ := H.2.2.2.2.2 e he
  have hdn := (hI.2.2.2.2 e (Nat.le_refl _)).2.1
  rw [kk_n hdn] at k1
  rw [hdn] at k8
  have k8' : u.2 26 e = (t.2.1 e).2.2.2.2.2.1 := k8
  have hkl := (hW e hf (Nat.le_refl _)).2.1.1
  have hkl' : (t.2.1 e).1 ≤ 16 := hkl
  have isT : ∀ w : pm_J, w.1 3 0 = ie 0 → F_Fault_isTold_3 g w = some 0 := fun w hw => by unfold F_Fault_isTold_3; rw [hw, if_pos (show ie 0 = 0 from rfl)]
  have ck29 : ∀ (q : Nat × Nat) (g : pm_s) (w : pm_J), cFl T n q w → K_Checker_checkNode_29 N (ie (e : Nat)) g w = some ((), g, w) := fun q g w hw => by
    unfold K_Checker_checkNode_29; rw [f_told hw g, Option.bind_some, if_neg (show ¬ ((1 : Int32) = 0) by decide)]
  unfold ck
  by_cases h34 : (t.2.1 e).1 = 3 ∨ (t.2.1 e).1 = 4
  · rw [if_pos h34]
    have hun : F_Checker_checkNode N (ie (e : Nat)) g u = pm_S g ((F_Checker_resolve N (ie (e : Nat)) g u).bind fun q3 => K_Checker_checkNode_29 N (ie (e : Nat)) g q3) := by
      unfold F_Checker_checkNode
      rw [m1, Option.bind_some, k1]
      rcases h34 with hh | hh
      · rw [hh, if_pos (show ie ((3 : Nat) : Int) = 3 from rfl)]
      · rw [hh, if_neg (show ¬ (ie ((4 : Nat) : Int) = 3) by decide), Option.bind_some, if_pos (show ie ((4 : Nat) : Int) = 4 from rfl)]
    have hfi : F_Table_find N (t.2.1 e).2.2.2.2.2.1 g u = some (ie (fDef T (t.2.1 e).2.2.2.2.2.1 D 0)) := by
      unfold F_Table_find
      have := c_tfind (n := n) (Y := Y) (T := T) N g (t.2.1 e).2.2.2.2.2.1 D H.2.2.2.1.1 h30 (fun i y hy => (H.2.2.2.2.1 i y hy).1) D.length N 0 (Nat.zero_add _) (by omega)
      rw [List.drop_zero] at this; exact this
    rw [hun]
    unfold F_Checker_resolve
    rw [m8, Option.bind_some, k8', hfi, Option.bind_some]
    by_cases hm : fDef T (t.2.1 e).2.2.2.2.2.1 D 0 = -1
    · obtain ⟨t1, t2, t3, t4⟩ := ck_tell (T := T) (n := n) H.1 H.2.1 6 (t.2.1 e).2.1 (by omega)
      have t1' : F_Fault_tell_3 6 (ie (tkP T n (t.2.1 e).2.1 : Nat)) g u = _ := t1
      obtain ⟨_, _, y3, _⟩ := tr_set (g := g) (t := t) (u := wi (wi u 3 0 (ie ((6 : Nat) : Int))) 3 1 (ie (tkP T n (t.2.1 e).2.1 : Nat))) ⟨(t4 18 10 (by unfold cSKp; omega)).1.trans H.2.2.1.1, h18⟩ e he
      rw [hm, if_pos (show ie (-1) = -1 from rfl), if_pos rfl, m2, Option.bind_some, k2, t1', Option.bind_some, y3, Option.bind_some, Option.bind_some]
      have hfl := cFl_fr (v := wj (wi (wi u 3 0 (ie ((6 : Nat) : Int))) 3 1 (ie (tkP T n (t.2.1 e).2.1 : Nat))) 26 e (ie (-1)).toInt64) t2 rfl rfl
      rw [ck29 _ g _ hfl, pmS_some g g _ _ (Nat.le_refl _) (Nat.le_refl _)]
      exact ⟨g, _, [], rfl, frK_wj t4 _ _ _ (by unfold cSKp; omega), gL_refl hgI, Nat.zero_le _, hfl, by rw [List.append_nil]; exact tyC_fr t3 (fun _ _ _ => rfl)⟩
    · obtain ⟨d, d1, d2⟩ := fDef_n hm
      rw [d1, if_neg (ie_m1 d (by omega)), if_neg (show ¬ (((d : Nat) : Int) = -1) by omega), show ((d : Nat) : Int).toNat = d by omega]
      obtain ⟨y, hy⟩ : ∃ y, D[d]? = some y := ⟨D[d], List.getElem?_eq_getElem d2⟩
      obtain ⟨p1, p2, p3⟩ := dPs_some hy
      obtain ⟨b1, _, _, _, _, b6, _⟩ := tb_row (g := g) H.2.2.2.1 d d2
      have hD := H.2.2.2.2.1 d y hy
      have hp6 := (hpar d y hy).1
      obtain ⟨s1, s2, s3, _⟩ := tr_set (g := g) H.2.2.1 e he
      rw [b6, Option.bind_some, hD.2.2.2.2.2.2.1, ie_je _ (by omega) (by omega), ← p3]
      have hdf : ∀ k, kk D (sDf c e d) (t.2.1 e) e = k → cK T n D t (sDf c e d) g (wj (wi u 19 e (ie (k : Nat))) 26 e (je (d : Nat))) Y := fun k hk => cK_df H he k hk
      have hkk : kk D (sDf c e d) (t.2.1 e) e = if (dPs D d).length = 0 then 6 else 5 := kk_o (upd_same _ _ _) (by omega)
      have hfr : ∀ k : Int32, frK u (wj (wi u 19 e k) 26 e (je (d : Nat))) := fun k => frK_wj (frK_wi (frK_refl _) _ _ _ (by unfold cSKp; omega)) _ _ _ (by unfold cSKp; omega)
      have hset : ∀ k : Int32, F_Tree_setValue (ie (e : Nat)) (je (d : Nat)) g (wi u 19 e k) = some (wj (wi u 19 e k) 26 e (je (d : Nat))) := fun k => (tr_set (g := g) (t := t) (u := wi u 19 e k) ⟨(wi_ne _ _ _ _ _ _ (by omega)).trans H.2.2.1.1, h18⟩ e he).2.2.1 _
      by_cases h0 : (dPs D d).length = 0
      · rw [if_pos h0]
        rw [h0, if_pos (show ie ((0 : Nat) : Int) = 0 from rfl), s1, Option.bind_some, hset, Option.bind_some, Option.bind_some]
        rw [if_pos h0] at hkk
        have H2 : cK T n D t (sDf c e d) g (wj (wi u 19 e 6) 26 e (je (d : Nat))) Y := hdf 6 hkk
        obtain ⟨r1, _, r3, r4, _, _, _, r8⟩ := tr_row (g := g) H2.2.2.1 e he
        obtain ⟨q1, _, q3, q4, _, _, _, q8, _⟩ := H2.2.2.2.2.2 e he
        rw [hkk] at q1
        have q8' : (wj (wi u 19 e 6) 26 e (je (d : Nat))).2 26 e = je (d : Nat) := by rw [q8]; rw [show (sDf c e d).2.1 e = some d from upd_same _ _ _]
        obtain ⟨ya, hya⟩ := tr_tot g H2.2.2.1 ((wj (wi u 19 e 6) 26 e (je (d : Nat))).1 21 e)
        obtain ⟨yb, hyb⟩ := tr_tot g H2.2.2.1 ((wj (wi u 19 e 6) 26 e (je (d : Nat))).1 22 e)
        obtain ⟨c1, _⟩ := tb_row (g := g) H2.2.2.2.1 d d2
        obtain ⟨kt, kt1, kt2⟩ := (H2.2.2.2.2.1 d y hy).2.2.1
        obtain ⟨_, v2, _⟩ := c_row H2.2.1 kt _ kt2
        have hl1 := (hpar d y hy).2.2.2
        obtain ⟨_, z2, _⟩ := tr_set (g := g) H2.2.2.1 e he
        have hto : F_Checker_typeOf N (ie (e : Nat)) g (wj (wi u 19 e 6) 26 e (je (d : Nat))) = some (ie (kt : Nat), g, wj (wi u 19 e 6) 26 e (je (d : Nat))) := by
          unfold F_Checker_typeOf
          rw [r3, Option.bind_some, hya, Option.bind_some, r4, Option.bind_some, hyb, Option.bind_some, r1, Option.bind_some, q1, if_neg (show ¬ (ie ((6 : Nat) : Int) = 0) by decide), if_neg (show ¬ (ie ((6 : Nat) : Int) = 1) by decide), if_neg (show ¬ (ie ((6 : Nat) : Int) = 2) by decide), if_pos (show ie ((6 : Nat) : Int) = 6 from rfl), r8, Option.bind_some, q8', je_ie _ (by omega) (by omega), c1, Option.bind_some, kt1, pmS_some g g _ _ (Nat.le_refl _) (Nat.le_refl _)]
        have hktl := (List.getElem?_eq_some_iff.mp kt2).1
        have hYl := H2.2.1.2.1
        have h29 : K_Checker_checkNode_29 N (ie (e : Nat)) g (wj (wi u 19 e 6) 26 e (je (d : Nat))) = some ((), g, wi (wj (wi u 19 e 6) 26 e (je (d : Nat))) 25 e (ie (kt : Nat))) := by
          unfold K_Checker_checkNode_29
          rw [isT _ H2.1, Option.bind_some, if_pos rfl, r1, Option.bind_some, q1, if_neg (show ¬ (ie ((6 : Nat) : Int) = 5) by decide), hto, Option.bind_some, if_pos (gI_Tb hgI)]
          show pm_S g (if ie (kt : Nat) = -1 then _ else _) = _
          rw [if_neg (ie_m1 kt (by omega)), v2, Option.bind_some, if_pos (show ie ((min 1000000 (tyL y.2.2.1) : Nat) : Int) ≤ 200 from (inle _ 200 (by omega) (by omega)).mpr (by omega)), z2, Option.bind_some, pmS_some g g _ _ (Nat.le_refl _) (Nat.le_refl _)]
        rw [h29, pmS_some g g _ _ (Nat.le_refl _) (Nat.le_refl _)]
        refine ⟨g, _, [], rfl, frK_wi (hfr 6) _ _ _ (by unfold cSKp; omega), gL_refl hgI, Nat.zero_le _, ?_⟩
        rw [List.append_nil]
        show cK T n D t (sTy (sDf c e d) e (dTy D d)) g _ Y
        rw [p2]; exact cK_ty H2 he kt2
      · rw [if_neg h0, if_neg (show ¬ (ie ((dPs D d).length : Nat) = 0) from fun hh => h0 ((ineq _ 0 (by omega) (by omega)).mp hh)), m1, Option.bind_some, k1]
        rw [if_neg h0] at hkk
        by_cases e4 : (t.2.1 e).1 = 4
        · rw [if_pos e4, e4, if_pos (show ie ((4 : Nat) : Int) = 4 from rfl), s1, Option.bind_some, hset, Option.bind_some, Option.bind_some]
          have H2 : cK T n D t (sDf c e d) g (wj (wi u 19 e 5) 26 e (je (d : Nat))) Y := hdf 5 hkk
          obtain ⟨r1, _⟩ := tr_row (g := g) H2.2.2.1 e he
          obtain ⟨q1, _⟩ := H2.2.2.2.2.2 e he
          rw [hkk] at q1
          have h29 : K_Checker_checkNode_29 N (ie (e : Nat)) g (wj (wi u 19 e 5) 26 e (je (d : Nat))) = some ((), g, wj (wi u 19 e 5) 26 e (je (d : Nat))) := by
            unfold K_Checker_checkNode_29
            rw [isT _ H2.1, Option.bind_some, if_pos rfl, r1, Option.bind_some, q1, if_pos (show ie ((5 : Nat) : Int) = 5 from rfl)]
          rw [h29, pmS_some g g _ _ (Nat.le_refl _) (Nat.le_refl _)]
          exact ⟨g, _, [], rfl, hfr 5, gL_refl hgI, Nat.zero_le _, by rw [List.append_nil]; exact H2⟩
        · have e3 : (t.2.1 e).1 = 3 := by omega
          obtain ⟨t1, t2, t3, t4⟩ := ck_tell (T := T) (n := n) H.1 H.2.1 7 (t.2.1 e).2.1 (by omega)
          have t1' : F_Fault_tell_3 7 (ie (tkP T n (t.2.1 e).2.1 : Nat)) g u = _ := t1
          obtain ⟨_, _, y3, _⟩ := tr_set (g := g) (t := t) (u := wi (wi u 3 0 (ie ((7 : Nat) : Int))) 3 1 (ie (tkP T n (t.2.1 e).2.1 : Nat))) ⟨(t4 18 10 (by unfold cSKp; omega)).1.trans H.2.2.1.1, h18⟩ e he
          rw [if_neg e4, e3, if_neg (show ¬ (ie ((3 : Nat) : Int) = 4) by decide), m2, Option.bind_some, k2, t1', Option.bind_some, y3, Option.bind_some, Option.bind_some]
          have hfl := cFl_fr (v := wj (wi (wi u 3 0 (ie ((7 : Nat) : Int))) 3 1 (ie (tkP T n (t.2.1 e).2.1 : Nat))) 26 e (je (d : Nat))) t2 rfl rfl
          rw [ck29 _ g _ hfl, pmS_some g g _ _ (Nat.le_refl _) (Nat.le_refl _)]
          exact ⟨g, _, [], rfl, frK_wj t4 _ _ _ (by unfold cSKp; omega), gL_refl hgI, Nat.zero_le _, hfl, by rw [List.append_nil]; exact tyC_fr t3 (fun _ _ _ => rfl)⟩
  · rw [if_neg h34]
    obtain ⟨w, g', v, Z, c', q1, q2, q3, q4, q5, q6⟩ := k_typeOf N hN H hx h43 he hW hf hI hpar hlet hY h34
    obtain ⟨w2, _⟩ := (hW e hf (Nat.le_refl _)).2.1.2
    have w2' : (t.2.1 e).1 ≠ 5 := w2
    have h18' : v.1 18 10 = ie (t.1 : Nat) := (q3 18 10 (by unfold cSKp; omega)).1.trans H.2.2.1.1
    have hun : F_Checker_checkNode N (ie (e : Nat)) g u = pm_S g (pm_S g' (if w = (-1) then K_Checker_checkNode_77 N (ie (e : Nat)) w g' v else (F_Types_leaves w g' v).bind fun q15 => if q15 ≤ 200 then (F_Tree_setType (ie (e : Nat)) w g' v).bind fun q17 => some ((), g', q17) else K_Checker_checkNode_77 N (ie (e : Nat)) w g' v)) := by
      unfold F_Checker_checkNode K_Checker_checkNode_29
      rw [m1, Option.bind_some, k1, if_neg (show ¬ (ie ((t.2.1 e).1 : Nat) = 3) from fun hh => h34 (Or.inl ((ineq _ 3 (by omega) (by omega)).mp hh))), Option.bind_some, if_neg (show ¬ (ie ((t.2.1 e).1 : Nat) = 4) from fun hh => h34 (Or.inr ((ineq _ 4 (by omega) (by omega)).mp hh))), isT u H.1, Option.bind_some, if_pos rfl, Option.bind_some, if_neg (show ¬ (ie ((t.2.1 e).1 : Nat) = 5) from fun hh => w2' ((ineq _ 5 (by omega) (by omega)).mp hh)), q1, Option.bind_some, if_pos (gI_Tb q4.1)]
    rw [hun]
    have bad : ∀ w' : Int32, v.1 3 0 = ie 0 → tyC g' v (Y ++ Z) → v.1 20 e = ie (tkP T n (t.2.1 e).2.1 : Nat) → ∃ v', K_Checker_checkNode_77 N (ie (e : Nat)) w' g' v = some ((), g', v') ∧ frK u v' ∧ cFl T n (7, (t.2.1 e).2.1) v' ∧ tyC g' v' (Y ++ Z) := by
      intro w' h3 hy h20
      obtain ⟨t1, t2, t3, t4⟩ := ck_tell (T := T) (n := n) h3 hy 7 (t.2.1 e).2.1 (by omega)
      have t1' : F_Fault_tell_3 7 (ie (tkP T n (t.2.1 e).2.1 : Nat)) g' v = _ := t1
      obtain ⟨_, r2, _⟩ := tr_row (g := g') (t := t) (u := v) ⟨h18', h18⟩ e he
      obtain ⟨_, z2, _⟩ := tr_set (g := g') (t := t) (u := wi (wi v 3 0 (ie ((7 : Nat) : Int))) 3 1 (ie (tkP T n (t.2.1 e).2.1 : Nat))) ⟨(t4 18 10 (by unfold cSKp; omega)).1.trans h18', h18⟩ e he
      refine ⟨_, ?_, frK_wi (frK_trans q3 t4) 25 e w' (by unfold cSKp; omega), cFl_fr t2 (wi_ne _ _ _ _ _ _ (by omega)) (wi_ne _ _ _ _ _ _ (by omega)), tyC_fr t3 (fun c i hc => wi_ne _ _ _ _ _ _ (fun hh => by rw [hh.1, cSy_no (by omega)] at hc; cases hc))⟩
      unfold K_Checker_checkNode_77
      rw [r2, Option.bind_some, h20, t1', Option.bind_some, z2, Option.bind_some]
    have h20 : v.1 20 e = ie (tkP T n (t.2.1 e).2.1 : Nat) := (q2.2.2.2.2.2 e he).2.1
    cases hck : (if (t.2.1 e).1 = 16 then ckC D t c e (t.2.1 e) else (nty x.2.2.2.2.2.2 c.1 (t.2.1 e)).map fun s => (s, c)) with
    | none =>
      rw [hck] at q6
      have q6' : w = ie (-1) := q6
      obtain ⟨v', b1, b2, b3, b4⟩ := bad w q2.1 q2.2.1 h20
      rw [q6', if_pos (show ie (-1) = -1 from rfl), ← q6', b1, pmS_some g' g' _ _ (Nat.le_refl _) (Nat.le_refl _), pmS_some g g' _ _ q4.2.1 q4.2.2.1]
      exact ⟨g', v', Z, rfl, b2, q4, q5, b3, b4⟩
    | some p =>
      rw [hck] at q6
      obtain ⟨rfl, kp, kp1, kp2⟩ := q6
      obtain ⟨_, r2, _⟩ := c_row q2.2.1 kp _ kp2
      have hkl2 := (List.getElem?_eq_some_iff.mp kp2).1
      have hYl := q2.2.1.2.1
      obtain ⟨_, z2, _⟩ := tr_set (g := g') q2.2.2.1 e he
      rw [kp1, if_neg (ie_m1 kp (by omega)), r2, Option.bind_some]
      show ∃ g'' v'' Z'', _ ∧ _ ∧ _ ∧ _ ∧ kO T n D t (if 200 < tyL p.1 then .error (7, (t.2.1 e).2.1) else .ok (sTy p.2 e p.1)) g'' v'' (Y ++ Z'')
      by_cases hl : 200 < tyL p.1
      · obtain ⟨v', b1, b2, b3, b4⟩ := bad (ie (kp : Nat)) q2.1 q2.2.1 h20
        rw [if_neg (show ¬ (ie ((min 1000000 (tyL p.1) : Nat) : Int) ≤ 200) from fun hh => by have := (inle _ 200 (by omega) (by omega)).mp hh; omega), b1, pmS_some g' g' _ _ (Nat.le_refl _) (Nat.le_refl _), pmS_some g g' _ _ q4.2.1 q4.2.2.1, if_pos hl]
        exact ⟨g', v', Z, rfl, b2, q4, q5, b3, b4⟩
      · rw [if_pos (show ie ((min 1000000 (tyL p.1) : Nat) : Int) ≤ 200 from (inle _ 200 (by omega) (by omega)).mpr (by omega)), z2, Option.bind_some, pmS_some g' g' _ _ (Nat.le_refl _) (Nat.le_refl _), pmS_some g g' _ _ q4.2.1 q4.2.2.1, if_neg hl]
        exact ⟨g', _, Z, rfl, frK_wi q3 _ _ _ (by unfold cSKp; omega), q4, q5, cK_ty q2 he kp2⟩
