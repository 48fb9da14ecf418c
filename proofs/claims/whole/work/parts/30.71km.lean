set_option maxRecDepth 100000
theorem k_cnt1 {T : List Tok} {n : Nat} {D : List Df} {t : Tr} {c : CS} {g : pm_s} {Y : List Ty} {e dd f0 : Nat} {lc : Lc} {s : Nat → Ta} {u : pm_J} (N : Nat) (hN : 100000 ≤ N) (hdd : dd < D.length) (he : e < t.1) (hpar : parI D) (hW : nW T dd f0 f0 (lc, t) e) (hI : kI0 D t t.1 c) (hJ : ∀ d, (t.2.1 e).1 = 16 → c.2.1 e = some d → (dPs D d).length ≤ (t.2.1 e).2.2.2.2.2.2.length) (H : cF T n D t c s g u Y) : ∃ v, cF T n D t c (pu_upd s dd (taE D t c e (s dd))) g v Y ∧ fr38 u v ∧ ∀ (k4 : Int32 → Int32 → pm_J → Option pm_J) (fuel : Nat) (x : Df), D[dd]? = some x → e < x.2.2.2.1 + 1 → x.2.2.2.1 < t.1 → K_Checker_countAll_15 N g k4 (fuel + 1) (ie (e : Nat)) (ie (dd : Nat)) u = K_Checker_countAll_15 N g k4 fuel (ie ((e + 1 : Nat) : Int)) (ie (dd : Nat)) v := by
  have upd_id : ∀ s : Nat → Ta, pu_upd s dd (s dd) = s := fun s => by
    funext i; by_cases h : i = dd
    · rw [h, upd_same]
    · rw [upd_ne _ _ _ _ h]
  have upd_2 : ∀ (s : Nat → Ta) (a b : Ta), pu_upd (pu_upd s dd a) dd b = pu_upd s dd b := fun s a b => by
    funext i; by_cases h : i = dd
    · rw [h, upd_same, upd_same]
    · rw [upd_ne _ _ _ _ h, upd_ne _ _ _ _ h, upd_ne _ _ _ _ h]
  have h18 := H.2.2.1.2
  have h30 := H.2.2.2.1.2
  obtain ⟨m1, m2, m3, m4, m5, m6, m7, m8⟩ := tr_row (g := g) H.2.2.1 e he
  obtain ⟨k1, _, k3, _, k5, _, _, k8, _⟩ := H.2.2.2.2.2 e he
  obtain ⟨w2, w2', w2''⟩ := hW.2.1
  have w2a : (t.2.1 e).1 ≤ 16 := w2
  have w2b : (t.2.1 e).1 ≠ 6 := w2''
  have hst : ∀ (k4 : Int32 → Int32 → pm_J → Option pm_J) (fuel : Nat) (x : Df), D[dd]? = some x → e < x.2.2.2.1 + 1 → x.2.2.2.1 < t.1 → K_Checker_countAll_15 N g k4 (fuel + 1) (ie (e : Nat)) (ie (dd : Nat)) u = if ie (kk D c (t.2.1 e) e : Nat) = 6 then (F_Table_count (ie (dd : Nat)) 2 1 g u).bind fun q10 => K_Checker_countAll_15 N g k4 fuel (ie ((e + 1 : Nat) : Int)) (ie (dd : Nat)) q10 else if ie (kk D c (t.2.1 e) e : Nat) = 17 then (F_Checker_countCall N (ie (dd : Nat)) (ie (e : Nat)) g u).bind fun q9 => K_Checker_countAll_15 N g k4 fuel (ie ((e + 1 : Nat) : Int)) (ie (dd : Nat)) q9 else K_Checker_countAll_15 N g k4 fuel (ie ((e + 1 : Nat) : Int)) (ie (dd : Nat)) u := by
    intro k4 fuel x hx hlt hrt
    obtain ⟨_, _, b3, _⟩ := tb_row (g := g) H.2.2.2.1 dd hdd
    obtain ⟨hD, _⟩ := H.2.2.2.2.1 dd x hx
    rw [K_Checker_countAll_15, b3, Option.bind_some, hD.2.2.2.2.1, if_neg (fun hh => by have := (inle _ _ (by omega) (by omega)).mp hh; omega), m1, Option.bind_some, k1, iadd1, Option.bind_some]
  unfold taE
  cases hdf : c.2.1 e with
  | none =>
    refine ⟨u, by rw [upd_id]; exact H, fun _ _ _ => ⟨rfl, rfl⟩, fun k4 fuel x hx hlt hrt => ?_⟩
    rw [hst k4 fuel x hx hlt hrt, kk_n hdf, if_neg (show ¬ (ie ((t.2.1 e).1 : Nat) = 6) from fun hh => w2b ((ineq _ 6 (by omega) (by omega)).mp hh)), if_neg (show ¬ (ie ((t.2.1 e).1 : Nat) = 17) from fun hh => by have := (ineq _ 17 (by omega) (by omega)).mp hh; omega)]
  | some d =>
    by_cases e16 : (t.2.1 e).1 = 16
    · obtain ⟨b1, b2, b3, b4, b5, b6, b7, b8, b9, b10, b11⟩ := hW.2.2.2.2.2.2.2.2.2.2 e16
      obtain ⟨h, hh⟩ : ∃ h : Nat, (t.2.1 e).2.2.1 = h := ⟨(t.2.1 e).2.2.1.toNat, by have b1' : 0 ≤ (t.2.1 e).2.2.1 := b1; omega⟩
      have htn : (t.2.1 e).2.2.1.toNat = h := by omega
      have hrow : row (t.2.1 e) = h :: (t.2.1 e).2.2.2.2.2.2 := by rw [row_c e16, htn]
      have b3' : ∀ a ∈ h :: (t.2.1 e).2.2.2.2.2.2, f0 ≤ a ∧ a < e := fun a ha => b3 a (by show a ∈ row (t.2.1 e); rw [hrow]; exact ha)
      have b8' : cn t.2.2.1 (h :: (t.2.1 e).2.2.2.2.2.2) := by
        have b8'' : cn t.2.2.1 (row (t.2.1 e)) := b8
        rw [hrow] at b8''; exact b8''
      have hhl := b3' h List.mem_cons_self
      have hlt : h < t.1 := by omega
      obtain ⟨_, _, _, _, _, n6, _⟩ := tr_row (g := g) H.2.2.1 h hlt
      obtain ⟨c1, c2⟩ := cn_hd b8'
      have n24 : u.1 24 h = hdI (t.2.1 e).2.2.2.2.2.2 := (H.2.2.2.2.2 h hlt).2.2.2.2.2.1.trans c1
      have hdl := hI.1 e d hdf
      obtain ⟨x', hx'⟩ : ∃ x, D[d]? = some x := ⟨D[d], List.getElem?_eq_getElem hdl⟩
      rw [hdf] at k8
      have k8' : u.2 26 e = je (d : Nat) := k8
      obtain ⟨v, v1, v2, v3⟩ := cF_bmp H dd 2 hdd (by omega)
      have v1' : F_Table_count (ie (dd : Nat)) 2 1 g u = some v := v1
      have hp6 := (hpar d x' hx').1
      obtain ⟨_, _, p3⟩ := dPs_some hx'
      obtain ⟨v', i1, i2, i3⟩ := k_cnt (c := c) N hdd he hx' hpar (dPs D d).length 0 (t.2.1 e).2.2.2.2.2.2 _ v N (Nat.zero_add _) (hJ d e16 hdf) (by omega) c2 (fun a ha => by have := b3' a (List.mem_cons_of_mem _ ha); omega) v2
      rw [upd_same, upd_2, List.drop_zero] at i2
      refine ⟨v', ?_, fr38_t v3 i3, fun k4 fuel x hx hlt' hrt => ?_⟩
      · show cF T n D t c (pu_upd s dd (if (t.2.1 e).1 = 16 then _ else _)) g v' Y
        rw [if_pos e16]; exact i2
      · rw [hst k4 fuel x hx hlt' hrt, kk_c hdf e16, if_neg (show ¬ (ie ((17 : Nat) : Int) = 6) by decide), if_pos (show ie ((17 : Nat) : Int) = 17 from rfl)]
        unfold F_Checker_countCall
        have i1' : K_Checker_countCall_40 N g N (ie (dd : Nat)) (ie (e : Nat)) (ie (d : Nat)) (hdI (t.2.1 e).2.2.2.2.2.2) 0 v = some v' := i1
        rw [m8, Option.bind_some, m3, Option.bind_some, k3, hh, n6, Option.bind_some, n24, v1', Option.bind_some, k8', je_ie _ (by omega) (by omega), i1', Option.bind_some]
    · have hko := kk_o (D := D) hdf e16
      by_cases h0 : (dPs D d).length = 0
      · rw [if_pos h0] at hko
        obtain ⟨v, v1, v2, v3⟩ := cF_bmp H dd 2 hdd (by omega)
        have v1' : F_Table_count (ie (dd : Nat)) 2 1 g u = some v := v1
        refine ⟨v, ?_, v3, fun k4 fuel x hx hlt' hrt => ?_⟩
        · show cF T n D t c (pu_upd s dd (if (t.2.1 e).1 = 16 then _ else if (dPs D d).length = 0 then _ else _)) g v Y
          rw [if_neg e16, if_pos h0]; exact v2
        · rw [hst k4 fuel x hx hlt' hrt, hko, if_pos (show ie ((6 : Nat) : Int) = 6 from rfl), v1', Option.bind_some]
      · rw [if_neg h0] at hko
        refine ⟨u, ?_, fun _ _ _ => ⟨rfl, rfl⟩, fun k4 fuel x hx hlt hrt => ?_⟩
        · show cF T n D t c (pu_upd s dd (if (t.2.1 e).1 = 16 then _ else if (dPs D d).length = 0 then _ else _)) g u Y
          rw [if_neg e16, if_neg h0, upd_id]; exact H
        · rw [hst k4 fuel x hx hlt hrt, hko, if_neg (show ¬ (ie ((5 : Nat) : Int) = 6) by decide), if_neg (show ¬ (ie ((5 : Nat) : Int) = 17) by decide)]
def kJ (D : List Df) (t : Tr) (c : CS) : Prop := ∀ e d, e < t.1 → (t.2.1 e).1 = 16 → c.2.1 e = some d → (dPs D d).length ≤ (t.2.1 e).2.2.2.2.2.2.length
theorem k_cntN {T : List Tok} {n : Nat} {D : List Df} {t : Tr} {c : CS} {g : pm_s} {Y : List Ty} {dd : Nat} {x : Df} (N : Nat) (hN : 100000 ≤ N) (hpW : pW T D t) (hx : D[dd]? = some x) (hI : kI0 D t t.1 c) (hJ : kJ D t c) (k4 : Int32 → Int32 → pm_J → Option pm_J) (m : Nat) : ∀ (e : Nat) (s : Nat → Ta) (u : pm_J) (fuel : Nat), e + m = x.2.2.2.1 + 1 → dF D dd ≤ e → m + 1 ≤ fuel → cF T n D t c s g u Y → ∃ v, K_Checker_countAll_15 N g k4 fuel (ie (e : Nat)) (ie (dd : Nat)) u = k4 (ie ((x.2.2.2.1 + 1 : Nat) : Int)) (ie ((dd + 1 : Nat) : Int)) v ∧ cF T n D t c (pu_upd s dd (taN D t c m e (s dd))) g v Y ∧ fr38 u v := by
  have hdd := (List.getElem?_eq_some_iff.mp hx).1
  obtain ⟨⟨_, _, w3, w4, _⟩, w6, _⟩ := hpW.1 dd x hx
  induction m with
  | zero =>
    intro e s u fuel he hf hfu H
    obtain ⟨fuel, rfl⟩ : ∃ f', fuel = f' + 1 := ⟨fuel - 1, by omega⟩
    have h18 := H.2.2.1.2
    have h30 := H.2.2.2.1.2
    obtain ⟨_, _, b3, _⟩ := tb_row (g := g) H.2.2.2.1 dd hdd
    obtain ⟨hD, _⟩ := H.2.2.2.2.1 dd x hx
    refine ⟨u, ?_, ?_, fun _ _ _ => ⟨rfl, rfl⟩⟩
    · rw [K_Checker_countAll_15, b3, Option.bind_some, hD.2.2.2.2.1, if_pos ((inle _ _ (by omega) (by omega)).mpr (by omega)), iadd1, show e = x.2.2.2.1 + 1 by omega]
    · have : pu_upd s dd (taN D t c 0 e (s dd)) = s := by
        funext i; by_cases h : i = dd
        · rw [h, upd_same]; rfl
        · rw [upd_ne _ _ _ _ h]
      rw [this]; exact H
  | succ m ih =>
    intro e s u fuel he hf hfu H
    obtain ⟨fuel, rfl⟩ : ∃ f', fuel = f' + 1 := ⟨fuel - 1, by omega⟩
    obtain ⟨v, v1, v2, v3⟩ := k_cnt1 N hN hdd (by omega) (pW_par hpW) (w6 e hf (by omega)) hI (fun d h16 hd => hJ e d (by omega) h16 hd) H
    obtain ⟨v', i1, i2, i3⟩ := ih (e + 1) _ v fuel (by omega) (by omega) (by omega) v1
    refine ⟨v', by rw [v3 k4 fuel x hx (by omega) w4]; exact i1, ?_, fr38_t v2 i3⟩
    rw [upd_same] at i2
    have h2 : ∀ (s : Nat → Ta) (a b : Ta), pu_upd (pu_upd s dd a) dd b = pu_upd s dd b := fun s a b => by
      funext i; by_cases h : i = dd
      · rw [h, upd_same, upd_same]
      · rw [upd_ne _ _ _ _ h, upd_ne _ _ _ _ h, upd_ne _ _ _ _ h]
    rw [h2] at i2; rw [taN]; exact i2
def taS (D : List Df) (t : Tr) (c : CS) (k : Nat) : Nat → Ta := fun i => if i < k then (match D[i]? with | some x => taD D t c x | none => (0, 0, 0, 0)) else (0, 0, 0, 0)
theorem k_cntA {T : List Tok} {n : Nat} {D : List Df} {t : Tr} {c : CS} {g : pm_s} {Y : List Ty} (N : Nat) (hN : 100000 ≤ N) (hpW : pW T D t) (hI : kI0 D t t.1 c) (hJ : kJ D t c) (m : Nat) : ∀ (i : Nat) (u : pm_J) (fuel : Nat), i + m = D.length → m + 1 ≤ fuel → cF T n D t c (taS D t c i) g u Y → ∃ v, K_Checker_countAll_4 N g fuel (ie (dF D i : Nat)) (ie (i : Nat)) u = some v ∧ cF T n D t c (taS D t c D.length) g v Y ∧ fr38 u v := by
  induction m with
  | zero =>
    intro i u fuel hi hfu H
    obtain ⟨fuel, rfl⟩ : ∃ f', fuel = f' + 1 := ⟨fuel - 1, by omega⟩
    have h30 := H.2.2.2.1.2
    have : i = D.length := by omega
    subst this
    refine ⟨u, ?_, H, fun _ _ _ => ⟨rfl, rfl⟩⟩
    rw [K_Checker_countAll_4]
    unfold F_Table_size
    rw [Option.bind_some, H.2.2.2.1.1, if_pos ((inle _ _ (by omega) (by omega)).mpr (Nat.le_refl _))]
  | succ m ih =>
    intro i u fuel hi hfu H
    obtain ⟨fuel, rfl⟩ : ∃ f', fuel = f' + 1 := ⟨fuel - 1, by omega⟩
    have h30 := H.2.2.2.1.2
    have h18 := H.2.2.1.2
    obtain ⟨x, hx⟩ : ∃ x, D[i]? = some x := ⟨D[i]'(by omega), List.getElem?_eq_getElem _⟩
    obtain ⟨d1, d2, d3⟩ := dF_mono hpW hx
    obtain ⟨⟨_, w2, _⟩, _⟩ := hpW.1 i x hx
    obtain ⟨v, v1, v2, v3⟩ := k_cntN N hN hpW hx hI hJ (K_Checker_countAll_4 N g fuel) (x.2.2.2.1 + 1 - dF D i) (dF D i) _ u N (by omega) (Nat.le_refl _) (by omega) H
    have hs : pu_upd (taS D t c i) i (taN D t c (x.2.2.2.1 + 1 - dF D i) (dF D i) (taS D t c i i)) = taS D t c (i + 1) := by
      funext j
      unfold taS
      by_cases ej : j = i
      · subst ej
        rw [upd_same, if_neg (Nat.lt_irrefl _), if_pos (by omega), hx]
        show _ = taD D t c x
        unfold taD; rw [w2]
      · rw [upd_ne _ _ _ _ ej]
        by_cases hlt : j < i
        · rw [if_pos hlt, if_pos (by omega)]
        · rw [if_neg hlt, if_neg (by omega)]
    rw [hs] at v2
    obtain ⟨v', i1, i2, i3⟩ := ih (i + 1) v fuel (by omega) (by omega) v2
    refine ⟨v', ?_, i2, fr38_t v3 i3⟩
    rw [K_Checker_countAll_4]
    unfold F_Table_size
    rw [Option.bind_some, H.2.2.2.1.1, if_neg (fun hh => by have := (inle _ _ (by omega) (by omega)).mp hh; omega), v1, ← d1]
    exact i1
theorem kJ_of {T : List Tok} {D : List Df} {t : Tr} {c : CS} (hpW : pW T D t) (h : cOK T D t D.length t.1 c) : kJ D t c := fun e d he h16 hdf => by
  have he' := he
  rw [hpW.2.1] at he'
  obtain ⟨i, x, _, hx, e1, e2⟩ := in_def hpW D.length (Nat.le_refl _) e he'
  obtain ⟨r, _, _, h3⟩ := (h.1 i x hx e e1 e2 he).2.2 h16
  cases hc : calD D t c (t.2.1 e).2.2.1.toNat with
  | none => rw [hc] at h3; rw [h3.1] at hdf; cases hdf
  | some d' => rw [hc] at h3; rw [h3.1] at hdf; cases hdf; exact h3.2.1
def frW (u v : pm_J) : Prop := ∀ c i, ¬ cSKp c i → ¬ (c = 43 ∧ i = 4) → c ≠ 38 → v.1 c i = u.1 c i ∧ v.2 c i = u.2 c i
theorem cK_0 {T : List Tok} {n : Nat} {D : List Df} {a : Nat} {t : Tr} {g : pm_s} {u : pm_J} {Y : List Ty} (H : cQ T n D a t g u Y) : cK T n D t cs0 g u Y := by
  obtain ⟨h1, h2, h3, _, h5, h6, _⟩ := H
  refine ⟨h1.1, h2, ⟨h3.1, h3.2.1⟩, h5, h6, fun i hi => ?_⟩
  obtain ⟨a1, a2, a3, a4, a5, a6, a7, a8, a9, a10⟩ := h3.2.2 i hi
  exact ⟨a1, a2, a3, a4, a5, a7, a8, a6, a9, a10⟩
theorem k_check {T : List Tok} {n : Nat} {D : List Df} {a : Nat} {t : Tr} {g : pm_s} {u : pm_J} {Y : List Ty} (N : Nat) (hN : 100000 ≤ N) (H : cQ T n D a t g u Y) (hpW : pW T D t) (hcl : clash T [] D = none) (hkT : 2 * kT t ≤ 900) (hY : Y.length ≤ 1000) :
    ∃ (g' : pm_s) (v : pm_J), F_Checker_checkAll N g u = some ((), g', v) ∧ frW u v ∧ gL g g' ∧ (match ckA T D t D cs0 with
      | .error q => cFl T n q v ∧ ∃ Y', tyC g' v Y'
      | .ok c => ∃ Y', cF T n D t c (taS D t c D.length) g' v Y' ∧ kI0 D t t.1 c ∧ cOK T D t D.length t.1 c ∧ Y'.length ≤ 60000) := by
  have hK := cK_0 H
  have hI0 : kI0 D t (dF D 0) cs0 := ⟨fun i d h => (by cases h), fun i d h => (by cases h), fun j _ => ⟨rfl, rfl, rfl⟩⟩
  have hO0 : cOK T D t 0 (dF D 0) cs0 := ⟨fun i x hx e e1 e2 e3 => by (have : dF D 0 = 0 := rfl); omega, fun i x hi => by omega, fun a ha => (by cases ha), fun e d i p a he => by (have : dF D 0 = 0 := rfl); omega⟩
  have hg : ∀ (i : Nat) (x : Df), D[i]? = some x → tyG x.2.2.1 := fun i x hx => by
    obtain ⟨kt, _, kt2⟩ := (hK.2.2.2.2.1 i x hx).2.2.1
    exact tyC_g hK.2.1 kt _ kt2
  obtain ⟨g', v, Z, q1, q2, q3⟩ := k_ckA N hN hpW (pW_let hpW hcl) hkT D 0 cs0 g u Y N rfl (Nat.zero_le _) (by have := hK.2.2.2.1.2; omega) hK hI0 (by omega)
  have e0 : ie (dF D 0 : Nat) = 0 := rfl
  cases hA : ckA T D t D cs0 with
  | error q =>
    rw [hA] at q3
    refine ⟨g', v, ?_, fun c i h1 h2 _ => q1 c i h1 h2, q2, q3.2.1, _, q3.2.2⟩
    unfold F_Checker_checkAll
    have q31 : K_Checker_checkAll_4 N N 0 0 g u = some ((), g', v) := q3.1
    rw [q31, pmS_some g g' _ _ q2.2.1 q2.2.2.1]
  | ok c =>
    rw [hA] at q3
    obtain ⟨r1, r2, r3, r4⟩ := q3
    obtain ⟨o1, o2⟩ := cOK_A hpW hg D 0 cs0 c rfl (Nat.zero_le _) hI0 hO0 hA
    have hF : cF T n D t c (taS D t c 0) g' v (Y ++ Z) := by
      have := cF_of r1
      have hs : taS D t c 0 = fun _ => (0, 0, 0, 0) := by funext i; unfold taS; rw [if_neg (by omega)]
      rw [hs]; exact this
    obtain ⟨w, w1, w2, w3⟩ := k_cntA N hN hpW r2 (kJ_of hpW o2) D.length 0 v N (Nat.zero_add _) (by have := hK.2.2.2.1.2; omega) hF
    have w1' : F_Checker_countAll N g' v = some w := w1
    refine ⟨g', w, ?_, fun c i h1 h2 h3 => ⟨(w3 c i h3).1.trans (q1 c i h1 h2).1, (w3 c i h3).2.trans (q1 c i h1 h2).2⟩, q2, Y ++ Z, w2, o1, o2, r3⟩
    unfold F_Checker_checkAll
    have r4' : K_Checker_checkAll_4 N N 0 0 g u = some ((), g', w) := r4 w w1'
    rw [r4', pmS_some g g' _ _ q2.2.1 q2.2.2.1]
