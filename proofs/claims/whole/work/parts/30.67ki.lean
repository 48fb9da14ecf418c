set_option maxRecDepth 100000
def frX (u v : pm_J) : Prop := ∀ c i, ¬ cSKp c i → ¬ (c = 43 ∧ i = 4) → v.1 c i = u.1 c i ∧ v.2 c i = u.2 c i
theorem frX_K {u v : pm_J} (h : frK u v) : frX u v := fun c i hc _ => h c i hc
theorem frX_trans {u v w : pm_J} (h : frX u v) (h' : frX v w) : frX u w := fun c i h1 h2 => ⟨(h' c i h1 h2).1.trans (h c i h1 h2).1, (h' c i h1 h2).2.trans (h c i h1 h2).2⟩
theorem cK_43 {T : List Tok} {n : Nat} {D : List Df} {t : Tr} {c : CS} {g : pm_s} {u : pm_J} {Y : List Ty} (H : cK T n D t c g u Y) (x : Int32) : cK T n D t c g (wi u 43 4 x) Y := by
  obtain ⟨h1, h2, h3, h4, h5, h6⟩ := H
  have hv : ∀ a k, ¬ (a = 43 ∧ k = 4) → (wi u 43 4 x).1 a k = u.1 a k ∧ (wi u 43 4 x).2 a k = u.2 a k := fun a k h => ⟨wi_ne _ _ _ _ _ _ h, rfl⟩
  refine ⟨(hv _ _ (by omega)).1.trans h1, tyC_fr h2 (fun a k ha => (hv a k (fun hh => by rw [hh.1, cSy_no (by omega)] at ha; cases ha)).1), ⟨(hv _ _ (by omega)).1.trans h3.1, h3.2⟩, ⟨(hv _ _ (by omega)).1.trans h4.1, h4.2⟩, fun i y hy => ?_, fun i hi => ?_⟩
  · have := cDf_g (v := wi u 43 4 x) (h5 i y hy) [] (fun a k a1 a2 => hv a k (by omega))
    rw [List.append_nil] at this; exact this
  · have := cKn_fr (c' := c) (v := wi u 43 4 x) (h6 i hi) [] ⟨rfl, rfl, rfl, rfl⟩ (fun a k hk => hv a k (by omega))
    rw [List.append_nil] at this; exact this
theorem k_ckN {T : List Tok} {n : Nat} {D : List Df} {t : Tr} {f0 di : Nat} {x : Df} (N : Nat) (hN : 100000 ≤ N) (k4 : Int32 → Int32 → pm_s → pm_J → Option (Unit × pm_s × pm_J)) (hx : D[di]? = some x) (hroot : x.2.2.2.1 < t.1) (hW : ∀ j, f0 ≤ j → j ≤ x.2.2.2.1 → nW T di f0 f0 (x.2.2.2.2.2.2, t) j) (hpar : parI D) (hlet : ltI D) (hkT : 2 * kT t ≤ 900) (m : Nat) : ∀ (e : Nat) (c : CS) (g : pm_s) (u : pm_J) (Y : List Ty) (fuel : Nat), e + m = x.2.2.2.1 + 1 → m + 2 ≤ fuel → f0 ≤ e → cK T n D t c g u Y → u.1 43 4 = ie (di : Nat) → kI D t f0 e c → Y.length ≤ 1000 + e + 100 * cnt t.2.1 e →
    ∃ (g' : pm_s) (v : pm_J) (Z : List Ty) (e' : Nat), frK u v ∧ gL g g' ∧ (∀ g'' w, K_Checker_checkAll_63 N k4 (ie (e' : Nat)) (ie (di : Nat)) g' v = some ((), g'', w) → g'.1 ≤ g''.1 → g'.2.1 ≤ g''.2.1 → K_Checker_checkAll_30 N k4 fuel (ie (e : Nat)) (ie (di : Nat)) g u = some ((), g'', w)) ∧
      (match ckN T D t x.2.2.2.2.2.2 m e c with
       | .error q => cFl T n q v ∧ tyC g' v (Y ++ Z)
       | .ok c' => e' = x.2.2.2.1 + 1 ∧ cK T n D t c' g' v (Y ++ Z) ∧ kI D t f0 e' c' ∧ (Y ++ Z).length ≤ 1000 + e' + 100 * cnt t.2.1 e') := by
  have hdi := (List.getElem?_eq_some_iff.mp hx).1
  induction m with
  | zero =>
    intro e c g u Y fuel he hfu hf H h43 hI hY
    obtain ⟨fuel, rfl⟩ : ∃ f', fuel = f' + 1 := ⟨fuel - 1, by omega⟩
    have h30 := H.2.2.2.1.2
    have h18 := H.2.2.1.2
    refine ⟨g, u, [], e, frK_refl _, gL_refl H.2.1.2.2.1, fun g'' w hw _ _ => ?_, by omega, by rw [List.append_nil]; exact H, hI, by rw [List.append_nil]; exact hY⟩
    obtain ⟨_, _, b3, _⟩ := tb_row (g := g) H.2.2.2.1 di hdi
    rw [K_Checker_checkAll_30, b3, Option.bind_some, (H.2.2.2.2.1 di x hx).2.2.2.2.1, if_pos ((inle _ _ (by omega) (by omega)).mpr (by omega))]
    exact hw
  | succ m ih =>
    intro e c g u Y fuel he hfu hf H h43 hI hY
    obtain ⟨fuel, rfl⟩ : ∃ f', fuel = f' + 1 := ⟨fuel - 1, by omega⟩
    have h30 := H.2.2.2.1.2
    have h18 := H.2.2.1.2
    have hcm : cnt t.2.1 e ≤ kT t := cnt_mono _ (by omega)
    obtain ⟨_, _, b3, _⟩ := tb_row (g := g) H.2.2.2.1 di hdi
    obtain ⟨g1, v1, Z1, q1, q2, q3, q4, q5⟩ := k_node N hN H hx h43 (by omega) (fun j j1 j2 => hW j j1 (by omega)) hf hI hpar hlet (by omega)
    have hst : ∀ g'' w, K_Checker_checkAll_30 N k4 fuel (ie ((e + 1 : Nat) : Int)) (ie (di : Nat)) g1 v1 = some ((), g'', w) → g1.1 ≤ g''.1 → g1.2.1 ≤ g''.2.1 → K_Checker_checkAll_30 N k4 (fuel + 1) (ie (e : Nat)) (ie (di : Nat)) g u = some ((), g'', w) := by
      intro g'' w hw l1 l2
      rw [K_Checker_checkAll_30, b3, Option.bind_some, (H.2.2.2.2.1 di x hx).2.2.2.2.1, if_neg (fun hh => by have := (inle _ _ (by omega) (by omega)).mp hh; omega)]
      unfold F_Fault_isTold_3
      rw [H.1, if_pos (show ie 0 = 0 from rfl), Option.bind_some, if_pos rfl, q1, Option.bind_some, if_pos (gI_Tb q3.1), iadd1, hw, pmS_some g1 g'' _ _ l1 l2]
    rw [ckN]
    cases hck : ck T D t x.2.2.2.2.2.2 c e with
    | error q =>
      rw [hck] at q5
      refine ⟨g1, v1, Z1, e + 1, q2, q3, fun g'' w hw l1 l2 => hst g'' w ?_ l1 l2, q5⟩
      obtain ⟨fuel, rfl⟩ : ∃ f', fuel = f' + 1 := ⟨fuel - 1, by omega⟩
      obtain ⟨_, _, b3', _⟩ := tb_row (g := g1) (u := v1) (D := D) ⟨(q2 29 9 (by unfold cSKp; omega)).1.trans H.2.2.2.1.1, h30⟩ di hdi
      rw [K_Checker_checkAll_30, b3', Option.bind_some, f_told q5.1 g1, Option.bind_some, if_neg (show ¬ ((1 : Int32) = 0) by decide), hw]
      split <;> rfl
    | ok c1 =>
      rw [hck] at q5
      have hcs : cnt t.2.1 (e + 1) = cnt t.2.1 e + (if (t.2.1 e).1 = 16 then 1 else 0) := rfl
      obtain ⟨g2, v2, Z2, e2, r1, r2, r3, r4⟩ := ih (e + 1) c1 g1 v1 (Y ++ Z1) fuel (by omega) (by omega) (by omega) q5 ((q2 43 4 (by unfold cSKp; omega)).1.trans h43) (kI_next hI hck) (by
        rw [List.length_append, hcs]
        by_cases e16 : (t.2.1 e).1 = 16
        · rw [if_pos e16] at q4 ⊢; omega
        · rw [if_neg e16] at q4 ⊢; omega)
      rw [pB_o]
      refine ⟨g2, v2, Z1 ++ Z2, e2, frK_trans q2 r1, gL_trans q3 r2, fun g'' w hw l1 l2 => hst g'' w (r3 g'' w hw l1 l2) (Nat.le_trans r2.2.1 l1) (Nat.le_trans r2.2.2.1 l2), ?_⟩
      rw [← List.append_assoc]; exact r4
theorem k_4f {T : List Tok} {n : Nat} {D : List Df} {q : Nat × Nat} {g : pm_s} {v : pm_J} (N : Nat) (h : cFl T n q v) (fuel : Nat) (hf : 1 ≤ fuel) (x1 x2 : Int32) : K_Checker_checkAll_4 N fuel x1 x2 g v = some ((), g, v) := by
  obtain ⟨fuel, rfl⟩ : ∃ f', fuel = f' + 1 := ⟨fuel - 1, by omega⟩
  rw [K_Checker_checkAll_4]
  unfold F_Table_size
  rw [Option.bind_some, f_told h g, Option.bind_some, if_neg (show ¬ ((1 : Int32) = 0) by decide), Option.bind_some, if_neg (show ¬ ((1 : Int32) = 0) by decide)]
  split <;> rfl
theorem k_ckA {T : List Tok} {n : Nat} {D : List Df} {t : Tr} (N : Nat) (hN : 100000 ≤ N) (hpW : pW T D t) (hlet : ltI D) (hkT : 2 * kT t ≤ 900) (R : List Df) : ∀ (i : Nat) (c : CS) (g : pm_s) (u : pm_J) (Y : List Ty) (fuel : Nat), D.drop i = R → i ≤ D.length → R.length + 2 ≤ fuel → cK T n D t c g u Y → kI0 D t (dF D i) c → Y.length ≤ 1000 + dF D i + 100 * cnt t.2.1 (dF D i) →
    ∃ (g' : pm_s) (v : pm_J) (Z : List Ty), frX u v ∧ gL g g' ∧ (match ckA T D t R c with
       | .error q => K_Checker_checkAll_4 N fuel (ie (dF D i : Nat)) (ie (i : Nat)) g u = some ((), g', v) ∧ cFl T n q v ∧ tyC g' v (Y ++ Z)
       | .ok c' => cK T n D t c' g' v (Y ++ Z) ∧ kI0 D t t.1 c' ∧ (Y ++ Z).length ≤ 60000 ∧ ∀ w, F_Checker_countAll N g' v = some w → K_Checker_checkAll_4 N fuel (ie (dF D i : Nat)) (ie (i : Nat)) g u = some ((), g', w)) := by
  have hpar := pW_par hpW
  induction R with
  | nil =>
    intro i c g u Y fuel hd hi hf H hI hY
    obtain ⟨fuel, rfl⟩ : ∃ f', fuel = f' + 1 := ⟨fuel - 1, by omega⟩
    have hi' : i = D.length := by
      have := congrArg List.length hd
      rw [List.length_drop, List.length_nil] at this; omega
    subst hi'
    have h30 := H.2.2.2.1.2
    have h18 := H.2.2.1.2
    rw [← hpW.2.1] at hI hY ⊢
    refine ⟨g, u, [], fun _ _ _ _ => ⟨rfl, rfl⟩, gL_refl H.2.1.2.2.1, ?_⟩
    show cK T n D t c g u (Y ++ []) ∧ _
    rw [List.append_nil]
    have : cnt t.2.1 t.1 = kT t := rfl
    refine ⟨H, hI, by omega, fun w hw => ?_⟩
    rw [K_Checker_checkAll_4]
    unfold F_Table_size F_Fault_isTold_3
    rw [Option.bind_some, H.2.2.2.1.1, if_pos ((inle _ _ (by omega) (by omega)).mpr (Nat.le_refl _)), H.1, if_pos (show ie 0 = 0 from rfl), Option.bind_some, if_pos rfl, hw, Option.bind_some]
  | cons x R ih =>
    intro i c g u Y fuel hd hi hf H hI hY
    obtain ⟨fuel, rfl⟩ : ∃ f', fuel = f' + 1 := ⟨fuel - 1, by omega⟩
    have hil : i < D.length := by
      have := congrArg List.length hd
      rw [List.length_drop] at this
      have h2 : (x :: R).length = R.length + 1 := rfl
      omega
    have hR : (x :: R).length = R.length + 1 := rfl
    have hx : D[i]? = some x := by
      have h1 := List.drop_eq_getElem_cons hil
      rw [h1] at hd
      injection hd with h2 _
      rw [← h2]; exact List.getElem?_eq_getElem hil
    have hdr : D.drop (i + 1) = R := by
      have h1 := List.drop_eq_getElem_cons hil
      rw [h1] at hd
      injection hd
    have h30 := H.2.2.2.1.2
    have h18 := H.2.2.1.2
    obtain ⟨⟨w1, w2, w3, w4, w5⟩, w6, _⟩ := hpW.1 i x hx
    have hdF : dF D (i + 1) = x.2.2.2.1 + 1 := by
      unfold dF; rw [if_neg (by omega), Nat.add_sub_cancel, hx]
    obtain ⟨g1, v1, Z1, e1, q1, q2, q3, q4⟩ := k_ckN (f0 := dF D i) N hN (K_Checker_checkAll_4 N fuel) hx w4 w6 hpar hlet hkT (x.2.2.2.1 + 1 - dF D i) (dF D i) c g (wi u 43 4 (ie (i : Nat))) Y N (by omega) (by omega) (Nat.le_refl _) (cK_43 H _) (wi_at _ _ _ _) (kI_s hI) hY
    have hst : ∀ g'' w, K_Checker_checkAll_63 N (K_Checker_checkAll_4 N fuel) (ie (e1 : Nat)) (ie (i : Nat)) g1 v1 = some ((), g'', w) → g1.1 ≤ g''.1 → g1.2.1 ≤ g''.2.1 → K_Checker_checkAll_4 N (fuel + 1) (ie (dF D i : Nat)) (ie (i : Nat)) g u = some ((), g'', w) := by
      intro g'' w hw l1 l2
      rw [K_Checker_checkAll_4]
      unfold F_Table_size F_Fault_isTold_3
      rw [Option.bind_some, H.2.2.2.1.1, if_neg (fun hh => by have := (inle _ _ (by omega) (by omega)).mp hh; omega), H.1, if_pos (show ie 0 = 0 from rfl), Option.bind_some, if_pos rfl]
      exact q3 g'' w hw l1 l2
    have hfx : frX u v1 := fun a k h1 h2 => ⟨(q1 a k h1).1.trans (wi_ne _ _ _ _ _ _ h2), (q1 a k h1).2⟩
    have t29 : v1.1 29 9 = ie (D.length : Nat) ∧ D.length ≤ 30 := ⟨(hfx 29 9 (by unfold cSKp; omega) (by omega)).1.trans H.2.2.2.1.1, h30⟩
    have t18 : v1.1 18 10 = ie (t.1 : Nat) ∧ t.1 ≤ 1800 := ⟨(hfx 18 10 (by unfold cSKp; omega) (by omega)).1.trans H.2.2.1.1, h18⟩
    obtain ⟨b1, b2, _, b4, _⟩ := tb_row (g := g1) t29 i hil
    rw [ckA]
    unfold ckD
    rw [w2]
    cases hck : ckN T D t x.2.2.2.2.2.2 (x.2.2.2.1 + 1 - dF D i) (dF D i) c with
    | error q =>
      rw [hck] at q4
      refine ⟨g1, v1, Z1, hfx, q2, hst g1 v1 ?_ (Nat.le_refl _) (Nat.le_refl _), q4.1, q4.2⟩
      unfold K_Checker_checkAll_63
      obtain ⟨y, hy⟩ := tr_tot g1 t18 (v1.1 33 i)
      rw [b2, Option.bind_some, hy, Option.bind_some, b1, Option.bind_some, b4, Option.bind_some, f_tell q4.1, Option.bind_some, k_4f (D := D) N q4.1 fuel (by omega)]
      split <;> rfl
    | ok c1 =>
      rw [hck] at q4
      obtain ⟨rfl, q5, q6, q7⟩ := q4
      rw [pB_o]
      obtain ⟨s, hs⟩ := q6.2.2.1 x.2.2.2.1 w3 (by omega) w5
      obtain ⟨_, _, _, _, _, _, m7, _⟩ := tr_row (g := g1) q5.2.2.1 x.2.2.2.1 w4
      have k7 := (q5.2.2.2.2.2 x.2.2.2.1 w4).2.2.2.2.2.2.1
      rw [hs] at k7
      obtain ⟨kr, kr1, kr2⟩ := k7
      have hD1 := q5.2.2.2.2.1 i x hx
      obtain ⟨kt, kt1, kt2⟩ := hD1.2.2.1
      have e33 : v1.1 33 i = ie (x.2.2.2.1 : Nat) := hD1.2.2.2.1
      rw [hs]
      show ∃ g' v Z, _ ∧ _ ∧ (match pB (if tyQ x.2.2.1 s = true then .ok c1 else .error (7, x.1)) (fun c' => ckA T D t R c') with | .error q => _ | .ok c' => _)
      by_cases heq : x.2.2.1 = s
      · rw [if_pos ((tyQ_eq (tyC_g q5.2.1 kt _ kt2)).mpr heq), pB_o]
        obtain ⟨g2, v2, Z2, r1, r2, r3⟩ := ih (i + 1) c1 g1 v1 (Y ++ Z1) fuel hdr (by omega) (by omega) q5 (by rw [hdF]; exact kI_0 q6) (by rw [hdF]; exact q7)
        have h63 : K_Checker_checkAll_63 N (K_Checker_checkAll_4 N fuel) (ie ((x.2.2.2.1 + 1 : Nat) : Int)) (ie (i : Nat)) g1 v1 = K_Checker_checkAll_4 N fuel (ie (dF D (i + 1) : Nat)) (ie ((i + 1 : Nat) : Int)) g1 v1 := by
          unfold K_Checker_checkAll_63
          rw [b2, Option.bind_some, e33, m7, Option.bind_some, b1, Option.bind_some, kr1, kt1, if_pos ((c_same q5.2.1 kr kt s x.2.2.1 kr2 kt2).mpr heq.symm), iadd1, hdF]
        refine ⟨g2, v2, Z1 ++ Z2, frX_trans hfx r1, gL_trans q2 r2, ?_⟩
        rw [← List.append_assoc]
        cases hA : ckA T D t R c1 with
        | error q =>
          rw [hA] at r3
          exact ⟨hst g2 v2 (h63.trans r3.1) r2.2.1 r2.2.2.1, r3.2⟩
        | ok c2 =>
          rw [hA] at r3
          exact ⟨r3.1, r3.2.1, r3.2.2.1, fun w hw => hst g2 w (h63.trans (r3.2.2.2 w hw)) r2.2.1 r2.2.2.1⟩
      · rw [if_neg (fun hh => heq ((tyQ_eq (tyC_g q5.2.1 kt _ kt2)).mp hh))]
        obtain ⟨t1, t2, t3, t4⟩ := ck_tell (T := T) (n := n) q5.1 q5.2.1 7 x.1 (by omega)
        have t1' : F_Fault_tell_3 7 (ie (tkP T n x.1 : Nat)) g1 v1 = _ := t1
        refine ⟨g1, _, Z1, frX_trans hfx (frX_K t4), q2, hst g1 _ ?_ (Nat.le_refl _) (Nat.le_refl _), t2, t3⟩
        unfold K_Checker_checkAll_63
        rw [b2, Option.bind_some, e33, m7, Option.bind_some, b1, Option.bind_some, kr1, kt1, if_neg (fun hh => heq ((c_same q5.2.1 kr kt s x.2.2.1 kr2 kt2).mp hh).symm), b4, Option.bind_some, hD1.2.1, t1', Option.bind_some, k_4f (D := D) N t2 fuel (by omega)]
