set_option maxRecDepth 100000
def rRw (D : List Df) (ps : rPl) (Y : List Ty) (u00 u : pm_J) : Prop := rPw u D.length ps Y ∧ rDs D u Y ∧ fr rS_D u00 u
theorem rRw_fr {D : List Df} {ps : rPl} {Y : List Ty} {u00 u v : pm_J} (h : rRw D ps Y u00 u) (Z : List Ty) (hf : fr (rS_E D.length) u v) : rRw D ps (Y ++ Z) u00 v := by
  obtain ⟨h1, h2, h3⟩ := h
  exact ⟨rPw_fr h1 Z (hf 92 _ (rSE_no (by unfold rSEp; omega))).1 (fun c i a1 a2 a3 => (hf c i (rSE_no (by unfold rSEp; omega))).1), rDs_fr h2 Z (fun c i a1 => (hf c i (rSE_no (by unfold rSEp; omega))).1), fr_trans h3 (frD_E hf)⟩
theorem rRw_fr0 {D : List Df} {ps : rPl} {Y : List Ty} {u00 u v : pm_J} (h : rRw D ps Y u00 u) (hf : fr (rS_E D.length) u v) : rRw D ps Y u00 v := by
  have := rRw_fr h [] hf
  rw [List.append_nil] at this; exact this
theorem rRw_wi {D : List Df} {ps : rPl} {Y : List Ty} {u00 u : pm_J} (h : rRw D ps Y u00 u) (a : Nat) (x : Int32) (ha : a = 91 ∨ a = 93 ∨ a = 94 ∨ a = 95 ∨ a = 96) : rRw D ps Y u00 (wi u a D.length x) := by
  obtain ⟨h1, h2, h3⟩ := h
  have e1 := rPw_fr (v := wi u a D.length x) h1 [] (wi_ne _ _ _ _ _ _ (by omega)) (fun c i a1 a2 a3 => wi_ne _ _ _ _ _ _ (by omega))
  have e2 := rDs_fr (v := wi u a D.length x) h2 [] (fun c i a1 => wi_ne _ _ _ _ _ _ (by omega))
  rw [List.append_nil] at e1 e2
  exact ⟨e1, e2, frDr_wi _ _ _ (by unfold rSDp; omega) h3⟩
theorem c231 {T : List Tok} {n d : Nat} {e : Nat × Nat} {u00 u : pm_J} (g : pm_s) (H : rZ T n d e u00 u) (hd : d < 30) : zv (fun N => K_Md_define_231 N g (ie d) u) (fun v => rZ T n d e u00 v) := by
  unfold K_Md_define_231
  refine zv_bind (rZ_exp g 19 H) (fun w hw => ?_)
  subst hw
  simp only [if_pos (okn d 30 hd (by omega)), if_pos (show w.1 64 52 = 0 from H.1.1), ntn d (by omega)]
  refine zv_some _ ?_
  have h1 := rZ_wi H 94 d (w.1 64 64) (by unfold rSDp; omega) (by omega) (by omega)
  have h44 : w.1 64 44 + 0 = (wi w 94 d (w.1 64 64)).1 64 44 := by rw [wi_ne _ _ _ _ _ _ (by omega), H.2.1]; rw [show (0 : Int32) = ie 0 from rfl, ie_add, Int.add_zero]
  rw [h44, wi_self _ _ _ _ rfl]
  exact h1
theorem c214 {T : List Tok} {n d : Nat} {e : Nat × Nat} {u00 u : pm_J} (g : pm_s) (H : rZ T n d e u00 u) (hd : d < 30) : zv (fun N => K_Md_define_214 N g (ie d) u) (fun v => rZ T n d e u00 v) := by
  unfold K_Md_define_214
  simp only [if_pos (show u.1 64 52 = 0 from H.1.1)]
  exact c231 g H hd
theorem c172 {T : List Tok} {n d : Nat} {e : Nat × Nat} {u00 u : pm_J} (g : pm_s) (H : rZc T n d e u00 u) (hd : d < 30) (a : Nat) (ha : a ≤ 1000) (t0 : Int32) : zv (fun N => K_Md_define_172 N g (ie d) (ie a) t0 (ie d) u) (fun v => rZ T n d e u00 v) := by
  obtain ⟨H, m, m6, h92, h99⟩ := H
  unfold K_Md_define_172
  simp only [if_pos (okn d 30 hd (by omega)), ntn d (by omega)]
  have H1 := rZ_wi H 93 d t0 (by unfold rSDp; omega) (by omega) (by omega)
  refine zv_bind (rZ_letters g H1 hd a m ha ((wi_ne _ _ _ _ _ _ (by omega)).trans h92) m6 (fun i hi => by obtain ⟨k, k1, k2⟩ := h99 i hi; exact ⟨k, k1, (wi_ne _ _ _ _ _ _ (by omega)).trans k2⟩)) (fun w hw => ?_)
  refine zv_bind (rZ_exp g 18 hw) (fun w2 hw2 => ?_)
  subst hw2
  simp only [if_pos (show w2.1 64 52 = 0 from hw.1.1)]
  exact c214 g (rZ_wi hw 95 d _ (by unfold rSDp; omega) (by omega) (by omega)) hd
theorem c141 {T : List Tok} {n d : Nat} {e : Nat × Nat} {u00 u : pm_J} (g : pm_s) (H : rZc T n d e u00 u) (hd : d < 30) : zv (fun N => K_Md_define_141 N g (ie d) u) (fun v => rZ T n d e u00 v) := by
  unfold K_Md_define_141
  refine zv_bind (rZ_exp g 17 H.1) (fun w hw => ?_)
  subst hw
  simp only [if_pos (show w.1 64 52 = 0 from H.1.1.1)]
  obtain ⟨b, b1, b2⟩ := H.1.1.2.2.2.2.1
  rw [b2]
  exact c172 g H hd b (by omega) 0
def rDw (T : List Tok) (D : List Df) : Prop := ∀ x ∈ D, tkK T x.1 = 1 ∧ ∀ w, x.2.2.2.2.2.1 = some w → w < T.length
def rB (T : List Tok) (n : Nat) (D : List Df) (Y : List Ty) (a : Nat) (t : Tr) (u00 u : pm_J) : Prop := rSt T n none u ∧ rK T n u ∧ u.1 64 51 = ie (a : Nat) ∧ a ≤ T.length ∧ u.1 64 44 = ie (D.length : Nat) ∧ D.length ≤ 30 ∧ (tyR u Y ∧ Y.length ≤ 6 + a) ∧ rNs t u ∧ t.1 ≤ 2 * a ∧ rDs D u Y ∧ fr rS_D u00 u ∧ rDw T D
def rBo (T : List Tok) (n : Nat) (D : List Df) (u00 : pm_J) (x : PE (Df × Nat × Tr)) (v : pm_J) : Prop := match x with
  | .error e => rZ T n D.length e u00 v
  | .ok q => ∃ Y, rB T n (D ++ [q.1]) Y q.2.1 q.2.2 u00 v
theorem z_141 {T : List Tok} {n : Nat} {D : List Df} {S : List (Nat × Nat)} {ps : rPl} {Y : List Ty} {s : PS} {a0 t0 : Nat} {u00 u : pm_J} (g : pm_s) (hC : rCn (T, n, D.length, u00)) (Q : rQ T n D S ps Y s a0 u00 u) (h6 : S.length ≤ 6) (ht0 : s.2.2.2.1 = t0) (ha0 : tkK T a0 = 1) (hDw : rDw T D) : zv (fun N => K_Md_define_141 N g (ie (D.length : Nat)) u) (fun v => rBo T n D u00 (pB (pX T 17 s) fun x => pB (pTy T 20 x.1 0) fun y =>
    pB (pX T 18 (sAt (sWr x (oE x.2.1 (badL T (pmM ps) x.1 (y.2.1 - x.1)))) y.2.1)) fun z => pB (pE T D.length (pmM ps) 20 (scm T S) z) fun q => pB (pX T 19 q.2) fun w =>
    .ok ((a0, ps, y.1, q.1, t0, w.2.1, w.2.2.1), w.1, w.2.2.2)) v) := by
  obtain ⟨H, q2, q3, q4, q5, q6, q7, q8⟩ := Q
  have hG : tkG T := hC.1
  obtain ⟨b1, b2, b3⟩ := rE_b H
  have b1' : T.length ≤ 900 := b1
  have b2' : s.1 ≤ T.length := b2
  have hd : D.length < 30 := H.1.2.2.2.2.2.2.2.2
  have hRw : rRw D ps Y u00 u := ⟨q2, q5, q6⟩
  unfold K_Md_define_141
  refine zv_bind (zv_u (z_exp g hG 17 (by omega) (by omega) H)) (fun w1 hw1 => ?_)
  have hw1' : rO (T, n, D.length, u) 0 [] [] S Y s (pX T 17 s) w1 := hw1
  cases hX : pX T 17 s with
  | error e =>
    rw [hX] at hw1'
    have hz : rZc T n D.length e u00 w1 := rZc_of (rZ_E hw1' q6) q2 (by have : Y.length ≤ 6 + s.1 := H.2.2.2.2.1.2; omega) hw1'.2.2.2.2.2.2.2.2
    simp only [if_pos (show w1.1 64 52 = 0 from hw1'.1.1.1)]
    have h51 : w1.1 64 51 = ie (s.1 : Nat) := hw1'.1.2.2.1
    rw [h51]
    exact c172 g hz hd s.1 (by omega) 0
  | ok x =>
    rw [hX] at hw1'
    have hw2 : rE (T, n, D.length, u) none 0 [] [] S Y x w1 := hw1'
    obtain ⟨x1, x2, _⟩ := pX_ok (by omega) hX
    have hx : x.1 = s.1 + 1 ∧ x.2.2.2 = s.2.2.2 ∧ x.2.1 = s.2.1 := by rw [x1]; exact ⟨rfl, rfl, rfl⟩
    simp only [if_neg (rO52 hw2)]
    rw [pB_o, show w1.1 64 51 = ie (x.1 : Nat) from hw2.1.2.2.1]
    refine zv_bind (z_text g (rCn_base hC u q6) hw2 q6) (fun w3 hw3 => ?_)
    have hw3' : match pTy T 20 x.1 0 with
        | .error e => rZ T n D.length e u00 w3.2 ∧ fr (rS_E D.length) u w3.2
        | .ok t => ∃ (Z : List Ty) (k : Nat), w3.1 = ie k ∧ (Y ++ Z)[k]? = some t.1 ∧ rE (T, n, D.length, u) none 0 [] [] S (Y ++ Z) (sAt x t.2.1) w3.2 := hw3
    cases hT : pTy T 20 x.1 0 with
    | error e =>
      rw [hT] at hw3'
      exact c172 g (rZc_of hw3'.1 q2 (by have : Y.length ≤ 6 + s.1 := H.2.2.2.2.1.2; omega) hw3'.2) hd x.1 (by omega) w3.1
    | ok y =>
      rw [hT] at hw3'
      obtain ⟨Z, k, k1, k2, hw4⟩ := hw3'
      rw [pB_o]
      obtain ⟨p1, p2, _, _⟩ := pAt_ty 20 x.1 0 y (by omega) hT
      have hR4 : rRw D ps (Y ++ Z) u00 w3.2 := rRw_fr hRw Z hw4.2.2.2.2.2.2.2.2
      have h91 : w3.2.1 91 D.length = ie (a0 : Nat) := ((hw4.2.2.2.2.2.2.2.2 91 _ (rSE_no (by unfold rSEp; omega))).1).trans q8
      generalize hY1 : Y ++ Z = Y1 at hw4 k2 hR4
      have H5 := rE_out hw4 93 D.length w3.1 (by omega)
      have hR5 := rRw_wi hR4 93 w3.1 (by omega)
      unfold K_Md_define_172
      simp only [if_pos (okn D.length 30 hd (by omega)), ntn D.length (by omega)]
      generalize hu5 : wi w3.2 93 D.length w3.1 = u5 at H5 hR5 ⊢
      have h93 : u5.1 93 D.length = ie (k : Nat) := by rw [← hu5, wi_at, k1]
      have h91 : u5.1 91 D.length = ie (a0 : Nat) := by rw [← hu5, wi_ne _ _ _ _ _ _ (by omega)]; exact h91
      clear hw3 hw4 hu5 hR4
      have hws : ∀ z, s.2.1 = some z → z < s.1 := H.2.2.2.2.2.1.2
      refine zv_bind (zv_u (z_letters g ps hG H5 (rPw_m hR5.1) x.1 (by show x.1 ≤ y.2.1; omega) (fun z hz => by have hz' : x.2.1 = some z := hz; rw [hx.2.2] at hz'; have := hws z hz'; omega))) (fun w6 hw6 => ?_)
      have hw6' : rE (T, n, D.length, u5) none 0 [] [] S Y1 (sAt (sWr x (oE x.2.1 (badL T (pmM ps) x.1 (y.2.1 - x.1)))) y.2.1) w6 := hw6
      have hB1 : (sAt (sWr x (oE x.2.1 (badL T (pmM ps) x.1 (y.2.1 - x.1)))) y.2.1).1 = y.2.1 ∧ (sAt (sWr x (oE x.2.1 (badL T (pmM ps) x.1 (y.2.1 - x.1)))) y.2.1).2.2.2 = x.2.2.2 := ⟨rfl, rfl⟩
      generalize (sAt (sWr x (oE x.2.1 (badL T (pmM ps) x.1 (y.2.1 - x.1)))) y.2.1) = s6 at hw6' hB1 ⊢
      clear hw6
      refine zv_bind (zv_u (z_exp g hG 18 (by omega) (by omega) hw6')) (fun w7 hw7 => ?_)
      have hw7' : rO (T, n, D.length, u5) 0 [] [] S Y1 s6 (pX T 18 s6) w7 := hw7
      cases hX8 : pX T 18 s6 with
      | error e =>
        rw [hX8] at hw7'
        simp only [if_pos (show w7.1 64 52 = 0 from hw7'.1.1.1)]
        exact c214 g (rZ_wi (rZ_E hw7' hR5.2.2) 95 D.length _ (by unfold rSDp; omega) (by omega) (by omega)) hd
      | ok z =>
        rw [hX8] at hw7'
        have hw8 : rE (T, n, D.length, u5) none 0 [] [] S Y1 z w7 := hw7'
        obtain ⟨z1, z2, _⟩ := pX_ok (by omega) hX8
        have hz : z.1 = y.2.1 + 1 ∧ z.2.2.2 = s.2.2.2 := by rw [z1]; exact ⟨by show s6.1 + 1 = _; omega, by show s6.2.2.2 = _; rw [hB1.2, hx.2.1]⟩
        simp only [if_neg (rO52 hw8)]
        rw [pB_o]
        have h33 : w7.1 64 33 = ie (t0 : Nat) := by rw [← ht0, ← hz.2]; exact hw8.2.2.2.2.2.2.2.1.1
        rw [h33]
        have hR8 := rRw_wi (rRw_fr0 hR5 hw8.2.2.2.2.2.2.2.2) 95 (ie (t0 : Nat)) (by omega)
        have H9 := rE_out hw8 95 D.length (ie (t0 : Nat)) (by omega)
        have g93 : (wi w7 95 D.length (ie (t0 : Nat))).1 93 D.length = ie (k : Nat) := by rw [wi_ne _ _ _ _ _ _ (by omega)]; exact ((hw8.2.2.2.2.2.2.2.2 93 _ (rSE_no (by unfold rSEp; omega))).1).trans h93
        have g91 : (wi w7 95 D.length (ie (t0 : Nat))).1 91 D.length = ie (a0 : Nat) := by rw [wi_ne _ _ _ _ _ _ (by omega)]; exact ((hw8.2.2.2.2.2.2.2.2 91 _ (rSE_no (by unfold rSEp; omega))).1).trans h91
        have g95 : (wi w7 95 D.length (ie (t0 : Nat))).1 95 D.length = ie (t0 : Nat) := wi_at _ _ _ _
        generalize wi w7 95 D.length (ie (t0 : Nat)) = u9 at hR8 H9 g93 g91 g95 ⊢
        clear hw7 hw7' hw8 h33
        obtain ⟨wa, hwa1, hwa2⟩ := z_later g 10 0 0 H9 (by show 0 < 6000; omega)
        have hwa : F_Md_later 10 0 0 g u9 = some wa := hwa1 200000 (by omega)
        have h56 : wa.1 64 56 - 1 = ie ((0 : Nat) : Int) := by
          have : wa.1 64 56 = ie ((1 : Nat) : Int) := hwa2.2.1.1
          rw [this]; rfl
        have hR9 : rCn (T, n, D.length, u9) := rCn_base hC u9 hR8.2.2
        have i1 := r_expr (c := (T, n, D.length, u9)) (ps := ps) (g := g) (fl := 0) hR9 20 0 rfl [] [] S Y1 z wa hwa2 ⟨Nat.le_refl _, by show 0 + 20 * (20 - 0) ≤ 500; omega, by show 0 + 20 * (20 - 0) ≤ 500; omega, by omega, q4, by rw [hz.2]; omega, rPw_m hR8.1, by omega⟩
        have i1' : rP (T, n, D.length, u9) g 0 0 [] [] S Y1 wa (pE T D.length (pmM ps) 20 (scm T S) z) := i1
        simp only [hwa, Option.bind_some]
        cases hE : pE T D.length (pmM ps) 20 (scm T S) z with
        | error e =>
          rw [hE] at i1'
          obtain ⟨v, ⟨n0, g1⟩, x1, x2⟩ := i1'
          have hz2 : rZ T n D.length e u00 v := ⟨x1, by
            have e1 : v.1 64 44 = u9.1 64 44 := (x2 64 44 (rSE_no (by unfold rSEp; omega))).1
            rw [e1]; exact H9.1.2.2.2.2.2.2.2.1, by omega, fr_trans hR8.2.2 (frD_E x2)⟩
          refine zv_bind (P := fun v => rZ T n D.length e u00 v) ⟨v, n0, fun N hN => ?_, hz2⟩ (fun v hv => c214 g hv hd)
          show F_Md_work N 1 g wa = _
          unfold F_Md_work
          rw [h56, g1 N hN N hN]
        | ok q =>
          rw [hE] at i1'
          obtain ⟨v, Z2, v1, v2⟩ := i1'
          have v56 : v.1 64 56 = ie ((0 : Nat) : Int) := v2.2.1.1
          obtain ⟨n0, g1⟩ := rG_in v1 v56 (Nat.le_refl _) (by omega)
          obtain ⟨t1, t2, t3, t4, t5, t6, t7⟩ := bR_u (b_E D.length (pmM ps) 20) hE (by omega) H9.2.2.2.2.2.2.1.2.1
          rw [pB_o]
          refine zv_bind (P := fun v => rE (T, n, D.length, u9) none 0 [] [q.1] S (Y1 ++ Z2) q.2 v) ⟨v, n0, fun N hN => ?_, v2⟩ (fun v hv => ?_)
          · show F_Md_work N 1 g wa = _
            unfold F_Md_work
            rw [h56, g1 N hN N hN]
          unfold K_Md_define_214
          simp only [if_neg (rO52 hv)]
          refine zv_bind (zv_u (z_take g hv (by show 0 < 2400; omega))) (fun wb hwb => ?_)
          simp only [if_pos (okn D.length 30 hd (by omega)), ntn D.length (by omega), hwb.1]
          have hRb := rRw_wi (rRw_fr hR8 Z2 hwb.2.2.2.2.2.2.2.2.2) 96 (ie (q.1 : Nat)) (by omega)
          have Hb := rE_out hwb.2 96 D.length (ie (q.1 : Nat)) (by omega)
          have fb : ∀ c, c = 91 ∨ c = 93 ∨ c = 95 → (wi wb.2 96 D.length (ie (q.1 : Nat))).1 c D.length = u9.1 c D.length := fun c hc => by rw [wi_ne _ _ _ _ _ _ (by omega)]; exact (hwb.2.2.2.2.2.2.2.2.2 c _ (rSE_no (by unfold rSEp; omega))).1
          have m91 := (fb 91 (by omega)).trans g91
          have m93 := (fb 93 (by omega)).trans g93
          have m95 := (fb 95 (by omega)).trans g95
          have m96 : (wi wb.2 96 D.length (ie (q.1 : Nat))).1 96 D.length = ie (q.1 : Nat) := wi_at _ _ _ _
          generalize wi wb.2 96 D.length (ie (q.1 : Nat)) = uc at hRb Hb m91 m93 m95 m96 ⊢
          clear hwb hv fb
          unfold K_Md_define_231
          refine zv_bind (zv_u (z_exp g hG 19 (by omega) (by omega) Hb)) (fun wd hwd => ?_)
          have hwd' : rO (T, n, D.length, uc) 0 [] [] S (Y1 ++ Z2) q.2 (pX T 19 q.2) wd := hwd
          simp only [if_pos (okn D.length 30 hd (by omega)), ntn D.length (by omega)]
          cases hX9 : pX T 19 q.2 with
          | error e =>
            rw [hX9] at hwd'
            have hzd := rZ_E hwd' hRb.2.2
            simp only [if_pos (show wd.1 64 52 = 0 from hwd'.1.1.1)]
            refine zv_some _ ?_
            have h1 := rZ_wi hzd 94 D.length (wd.1 64 64) (by unfold rSDp; omega) (by omega) (by omega)
            have h44 : wd.1 64 44 + 0 = (wi wd 94 D.length (wd.1 64 64)).1 64 44 := by rw [wi_ne _ _ _ _ _ _ (by omega), hzd.2.1]; rw [show (0 : Int32) = ie 0 from rfl, ie_add, Int.add_zero]
            rw [h44, wi_self _ _ _ _ rfl]
            exact h1
          | ok w =>
            rw [hX9] at hwd'
            have He : rE (T, n, D.length, uc) none 0 [] [] S (Y1 ++ Z2) w wd := hwd'
            obtain ⟨w1', w2', _⟩ := pX_ok (by omega) hX9
            have hw : w.1 = q.2.1 + 1 ∧ w.2.2.2 = q.2.2.2.2 := by rw [w1']; exact ⟨rfl, rfl⟩
            simp only [if_neg (rO52 He)]
            rw [pB_o]
            refine zv_some _ ⟨Y1 ++ Z2, ?_⟩
            have hRe := rRw_fr0 hRb He.2.2.2.2.2.2.2.2
            obtain ⟨a1, a2, a3, a4, a5, a6, a7, a8, a9⟩ := id He
            have c64 : wd.1 64 64 = ie (w.2.2.1.1 : Nat) := a7.1
            have c44 : wd.1 64 44 = ie (D.length : Nat) := a1.2.2.2.2.2.2.2.1
            rw [c64, c44, iadd1]
            have hv : ∀ y i, ¬ (y = 94 ∧ i = D.length) → ¬ (y = 64 ∧ i = 44) → (wi (wi wd 94 D.length (ie (w.2.2.1.1 : Nat))) 64 44 (ie ((D.length + 1 : Nat) : Int))).1 y i = wd.1 y i := fun y i h1 h2 => by rw [wi_ne _ _ _ _ _ _ h2, wi_ne _ _ _ _ _ _ h1]
            have hl : (D ++ [((a0, ps, y.1, q.1, t0, w.2.1, w.2.2.1) : Df)]).length = D.length + 1 := by rw [List.length_append]; rfl
            have h94 : (wi (wi wd 94 D.length (ie (w.2.2.1.1 : Nat))) 64 44 (ie ((D.length + 1 : Nat) : Int))).1 94 D.length = ie (w.2.2.1.1 : Nat) := by rw [wi_ne _ _ _ _ _ _ (by omega), wi_at]
            have h44 : (wi (wi wd 94 D.length (ie (w.2.2.1.1 : Nat))) 64 44 (ie ((D.length + 1 : Nat) : Int))).1 64 44 = ie ((D.length + 1 : Nat) : Int) := wi_at _ _ _ _
            have h2 : (wi (wi wd 94 D.length (ie (w.2.2.1.1 : Nat))) 64 44 (ie ((D.length + 1 : Nat) : Int))).2 = wd.2 := rfl
            have hF : fr rS_D u00 (wi (wi wd 94 D.length (ie (w.2.2.1.1 : Nat))) 64 44 (ie ((D.length + 1 : Nat) : Int))) := frDr_wi _ _ _ (by unfold rSDp; omega) (frDr_wi _ _ _ (by unfold rSDp; omega) hRe.2.2)
            generalize wi (wi wd 94 D.length (ie (w.2.2.1.1 : Nat))) 64 44 (ie ((D.length + 1 : Nat) : Int)) = uf at hv h94 h44 h2 hF ⊢
            have fc : ∀ c, c = 91 ∨ c = 93 ∨ c = 95 ∨ c = 96 → uf.1 c D.length = uc.1 c D.length := fun c hc => (hv _ _ (by omega) (by omega)).trans (a9 c _ (rSE_no (by unfold rSEp; omega))).1
            refine ⟨rSt_of a1.1 (fun i hi => hv _ _ (by omega) (by omega)), rK_fr a1.2.1 (hv _ _ (by omega) (by omega)) (fun x i h1 h2' => ⟨hv x i (by omega) (by omega), by rw [h2]⟩) (r5_e (hv _ _ (by omega) (by omega)) (hv _ _ (by omega) (by omega))), (hv _ _ (by omega) (by omega)).trans a1.2.2.1, a1.2.2.2.1, by rw [hl]; exact h44, by rw [hl]; omega, ⟨tyR_w a5.1 (hv _ _ (by omega) (by omega)) (fun x i h1 h2 => hv _ _ (by omega) (by omega)), a5.2⟩, rNs_of a8 (fun c i hc => hv _ _ (by omega) (by omega)), ?_, ?_, hF, fun xx hx => ?_⟩
            · have hz3 : z.2.2.2.1 = s.2.2.2.1 := by rw [hz.2]
              show w.2.2.2.1 ≤ 2 * w.1; rw [hw.2, hw.1]; omega
            · intro i xx hi
              by_cases ei : i < D.length
              · rw [List.getElem?_append_left ei] at hi
                have := rDf_fr (v := uf) (hRe.2.1 i xx hi) [] (fun c k' hk => hv _ _ (by omega) (by omega))
                rw [List.append_nil] at this; exact this
              · have hil : i < D.length + 1 := by have hq := (List.getElem?_eq_some_iff.mp hi).1; rw [hl] at hq; exact hq
                have ei' : i = D.length := by omega
                subst ei'
                rw [List.getElem?_append_right (Nat.le_refl _), Nat.sub_self] at hi
                have hi' : xx = (a0, ps, y.1, q.1, t0, w.2.1, w.2.2.1) := (Option.some.inj hi).symm
                subst hi'
                have e2 := rPw_fr (v := uf) hRe.1 [] (hv _ _ (by omega) (by omega)) (fun c i h1 h2 h3 => hv _ _ (by omega) (by omega))
                rw [List.append_nil] at e2
                refine ⟨(fc 91 (by omega)).trans m91, e2, ⟨k, (fc 93 (by omega)).trans m93, gapp k2 Z2⟩, h94, (fc 95 (by omega)).trans m95, (fc 96 (by omega)).trans m96, (hv _ _ (by omega) (by omega)).trans a6.1, a7.2.1, fun l t hl ht => ?_⟩
                obtain ⟨k', k1', k2'⟩ := a7.2.2 l t hl ht
                exact ⟨k', (hv _ _ (by omega) (by omega)).trans k1', k2'⟩
            · rcases List.mem_append.mp hx with hx | hx
              · exact hDw xx hx
              · have hx' : xx = (a0, ps, y.1, q.1, t0, w.2.1, w.2.2.1) := List.mem_singleton.mp hx
                subst hx'
                exact ⟨ha0, fun wc hwc => Nat.lt_of_lt_of_le (a6.2 wc hwc) a1.2.2.2.1⟩
