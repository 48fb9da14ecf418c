set_option maxRecDepth 100000
def rZc (T : List Tok) (n d : Nat) (e : Nat × Nat) (u00 u : pm_J) : Prop := rZ T n d e u00 u ∧ ∃ m, m ≤ 6 ∧ u.1 92 d = ie (m : Nat) ∧ ∀ i, i < m → ∃ k : Nat, k < 100000 ∧ u.1 99 (6 * d + i) = ie k
theorem rZc_of {T : List Tok} {n d : Nat} {e : Nat × Nat} {u00 u v : pm_J} {ps : rPl} {Y : List Ty} (h : rZ T n d e u00 v) (hP : rPw u d ps Y) (hY : Y.length ≤ 100000) (hf : fr (rS_E d) u v) : rZc T n d e u00 v := by
  refine ⟨h, ps.length, hP.2.1, ((hf 92 d (rSE_no (by unfold rSEp; omega))).1).trans hP.1, fun i hi => ?_⟩
  obtain ⟨x, hx⟩ : ∃ x, ps.reverse[i]? = some x := ⟨ps.reverse[i]'(by rw [List.length_reverse]; omega), List.getElem?_eq_getElem _⟩
  obtain ⟨_, k, k1, k2⟩ := hP.2.2 i x hx
  have := (List.getElem?_eq_some_iff.mp k2).1
  exact ⟨k, by omega, ((hf 99 _ (rSE_no (by unfold rSEp; omega))).1).trans k1⟩
theorem x_86C {c : RC} {e : Nat × Nat} {dp : Nat} {K : List (Int32 × Int32 × Int32)} {V : List Nat} {S : List (Nat × Nat)} {Y : List Ty} {s : PS} {u : pm_J} (g : pm_s) (x1 x2 x3 t0 : Int32) (H : rE c (some e) dp K V S Y s u) : zu (fun N => K_Md_parameter_86 N g x1 x2 x3 t0 u) (fun v => rE c (some e) dp K V S Y s v) := by
  unfold K_Md_parameter_86
  refine zu_bind (z_expC g 16 H) (fun w hw => ?_)
  simp only [if_pos (show w.1 64 52 = 0 from hw.1.1.1)]
  exact zu_some _ hw
theorem x_60C {c : RC} {e : Nat × Nat} {dp : Nat} {K : List (Int32 × Int32 × Int32)} {V : List Nat} {S : List (Nat × Nat)} {Y : List Ty} {s : PS} {u : pm_J} (g : pm_s) (x1 x2 : Int32) (H : rE c (some e) dp K V S Y s u) : zu (fun N => K_Md_parameter_60 N g x1 x2 u) (fun v => rE c (some e) dp K V S Y s v) := by
  unfold K_Md_parameter_60
  refine zu_bind (z_declC g H) (fun w hw => ?_)
  refine zu_bind (z_expC g 17 hw) (fun w2 hw2 => ?_)
  simp only [if_pos (show w2.1 64 52 = 0 from hw2.1.1.1)]
  exact x_86C g _ _ _ _ hw2
def rQo (T : List Tok) (n : Nat) (D : List Df) (a0 : Nat) (u00 : pm_J) (x : PE (Sc × PM × PS)) (v : pm_J) : Prop := match x with
  | .error e => rZc T n D.length e u00 v
  | .ok q => ∃ (S : List (Nat × Nat)) (Y : List Ty), rQ T n D S q.2.1 Y q.2.2 a0 u00 v ∧ q.1 = scm T S ∧ S.length ≤ 6
theorem rO52 {c : RC} {dp : Nat} {K : List (Int32 × Int32 × Int32)} {V : List Nat} {S : List (Nat × Nat)} {Y : List Ty} {s : PS} {u : pm_J} (H : rE c none dp K V S Y s u) : ¬ (u.1 64 52 = 0) := fun hh => by rw [H.1.1.1] at hh; exact absurd hh (by decide)
theorem z_param {T : List Tok} {n : Nat} {D : List Df} {S : List (Nat × Nat)} {ps : rPl} {Y : List Ty} {s : PS} {a0 : Nat} {u00 u : pm_J} (g : pm_s) (hC : rCn (T, n, D.length, u00)) (Q : rQ T n D S ps Y s a0 u00 u) (hl6 : S.length ≤ 6) (e15 : tkK T s.1 = 15) : zv (fun N => F_Md_parameter N g u) (fun v => rQo T n D a0 u00 (if ps.length = 6 then (if tkK T (s.1 + 1) = 1 then .error (4, s.1 + 1) else .error (2, s.1 + 1)) else pB (pDecl T (sAt s (s.1 + 1))) fun l => pB (pX T 17 l.2) fun x => pB (pTy T 20 x.1 0) fun t =>
        pB (pX T 16 (sAt (sWr (sLc x (x.2.2.1.1, pu_upd x.2.2.1.2.1 l.1 (some t.1), x.2.2.1.2.2)) (oE x.2.1 (if (fnd (scm T S) (tkV T (s.1 + 1))).isSome = true then some (s.1 + 1) else none))) t.2.1)) fun y =>
        .ok ((tkV T (s.1 + 1), l.1) :: scm T S, (s.1 + 1, t.1) :: ps, y)) v) := by
  obtain ⟨H, q2, q3, q4, q5, q6, q7, q8⟩ := Q
  have hCu : rCn (T, n, D.length, u) := rCn_base hC u q6
  have hG : tkG T := hC.1
  obtain ⟨b1, b2, b3⟩ := rE_b H
  have b1' : T.length ≤ 900 := b1
  have b2' : s.1 ≤ T.length := b2
  have hlt : s.1 < T.length := tkK_lt (by omega)
  have hd : D.length < 30 := H.1.2.2.2.2.2.2.2.2
  have h44 : u.1 64 44 = ie (D.length : Nat) := H.1.2.2.2.2.2.2.2.1
  have hY6 : Y.length ≤ 6 + s.1 := H.2.2.2.2.1.2
  have k1 : (u.1 66 (s.1 + 1) = 1) ↔ tkK T (s.1 + 1) = 1 := r_kq hG H.1.2.1 (s.1 + 1) (by show s.1 + 1 ≤ T.length; omega) 1 (by omega)
  have h51 : u.1 64 51 = ie (s.1 : Nat) := H.1.2.2.1
  have k6 : (ie (ps.length : Nat) = 6) ↔ ps.length = 6 := ineq _ 6 (by have := q2.2.1; omega) (by omega)
  have hst : ∀ N, F_Md_parameter N g u = (if tkK T (s.1 + 1) = 1 then if ps.length = 6 then (F_Md_stop 4 (ie ((s.1 + 1 : Nat) : Int)) g (wi u 64 51 (ie ((s.1 + 1 : Nat) : Int)))).bind fun q26 => K_Md_parameter_60 N g (ie (D.length : Nat)) (ie ((s.1 + 1 : Nat) : Int)) q26 else K_Md_parameter_60 N g (ie (D.length : Nat)) (ie ((s.1 + 1 : Nat) : Int)) (wi u 64 51 (ie ((s.1 + 1 : Nat) : Int))) else K_Md_parameter_60 N g (ie (D.length : Nat)) (ie ((s.1 + 1 : Nat) : Int)) (wi u 64 51 (ie ((s.1 + 1 : Nat) : Int)))) := by
    intro N
    unfold F_Md_parameter
    rw [if_neg (rO52 H), h51, iadd1, if_pos (okn _ 902 (by omega) (by omega)), ntn _ (by omega), h44, if_pos (okn _ 30 hd (by omega)), ntn _ (by omega), q2.1]
    simp only [k1, k6]
  have H1 : rE (T, n, D.length, u) none 0 [] [] S Y (sAt s (s.1 + 1)) (wi u 64 51 (ie ((s.1 + 1 : Nat) : Int))) := by
    have := rE_at' H hlt
    rw [iadd1] at this; exact this
  have err : ∀ (e : Nat × Nat) (s' : PS) (Y' : List Ty) (v : pm_J), rE (T, n, D.length, u) (some e) 0 [] [] S Y' s' v → rZc T n D.length e u00 v := fun e s' Y' v hv => rZc_of (rZ_E hv q6) q2 (by omega) hv.2.2.2.2.2.2.2.2
  refine zv_rw 0 (fun N _ => hst N) ?_
  by_cases e6 : ps.length = 6
  · simp only [if_pos e6]
    by_cases e1 : tkK T (s.1 + 1) = 1
    · simp only [if_pos e1]
      refine zv_bind (zv_u (z_stop2 g 4 (by omega) H1 (s.1 + 1) rfl 4 rfl)) (fun w hw => ?_)
      exact zv_mono (zv_u (x_60C g _ _ hw)) (fun v hv => err _ _ _ v hv)
    · simp only [if_neg e1]
      unfold K_Md_parameter_60
      refine zv_bind (zv_u (z_decl g hG H1)) (fun w hw => ?_)
      have hD : pDecl T (sAt s (s.1 + 1)) = .error (2, s.1 + 1) := by unfold pDecl; rw [if_neg (show ¬ (tkK T (sAt s (s.1 + 1)).1 = 1) from e1)]; rfl
      have hw' : rOd (T, n, D.length, u) 0 [] [] S Y (sAt s (s.1 + 1)) (pDecl T (sAt s (s.1 + 1))) w := hw
      rw [hD] at hw'
      refine zv_bind (zv_u (z_expC g 17 hw')) (fun w2 hw2 => ?_)
      simp only [if_pos (show w2.1 64 52 = 0 from hw2.1.1.1)]
      exact zv_mono (zv_u (x_86C g _ _ _ _ hw2)) (fun v hv => err _ _ _ v hv)
  · simp only [if_neg e6, ite_self]
    unfold K_Md_parameter_60
    refine zv_bind (zv_u (z_decl g hG H1)) (fun w hw => ?_)
    have hw' : rOd (T, n, D.length, u) 0 [] [] S Y (sAt s (s.1 + 1)) (pDecl T (sAt s (s.1 + 1))) w := hw
    cases hD : pDecl T (sAt s (s.1 + 1)) with
    | error e =>
      rw [hD] at hw'
      refine zv_bind (zv_u (z_expC g 17 hw')) (fun w2 hw2 => ?_)
      simp only [if_pos (show w2.1 64 52 = 0 from hw2.1.1.1)]
      exact zv_mono (zv_u (x_86C g _ _ _ _ hw2)) (fun v hv => err _ _ _ v hv)
    | ok l =>
      rw [hD] at hw'
      obtain ⟨l1, hw1⟩ := hw'
      obtain ⟨z1, z2, z3, z4⟩ := pDecl_eq hD
      have hl1 : l.1 = s.2.2.1.1 := by rw [z1]; rfl
      have hl2 : l.2.1 = s.1 + 2 ∧ l.2.2.2.2 = s.2.2.2 ∧ l.2.2.2.1.1 = s.2.2.1.1 + 1 ∧ l.2.2.1 = s.2.1 := by rw [z1]; exact ⟨rfl, rfl, rfl, rfl⟩
      have z2' : tkK T (s.1 + 1) = 1 := z2
      rw [pB_o]
      refine zv_bind (zv_u (z_exp g hG 17 (by omega) (by omega) hw1)) (fun w2 hw2 => ?_)
      have hw2' : rO (T, n, D.length, u) 0 [] [] S Y l.2 (pX T 17 l.2) w2 := hw2
      cases hX : pX T 17 l.2 with
      | error e =>
        rw [hX] at hw2'
        simp only [if_pos (show w2.1 64 52 = 0 from hw2'.1.1.1)]
        exact zv_mono (zv_u (x_86C g _ _ _ _ hw2')) (fun v hv => err _ _ _ v hv)
      | ok x =>
        rw [hX] at hw2'
        have hw2'' : rE (T, n, D.length, u) none 0 [] [] S Y x w2 := hw2'
        simp only [if_neg (rO52 hw2'')]
        rw [pB_o]
        obtain ⟨x1, x2, _⟩ := pX_ok (by omega) hX
        have hx : x.1 = s.1 + 3 ∧ x.2.2.2 = s.2.2.2 ∧ x.2.2.1.1 = s.2.2.1.1 + 1 ∧ x.2.1 = s.2.1 := by
          rw [x1]; exact ⟨by show l.2.1 + 1 = _; omega, hl2.2.1, hl2.2.2.1, hl2.2.2.2⟩
        refine zv_bind (z_text g hCu hw2'' q6) (fun w3 hw3 => ?_)
        have hw3' : match pTy T 20 x.1 0 with
            | .error e => rZ T n D.length e u00 w3.2 ∧ fr (rS_E D.length) u w3.2
            | .ok t => ∃ (Z : List Ty) (k : Nat), w3.1 = ie k ∧ (Y ++ Z)[k]? = some t.1 ∧ rE (T, n, D.length, u) none 0 [] [] S (Y ++ Z) (sAt x t.2.1) w3.2 := hw3
        cases hT : pTy T 20 x.1 0 with
        | error e =>
          rw [hT] at hw3'
          have hzc := rZc_of hw3'.1 q2 (by omega) hw3'.2
          unfold K_Md_parameter_86
          refine zv_bind (rZ_exp g 16 hw3'.1) (fun w4 hw4 => ?_)
          subst hw4
          simp only [if_pos (show w3.2.1 64 52 = 0 from hw3'.1.1.1)]
          exact zv_some _ hzc
        | ok t =>
          rw [hT] at hw3'
          obtain ⟨Z, k, k1, k2, hw4⟩ := hw3'
          rw [pB_o]
          obtain ⟨p1, p2, _, _⟩ := pAt_ty 20 x.1 0 t (by omega) hT
          have hP1 : ∀ q : PS, q.1 = t.2.1 → pX T 16 q = if tkK T t.2.1 = 16 then .ok (sAt q (t.2.1 + 1)) else .error (2, t.2.1) := fun q hq => by unfold pX; rw [hq]
          rw [hP1 _ rfl, k1]
          unfold K_Md_parameter_86
          refine zv_bind (zv_u (z_exp g hG 16 (by omega) (by omega) hw4)) (fun w5 hw5 => ?_)
          have hw5' : rO (T, n, D.length, u) 0 [] [] S (Y ++ Z) (sAt x t.2.1) (pX T 16 (sAt x t.2.1)) w5 := hw5
          rw [hP1 _ rfl] at hw5'
          by_cases e16 : tkK T t.2.1 = 16
          · rw [if_pos e16] at hw5' ⊢
            have hw6 : rE (T, n, D.length, u) none 0 [] [] S (Y ++ Z) (sAt x (t.2.1 + 1)) w5 := hw5'
            simp only [if_neg (rO52 hw6)]
            rw [pB_o, l1]
            have hPw : rPw w5 D.length ps (Y ++ Z) := rPw_fr q2 Z ((hw6.2.2.2.2.2.2.2.2 92 D.length (rSE_no (by unfold rSEp; omega))).1) (fun c i h1 h2 h3 => (hw6.2.2.2.2.2.2.2.2 c i (rSE_no (by unfold rSEp; omega))).1)
            have hpsm : ∀ y ∈ ps, tkK T y.1 = 1 := by
              intro y hy
              have hm : y.1 ∈ ps.map Prod.fst := List.mem_map_of_mem hy
              rw [← q3] at hm
              obtain ⟨z, hz1, hz2⟩ := List.mem_map.mp hm
              rw [← hz2]; exact q4 z hz1
            have hwr : (if (fnd (scm T S) (tkV T (s.1 + 1))).isSome = true then some (s.1 + 1) else none) = if (ps.any fun y => tkV T y.1 == tkV T (s.1 + 1)) = true then some (s.1 + 1) else none := by
              have hiff : ((fnd (scm T S) (tkV T (s.1 + 1))).isSome = true) ↔ ((ps.any fun y => tkV T y.1 == tkV T (s.1 + 1)) = true) := by
                rw [fnd_some, List.any_eq_true]
                constructor
                · rintro ⟨y, hy, hv⟩
                  obtain ⟨z, hz1, hz2⟩ := List.mem_map.mp hy
                  have hm : z.1 ∈ ps.map Prod.fst := by rw [← q3]; exact List.mem_map_of_mem hz1
                  obtain ⟨w, hw1, hw2⟩ := List.mem_map.mp hm
                  refine ⟨w, hw1, ?_⟩
                  rw [beq_iff_eq, hw2, ← hv, ← hz2]
                · rintro ⟨y, hy, hv⟩
                  have hm : y.1 ∈ S.map Prod.fst := by rw [q3]; exact List.mem_map_of_mem hy
                  obtain ⟨w, hw1, hw2⟩ := List.mem_map.mp hm
                  refine ⟨(tkV T w.1, w.2), List.mem_map_of_mem hw1, ?_⟩
                  rw [beq_iff_eq] at hv
                  show tkV T w.1 = _; rw [hw2]; exact hv
              by_cases hh : (fnd (scm T S) (tkV T (s.1 + 1))).isSome = true
              · rw [if_pos hh, if_pos (hiff.mp hh)]
              · rw [if_neg hh, if_neg (fun h => hh (hiff.mpr h))]
            have hz := z_104 g hCu ps (s.1 + 1) l.1 k hw6 hPw hpsm z2' (by show s.1 + 1 < t.2.1 + 1; omega) (fun y hy => by
                have hy' : s.2.1 = some y := by rw [← hx.2.2.2]; exact hy
                have := H.2.2.2.2.2.1.2 y hy'; omega) (by show l.1 < x.2.2.1.1; omega) (by have := q2.2.1; omega) t.1 k2 (by omega) _ hwr
            refine zv_mono (zv_u hz) (fun v hv => ?_)
            obtain ⟨v1, v2, v3⟩ := hv
            have v3a : ∀ c i, ¬ rSEp D.length c i → ¬ ((c = 98 ∨ c = 99) ∧ 6 * D.length ≤ i ∧ i < 6 * D.length + 6) → ¬ (c = 92 ∧ i = D.length) → v.1 c i = u.1 c i := fun c i h1 h2 h3 => (v3 c i h1 h2 h3).1
            refine ⟨(s.1 + 1, l.1) :: S, Y ++ Z, ⟨v1, v2, ?_, ?_, rDs_fr q5 Z (fun c i h => v3a c i (by unfold rSEp; omega) (by omega) (by omega)), ?_, ?_, (v3a 91 _ (by unfold rSEp; omega) (by omega) (by omega)).trans q8⟩, rfl, ?_⟩
            · show (s.1 + 1) :: S.map Prod.fst = (s.1 + 1) :: ps.map Prod.fst; rw [q3]
            · intro y hy
              rcases List.mem_cons.mp hy with rfl | hy
              · exact z2'
              · exact q4 y hy
            · refine fr_trans q6 (fun c i hs => ?_)
              have := rSD_no' hs
              unfold rSDp at this
              exact v3 c i (by unfold rSEp; omega) (by omega) (by omega)
            · show x.2.2.2.1 ≤ 2 * (t.2.1 + 1); rw [hx.2.1]; omega
            · have hl : S.length = ps.length := by have := congrArg List.length q3; rw [List.length_map, List.length_map] at this; exact this
              show S.length + 1 ≤ 6; have := q2.2.1; omega
          · rw [if_neg e16] at hw5' ⊢
            have hw6 : rE (T, n, D.length, u) (some (2, t.2.1)) 0 [] [] S (Y ++ Z) (sAt x t.2.1) w5 := hw5'
            simp only [if_pos (show w5.1 64 52 = 0 from hw6.1.1.1)]
            exact zv_some _ (err _ _ _ _ hw6)
theorem pPar_eq (T : List Tok) (j : Nat) (sc : Sc) (ps : PM) (s : PS) (h : tkK T s.1 = 15) : pPar T j sc ps s = pB (if j = 0 then (if tkK T (s.1 + 1) = 1 then .error (4, s.1 + 1) else .error (2, s.1 + 1)) else pB (pDecl T (sAt s (s.1 + 1))) fun l => pB (pX T 17 l.2) fun x => pB (pTy T 20 x.1 0) fun t =>
        pB (pX T 16 (sAt (sWr (sLc x (x.2.2.1.1, pu_upd x.2.2.1.2.1 l.1 (some t.1), x.2.2.1.2.2)) (oE x.2.1 (if (fnd sc (tkV T (s.1 + 1))).isSome = true then some (s.1 + 1) else none))) t.2.1)) fun y =>
        .ok ((tkV T (s.1 + 1), l.1) :: sc, (s.1 + 1, t.1) :: ps, y)) (fun q => pPar T (j - 1) q.1 q.2.1 q.2.2) := by
  conv => lhs; unfold pPar
  rw [if_pos h]
  cases j with
  | zero => show (if tkK T (s.1 + 1) = 1 then _ else _) = pB (if 0 = 0 then _ else _) _; rw [if_pos rfl]; split <;> rfl
  | succ j =>
    rw [if_neg (show ¬ (j + 1 = 0) by omega), pB_assoc]
    show pB (pDecl T (sAt s (s.1 + 1))) _ = _
    congr 1; funext l
    rw [pB_assoc]; congr 1; funext x
    rw [pB_assoc]; congr 1; funext t
    rw [pB_assoc]; rfl
theorem z_pars {T : List Tok} {n : Nat} {D : List Df} {a0 : Nat} {u00 : pm_J} (g : pm_s) (hC : rCn (T, n, D.length, u00)) (j : Nat) : ∀ (S : List (Nat × Nat)) (ps : rPl) (Y : List Ty) (s : PS) (u : pm_J), ps.length + j = 6 → S.length ≤ 6 → rQ T n D S ps Y s a0 u00 u → ∃ (v : pm_J) (n0 : Nat), (∀ N f, n0 ≤ N → j + 2 ≤ f → K_Md_define_113 N g f (ie (D.length : Nat)) u = K_Md_define_141 N g (ie (D.length : Nat)) v) ∧ rQo T n D a0 u00 (pPar T j (scm T S) ps s) v := by
  have step : ∀ (S : List (Nat × Nat)) (ps : rPl) (Y : List Ty) (s : PS) (u : pm_J), S.length ≤ 6 → rQ T n D S ps Y s a0 u00 u → ∀ N f, K_Md_define_113 N g (f + 1) (ie (D.length : Nat)) u = if tkK T s.1 = 15 then (F_Md_parameter N g u).bind fun q26 => K_Md_define_113 N g f (ie (D.length : Nat)) q26 else K_Md_define_141 N g (ie (D.length : Nat)) u := by
    intro S ps Y s u h6 Q N f
    have H := Q.1
    obtain ⟨b1, b2, b3⟩ := rE_b H
    have b1' : T.length ≤ 900 := b1
    have b2' : s.1 ≤ T.length := b2
    have k15 : (u.1 66 s.1 = 15) ↔ tkK T s.1 = 15 := r_kq hC.1 H.1.2.1 s.1 b2 15 (by omega)
    have h51 : u.1 64 51 = ie (s.1 : Nat) := H.1.2.2.1
    rw [K_Md_define_113, if_neg (rO52 H), h51, if_pos (okn _ 902 (by omega) (by omega)), ntn _ (by omega)]
    simp only [k15]
  have clo : ∀ (e : Nat × Nat) (v : pm_J), rZc T n D.length e u00 v → ∀ N f, 1 ≤ f → K_Md_define_113 N g f (ie (D.length : Nat)) v = K_Md_define_141 N g (ie (D.length : Nat)) v := by
    intro e v hv N f hf
    obtain ⟨f, rfl⟩ : ∃ f', f = f' + 1 := ⟨f - 1, by omega⟩
    rw [K_Md_define_113, if_pos (show v.1 64 52 = 0 from hv.1.1.1)]
  have non : ∀ (j : Nat) (S : List (Nat × Nat)) (ps : rPl) (Y : List Ty) (s : PS) (u : pm_J), S.length ≤ 6 → ¬ (tkK T s.1 = 15) → rQ T n D S ps Y s a0 u00 u → ∃ (v : pm_J) (n0 : Nat), (∀ N f, n0 ≤ N → j + 2 ≤ f → K_Md_define_113 N g f (ie (D.length : Nat)) u = K_Md_define_141 N g (ie (D.length : Nat)) v) ∧ rQo T n D a0 u00 (pPar T j (scm T S) ps s) v := by
    intro j S ps Y s u h6 hn Q
    refine ⟨u, 0, fun N f _ hf => ?_, ?_⟩
    · obtain ⟨f, rfl⟩ : ∃ f', f = f' + 1 := ⟨f - 1, by omega⟩
      rw [step S ps Y s u h6 Q N f, if_neg hn]
    · have : pPar T j (scm T S) ps s = .ok (scm T S, ps, s) := by unfold pPar; rw [if_neg hn]
      rw [this]; exact ⟨S, Y, Q, rfl, h6⟩
  induction j with
  | zero =>
    intro S ps Y s u hj h6 Q
    by_cases e15 : tkK T s.1 = 15
    · obtain ⟨v, n0, h1, h2⟩ := z_param g hC Q h6 e15
      rw [if_pos (show ps.length = 6 by omega)] at h2
      have hp : pPar T 0 (scm T S) ps s = if tkK T (s.1 + 1) = 1 then .error (4, s.1 + 1) else .error (2, s.1 + 1) := by unfold pPar; rw [if_pos e15]
      have hex : ∃ e, (if tkK T (s.1 + 1) = 1 then .error (4, s.1 + 1) else .error (2, s.1 + 1) : PE (Sc × PM × PS)) = .error e := by
        by_cases e1 : tkK T (s.1 + 1) = 1
        · rw [if_pos e1]; exact ⟨_, rfl⟩
        · rw [if_neg e1]; exact ⟨_, rfl⟩
      obtain ⟨e, he⟩ := hex
      rw [hp, he]; rw [he] at h2
      refine ⟨v, n0, fun N f hN hf => ?_, h2⟩
      obtain ⟨f, rfl⟩ : ∃ f', f = f' + 1 := ⟨f - 1, by omega⟩
      have h1' : F_Md_parameter N g u = some v := h1 N hN
      rw [step S ps Y s u h6 Q N f, if_pos e15, h1', Option.bind_some]
      exact clo e v h2 N f (by omega)
    · exact non 0 S ps Y s u h6 e15 Q
  | succ j ih =>
    intro S ps Y s u hj h6 Q
    by_cases e15 : tkK T s.1 = 15
    · obtain ⟨v, n0, h1, h2⟩ := z_param g hC Q h6 e15
      rw [if_neg (show ¬ (ps.length = 6) by omega)] at h2
      rw [pPar_eq T (j + 1) (scm T S) ps s e15, if_neg (show ¬ (j + 1 = 0) by omega)]
      generalize hX : (pB (pDecl T (sAt s (s.1 + 1))) fun l => pB (pX T 17 l.2) fun x => pB (pTy T 20 x.1 0) fun t =>
        pB (pX T 16 (sAt (sWr (sLc x (x.2.2.1.1, pu_upd x.2.2.1.2.1 l.1 (some t.1), x.2.2.1.2.2)) (oE x.2.1 (if (fnd (scm T S) (tkV T (s.1 + 1))).isSome = true then some (s.1 + 1) else none))) t.2.1)) fun y =>
        (.ok ((tkV T (s.1 + 1), l.1) :: scm T S, (s.1 + 1, t.1) :: ps, y) : PE (Sc × PM × PS))) = X at h2 ⊢
      cases X with
      | error e =>
        refine ⟨v, n0, fun N f hN hf => ?_, h2⟩
        obtain ⟨f, rfl⟩ : ∃ f', f = f' + 1 := ⟨f - 1, by omega⟩
        have h1' : F_Md_parameter N g u = some v := h1 N hN
        rw [step S ps Y s u h6 Q N f, if_pos e15, h1', Option.bind_some]
        exact clo e v h2 N f (by omega)
      | ok q =>
        obtain ⟨S', Y', Q', hq, h6'⟩ := h2
        have hlen : q.2.1.length = ps.length + 1 := by
          obtain ⟨l, _, hX1⟩ := pB_ok hX
          obtain ⟨x, _, hX2⟩ := pB_ok hX1
          obtain ⟨t, _, hX3⟩ := pB_ok hX2
          obtain ⟨y, _, hX4⟩ := pB_ok hX3
          cases hX4; rfl
        obtain ⟨v', n1, i1, i2⟩ := ih S' q.2.1 Y' q.2.2 v (by omega) h6' Q'
        rw [pB_o, hq]
        refine ⟨v', n0 + n1, fun N f hN hf => ?_, i2⟩
        obtain ⟨f, rfl⟩ : ∃ f', f = f' + 1 := ⟨f - 1, by omega⟩
        have h1' : F_Md_parameter N g u = some v := h1 N (by omega)
        rw [step S ps Y s u h6 Q N f, if_pos e15, h1', Option.bind_some]
        exact i1 N f (by omega) (by omega)
    · exact non (j + 1) S ps Y s u h6 e15 Q
