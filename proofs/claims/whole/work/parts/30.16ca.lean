set_option maxRecDepth 100000
def rm (T : List Tok) (s : PS) (Y : List Ty) : Prop := s.1 ≤ T.length ∧ s.2.2.2.1 ≤ 2 * s.1 ∧ Y.length + (T.length - s.1) ≤ 60000 ∧ T.length ≤ 900
def iE (T : List Tok) (n d m : Nat) (cl0 : Option Nat) (r : PR) (R : pm_s → pm_J → Option (Int32 × pm_s × pm_J)) : Prop :=
  (∀ sc s g u Y, cE T n d m cl0 sc s g u Y → rm T s Y → peC T n d m cl0 sc s g u Y (r sc s) (R g u)) ∧ (∀ q g u, fl T n q g u → R g u = some (-1, g, u)) ∧ bR T r
theorem cE_24 {T : List Tok} {n d m : Nat} {cl0 : Option Nat} {sc : Sc} {s : PS} {g : pm_s} {u : pm_J} {Y : List Ty} (h : cE T n d m cl0 sc s g u Y) : s.2.2.1.1 ≤ 24 := h.2.2.2.2.2.1.2.1
theorem cE_9 {T : List Tok} {n d m : Nat} {cl0 : Option Nat} {sc : Sc} {s : PS} {g : pm_s} {u : pm_J} {Y : List Ty} (h : cE T n d m cl0 sc s g u Y) : T.length ≤ 900 := h.1.2.1.2.1
theorem rm_q {T : List Tok} {s s' : PS} {Y Z : List Ty} {x : PE (Nat × PS)} {q : Nat × PS} (h : rm T s Y) (hb : bOK T s' x) (hx : x = .ok q) (h1 : s.1 ≤ s'.1) (hnn : s'.2.2.2.1 ≤ 2 * s'.1) (hZ : Z.length ≤ q.2.1 - s'.1) : rm T q.2 (Y ++ Z) ∧ q.2.2.2.2.1 < 2 * q.2.1 := by
  obtain ⟨b1, b2, b3, b4, b5, b6, b7⟩ := hb q hx
  obtain ⟨a1, a2, a3, a4⟩ := h
  refine ⟨⟨b2, by omega, ?_, a4⟩, by omega⟩
  rw [List.length_append]; omega
theorem ib_1e : ib true = 1 := rfl
theorem e_close {T : List Tok} {n d m : Nat} {cl0 : Option Nat} {sc : Sc} {s s0 : PS} {g : pm_s} {u : pm_J} {Y : List Ty} (hG : tkG T) (h : cE T n d m cl0 sc s g u Y) (hs : s.1 ≤ T.length) (k x : Nat) (hk : k < 100) :
    peC T n d m cl0 sc s0 g u Y (pB (pX T k s) fun z => .ok (x, z)) ((F_Parser_expect (ie k) g u).bind fun q => some (ie (x : Nat), g, q)) := by
  obtain ⟨v, v1, v2, v3⟩ := e_expect hG h hs k hk
  rw [v1, Option.bind_some]
  cases hp : pX T k s with
  | error q =>
    rw [hp] at v3
    exact peC_f ⟨_, g, v, rfl, v3, fr_TE v2, gL_refl h.2.2.2.2.1.2.2.1⟩
  | ok z =>
    rw [hp] at v3
    exact peC_0 (q := (x, z)) (fr_TE v2) v3
theorem c_atom {T : List Tok} {n d m : Nat} {cl0 : Option Nat} {sc : Sc} {s : PS} {g : pm_s} {u : pm_J} {Y : List Ty} (N : Nat) (hN : 100 ≤ N) (hG : tkG T) (r : PR) (R : Int32 → pm_s → pm_J → Option (Int32 × pm_s × pm_J)) (dp : Int32) (ih : iE T n d m cl0 r (R (dp + 1))) (h : cE T n d m cl0 sc s g u Y) (hm : rm T s Y) :
    peC T n d m cl0 sc s g u Y (pAtom r T sc false s) (F_Parser_readAtom N R dp g u) := by
  obtain ⟨m1, m2, m3, m4⟩ := hm
  have k1 : (ie (tkK T s.1 : Int) = 1) ↔ tkK T s.1 = 1 := kq (hG.1 s.1) 1 (by omega)
  have k2 : (ie (tkK T s.1 : Int) = 2) ↔ tkK T s.1 = 2 := kq (hG.1 s.1) 2 (by omega)
  have k3 : (ie (tkK T s.1 : Int) = 3) ↔ tkK T s.1 = 3 := kq (hG.1 s.1) 3 (by omega)
  have k15 : (ie (tkK T s.1 : Int) = 15) ↔ tkK T s.1 = 15 := kq (hG.1 s.1) 15 (by omega)
  unfold F_Parser_readAtom pAtom
  apply peC_S
  rw [k_kind h.1 m1 g, Option.bind_some]
  simp only [k1, k2, k3, k15]
  by_cases e1 : tkK T s.1 = 1
  · have hlt := tkK_lt (show tkK T s.1 ≠ 0 by omega)
    simp only [if_true, if_false, true_or, or_true, false_or, or_false, and_true, true_and, and_false, false_and, or_self, and_self, not_true_eq_false, not_false_eq_true, reduceIte, e1, show ¬ ((1 : Nat) = 2) by decide, show ¬ ((1 : Nat) = 3) by decide]
    rw [h.1.2.2.2, k_value h.1.2.1 m1 g, Option.bind_some, e_find N hN h, Option.bind_some]
    cases hf : fnd sc (tkV T s.1) with
    | none =>
      rw [if_pos (show fndI none = -1 from rfl)]
      obtain ⟨v, v1, v2, v3⟩ := e_leaf N hN h hlt (by omega) 3 (-1)
      have v1' : F_Parser_readLeafExpr N 3 (fndI none) g u = some (ie (s.2.2.2.1 : Nat), v) := v1
      rw [v1', Option.bind_some]
      exact peC_0 (q := pLeaf T 3 (-1) s) v2 v3
    | some l =>
      by_cases hl1 : fndI (some l) = -1
      · exfalso
        have := scR_f sc h.2.2.1.1 _ l hf
        have := ie_inj (a := (l : Int)) (b := -1) (show ie (l : Int) = ie (-1) from hl1) (by omega) (by omega) (by omega) (by omega)
        omega
      · rw [if_neg hl1]
        obtain ⟨v, v1, v2, v3⟩ := e_leaf N hN h hlt (by omega) 2 l
        have v1' : F_Parser_readLeafExpr N 2 (fndI (some l)) g u = some (ie (s.2.2.2.1 : Nat), v) := v1
        rw [v1', Option.bind_some]
        exact peC_0 (q := pLeaf T 2 l s) v2 v3
  · by_cases e2 : tkK T s.1 = 2
    · have hlt := tkK_lt (show tkK T s.1 ≠ 0 by omega)
      simp only [if_true, if_false, true_or, or_true, false_or, or_false, and_true, true_and, and_false, false_and, or_self, and_self, not_true_eq_false, not_false_eq_true, reduceIte, e1, e2]
      obtain ⟨v, v1, v2, v3⟩ := e_leaf N hN h hlt (by omega) 0 (-1)
      have v1' : F_Parser_readLeafExpr N 0 (-1) g u = some (ie (s.2.2.2.1 : Nat), v) := v1
      rw [v1', Option.bind_some]
      exact peC_0 (q := pLeaf T 0 (-1) s) v2 v3
    · by_cases e3 : tkK T s.1 = 3
      · have hlt := tkK_lt (show tkK T s.1 ≠ 0 by omega)
        simp only [if_true, if_false, true_or, or_true, false_or, or_false, and_true, true_and, and_false, false_and, or_self, and_self, not_true_eq_false, not_false_eq_true, reduceIte, e1, e2, e3]
        obtain ⟨v, v1, v2, v3⟩ := e_leaf N hN h hlt (by omega) 1 (-1)
        have v1' : F_Parser_readLeafExpr N 1 (-1) g u = some (ie (s.2.2.2.1 : Nat), v) := v1
        rw [v1', Option.bind_some]
        exact peC_0 (q := pLeaf T 1 (-1) s) v2 v3
      · by_cases e15 : tkK T s.1 = 15
        · have hlt := tkK_lt (show tkK T s.1 ≠ 0 by omega)
          simp only [if_true, if_false, true_or, or_true, false_or, or_false, and_true, true_and, and_false, false_and, or_self, and_self, not_true_eq_false, not_false_eq_true, reduceIte, e1, e2, e3, e15]
          have hx : F_Parser_expect 15 g u = some (wi u 39 11 (ie ((s.1 + 1 : Nat) : Int))) := by
            unfold F_Parser_expect
            rw [k_kind h.1 m1 g, Option.bind_some, if_pos (k15.mpr e15), h.1.2.2.2, iadd1]
          unfold F_Parser_readBrackets
          rw [hx, Option.bind_some]
          have hat := cE_at h (s.1 + 1)
          have rm1 : rm T (sAt s (s.1 + 1)) Y := ⟨by show s.1 + 1 ≤ _; omega, by show s.2.2.2.1 ≤ 2 * (s.1 + 1); omega, by show _ + (T.length - (s.1 + 1)) ≤ _; omega, m4⟩
          have hfr1 : fr (cS_E d) u (wi u 39 11 (ie ((s.1 + 1 : Nat) : Int))) := frE_wi _ _ _ (by omega) (fr_refl _ _)
          have bO := ih.2.2 sc (sAt s (s.1 + 1)) rm1.1 (cE_24 hat)
          have main : peC T n d m cl0 sc s g u Y (pB (r sc (sAt s (s.1 + 1))) fun q =>
              if tkK T q.2.1 = 20 then pB (r sc (sAt q.2 (q.2.1 + 1))) fun p => pB (pX T 16 p.2) fun z => .ok (z.2.2.2.1, sNode z (13, q.2.1, q.1, p.1, -1, 0, []))
              else pB (pX T 16 q.2) fun z => .ok (q.1, z))
              (pm_S g ((R (dp + 1) g (wi u 39 11 (ie ((s.1 + 1 : Nat) : Int)))).bind fun q2 => if sh_Tb q2.2.1 = true then pm_S q2.2.1 ((F_Parser_kind q2.2.1 q2.2.2).bind fun q5 => if q5 = 20 then (F_Parser_here q2.2.1 q2.2.2).bind fun q8 => (R (dp + 1) q2.2.1 (wi q2.2.2 39 11 ((q2.2.2.1 39 11) + 1))).bind fun q9 => if sh_Tb q9.2.1 = true then pm_S q9.2.1 ((F_Tree_add N 13 q8 q2.1 q9.1 (-1) q9.2.1 q9.2.2).bind fun q12 => (F_Parser_expect 16 q9.2.1 q12.2).bind fun q13 => some (q12.1, q9.2.1, q13)) else none else (F_Parser_expect 16 q2.2.1 q2.2.2).bind fun q7 => some (q2.1, q2.2.1, q7)) else none)) := by
            apply peC_S
            refine peC_b (ih.1 sc _ g _ Y hat rm1) hfr1 (by show s.1 ≤ s.1 + 1; omega) bO ?_ ?_ ?_
            · intro q g' v Z hq hlt1 hle1 hfr hgl hc hZ
              obtain ⟨rmq, hnq⟩ := rm_q ⟨m1, m2, m3, m4⟩ bO hq (by show s.1 ≤ s.1 + 1; omega) rm1.2.1 hZ
              have k20 : (ie (tkK T q.2.1 : Int) = 20) ↔ tkK T q.2.1 = 20 := kq (hG.1 q.2.1) 20 (by omega)
              show peC T n d m cl0 sc q.2 g' v (Y ++ Z) _ ((F_Parser_kind g' v).bind fun q5 => _)
              rw [k_kind hc.1 hle1 g', Option.bind_some]
              simp only [k20]
              by_cases e20 : tkK T q.2.1 = 20
              · rw [if_pos e20, if_pos e20]
                have hlt2 := tkK_lt (show tkK T q.2.1 ≠ 0 by omega)
                show peC T n d m cl0 sc q.2 g' v (Y ++ Z) _ ((F_Parser_here g' v).bind fun q8 => _)
                rw [k_here hc.1 hle1 g', Option.bind_some]
                show peC T n d m cl0 sc q.2 g' v (Y ++ Z) _ ((R (dp + 1) g' (wi v 39 11 (v.1 39 11 + 1))).bind fun q9 => _)
                rw [hc.1.2.2.2, iadd1]
                have hat2 := cE_at hc (q.2.1 + 1)
                have rm2 : rm T (sAt q.2 (q.2.1 + 1)) (Y ++ Z) := ⟨by show q.2.1 + 1 ≤ _; omega, by show q.2.2.2.2.1 ≤ 2 * (q.2.1 + 1); omega, by show _ + (T.length - (q.2.1 + 1)) ≤ _; have := rmq.2.2.1; omega, m4⟩
                have bO2 := ih.2.2 sc (sAt q.2 (q.2.1 + 1)) rm2.1 (cE_24 hat2)
                refine peC_b (s' := sAt q.2 (q.2.1 + 1)) (ih.1 sc _ g' _ (Y ++ Z) hat2 rm2) (frE_wi _ _ _ (by omega) (fr_refl _ _)) (by show q.2.1 ≤ q.2.1 + 1; omega) bO2 ?_ ?_ ?_
                · intro p g2 v2 Z2 hp hlt3 hle3 hfr2 hgl2 hc2 hZ2
                  obtain ⟨rmp, hnp⟩ := rm_q rmq bO2 hp (by show q.2.1 ≤ q.2.1 + 1; omega) rm2.2.1 hZ2
                  obtain ⟨w, w1, w2, w3⟩ := e_add N hN hc2 (by omega) 13 q.2.1 q.1 p.1 (-1) []
                  have w1' : F_Tree_add N 13 (ie (tkP T n q.2.1)) (ie (q.1 : Nat)) (ie (p.1 : Nat)) (-1) g2 v2 = some (ie (p.2.2.2.2.1 : Nat), w) := w1
                  show peC T n d m cl0 sc p.2 g2 v2 (Y ++ Z ++ Z2) _ ((F_Tree_add N 13 (ie (tkP T n q.2.1)) (ie (q.1 : Nat)) (ie (p.1 : Nat)) (-1) g2 v2).bind fun q12 => _)
                  rw [w1', Option.bind_some]
                  obtain ⟨x, x1, x2, x3⟩ := e_expect hG w3 (show (sNode p.2 _).1 ≤ T.length from hle3) 16 (by omega)
                  have x1' : F_Parser_expect 16 g2 w = some x := x1
                  rw [x1', Option.bind_some]
                  unfold pX at x3 ⊢
                  have e0 : (sNode p.2 (13, q.2.1, (q.1 : Int), (p.1 : Int), -1, 0, [])).1 = p.2.1 := rfl
                  rw [e0] at x3
                  by_cases e16 : tkK T p.2.1 = 16
                  · rw [if_pos e16] at x3 ⊢
                    exact peC_0 (q := (p.2.2.2.2.1, sAt (sNode p.2 (13, q.2.1, (q.1 : Int), (p.1 : Int), -1, 0, [])) (p.2.1 + 1))) (fr_trans w2 (fr_TE x2)) x3
                  · rw [if_neg e16] at x3 ⊢
                    exact peC_f ⟨_, g2, x, rfl, x3, fr_trans w2 (fr_TE x2), gL_refl hc2.2.2.2.2.1.2.2.1⟩
                · intro q' z g2 v2 hfl _
                  obtain ⟨w, x, w1, w2⟩ := f_add (d := d) N hN hfl 13 (ie (tkP T n q.2.1)) (ie (q.1 : Nat)) z (-1)
                  show flR T n d q' g2 v2 ((F_Tree_add N 13 (ie (tkP T n q.2.1)) (ie (q.1 : Nat)) z (-1) g2 v2).bind fun q12 => _)
                  rw [w1, Option.bind_some, f_expect w2.1.1 w2.1.2.1 16 (by decide) g2, Option.bind_some]
                  exact flR_1 _ w2
                · intro p p' hp hk
                  obtain ⟨w, w1, w2⟩ := pB_ok hk
                  obtain ⟨rfl, w4, w5⟩ := pX_ok (by omega) w1
                  cases w2
                  show p.2.1 ≤ p.2.1 + 1; omega
              · rw [if_neg e20, if_neg e20]
                exact e_close hG hc hle1 16 q.1 (by omega)
            · intro q' z g2 v2 hfl _
              show flR T n d q' g2 v2 ((F_Parser_kind g2 v2).bind fun q5 => _)
              rw [f_kind hfl.1 g2, Option.bind_some, if_neg (show ¬ ((0 : Int32) = 20) by decide)]
              show flR T n d q' g2 v2 ((F_Parser_expect 16 g2 v2).bind fun q5 => _)
              rw [f_expect hfl.1 hfl.2.1 16 (by decide) g2, Option.bind_some]
              exact flR_1 _ ⟨hfl, fr_refl _ _⟩
            · intro q p hq hk
              by_cases e20 : tkK T q.2.1 = 20
              · rw [if_pos e20] at hk
                have hlt2 := tkK_lt (show tkK T q.2.1 ≠ 0 by omega)
                obtain ⟨p', p1, p2⟩ := pB_ok hk
                obtain ⟨b1, b2, b3, b4, b5, b6, b7⟩ := bO q hq
                obtain ⟨c1, _⟩ := bR_u ih.2.2 p1 (by show q.2.1 + 1 ≤ _; omega) b7
                have c1' : q.2.1 + 1 < p'.2.1 := c1
                obtain ⟨w, w1, w2⟩ := pB_ok p2
                obtain ⟨rfl, w4, w5⟩ := pX_ok (by omega) w1
                cases w2
                show q.2.1 ≤ p'.2.1 + 1; omega
              · rw [if_neg e20] at hk
                obtain ⟨w, w1, w2⟩ := pB_ok hk
                obtain ⟨rfl, w4, w5⟩ := pX_ok (by omega) w1
                cases w2
                show q.2.1 ≤ q.2.1 + 1; omega
          obtain ⟨z, g', v, y1, y2, y3, y4⟩ := main
          rw [y1, Option.bind_some, if_pos (gI_Tb y3.1), pmS_some _ _ _ _ (Nat.le_refl _) (Nat.le_refl _)]
          exact ⟨z, g', v, rfl, y2, y3, y4⟩
        · simp only [if_true, if_false, true_or, or_true, false_or, or_false, and_true, true_and, and_false, false_and, or_self, and_self, not_true_eq_false, not_false_eq_true, reduceIte, e1, e2, e3, e15]
          rw [k_here h.1 m1 g, Option.bind_some]
          obtain ⟨t1, t2⟩ := e_tell h 2 s.1 (by omega) (by omega)
          have t1' : F_Fault_tell_3 2 (ie (tkP T n s.1)) g u = some (cTell u 2 (tkP T n s.1)) := t1
          rw [t1', Option.bind_some]
          exact peC_f ⟨_, g, _, rfl, t2, fr_TE (frT_tell u _ _), gL_refl h.2.2.2.2.1.2.2.1⟩
