set_option maxRecDepth 100000
theorem e_sign {T : List Tok} {n d m : Nat} {cl0 : Option Nat} {sc : Sc} {s : PS} {g : pm_s} {u : pm_J} {Y : List Ty} (hG : tkG T) (h : cE T n d m cl0 sc s g u Y) (hs : s.1 ≤ T.length) : F_Parser_isSumSign g u = some (ib (tkK T s.1 == 22 || tkK T s.1 == 23)) := by
  have k22 : (ie (tkK T s.1 : Int) = 22) ↔ tkK T s.1 = 22 := kq (hG.1 s.1) 22 (by omega)
  have k23 : (ie (tkK T s.1 : Int) = 23) ↔ tkK T s.1 = 23 := kq (hG.1 s.1) 23 (by omega)
  unfold F_Parser_isSumSign
  rw [k_kind h.1 hs g, Option.bind_some, Option.bind_some]
  simp only [k22, k23]
  by_cases e22 : tkK T s.1 = 22
  · rw [if_pos e22, e22]; rfl
  · by_cases e23 : tkK T s.1 = 23
    · rw [if_neg e22, if_pos e23, e23]; rfl
    · rw [if_neg e22, if_neg e23]
      have hf : (tkK T s.1 == 22 || tkK T s.1 == 23) = false := by simp [e22, e23]
      rw [hf]; rfl
theorem c_sums {T : List Tok} {n d m : Nat} {cl0 : Option Nat} {sc : Sc} (N : Nat) (hN : 100 ≤ N) (hG : tkG T) (r : PR) (R : Int32 → pm_s → pm_J → Option (Int32 × pm_s × pm_J)) (dp : Int32) (ih : iE T n d m cl0 r (R (dp + 1))) (j : Nat) : ∀ (f i x : Nat) (s : PS) (g : pm_s) (u : pm_J) (Y : List Ty),
    j + i = 8 → j + 1 < f → cE T n d m cl0 sc s g u Y → s.1 ≤ T.length → Y.length + (T.length - s.1) ≤ 60000 → s.2.2.2.1 < 2 * s.1 → x + 1 = s.2.2.2.1 →
    peC T n d m cl0 sc s g u Y (pSums r T sc j x s) (K_Parser_readSum_8 N R f dp (ie x) (ie i) g u) := by
  induction j with
  | zero =>
    intro f i x s g u Y hj hf h hs hY hn hx
    have h9 := cE_9 h
    obtain ⟨f, rfl⟩ : ∃ f', f = f' + 1 := ⟨f - 1, by omega⟩
    rw [K_Parser_readSum_8, if_neg (show ¬ ((8 : Int32) < ie (i : Int)) from fun hh => by have := (inlt 8 i (by omega) (by omega)).mp hh; omega), e_sign hG h hs, Option.bind_some, pSums]
    simp only [ib_z]
    by_cases hb : tkK T s.1 = 22 ∨ tkK T s.1 = 23
    · have hbb : (tkK T s.1 == 22 || tkK T s.1 == 23) = true := by simpa using hb
      rw [if_neg (show ¬ ((tkK T s.1 == 22 || tkK T s.1 == 23) = false) by rw [hbb]; decide), if_pos hb, if_pos (show ie (i : Int) = 8 from (ineq i 8 (by omega) (by omega)).mpr (by omega)), k_here h.1 hs g, Option.bind_some]
      obtain ⟨t1, t2⟩ := e_tell h 3 s.1 (by omega) (by omega)
      have t1' : F_Fault_tell_3 3 (ie (tkP T n s.1)) g u = some (cTell u 3 (tkP T n s.1)) := t1
      have t2' : fl T n (3, s.1) g (cTell u 3 (tkP T n s.1)) := t2
      rw [t1', Option.bind_some, f_sumL (d := d) N R f (by omega) dp _ _ t2']
      exact peC_f ⟨_, g, _, rfl, t2', fr_TE (frT_tell u _ _), gL_refl h.2.2.2.2.1.2.2.1⟩
    · have hbb : (tkK T s.1 == 22 || tkK T s.1 == 23) = false := by
        have h1 : tkK T s.1 ≠ 22 := fun hh => hb (Or.inl hh)
        have h2 : tkK T s.1 ≠ 23 := fun hh => hb (Or.inr hh)
        simp [h1, h2]
      rw [if_pos hbb, if_neg hb]
      exact peC_0 (q := (x, s)) (fr_refl _ _) h
  | succ j ihj =>
    intro f i x s g u Y hj hf h hs hY hn hx
    have h9 := cE_9 h
    obtain ⟨f, rfl⟩ : ∃ f', f = f' + 1 := ⟨f - 1, by omega⟩
    rw [K_Parser_readSum_8, if_neg (show ¬ ((8 : Int32) < ie (i : Int)) from fun hh => by have := (inlt 8 i (by omega) (by omega)).mp hh; omega), e_sign hG h hs, Option.bind_some, pSums]
    simp only [ib_z]
    by_cases hb : tkK T s.1 = 22 ∨ tkK T s.1 = 23
    · have hbb : (tkK T s.1 == 22 || tkK T s.1 == 23) = true := by simpa using hb
      have hlt := tkK_lt (show tkK T s.1 ≠ 0 by omega)
      rw [if_neg (show ¬ ((tkK T s.1 == 22 || tkK T s.1 == 23) = false) by rw [hbb]; decide), if_pos hb, if_neg (show ¬ (ie (i : Int) = 8) from fun hh => by have := (ineq i 8 (by omega) (by omega)).mp hh; omega), k_kind h.1 hs g, Option.bind_some]
      have k22 : (ie (tkK T s.1 : Int) = 22) ↔ tkK T s.1 = 22 := kq (hG.1 s.1) 22 (by omega)
      simp only [k22]
      have go : peC T n d m cl0 sc s g u Y (pB (pCall r T sc (sAt s (s.1 + 1))) fun q => pSums r T sc j q.2.2.2.2.1 (sNode q.2 (tkK T s.1 - 12, s.1, x, q.1, -1, 0, []))) (K_Parser_readSum_58 N R (K_Parser_readSum_8 N R f) dp (ie x) (ie i) (ie ((tkK T s.1 - 12 : Nat) : Int)) g u) := by
        unfold K_Parser_readSum_58
        rw [k_here h.1 hs g, Option.bind_some, h.1.2.2.2, iadd1, iadd1]
        have hat := cE_at h (s.1 + 1)
        have rm1 : rm T (sAt s (s.1 + 1)) Y := ⟨by show s.1 + 1 ≤ _; omega, by show s.2.2.2.1 ≤ 2 * (s.1 + 1); omega, by show _ + (T.length - (s.1 + 1)) ≤ _; omega, h9⟩
        have bO := b_call ih.2.2 sc (sAt s (s.1 + 1)) rm1.1 (cE_24 hat)
        refine peC_b (c_call N hN hG r R dp ih hat rm1) (frE_wi _ _ _ (by omega) (fr_refl _ _)) (by show s.1 ≤ s.1 + 1; omega) bO ?_ ?_ ?_
        · intro q g' v Z hq hlt1 hle1 hfr hgl hc hZ
          obtain ⟨rmq, hnq⟩ := rm_q (s := s) (Y := Y) ⟨hs, by omega, hY, h9⟩ bO hq (by show s.1 ≤ s.1 + 1; omega) rm1.2.1 hZ
          obtain ⟨w, w1, w2, w3⟩ := e_add N hN hc (by omega) (tkK T s.1 - 12) s.1 x q.1 (-1) []
          have w1' : F_Tree_add N (ie ((tkK T s.1 - 12 : Nat) : Int)) (ie (tkP T n s.1)) (ie x) (ie (q.1 : Nat)) (-1) g' v = some (ie (q.2.2.2.2.1 : Nat), w) := w1
          show peC T n d m cl0 sc q.2 g' v (Y ++ Z) _ ((F_Tree_add N (ie ((tkK T s.1 - 12 : Nat) : Int)) (ie (tkP T n s.1)) (ie x) (ie (q.1 : Nat)) (-1) g' v).bind fun q14 => _)
          rw [w1', Option.bind_some]
          obtain ⟨b1, b2, b3, b4, b5, b6, b7⟩ := bO q hq
          have b3' : q.2.2.2.2.1 + 1 + 2 * (s.1 + 1) ≤ s.2.2.2.1 + 2 * q.2.1 := b3
          have key := ihj f (i + 1) q.2.2.2.2.1 (sNode q.2 (tkK T s.1 - 12, s.1, x, q.1, -1, 0, [])) g' w (Y ++ Z) (by omega) (by omega) w3 hle1 rmq.2.2.1 (by show q.2.2.2.2.1 + 1 < 2 * q.2.1; omega) rfl
          obtain ⟨z3, g3, v3, y1, y2, y3, y4⟩ := key
          exact ⟨z3, g3, v3, y1, fr_trans w2 y2, y3, y4⟩
        · intro q' z g2 v2 hfl _
          obtain ⟨w, y, w1, w2⟩ := f_add (d := d) N hN hfl (ie ((tkK T s.1 - 12 : Nat) : Int)) (ie (tkP T n s.1)) (ie x) z (-1)
          show flR T n d q' g2 v2 ((F_Tree_add N (ie ((tkK T s.1 - 12 : Nat) : Int)) (ie (tkP T n s.1)) (ie x) z (-1) g2 v2).bind fun q14 => _)
          rw [w1, Option.bind_some, f_sumL (d := d) N R f (by omega) dp _ _ w2.1]
          exact flR_1 _ w2
        · intro q p hq hk
          obtain ⟨b1, b2, b3, b4, b5, b6, b7⟩ := bO q hq
          exact (b_sums ih.2.2 sc j _ (sNode q.2 (tkK T s.1 - 12, s.1, x, q.1, -1, 0, [])) p b7 b2 rfl hk).1
      by_cases e22 : tkK T s.1 = 22
      · rw [if_pos e22]
        rw [e22] at go ⊢; exact go
      · rw [if_neg e22]
        have e23 : tkK T s.1 = 23 := by omega
        rw [e23] at go ⊢; exact go
    · have hbb : (tkK T s.1 == 22 || tkK T s.1 == 23) = false := by
        have h1 : tkK T s.1 ≠ 22 := fun hh => hb (Or.inl hh)
        have h2 : tkK T s.1 ≠ 23 := fun hh => hb (Or.inr hh)
        simp [h1, h2]
      rw [if_pos hbb, if_neg hb]
      exact peC_0 (q := (x, s)) (fr_refl _ _) h
theorem c_sum {T : List Tok} {n d m : Nat} {cl0 : Option Nat} {sc : Sc} {s : PS} {g : pm_s} {u : pm_J} {Y : List Ty} (N : Nat) (hN : 100 ≤ N) (hG : tkG T) (r : PR) (R : Int32 → pm_s → pm_J → Option (Int32 × pm_s × pm_J)) (dp : Int32) (ih : iE T n d m cl0 r (R (dp + 1))) (h : cE T n d m cl0 sc s g u Y) (hm : rm T s Y) :
    peC T n d m cl0 sc s g u Y (pSum r T sc s) (F_Parser_readSum N R dp g u) := by
  unfold F_Parser_readSum pSum
  apply peC_S
  have bO := b_call ih.2.2 sc s hm.1 (cE_24 h)
  refine peC_b (c_call N hN hG r R dp ih h hm) (fr_refl _ _) (Nat.le_refl _) bO ?_ ?_ ?_
  · intro q g' v Z hq hlt1 hle1 hfr hgl hc hZ
    obtain ⟨rmq, hnq⟩ := rm_q hm bO hq (Nat.le_refl _) hm.2.1 hZ
    obtain ⟨b1, b2, b3, b4, b5, b6, b7⟩ := bO q hq
    exact c_sums N hN hG r R dp ih 8 N 0 q.1 q.2 g' v (Y ++ Z) rfl (by omega) hc hle1 rmq.2.2.1 hnq b4
  · intro q' z g2 v2 hfl _
    show flR T n d q' g2 v2 (K_Parser_readSum_8 N R N dp z 0 g2 v2)
    rw [f_sumL (d := d) N R N (by omega) dp _ _ hfl]
    exact flR_1 _ ⟨hfl, fr_refl _ _⟩
  · intro q p hq hk
    obtain ⟨b1, b2, b3, b4, b5, b6, b7⟩ := bO q hq
    exact (b_sums ih.2.2 sc 8 _ _ p b7 b2 b4 hk).1
theorem c_cmp {T : List Tok} {n d m : Nat} {cl0 : Option Nat} {sc : Sc} {s : PS} {g : pm_s} {u : pm_J} {Y : List Ty} (N : Nat) (hN : 100 ≤ N) (hG : tkG T) (r : PR) (R : Int32 → pm_s → pm_J → Option (Int32 × pm_s × pm_J)) (dp : Int32) (ih : iE T n d m cl0 r (R (dp + 1))) (h : cE T n d m cl0 sc s g u Y) (hm : rm T s Y) :
    peC T n d m cl0 sc s g u Y (pCmp r T sc s) (F_Parser_readComparison N R dp g u) := by
  unfold F_Parser_readComparison pCmp
  apply peC_S
  have bO := b_sum ih.2.2 sc s hm.1 (cE_24 h)
  refine peC_b (c_sum N hN hG r R dp ih h hm) (fr_refl _ _) (Nat.le_refl _) bO ?_ ?_ ?_
  · intro q g' v Z hq hlt1 hle1 hfr hgl hc hZ
    obtain ⟨rmq, hnq⟩ := rm_q hm bO hq (Nat.le_refl _) hm.2.1 hZ
    have k24 : (ie (tkK T q.2.1 : Int) = 24) ↔ tkK T q.2.1 = 24 := kq (hG.1 q.2.1) 24 (by omega)
    show peC T n d m cl0 sc q.2 g' v (Y ++ Z) _ ((F_Parser_kind g' v).bind fun q4 => _)
    rw [k_kind hc.1 hle1 g', Option.bind_some]
    simp only [k24]
    by_cases e24 : tkK T q.2.1 = 24
    · have hlt2 := tkK_lt (show tkK T q.2.1 ≠ 0 by omega)
      rw [if_pos e24, if_pos e24]
      show peC T n d m cl0 sc q.2 g' v (Y ++ Z) _ ((F_Parser_here g' v).bind fun q8 => _)
      rw [k_here hc.1 hle1 g', Option.bind_some]
      show peC T n d m cl0 sc q.2 g' v (Y ++ Z) _ ((F_Parser_readSum N R dp g' (wi v 39 11 (v.1 39 11 + 1))).bind fun q9 => _)
      rw [hc.1.2.2.2, iadd1]
      have hat2 := cE_at hc (q.2.1 + 1)
      have rm2 : rm T (sAt q.2 (q.2.1 + 1)) (Y ++ Z) := ⟨by show q.2.1 + 1 ≤ _; omega, by show q.2.2.2.2.1 ≤ 2 * (q.2.1 + 1); omega, by show _ + (T.length - (q.2.1 + 1)) ≤ _; have := rmq.2.2.1; omega, hm.2.2.2⟩
      have bO2 := b_sum ih.2.2 sc (sAt q.2 (q.2.1 + 1)) rm2.1 (cE_24 hat2)
      refine peC_b (c_sum N hN hG r R dp ih hat2 rm2) (frE_wi _ _ _ (by omega) (fr_refl _ _)) (by show q.2.1 ≤ q.2.1 + 1; omega) bO2 ?_ ?_ ?_
      · intro p g2 v2 Z2 hp hlt3 hle3 hfr2 hgl2 hc2 hZ2
        have h9 := hm.2.2.2
        obtain ⟨rmp, hnp⟩ := rm_q rmq bO2 hp (by show q.2.1 ≤ q.2.1 + 1; omega) rm2.2.1 hZ2
        obtain ⟨w, w1, w2, w3⟩ := e_add N hN hc2 (by omega) 12 q.2.1 q.1 p.1 (-1) []
        have w1' : F_Tree_add N 12 (ie (tkP T n q.2.1)) (ie (q.1 : Nat)) (ie (p.1 : Nat)) (-1) g2 v2 = some (ie (p.2.2.2.2.1 : Nat), w) := w1
        show peC T n d m cl0 sc p.2 g2 v2 (Y ++ Z ++ Z2) _ ((F_Tree_add N 12 (ie (tkP T n q.2.1)) (ie (q.1 : Nat)) (ie (p.1 : Nat)) (-1) g2 v2).bind fun q10 => _)
        rw [w1', Option.bind_some]
        exact peC_0 (q := (p.2.2.2.2.1, sNode p.2 (12, q.2.1, q.1, p.1, -1, 0, []))) w2 w3
      · intro q' z g2 v2 hfl _
        obtain ⟨w, x, w1, w2⟩ := f_add (d := d) N hN hfl 12 (ie (tkP T n q.2.1)) (ie (q.1 : Nat)) z (-1)
        show flR T n d q' g2 v2 ((F_Tree_add N 12 (ie (tkP T n q.2.1)) (ie (q.1 : Nat)) z (-1) g2 v2).bind fun q10 => _)
        rw [w1, Option.bind_some]
        exact flR_1 _ w2
      · intro p p' hp hk; cases hk; exact Nat.le_refl _
    · rw [if_neg e24, if_neg e24]
      exact peC_0 (q := q) (fr_refl _ _) hc
  · intro q' z g2 v2 hfl _
    show flR T n d q' g2 v2 ((F_Parser_kind g2 v2).bind fun q4 => _)
    rw [f_kind hfl.1 g2, Option.bind_some, if_neg (show ¬ ((0 : Int32) = 24) by decide)]
    exact flR_1 _ ⟨hfl, fr_refl _ _⟩
  · intro q p hq hk
    by_cases e24 : tkK T q.2.1 = 24
    · rw [if_pos e24] at hk
      have hlt2 := tkK_lt (show tkK T q.2.1 ≠ 0 by omega)
      obtain ⟨p', p1, p2⟩ := pB_ok hk
      obtain ⟨b1, b2, b3, b4, b5, b6, b7⟩ := bO q hq
      obtain ⟨c1, _⟩ := b_sum ih.2.2 sc (sAt q.2 (q.2.1 + 1)) (by show q.2.1 + 1 ≤ _; omega) b7 p' p1
      have c1' : q.2.1 + 1 < p'.2.1 := c1
      cases p2
      show q.2.1 ≤ p'.2.1; omega
    · rw [if_neg e24] at hk; cases hk; exact Nat.le_refl _
