set_option maxRecDepth 100000
theorem c_part {T : List Tok} {n b a c m : Nat} {cl : Option Nat} {g : pm_s} {u : pm_J} {Y : List Ty} (N : Nat) (hN : 100000 ≤ N) (hG : tkG T) (hb : b ≤ 180) (R : Int32 → Int32 → pm_s → pm_J → Option (Int32 × pm_s × pm_J)) (pr : Nat → Nat → PE PT) (dp : Int32) (o : Bool)
    (ih : ∀ b' a c m cl g u Y, b' ≤ b + 9 → cT T n a c b' m cl g u Y → cBI u → a ≤ T.length → Y.length + (T.length - a) ≤ 60000 → m < 16 → c ≤ 100 → ptC T n o a b' m cl g u Y (pr a c) (R (dp + 1) (ib o) g u))
    (h : cT T n a c b m cl g u Y) (hB : cBI u) (ha : a ≤ T.length) (hY : Y.length + (T.length - a) ≤ 60000) (hm : m < 16) (hc : c ≤ 100) :
    ptC T n o a b m cl g u Y (pPart pr T 8 a c) (F_Parser_readPart N R dp (ib o) g u) := by
  unfold F_Parser_readPart
  obtain ⟨z, g', v, f1, f2, f3, f4, f5⟩ := c_base N hG R pr dp o (fun a c m cl g u Y => ih b a c m cl g u Y (by omega)) h hB ha hY hm hc
  rw [f1, Option.bind_some, if_pos (gI_Tb f3.1), pPart_eq, h.2.2.1]
  cases hp : pBase pr T a c with
  | error q =>
    rw [hp] at f5
    have f5' : fl T n q g' v := f5
    obtain ⟨w, w1, w2, w3⟩ := f_push f5' z
    rw [w1, Option.bind_some]
    obtain ⟨z2, g2, v2, y1, y2, y3, y4⟩ := f_18 N hN R N (by omega) dp (ib o) (ie b) 0 g' w w2
    rw [y1, pmS_some _ _ _ _ y4.2.1 y4.2.2.1]
    have gl := gL_trans f3 y4
    exact ⟨z2, g2, v2, pmS_some _ _ _ _ gl.2.1 gl.2.2.1, fr_trans f2 (fr_trans w3 y3), gl, y2.2.1, y2⟩
  | ok q =>
    rw [hp] at f5
    obtain ⟨k, Z, y1, y2, y3, y4, y5, y6, y7, y8, y9⟩ := f5
    obtain ⟨p1, p2⟩ := cT_push y2 (by omega) z
    rw [p1, Option.bind_some]
    have hRn : bsR (wi (wi v 42 b z) 39 10 (ie ((b + 1 : Nat) : Int))) (Y ++ Z) b [q.1] := by
      refine ⟨⟨k, ?_, y3⟩, trivial⟩
      show (wi (wi v 42 b z) 39 10 _).1 42 (b + 0) = ie k
      rw [← y1]; simp [wi_1]
    have key := c_18 N hN hG hb R pr dp o ih 8 N [] q.1 q.2.1 a q.2.2 _ m _ cl g' _ u (Y ++ Z) rfl (by omega) p2 (cBI_b f4 _ (by omega) _ _) hRn y6 y5 (by show 0 + a < q.2.1; omega)
      (by rw [List.length_append]; show Y.length + Z.length + 0 + (T.length - q.2.1) ≤ 60000; omega)
      (by split
          · exact or_lt16 _ hm _ y8
          · exact hm)
      y7 (by intro x hx; rw [List.mem_singleton] at hx; rw [hx]; exact y8)
      (by show _ = if o = true then m ||| (0 ||| tyM q.1) else m; rw [Nat.zero_or]) rfl
      (fr_wi _ _ _ _ _ _ rfl (fr_wi _ _ _ _ _ _ rfl f2))
      (by intro i hi
          have hne : i ≠ b := by omega
          simp [wi_1, hne]; exact y9 i hi)
      hm
    obtain ⟨z2, g2, v2, x1, x2, x3, x4, x5⟩ := key
    have x1' : K_Parser_readPart_18 N R N dp (ib o) (ie b) 0 g' (wi (wi v 42 b z) 39 10 (ie ((b + 1 : Nat) : Int))) = some (z2, g2, v2) := x1
    rw [x1', pmS_some _ _ _ _ x3.2.1 x3.2.2.1]
    have gl := gL_trans f3 x3
    refine ⟨z2, g2, v2, pmS_some _ _ _ _ gl.2.1 gl.2.2.1, x2, gl, x4, ?_⟩
    have he : pB (.ok q) (pRest pr T 8) = pB (pRest pr T 8 (q.1, q.2.1, q.2.2)) (fun p => (.ok (foldM [] p.1, p.2) : PE PT)) := by
      show pRest pr T 8 q = pB (pRest pr T 8 q) (fun p => (.ok (p.1, p.2) : PE PT))
      cases pRest pr T 8 q <;> rfl
    rw [he]
    cases hr : pB (pRest pr T 8 (q.1, q.2.1, q.2.2)) (fun p => (.ok (foldM [] p.1, p.2) : PE PT)) with
    | error e' => rw [hr] at x5; exact x5
    | ok t' =>
      rw [hr] at x5
      obtain ⟨k2, Z2, u1, u2, u3, u4, u5, u6, u7, u8, u9⟩ := x5
      have u4' : Z2.length ≤ 0 + (t'.2.1 - q.2.1) := u4
      exact ⟨k2, Z ++ Z2, u1, by rw [← List.append_assoc]; exact u2, by rw [← List.append_assoc]; exact u3, by rw [List.length_append]; omega, by omega, u6, u7, u8, u9⟩
theorem f_base {T : List Tok} {n : Nat} {q : Nat × Nat} {g : pm_s} {u : pm_J} (N : Nat) (R : Int32 → Int32 → pm_s → pm_J → Option (Int32 × pm_s × pm_J)) (dp o : Int32) (h : fl T n q g u) : F_Parser_readBase N R dp o g u = some (-1, g, u) := by
  obtain ⟨p, hp⟩ := s_here h.2.1 g
  unfold F_Parser_readBase
  rw [f_kind h.1 g, Option.bind_some, if_neg (show ¬ ((0 : Int32) = 4) by decide), if_neg (show ¬ ((0 : Int32) = 5) by decide), if_neg (show ¬ ((0 : Int32) = 6) by decide), if_neg (show ¬ ((0 : Int32) = 15) by decide), hp, Option.bind_some, f_tell h.1, Option.bind_some, pmS_some _ _ _ _ (Nat.le_refl _) (Nat.le_refl _)]
theorem fl_b {T : List Tok} {n : Nat} {q : Nat × Nat} {g : pm_s} {u : pm_J} (h : fl T n q g u) (b : Nat) (hb : b ≤ 200) : fl T n q g (wi u 39 10 (ie b)) := fl_of h rfl rfl (cBI_b1 h.2.1 b hb) (wi_csy _ _ _ _ (by omega))
theorem f_35 {T : List Tok} {n : Nat} {q : Nat × Nat} {g : pm_s} {u : pm_J} (N : Nat) (hN : 100000 ≤ N) (R : Int32 → Int32 → pm_s → pm_J → Option (Int32 × pm_s × pm_J)) (dp o : Int32) (h : fl T n q g u) : flP T n q g u (K_Parser_readType_35 N R dp o g u) := by
  obtain ⟨Y, hY⟩ := h.2.2
  have hgI := hY.2.2.1
  obtain ⟨w, w1, w2, w3⟩ := f_push h (-1)
  obtain ⟨z2, g2, v2, y1, y2, y3, y4⟩ := f_18 N hN R N (by omega) dp o (u.1 39 10) 0 g w w2
  unfold K_Parser_readType_35 F_Parser_readPart
  rw [f_base N R dp o h, Option.bind_some, if_pos (gI_Tb hgI), w1, Option.bind_some, y1, pmS_some _ _ _ _ y4.2.1 y4.2.2.1, pmS_some _ _ _ _ y4.2.1 y4.2.2.1, Option.bind_some, if_pos (gI_Tb y4.1), f_kind y2.1 g2, Option.bind_some, if_neg (show ¬ ((0 : Int32) = 25) by decide), pmS_some _ _ _ _ (Nat.le_refl _) (Nat.le_refl _)]
  exact ⟨z2, g2, v2, rfl, y2, fr_trans w3 y3, y4⟩
theorem f_type {T : List Tok} {n : Nat} {q : Nat × Nat} {g : pm_s} {u : pm_J} (N : Nat) (hN : 100000 ≤ N) (k : Nat) (hk : 0 < k) (dp o : Int32) (h : fl T n q g u) : flP T n q g u (F_Parser_readType N k dp o g u) := by
  obtain ⟨k, rfl⟩ : ∃ f', k = f' + 1 := ⟨k - 1, by omega⟩
  obtain ⟨Y, hY⟩ := h.2.2
  have hgI := hY.2.2.1
  rw [F_Parser_readType]
  unfold FO_Parser_readType
  by_cases h20 : dp ≤ 20
  · rw [if_pos h20]
    by_cases h1 : dp = 1
    · rw [if_pos h1]
      have hb0 : fl T n q g (wi (wi u 39 14 0) 39 10 0) := fl_b (fl_wi h 39 14 0 (by omega) (by omega) (by omega)) 0 (by omega)
      obtain ⟨z, g', v, y1, y2, y3, y4⟩ := f_35 N hN (F_Parser_readType N k) dp o hb0
      rw [y1, pmS_some _ _ _ _ y4.2.1 y4.2.2.1]
      exact ⟨z, g', v, rfl, y2, fr_trans (fr_wi _ _ _ _ _ _ rfl (fr_wi _ _ _ _ _ _ rfl (fr_refl _ _))) y3, y4⟩
    · rw [if_neg h1]
      obtain ⟨z, g', v, y1, y2, y3, y4⟩ := f_35 N hN (F_Parser_readType N k) dp o h
      rw [y1, pmS_some _ _ _ _ y4.2.1 y4.2.2.1]
      exact ⟨z, g', v, rfl, y2, y3, y4⟩
  · obtain ⟨p, hp⟩ := s_here h.2.1 g
    rw [if_neg h20, hp, Option.bind_some, f_tell h.1, Option.bind_some, pmS_some _ _ _ _ (Nat.le_refl _) (Nat.le_refl _)]
    exact ⟨_, g, u, rfl, h, fr_refl _ _, gL_refl hgI⟩
theorem c_35 {T : List Tok} {n b a c m : Nat} {cl : Option Nat} {g : pm_s} {u : pm_J} {Y : List Ty} (N : Nat) (hN : 100000 ≤ N) (hG : tkG T) (hb : b ≤ 180) (k : Nat) (hk : 0 < k) (r : Nat) (dp : Int32) (o : Bool)
    (ih : ∀ b' a c m cl g u Y, b' ≤ b + 9 → cT T n a c b' m cl g u Y → cBI u → a ≤ T.length → Y.length + (T.length - a) ≤ 60000 → m < 16 → c ≤ 100 → ptC T n o a b' m cl g u Y (pTy T r a c) (F_Parser_readType N k (dp + 1) (ib o) g u))
    (h : cT T n a c b m cl g u Y) (hB : cBI u) (ha : a ≤ T.length) (hY : Y.length + (T.length - a) ≤ 60000) (hm : m < 16) (hc : c ≤ 100) :
    ptC T n o a b m cl g u Y (pTy T (r + 1) a c) (K_Parser_readType_35 N (F_Parser_readType N k) dp (ib o) g u) := by
  obtain ⟨z, g', v, f1, f2, f3, f4, f5⟩ := c_part N hN hG hb (F_Parser_readType N k) (pTy T r) dp o ih h hB ha hY hm hc
  unfold K_Parser_readType_35
  rw [f1, Option.bind_some, if_pos (gI_Tb f3.1), pTy]
  cases hp : pPart (pTy T r) T 8 a c with
  | error q =>
    rw [hp] at f5
    have f5' : fl T n q g' v := f5
    rw [f_kind f5'.1 g', Option.bind_some, if_neg (show ¬ ((0 : Int32) = 25) by decide), pmS_some _ _ _ _ (Nat.le_refl _) (Nat.le_refl _)]
    exact ⟨z, g', v, rfl, f2, f3, f4, f5'⟩
  | ok q =>
    rw [hp] at f5
    obtain ⟨x, Z, y1, y2, y3, y4, y5, y6, y7, y8, y9⟩ := f5
    have k25 : (ie (tkK T q.2.1 : Int) = 25) ↔ tkK T q.2.1 = 25 := kq (hG.1 _) 25 (by omega)
    rw [k_kind y2.1 y6 g', Option.bind_some]
    simp only [k25]
    show ptC T n o a b m cl g u Y (if tkK T q.2.1 = 25 then pB (pTy T r (q.2.1 + 1) q.2.2) (fun p => .ok (.mul q.1 p.1, p.2)) else .ok q) _
    by_cases e25 : tkK T q.2.1 = 25
    · have hlt := tkK_lt (show tkK T q.2.1 ≠ 0 by omega)
      rw [if_pos e25, if_pos e25, y2.1.2.2.2, iadd1]
      have hm2 : (if o = true then m ||| tyM q.1 else m) < 16 := by
        split
        · exact or_lt16 _ hm _ y8
        · exact hm
      obtain ⟨z2, g2, v2, x1, x2, x3, x4, x5⟩ := ih b (q.2.1 + 1) q.2.2 _ _ g' _ (Y ++ Z) (by omega) (cT_at y2 (q.2.1 + 1)) (cBI_wi _ _ _ _ f4 (by omega)) (by omega) (by rw [List.length_append]; omega) hm2 y7
      rw [x1, Option.bind_some, if_pos (gI_Tb x3.1)]
      have fr0 : fr cS_T u v2 := fr_trans f2 (fr_trans (fr_wi _ _ _ _ _ _ rfl (fr_refl _ _)) x2)
      cases hp2 : pTy T r (q.2.1 + 1) q.2.2 with
      | error e' =>
        rw [hp2] at x5
        have x5' : fl T n e' g2 v2 := x5
        obtain ⟨Y2, hY2⟩ := x5'.2.2
        obtain ⟨z3, g3, v3, Z3, w1, w2, w3, w4⟩ := s_make N hN hY2 true z z2
        have w1' : F_Types_make N 4 z z2 g2 v2 = some (z3, g3, v3) := w1
        rw [w1', Option.bind_some, if_pos (gI_Tb w4.1), pmS_some _ _ _ _ (Nat.le_refl _) (Nat.le_refl _), pmS_some _ _ _ _ w4.2.1 w4.2.2.1]
        have gl := gL_trans x3 w4
        rw [pmS_some _ _ _ _ gl.2.1 gl.2.2.1]
        have f6 := fl_y x5' w3 w2
        exact ⟨z3, g3, v3, rfl, fr_trans fr0 (fr_yT w3), gL_trans f3 gl, f6.2.1, f6⟩
      | ok p =>
        rw [hp2] at x5
        obtain ⟨x', Z2, u1, u2, u3, u4, u5, u6, u7, u8, u9⟩ := x5
        have hx2 : (Y ++ Z ++ Z2)[x]? = some q.1 := by rw [List.getElem?_append_left (List.getElem?_eq_some_iff.mp y3).1]; exact y3
        obtain ⟨z3, g3, v3, Z3, w1, w2, w3, w4, w5, w6⟩ := c_make N hN u2.2.2.2.2.2 true q.1 p.1 x x' hx2 u3 (by rw [List.length_append, List.length_append]; omega)
        have w1' : F_Types_make N 4 (ie x) (ie x') g2 v2 = some (ie z3, g3, v3) := w1
        rw [y1, u1, w1', Option.bind_some, if_pos (gI_Tb w6.1), pmS_some _ _ _ _ (Nat.le_refl _) (Nat.le_refl _), pmS_some _ _ _ _ w6.2.1 w6.2.2.1]
        have gl := gL_trans x3 w6
        rw [pmS_some _ _ _ _ gl.2.1 gl.2.2.1]
        refine ⟨_, g3, v3, rfl, fr_trans fr0 (fr_yT w5), gL_trans f3 gl, cBI_y x4 w5, z3, Z ++ Z2 ++ Z3, rfl, ?_, ?_, ?_, ?_, u6, u7, ?_, ?_⟩
        · have hb1 : badL T m q.2.1 1 = none := badL_1 T m q.2.1 (by omega)
          have := cT_y u2 w5 w2
          show cT T n p.2.1 p.2.2 b (if o = true then m ||| (tyM q.1 ||| tyM p.1) else m) (if o = true then cl else oE cl (badL T m a (p.2.1 - a))) g3 v3 (Y ++ (Z ++ Z2 ++ Z3))
          rw [show Y ++ (Z ++ Z2 ++ Z3) = Y ++ Z ++ Z2 ++ Z3 by simp [List.append_assoc]]
          cases o with
          | false =>
            have h' : cT T n p.2.1 p.2.2 b m (oE (oE cl (badL T m a (q.2.1 - a))) (badL T m (q.2.1 + 1) (p.2.1 - (q.2.1 + 1)))) g3 v3 (Y ++ Z ++ Z2 ++ Z3) := this
            show cT T n p.2.1 p.2.2 b m (oE cl (badL T m a (p.2.1 - a))) g3 v3 (Y ++ Z ++ Z2 ++ Z3)
            rw [badL_split T m a q.2.1 p.2.1 (by omega) (by omega), badL_split T m q.2.1 (q.2.1 + 1) p.2.1 (by omega) (by omega), show q.2.1 + 1 - q.2.1 = 1 by omega, hb1]
            rw [oE_assoc] at h'; exact h'
          | true =>
            have h' : cT T n p.2.1 p.2.2 b ((m ||| tyM q.1) ||| tyM p.1) cl g3 v3 (Y ++ Z ++ Z2 ++ Z3) := this
            show cT T n p.2.1 p.2.2 b (m ||| (tyM q.1 ||| tyM p.1)) cl g3 v3 (Y ++ Z ++ Z2 ++ Z3)
            rw [← Nat.or_assoc]; exact h'
        · rw [show Y ++ (Z ++ Z2 ++ Z3) = Y ++ Z ++ Z2 ++ Z3 by simp [List.append_assoc]]; exact w4
        · show (Z ++ Z2 ++ Z3).length ≤ p.2.1 - a
          rw [List.length_append, List.length_append]; omega
        · show a < p.2.1; omega
        · show tyM q.1 ||| tyM p.1 < 16; exact or_lt16 _ y8 _ u8
        · intro i hi
          rw [fry_1 w5 42 i (by omega), u9 i hi]; exact y9 i hi
    · rw [if_neg e25, if_neg e25, pmS_some _ _ _ _ (Nat.le_refl _) (Nat.le_refl _)]
      exact ⟨z, g', v, rfl, f2, f3, f4, x, Z, y1, y2, y3, y4, y5, y6, y7, y8, y9⟩
theorem c_typeR {T : List Tok} {n : Nat} (N : Nat) (hN : 100000 ≤ N) (hG : tkG T) (o : Bool) (r : Nat) : ∀ (k b a c m : Nat) (cl : Option Nat) (g : pm_s) (u : pm_J) (Y : List Ty), r < 20 → r < k → b ≤ 9 * (20 - r) → cT T n a c b m cl g u Y → cBI u → a ≤ T.length → Y.length + (T.length - a) ≤ 60000 → m < 16 → c ≤ 100 → ptC T n o a b m cl g u Y (pTy T r a c) (F_Parser_readType N k (ie ((21 - r : Nat) : Int)) (ib o) g u) := by
  induction r with
  | zero =>
    intro k b a c m cl g u Y hr hk hb h hB ha hY hm hc
    obtain ⟨k, rfl⟩ : ∃ f', k = f' + 1 := ⟨k - 1, by omega⟩
    rw [F_Parser_readType, pTy]
    unfold FO_Parser_readType
    rw [if_neg (show ¬ (ie ((21 - 0 : Nat) : Int) ≤ 20) by decide), k_here h.1 ha g, Option.bind_some]
    obtain ⟨k1, k2⟩ := fl_tell h hB 3 a (by omega) (by omega)
    have k1' : F_Fault_tell_3 3 (ie (tkP T n a)) g u = some (cTell u 3 (tkP T n a)) := k1
    rw [k1', Option.bind_some, pmS_some _ _ _ _ (Nat.le_refl _) (Nat.le_refl _)]
    exact ⟨_, g, _, rfl, frT_tell u _ _, gL_refl h.2.2.2.2.2.2.2.1, k2.2.1, k2⟩
  | succ r ih =>
    intro k b a c m cl g u Y hr hk hb h hB ha hY hm hc
    obtain ⟨k, rfl⟩ : ∃ f', k = f' + 1 := ⟨k - 1, by omega⟩
    rw [F_Parser_readType]
    unfold FO_Parser_readType
    have e20 : (ie ((21 - (r + 1) : Nat) : Int) ≤ 20) := (inle (21 - (r + 1)) 20 (by omega) (by omega)).mpr (by omega)
    have e1 : ¬ (ie ((21 - (r + 1) : Nat) : Int) = 1) := fun hh => by have := (ineq (21 - (r + 1)) 1 (by omega) (by omega)).mp hh; omega
    have es : ie ((21 - (r + 1) : Nat) : Int) + 1 = ie ((21 - r : Nat) : Int) := by rw [iadd1]; congr 1; omega
    rw [if_pos e20, if_neg e1]
    obtain ⟨z, g', v, f1, f2, f3, f4, f5⟩ := c_35 (b := b) N hN hG (by omega) k (by omega) r (ie ((21 - (r + 1) : Nat) : Int)) o (fun b' a c m cl g u Y hb' h1 h2 h3 h4 h5 h6 => by rw [es]; exact ih k b' a c m cl g u Y (by omega) (by omega) (by omega) h1 h2 h3 h4 h5 h6) h hB ha hY hm hc
    rw [f1, pmS_some _ _ _ _ f3.2.1 f3.2.2.1]
    exact ⟨z, g', v, rfl, f2, f3, f4, f5⟩
theorem c_type {T : List Tok} {n : Nat} (N : Nat) (hN : 100000 ≤ N) (hG : tkG T) (o : Bool) (a m : Nat) (cl : Option Nat) (g : pm_s) (u : pm_J) (Y : List Ty) (h1 : cTk T n a u) (h4 : u.1 39 13 = ie m) (h5 : cCl T n cl u) (h6 : tyC g u Y) (hB : cBI u) (ha : a ≤ T.length) (hY : Y.length + (T.length - a) ≤ 60000) (hm : m < 16) : ptC T n o a 0 m cl g u Y (pTy T 20 a 0) (F_Parser_readType N 24 1 (ib o) g u) := by
  rw [F_Parser_readType]
  unfold FO_Parser_readType
  rw [if_pos (show (1 : Int32) ≤ 20 by decide), if_pos rfl]
  have h0 : cT T n a 0 0 m cl g (wi (wi u 39 14 0) 39 10 0) Y := by
    refine ⟨cTk_at h1 rfl (fun _ => rfl) (fun _ => ⟨rfl, rfl, rfl⟩) h1.2.2.2, rfl, rfl, h4, ?_, tyC_fr (tyC_fr h6 (wi_csy _ _ _ _ (by omega))) (wi_csy _ _ _ _ (by omega))⟩
    cases cl <;> exact h5
  have hB0 : cBI (wi (wi u 39 14 0) 39 10 0) := cBI_b1 (cBI_wi _ _ _ _ hB (by omega)) 0 (by omega)
  obtain ⟨z, g', v, f1, f2, f3, f4, f5⟩ := c_35 (b := 0) N hN hG (by omega) 23 (by omega) 19 1 o (fun b' a c m cl g u Y hb' h1 h2 h3 h4 h5 h6 => c_typeR N hN hG o 19 23 b' a c m cl g u Y (by omega) (by omega) (by omega) h1 h2 h3 h4 h5 h6) h0 hB0 ha hY hm (by omega)
  rw [f1, pmS_some _ _ _ _ f3.2.1 f3.2.2.1]
  refine ⟨z, g', v, rfl, fr_trans (fr_wi _ _ _ _ _ _ rfl (fr_wi _ _ _ _ _ _ rfl (fr_refl _ _))) f2, f3, f4, ?_⟩
  cases hp : pTy T 20 a 0 with
  | error q => rw [hp] at f5; exact f5
  | ok t =>
    rw [hp] at f5
    obtain ⟨k, Z, y1, y2, y3, y4, y5, y6, y7, y8, y9⟩ := f5
    exact ⟨k, Z, y1, y2, y3, y4, y5, y6, y7, y8, fun i hi => by omega⟩
