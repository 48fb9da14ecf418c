set_option maxRecDepth 100000
theorem pB_o {α β : Type} (a : α) (f : α → PE β) : pB (.ok a) f = f a := rfl
theorem pB_e {α β : Type} (q : Nat × Nat) (f : α → PE β) : pB (.error q) f = .error q := rfl
def fDef (T : List Tok) (v : Int64) : List Df → Nat → Int
  | [], _ => -1
  | x :: D, i => if tkV T x.1 = v then i else fDef T v D (i + 1)
theorem fDef_rg (T : List Tok) (v : Int64) (D : List Df) (i : Nat) : fDef T v D i = -1 ∨ ((i : Int) ≤ fDef T v D i ∧ fDef T v D i < i + D.length) := by
  induction D generalizing i with
  | nil => exact Or.inl rfl
  | cons x D ih =>
    unfold fDef
    have hl : (x :: D).length = D.length + 1 := rfl
    by_cases h : tkV T x.1 = v
    · rw [if_pos h]; right; omega
    · rw [if_neg h]
      rcases ih (i + 1) with h1 | h1
      · exact Or.inl h1
      · right; omega
theorem fDef_any (T : List Tok) (v : Int64) (D : List Df) (i : Nat) : (D.any fun y => tkV T y.1 == v) = true ↔ fDef T v D i ≠ -1 := by
  induction D generalizing i with
  | nil => simp [fDef]
  | cons x D ih =>
    unfold fDef
    by_cases h : tkV T x.1 = v
    · rw [if_pos h]; simp [h]
    · rw [if_neg h, ← ih (i + 1)]; simp [h]
def cDf (T : List Tok) (n : Nat) (u : pm_J) (Y : List Ty) (i : Nat) (x : Df) : Prop := u.2 30 i = tkV T x.1 ∧ u.1 31 i = ie (tkP T n x.1 : Nat) ∧ (∃ k : Nat, u.1 32 i = ie k ∧ Y[k]? = some x.2.2.1) ∧ u.1 33 i = ie (x.2.2.2.1 : Nat) ∧ u.1 34 i = ie ((x.2.2.2.1 + 1 : Nat) : Int) ∧ cLoc i x.2.2.2.2.2.2 u Y ∧ u.1 38 (i * 6 + 0) = ie (List.length x.2.1 : Nat) ∧ u.1 38 (i * 6 + 1) = ie (bc (pmM x.2.1) : Nat) ∧ (∀ k, 2 ≤ k → k < 6 → u.1 38 (i * 6 + k) = ie 0)
def cQ (T : List Tok) (n : Nat) (D : List Df) (a : Nat) (t : Tr) (g : pm_s) (u : pm_J) (Y : List Ty) : Prop := cTk T n a u ∧ tyC g u Y ∧ cNd T n u t ∧ cBI u ∧ (u.1 29 9 = ie D.length ∧ D.length ≤ 30) ∧ (∀ (i : Nat) (x : Df), D[i]? = some x → cDf T n u Y i x) ∧ (∀ i, D.length * 6 ≤ i → i < 180 → u.1 38 i = ie 0) ∧ cCl T n (clash T [] D) u
theorem c_tfind {T : List Tok} {n : Nat} {u : pm_J} {Y : List Ty} (N : Nat) (g : pm_s) (v : Int64) (D : List Df) (hc : u.1 29 9 = ie D.length) (h30 : D.length ≤ 30) (hD : ∀ (i : Nat) (x : Df), D[i]? = some x → u.2 30 i = tkV T x.1) (j : Nat) : ∀ (f i : Nat), i + j = D.length → j < f → K_Table_find_2 N g u f v (ie i) = some (ie (fDef T v (D.drop i) i)) := by
  induction j with
  | zero =>
    intro f i hi hf
    obtain ⟨f, rfl⟩ : ∃ f', f = f' + 1 := ⟨f - 1, by omega⟩
    rw [K_Table_find_2, hc, if_pos ((inle D.length i (by omega) (by omega)).mpr (by omega)), List.drop_eq_nil_of_le (by omega)]; rfl
  | succ j ih =>
    intro f i hi hf
    obtain ⟨f, rfl⟩ : ∃ f', f = f' + 1 := ⟨f - 1, by omega⟩
    have hlt : i < D.length := by omega
    have hg : D[i]? = some D[i] := List.getElem?_eq_getElem hlt
    rw [K_Table_find_2, hc, if_neg (fun hh => by have := (inle D.length i (by omega) (by omega)).mp hh; omega), if_pos (okn i 30 (by omega) (by omega)), ntn i (by omega), hD i _ hg, List.drop_eq_getElem_cons hlt, fDef]
    simp only [lg_eq0]
    by_cases hx : tkV T D[i].1 = v
    · rw [if_pos hx, if_pos hx]
    · rw [if_neg hx, if_neg hx, iadd1]; exact ih f (i + 1) (by omega) (by omega)
theorem f_157 {T : List Tok} {n d : Nat} {q : Nat × Nat} {g : pm_s} {u : pm_J} (N : Nat) (hN : 100000 ≤ N) (hd : d < 30) (h12 : u.1 39 12 = ie d) (h : fl T n q g u) : flU T n d q g u (K_Parser_readDef_157 N g u) := by
  unfold K_Parser_readDef_157
  obtain ⟨x, hx⟩ : ∃ x, F_Integer_bitCount (u.1 39 13) g u = some x := ⟨_, rfl⟩
  obtain ⟨v, v1, v2, v3⟩ := f_count (d := d) hd h 1 (by omega) x
  have v1' : F_Table_count (ie d) 1 x g u = some v := v1
  have hv12 : v.1 39 12 = ie d := (frD_12 v3).trans h12
  rw [hx, Option.bind_some, h12, v1', Option.bind_some, f_expect v2.1 v2.2.1 17 (by decide) g, Option.bind_some]
  refine flU_fr v3 ?_
  refine flU_b (f_typeR N hN 0 v2) (fun z g' w hw hw12 => ?_)
  obtain ⟨w1, y1, y2, y3⟩ := f_setType (d := d) hd hw z
  show flU T n d q g' w ((F_Table_setType (v.1 39 12) z g' w).bind fun q20 => (F_Parser_expect 18 g' q20).bind fun q21 => (F_Parser_readExpr N 24 1 g' q21).bind fun q22 => if sh_Tb q22.2.1 = true then pm_S q22.2.1 ((F_Parser_expect 19 q22.2.1 q22.2.2).bind fun q25 => (F_Tree_size q22.2.1 q25).bind fun q26 => (F_Table_setRoot (q25.1 39 12) q22.1 q26 q22.2.1 q25).bind fun q27 => some ((), q22.2.1, q27)) else none)
  rw [hv12, y1, Option.bind_some, f_expect y2.1 y2.2.1 18 (by decide) g', Option.bind_some]
  refine flU_fr y3 ?_
  have hw1 : w1.1 39 12 = ie d := (frD_12 y3).trans (hw12.trans hv12)
  have hex : flR T n d q g' w1 (F_Parser_readExpr N 24 1 g' w1) := by
    rw [f_expr (d := d) N (by omega) 24 (by omega) 1 y2]; exact flR_1 _ ⟨y2, fr_refl _ _⟩
  refine flU_b hex (fun z2 g2 w2 hw2 hw212 => ?_)
  obtain ⟨w3, x1, x2, x3⟩ := f_setRoot (d := d) hd hw2 z2 (w2.1 18 10)
  show flU T n d q g2 w2 ((F_Parser_expect 19 g2 w2).bind fun q25 => (F_Tree_size g2 q25).bind fun q26 => (F_Table_setRoot (q25.1 39 12) z2 q26 g2 q25).bind fun q27 => some ((), g2, q27))
  rw [f_expect hw2.1 hw2.2.1 19 (by decide) g2, Option.bind_some]
  unfold F_Tree_size
  rw [Option.bind_some, hw212.trans hw1, x1, Option.bind_some]
  exact ⟨g2, w3, rfl, x2, x3, gL_refl (fl_gI x2)⟩
theorem clash_app (T : List Tok) (x : Df) (D : List Df) : ∀ P, clash T P (D ++ [x]) = oE (clash T P D) (if ((P ++ D).any fun y => tkV T y.1 == tkV T x.1) = true then some x.1 else x.2.2.2.2.2.1) := by
  induction D with
  | nil =>
    intro P
    show clash T P [x] = _
    rw [clash, clash, List.append_nil]
    show _ = oE none _
    by_cases h : (P.any fun y => tkV T y.1 == tkV T x.1) = true
    · rw [if_pos h, if_pos h]; rfl
    · rw [if_neg h, if_neg h]
      cases hw : x.2.2.2.2.2.1 with
      | none => show clash T (P ++ [x]) [] = _; rw [clash]; rfl
      | some w => rfl
  | cons y D ih =>
    intro P
    show clash T P (y :: (D ++ [x])) = _
    rw [clash, clash]
    by_cases h : (P.any fun z => tkV T z.1 == tkV T y.1) = true
    · rw [if_pos h, if_pos h]; rfl
    · rw [if_neg h, if_neg h]
      cases hw : y.2.2.2.2.2.1 with
      | some w => rfl
      | none =>
        show clash T (P ++ [y]) (D ++ [x]) = oE (clash T (P ++ [y]) D) _
        rw [ih (P ++ [y]), List.append_assoc]; rfl
theorem cE_cl {T : List Tok} {n d m : Nat} {cl0 : Option Nat} {sc : Sc} {s : PS} {g : pm_s} {u : pm_J} {Y : List Ty} (h : cE T n d m cl0 sc s g u Y) (x : Int32) : cE T n d m cl0 sc s g (wi u 32 d x) Y := cE_wi h 32 d x (by omega)
theorem c_157 {T : List Tok} {n d : Nat} {cl0 : Option Nat} {sc : Sc} {ps : PM} {s : PS} {g : pm_s} {u : pm_J} {Y : List Ty} (N : Nat) (hN : 100000 ≤ N) (hG : tkG T) (a0 : Nat) (h : cP T n d cl0 sc ps s g u Y) (hs : s.1 ≤ T.length) (hY : Y.length + (T.length - s.1) ≤ 60000) (hnn : s.2.2.2.1 ≤ 2 * s.1) (h30 : u.2 30 d = tkV T a0) (h31 : u.1 31 d = ie (tkP T n a0 : Nat)) :
    ∃ (g' : pm_s) (v : pm_J), K_Parser_readDef_157 N g u = some ((), g', v) ∧ fr (cS_D d) u v ∧ gL g g' ∧
      (match (pB (pX T 17 s) fun x => pB (pTy T 20 x.1 0) fun y => pB (pX T 18 (sAt (sWr x (oE x.2.1 (badL T (pmM ps) x.1 (y.2.1 - x.1)))) y.2.1)) fun z => pB (pE T d (pmM ps) 20 sc z) fun q => pB (pX T 19 q.2) fun w => (.ok ((a0, ps, y.1, q.1, s.2.2.2.1, w.2.1, w.2.2.1), w.1, w.2.2.2) : PE (Df × Nat × Tr))) with
       | .error q => fl T n q g' v
       | .ok q => ∃ (Z : List Ty) (m' : Nat), (∃ sc' wr, cE T n d m' cl0 sc' (q.2.1, wr, q.1.2.2.2.2.2.2, q.2.2) g' v (Y ++ Z) ∧ wr = q.1.2.2.2.2.2.1) ∧ cDf T n v (Y ++ Z) d q.1 ∧ Y.length + Z.length ≤ Y.length + (q.2.1 - s.1) ∧ s.1 < q.2.1 ∧ q.2.1 ≤ T.length ∧ q.2.2.1 ≤ 2 * q.2.1) := by
  obtain ⟨h1, h2, h3, h4, h5, h7⟩ := h
  have hd := h1.2.1.2.2.1
  have hcur := h1.2.1.1
  have hm16 := h1.2.1.2.2.2.1
  have h9 := cE_9 h1
  unfold K_Parser_readDef_157
  have c1 := e_count h1 1 (by omega) (ie (bc (pmM ps) : Nat))
  have c1' : F_Table_count (ie d) 1 (ie (bc (pmM ps) : Nat)) g u = some (wi u 38 (d * 6 + 1) (u.1 38 (d * 6 + 1) + ie (bc (pmM ps) : Nat))) := c1
  rw [h1.2.1.2.1, c_bits16 _ hm16, Option.bind_some, hcur, c1', Option.bind_some, h7 1 (by omega) (by omega), ie_add, Int.zero_add]
  have hE1 := cE_wi h1 38 (d * 6 + 1) (ie (bc (pmM ps) : Nat)) (by omega)
  have fr1 : fr (cS_D d) u (wi u 38 (d * 6 + 1) (ie (bc (pmM ps) : Nat))) := frD_wi _ _ _ (by omega) (fr_refl _ _)
  have h38 : ∀ k, k < 6 → (wi u 38 (d * 6 + 1) (ie (bc (pmM ps) : Nat))).1 38 (d * 6 + k) = if k = 1 then ie (bc (pmM ps) : Nat) else if k = 0 then ie (List.length ps : Nat) else ie 0 := by
    intro k hk
    rw [wi_1]
    by_cases k1 : k = 1
    · rw [if_pos ⟨rfl, by omega⟩, if_pos k1]
    · rw [if_neg (by omega), if_neg k1]
      by_cases k0 : k = 0
      · rw [if_pos k0, k0]; exact h2
      · rw [if_neg k0]; exact h7 k (by omega) hk
  have h30' : (wi u 38 (d * 6 + 1) (ie (bc (pmM ps) : Nat))).2 30 d = tkV T a0 := h30
  have h31' : (wi u 38 (d * 6 + 1) (ie (bc (pmM ps) : Nat))).1 31 d = ie (tkP T n a0 : Nat) := h31
  generalize wi u 38 (d * 6 + 1) (ie (bc (pmM ps) : Nat)) = u1 at hE1 fr1 h38 h30' h31'
  have hcur1 : u1.1 39 12 = ie d := hE1.2.1.1
  obtain ⟨v1, x1, x2, x3⟩ := e_expect hG hE1 hs 17 (by omega)
  have x1' : F_Parser_expect 17 g u1 = some v1 := x1
  rw [x1', Option.bind_some]
  have fr2 := fr_trans fr1 (fr_ED (fr_TE (d := d) x2))
  have h112 : v1.1 39 12 = ie d := (frE_12 (fr_TE (d := d) x2)).trans hcur1
  have t3 : ∀ q' z2 g2 v2, fl T n q' g2 v2 → v2.1 39 12 = ie d → flU T n d q' g2 v2 ((F_Parser_expect 19 g2 v2).bind fun q25 => (F_Tree_size g2 q25).bind fun q26 => (F_Table_setRoot (q25.1 39 12) z2 q26 g2 q25).bind fun q27 => some ((), g2, q27)) := by
    intro q' z2 g2 v2 hfl h12
    obtain ⟨w3, y1, y2, y3⟩ := f_setRoot (d := d) hd hfl z2 (v2.1 18 10)
    rw [f_expect hfl.1 hfl.2.1 19 (by decide) g2, Option.bind_some]
    unfold F_Tree_size
    rw [Option.bind_some, h12, y1, Option.bind_some]
    exact ⟨g2, w3, rfl, y2, y3, gL_refl (fl_gI y2)⟩
  have t2 : ∀ q' g2 v2, fl T n q' g2 v2 → v2.1 39 12 = ie d → flU T n d q' g2 v2 ((F_Parser_readExpr N 24 1 g2 v2).bind fun q22 => if sh_Tb q22.2.1 = true then pm_S q22.2.1 ((F_Parser_expect 19 q22.2.1 q22.2.2).bind fun q25 => (F_Tree_size q22.2.1 q25).bind fun q26 => (F_Table_setRoot (q25.1 39 12) q22.1 q26 q22.2.1 q25).bind fun q27 => some ((), q22.2.1, q27)) else none) := by
    intro q' g2 v2 hfl h12
    have hex : flR T n d q' g2 v2 (F_Parser_readExpr N 24 1 g2 v2) := by
      rw [f_expr (d := d) N (by omega) 24 (by omega) 1 hfl]; exact flR_1 _ ⟨hfl, fr_refl _ _⟩
    exact flU_b hex (fun z2 g3 w2 hw2 hw212 => t3 q' z2 g3 w2 hw2 (hw212.trans h12))
  have t1 : ∀ q' (z : Int32) g2 v2, fl T n q' g2 v2 → v2.1 39 12 = ie d → flU T n d q' g2 v2 ((F_Table_setType (ie d) z g2 v2).bind fun q20 => (F_Parser_expect 18 g2 q20).bind fun q21 => (F_Parser_readExpr N 24 1 g2 q21).bind fun q22 => if sh_Tb q22.2.1 = true then pm_S q22.2.1 ((F_Parser_expect 19 q22.2.1 q22.2.2).bind fun q25 => (F_Tree_size q22.2.1 q25).bind fun q26 => (F_Table_setRoot (q25.1 39 12) q22.1 q26 q22.2.1 q25).bind fun q27 => some ((), q22.2.1, q27)) else none) := by
    intro q' z g2 v2 hfl h12
    obtain ⟨w1, y1, y2, y3⟩ := f_setType (d := d) hd hfl z
    rw [y1, Option.bind_some, f_expect y2.1 y2.2.1 18 (by decide) g2, Option.bind_some]
    exact flU_fr y3 (t2 q' g2 w1 y2 ((frD_12 y3).trans h12))
  rw [h112]
  cases hp : pX T 17 s with
  | error q =>
    rw [hp] at x3
    have x3' : fl T n q g v1 := x3
    obtain ⟨g', v, k1, k2, k3, k4⟩ : flU T n d q g u ((F_Parser_readType N 24 1 0 g v1).bind fun q17 => if sh_Tb q17.2.1 = true then pm_S q17.2.1 ((F_Table_setType (ie d) q17.1 q17.2.1 q17.2.2).bind fun q20 => (F_Parser_expect 18 q17.2.1 q20).bind fun q21 => (F_Parser_readExpr N 24 1 q17.2.1 q21).bind fun q22 => if sh_Tb q22.2.1 = true then pm_S q22.2.1 ((F_Parser_expect 19 q22.2.1 q22.2.2).bind fun q25 => (F_Tree_size q22.2.1 q25).bind fun q26 => (F_Table_setRoot (q25.1 39 12) q22.1 q26 q22.2.1 q25).bind fun q27 => some ((), q22.2.1, q27)) else none) else none) :=
      flU_fr fr2 (flU_b (f_typeR N hN 0 x3') (fun z g' w hw hw12 => t1 q z g' w hw (hw12.trans h112)))
    exact ⟨g', v, k1, k3, k4, k2⟩
  | ok x =>
    rw [hp] at x3
    obtain ⟨hxeq, x5, x6⟩ := pX_ok (by omega) hp
    have hx1 : x.1 = s.1 + 1 := by rw [hxeq]; rfl
    have hx2 : x.2 = s.2 := by rw [hxeq]; rfl
    obtain ⟨zt, g', v2, f1, f2, f3, f4, f5⟩ := c_type N hN hG false x.1 (pmM ps) (oE cl0 x.2.1) g v1 Y x3.1 x3.2.1.2.1 x3.2.2.2.1 x3.2.2.2.2.1 x3.2.2.2.2.2.2.2 (by omega) (by omega) hm16
    have f1' : F_Parser_readType N 24 1 0 g v1 = some (zt, g', v2) := f1
    rw [f1', Option.bind_some, if_pos (gI_Tb f3.1)]
    have fr3 := fr_trans fr2 (fr_ED (fr_TE (d := d) f2))
    have h212 : v2.1 39 12 = ie d := (frE_12 (fr_TE (d := d) f2)).trans h112
    rw [pB_o]
    cases hp2 : pTy T 20 x.1 0 with
    | error q =>
      rw [hp2] at f5
      have f5' : fl T n q g' v2 := f5
      obtain ⟨g2, v3, k1, k2, k3, k4⟩ := flU_S (t1 q zt g' v2 f5' h212)
      exact ⟨g2, v3, k1, fr_trans fr3 k3, gL_trans f3 k4, k2⟩
    | ok t =>
      rw [hp2] at f5
      obtain ⟨kt, Z, rfl, u2, u3, u4, u5, u6, u7, u8, u9⟩ := f5
      have u2' : cT T n t.2.1 t.2.2 0 (pmM ps) (oE (oE cl0 x.2.1) (badL T (pmM ps) x.1 (t.2.1 - x.1))) g' v2 (Y ++ Z) := u2
      obtain ⟨b1, b2, b3, b4, b5, b6⟩ := u2'
      have hE4 := cE_T x3 f2 t.2.1 (oE x.2.1 (badL T (pmM ps) x.1 (t.2.1 - x.1))) b1 b4 (by rw [← oE_assoc]; exact b5) b6 f4
      have hst : F_Table_setType (ie d) (ie kt) g' v2 = some (wi v2 32 d (ie kt)) := by
        unfold F_Table_setType
        rw [if_neg (nlt0 d (by omega)), hE4.2.1.2.2.2.2, if_neg (fun hh => by have := (inle (d + 1) d (by omega) (by omega)).mp hh; omega), if_pos (okn d 30 (by omega) (by omega)), ntn d (by omega)]
      rw [hst, Option.bind_some]
      have hE5 := cE_wi hE4 32 d (ie kt) (by omega)
      obtain ⟨v3, j1, j2, j3⟩ := e_expect hG hE5 (by show t.2.1 ≤ _; omega) 18 (by omega)
      have j1' : F_Parser_expect 18 g' (wi v2 32 d (ie kt)) = some v3 := j1
      rw [j1', Option.bind_some]
      have fr4 : fr (cS_D d) v2 v3 := fr_trans (frD_wi _ _ _ (by omega) (fr_refl _ _)) (fr_ED (fr_TE (d := d) j2))
      have h312 : v3.1 39 12 = ie d := (frD_12 fr4).trans h212
      rw [pB_o]
      cases hp3 : pX T 18 (sAt (sWr x (oE x.2.1 (badL T (pmM ps) x.1 (t.2.1 - x.1)))) t.2.1) with
      | error q =>
        rw [hp3] at j3
        have j3' : fl T n q g' v3 := j3
        obtain ⟨g2, v4, k1, k2, k3, k4⟩ := flU_S (t2 q g' v3 j3' h312)
        exact ⟨g2, v4, k1, fr_trans fr3 (fr_trans fr4 k3), gL_trans f3 k4, k2⟩
      | ok z =>
        rw [hp3] at j3
        obtain ⟨hzeq, z5, z6⟩ := pX_ok (by omega) hp3
        have hz1 : z.1 = t.2.1 + 1 := by rw [hzeq]; rfl
        have hz4 : z.2.2.2 = x.2.2.2 := by rw [hzeq]; rfl
        have z5' : t.2.1 < T.length := z5
        have hz4' : z.2.2.2.1 = s.2.2.2.1 := by rw [hz4, hx2]
        have rm1 : rm T z (Y ++ Z) := ⟨by omega, by omega, by rw [List.length_append]; omega, h9⟩
        obtain ⟨ce1, ce2, ce3⟩ := c_expr (n := n) (d := d) (m := pmM ps) (cl0 := cl0) N hN hG 20 24 (by omega) (by omega)
        obtain ⟨zr, g2, v4, k1, k2, k3, k4⟩ := ce1 sc z g' v3 (Y ++ Z) j3 rm1
        have k1' : F_Parser_readExpr N 24 1 g' v3 = some (zr, g2, v4) := k1
        rw [k1', Option.bind_some, if_pos (gI_Tb k3.1)]
        have fr5 := fr_trans fr4 (fr_ED (d := d) k2)
        have h412 : v4.1 39 12 = ie d := (frE_12 k2).trans h312
        have gl2 := gL_trans f3 k3
        rw [pB_o]
        cases hp4 : pE T d (pmM ps) 20 sc z with
        | error q =>
          rw [hp4] at k4
          have k4' : fl T n q g2 v4 := k4
          obtain ⟨g3, v5, l1, l2, l3, l4⟩ := flU_S (t3 q zr g2 v4 k4' h412)
          rw [l1, pmS_some _ _ _ _ (Nat.le_trans k3.2.1 l4.2.1) (Nat.le_trans k3.2.2.1 l4.2.2.1)]
          exact ⟨g3, v5, rfl, fr_trans fr3 (fr_trans fr5 l3), gL_trans gl2 l4, l2⟩
        | ok q =>
          rw [hp4] at k4
          obtain ⟨rfl, Z2, k5, k6⟩ := k4
          obtain ⟨bb1, bb2, bb3, bb4, bb5, bb6, bb7⟩ := bR_u ce3 hp4 rm1.1 (cE_24 j3)
          obtain ⟨v5, i1, i2, i3⟩ := e_expect hG k5 bb2 19 (by omega)
          have i1' : F_Parser_expect 19 g2 v4 = some v5 := i1
          rw [i1', Option.bind_some]
          have fr6 := fr_trans fr5 (fr_ED (fr_TE (d := d) i2))
          have h512 : v5.1 39 12 = ie d := (frE_12 (fr_TE (d := d) i2)).trans h412
          unfold F_Tree_size
          rw [Option.bind_some]
          rw [pB_o]
          cases hp5 : pX T 19 q.2 with
          | error q' =>
            rw [hp5] at i3
            have i3' : fl T n q' g2 v5 := i3
            obtain ⟨w3, y1, y2, y3⟩ := f_setRoot (d := d) hd i3' (ie (q.1 : Nat)) (v5.1 18 10)
            rw [h512]
            show ∃ gg vv, pm_S g' (pm_S g2 ((F_Table_setRoot (ie d) (ie (q.1 : Nat)) (v5.1 18 10) g2 v5).bind fun q27 => some ((), g2, q27))) = _ ∧ _
            rw [y1, Option.bind_some, pmS_some _ _ _ _ (Nat.le_refl _) (Nat.le_refl _), pmS_some _ _ _ _ k3.2.1 k3.2.2.1]
            exact ⟨g2, w3, rfl, fr_trans fr3 (fr_trans fr6 y3), gl2, y2⟩
          | ok w =>
            rw [hp5] at i3
            obtain ⟨hweq, w5, w6⟩ := pX_ok (by omega) hp5
            have hw1 : w.1 = q.2.1 + 1 := by rw [hweq]; rfl
            have hw2 : w.2 = q.2.2 := by rw [hweq]; rfl
            have hsz : v5.1 18 10 = ie ((q.1 + 1 : Nat) : Int) := by
              rw [i3.2.2.2.2.2.2.1.1, hw2, bb4]
            have hsr : F_Table_setRoot (ie d) (ie (q.1 : Nat)) (ie ((q.1 + 1 : Nat) : Int)) g2 v5 = some (wi (wi v5 33 d (ie (q.1 : Nat))) 34 d (ie ((q.1 + 1 : Nat) : Int))) := by
              unfold F_Table_setRoot
              rw [if_neg (nlt0 d (by omega)), i3.2.1.2.2.2.2, if_neg (fun hh => by have := (inle (d + 1) d (by omega) (by omega)).mp hh; omega), if_pos (okn d 30 (by omega) (by omega)), if_pos (okn d 30 (by omega) (by omega)), ntn d (by omega)]
            rw [h512]
            show ∃ gg vv, pm_S g' (pm_S g2 ((F_Table_setRoot (ie d) (ie (q.1 : Nat)) (v5.1 18 10) g2 v5).bind fun q27 => some ((), g2, q27))) = _ ∧ _
            rw [hsz, hsr, Option.bind_some, pmS_some _ _ _ _ (Nat.le_refl _) (Nat.le_refl _), pmS_some _ _ _ _ k3.2.1 k3.2.2.1]
            have hE6 := cE_wi (cE_wi i3 33 d (ie (q.1 : Nat)) (by omega)) 34 d (ie ((q.1 + 1 : Nat) : Int)) (by omega)
            have fr7 : fr (cS_D d) v2 (wi (wi v5 33 d (ie (q.1 : Nat))) 34 d (ie ((q.1 + 1 : Nat) : Int))) := frD_wi _ _ _ (by omega) (frD_wi _ _ _ (by omega) fr6)
            have gl : gL g g2 := gl2
            refine ⟨g2, _, rfl, fr_trans fr3 fr7, gl, Z ++ Z2, pmM ps, ⟨sc, w.2.1, ?_, rfl⟩, ?_, ?_, ?_, ?_, ?_⟩
            · rw [← List.append_assoc]; exact hE6
            · -- the row of the DEF
              have hA : ∀ c i, (c = 29 ∨ (30 ≤ c ∧ c ≤ 34) ∨ c = 38) → v5.1 c i = v3.1 c i ∧ v5.2 c i = v3.2 c i := by
                intro c i hc
                have e1 := frE_29 (fr_TE (d := d) i2) c i hc
                have e2 := frE_29 k2 c i hc
                exact ⟨e1.1.trans e2.1, e1.2.trans e2.2⟩
              have hB : ∀ c i, (c = 29 ∨ (30 ≤ c ∧ c ≤ 34) ∨ c = 38) → v3.1 c i = (wi v2 32 d (ie kt)).1 c i ∧ v3.2 c i = v2.2 c i := by
                intro c i hc
                exact frE_29 (fr_TE (d := d) j2) c i hc
              have hC : ∀ c i, (c = 29 ∨ (30 ≤ c ∧ c ≤ 34) ∨ c = 38) → v2.1 c i = u1.1 c i ∧ v2.2 c i = u1.2 c i := by
                intro c i hc
                have e1 := frE_29 (fr_TE (d := d) f2) c i hc
                have e2 := frE_29 (fr_TE (d := d) x2) c i hc
                exact ⟨e1.1.trans e2.1, e1.2.trans e2.2⟩
              have g38 : ∀ k, k < 6 → (wi (wi v5 33 d (ie (q.1 : Nat))) 34 d (ie ((q.1 + 1 : Nat) : Int))).1 38 (d * 6 + k) = if k = 1 then ie (bc (pmM ps) : Nat) else if k = 0 then ie (List.length ps : Nat) else ie 0 := by
                intro k hk
                rw [wi_1, if_neg (by omega), wi_1, if_neg (by omega), (hA 38 _ (by omega)).1, (hB 38 _ (by omega)).1, wi_1, if_neg (by omega), (hC 38 _ (by omega)).1]
                exact h38 k hk
              refine ⟨?_, ?_, ⟨kt, ?_, ?_⟩, ?_, ?_, ?_, ?_, ?_, ?_⟩
              · show v5.2 30 d = _
                rw [(hA 30 d (by omega)).2, (hB 30 d (by omega)).2, (hC 30 d (by omega)).2]; exact h30'
              · show (wi (wi v5 33 d _) 34 d _).1 31 d = _
                rw [wi_1, if_neg (by omega), wi_1, if_neg (by omega), (hA 31 d (by omega)).1, (hB 31 d (by omega)).1, wi_1, if_neg (by omega), (hC 31 d (by omega)).1]; exact h31'
              · rw [wi_1, if_neg (by omega), wi_1, if_neg (by omega), (hA 32 d (by omega)).1, (hB 32 d (by omega)).1, wi_1, if_pos ⟨rfl, rfl⟩]
              · rw [← List.append_assoc, List.getElem?_append_left (List.getElem?_eq_some_iff.mp u3).1]; exact u3
              · rw [wi_1, if_neg (by omega), wi_1, if_pos ⟨rfl, rfl⟩]
              · rw [wi_1, if_pos ⟨rfl, rfl⟩]
              · rw [← List.append_assoc]; exact hE6.2.2.2.2.2.1
              · rw [g38 0 (by omega)]; rfl
              · rw [g38 1 (by omega)]; rfl
              · intro k k2 k6; rw [g38 k k6, if_neg (by omega), if_neg (by omega)]
            · rw [List.length_append] at k6 ⊢
              show Y.length + (Z.length + Z2.length) ≤ Y.length + (w.1 - s.1); omega
            · show s.1 < w.1; omega
            · show w.1 ≤ T.length; omega
            · show w.2.2.2.1 ≤ 2 * w.1
              rw [hw2]; omega
