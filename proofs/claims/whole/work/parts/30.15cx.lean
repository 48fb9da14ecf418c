set_option maxRecDepth 100000
theorem frE_12 {d : Nat} {u v : pm_J} (h : fr (cS_E d) u v) : v.1 39 12 = u.1 39 12 := (h 39 12 (by
  unfold cS_E
  show (cS_T 39 12 || _ || _ || _ || _ || _ || _) = false
  simp [show cS_T 39 12 = false from rfl, Nat.beq, Nat.ble])).1
def flR (T : List Tok) (n d : Nat) (q : Nat × Nat) (g : pm_s) (u : pm_J) (F : Option (Int32 × pm_s × pm_J)) : Prop := ∃ z g' v, F = some (z, g', v) ∧ fl T n q g' v ∧ fr (cS_E d) u v ∧ gL g g'
theorem fl_gI {T : List Tok} {n : Nat} {q : Nat × Nat} {g : pm_s} {u : pm_J} (h : fl T n q g u) : gI g := by obtain ⟨Y, hY⟩ := h.2.2; exact hY.2.2.1
theorem flR_S {T : List Tok} {n d : Nat} {q : Nat × Nat} {g : pm_s} {u : pm_J} {F : Option (Int32 × pm_s × pm_J)} (h : flR T n d q g u F) : flR T n d q g u (pm_S g F) := by
  obtain ⟨z, g', v, rfl, h2, h3, h4⟩ := h
  exact ⟨z, g', v, pmS_some _ _ _ _ h4.2.1 h4.2.2.1, h2, h3, h4⟩
theorem flR_b {T : List Tok} {n d : Nat} {q : Nat × Nat} {g : pm_s} {u : pm_J} {F : Option (Int32 × pm_s × pm_J)} {f : Int32 × pm_s × pm_J → Option (Int32 × pm_s × pm_J)} (h : flR T n d q g u F) (hf : ∀ z g' v, fl T n q g' v → flR T n d q g' v (f (z, g', v))) : flR T n d q g u (F.bind fun x => if sh_Tb x.2.1 = true then pm_S x.2.1 (f x) else none) := by
  obtain ⟨z, g', v, rfl, h2, h3, h4⟩ := h
  obtain ⟨z2, g2, v2, y1, y2, y3, y4⟩ := flR_S (hf z g' v h2)
  rw [Option.bind_some, if_pos (gI_Tb h4.1)]
  exact ⟨z2, g2, v2, y1, y2, fr_trans h3 y3, gL_trans h4 y4⟩
theorem flR_1 {T : List Tok} {n d : Nat} {q : Nat × Nat} {g : pm_s} {u v : pm_J} (z : Int32) (h : flE T n d q g u v) : flR T n d q g u (some (z, g, v)) := ⟨z, g, v, rfl, h.1, h.2, gL_refl (fl_gI h.1)⟩
theorem flR_fr {T : List Tok} {n d : Nat} {q : Nat × Nat} {g : pm_s} {u v : pm_J} {F : Option (Int32 × pm_s × pm_J)} (h1 : fr (cS_E d) u v) (h : flR T n d q g v F) : flR T n d q g u F := by
  obtain ⟨z, g', w, y1, y2, y3, y4⟩ := h
  exact ⟨z, g', w, y1, y2, fr_trans h1 y3, y4⟩
theorem f_begins {T : List Tok} {n : Nat} {q : Nat × Nat} {g : pm_s} {u : pm_J} (h : fl T n q g u) : F_Parser_beginsAtom g u = some 0 := by
  unfold F_Parser_beginsAtom; rw [f_kind h.1 g]; rfl
theorem f_atom {T : List Tok} {n d : Nat} {q : Nat × Nat} {g : pm_s} {u : pm_J} (N : Nat) (R : Int32 → pm_s → pm_J → Option (Int32 × pm_s × pm_J)) (dp : Int32) (h : fl T n q g u) : F_Parser_readAtom N R dp g u = some (-1, g, u) := by
  obtain ⟨p, hp⟩ := s_here h.2.1 g
  unfold F_Parser_readAtom
  rw [f_kind h.1 g, Option.bind_some, if_neg (show ¬ ((0 : Int32) = 1) by decide), if_neg (show ¬ ((0 : Int32) = 2) by decide), if_neg (show ¬ ((0 : Int32) = 3) by decide), if_neg (show ¬ ((0 : Int32) = 15) by decide), hp, Option.bind_some, f_tell h.1, Option.bind_some, pmS_some _ _ _ _ (Nat.le_refl _) (Nat.le_refl _)]
theorem f_call {T : List Tok} {n d : Nat} {q : Nat × Nat} {g : pm_s} {u : pm_J} (N : Nat) (R : Int32 → pm_s → pm_J → Option (Int32 × pm_s × pm_J)) (dp : Int32) (h : fl T n q g u) : F_Parser_readCall N R dp g u = some (-1, g, u) := by
  unfold F_Parser_readCall K_Parser_readCall_80
  rw [f_kind h.1 g, Option.bind_some, if_neg (show ¬ ((0 : Int32) = 13) by decide), Option.bind_some, if_neg (show ¬ ((0 : Int32) = 14) by decide), Option.bind_some, if_neg (show ¬ ((0 : Int32) = 1) by decide), f_atom (d := d) N R dp h, Option.bind_some, if_pos (gI_Tb (fl_gI h)), f_begins h, Option.bind_some, if_pos rfl, pmS_some _ _ _ _ (Nat.le_refl _) (Nat.le_refl _), pmS_some _ _ _ _ (Nat.le_refl _) (Nat.le_refl _)]
theorem f_sumL {T : List Tok} {n d : Nat} {q : Nat × Nat} {g : pm_s} {u : pm_J} (N : Nat) (R : Int32 → pm_s → pm_J → Option (Int32 × pm_s × pm_J)) (f : Nat) (hf : 0 < f) (x1 x2 x3 : Int32) (h : fl T n q g u) : K_Parser_readSum_8 N R f x1 x2 x3 g u = some (x2, g, u) := by
  obtain ⟨f, rfl⟩ : ∃ f', f = f' + 1 := ⟨f - 1, by omega⟩
  rw [K_Parser_readSum_8]
  unfold F_Parser_isSumSign
  rw [f_kind h.1 g]
  simp only [Option.bind_some, show ¬ ((0 : Int32) = 22) by decide, show ¬ ((0 : Int32) = 23) by decide, if_false, if_true]
  split <;> rfl
theorem f_sum {T : List Tok} {n d : Nat} {q : Nat × Nat} {g : pm_s} {u : pm_J} (N : Nat) (hN : 100 ≤ N) (R : Int32 → pm_s → pm_J → Option (Int32 × pm_s × pm_J)) (dp : Int32) (h : fl T n q g u) : F_Parser_readSum N R dp g u = some (-1, g, u) := by
  unfold F_Parser_readSum
  rw [f_call (d := d) N R dp h, Option.bind_some, if_pos (gI_Tb (fl_gI h)), f_sumL (d := d) N R N (by omega) dp (-1) 0 h, pmS_some _ _ _ _ (Nat.le_refl _) (Nat.le_refl _), pmS_some _ _ _ _ (Nat.le_refl _) (Nat.le_refl _)]
theorem f_cmp {T : List Tok} {n d : Nat} {q : Nat × Nat} {g : pm_s} {u : pm_J} (N : Nat) (hN : 100 ≤ N) (R : Int32 → pm_s → pm_J → Option (Int32 × pm_s × pm_J)) (dp : Int32) (h : fl T n q g u) : F_Parser_readComparison N R dp g u = some (-1, g, u) := by
  unfold F_Parser_readComparison
  rw [f_sum (d := d) N hN R dp h, Option.bind_some, if_pos (gI_Tb (fl_gI h)), f_kind h.1 g, Option.bind_some, if_neg (show ¬ ((0 : Int32) = 24) by decide), pmS_some _ _ _ _ (Nat.le_refl _) (Nat.le_refl _), pmS_some _ _ _ _ (Nat.le_refl _) (Nat.le_refl _)]
theorem f_expr {T : List Tok} {n d : Nat} {q : Nat × Nat} {g : pm_s} {u : pm_J} (N : Nat) (hN : 100 ≤ N) (k : Nat) (hk : 0 < k) (dp : Int32) (h : fl T n q g u) : F_Parser_readExpr N k dp g u = some (-1, g, u) := by
  obtain ⟨k, rfl⟩ : ∃ f', k = f' + 1 := ⟨k - 1, by omega⟩
  rw [F_Parser_readExpr]
  unfold FO_Parser_readExpr
  by_cases h20 : dp ≤ 20
  · rw [if_pos h20, f_kind h.1 g, Option.bind_some, if_neg (show ¬ ((0 : Int32) = 7) by decide), if_neg (show ¬ ((0 : Int32) = 9) by decide), if_neg (show ¬ ((0 : Int32) = 12) by decide), f_cmp (d := d) N hN _ dp h, Option.bind_some, if_pos (gI_Tb (fl_gI h)), pmS_some _ _ _ _ (Nat.le_refl _) (Nat.le_refl _), pmS_some _ _ _ _ (Nat.le_refl _) (Nat.le_refl _)]
  · obtain ⟨p, hp⟩ := s_here h.2.1 g
    rw [if_neg h20, hp, Option.bind_some, f_tell h.1, Option.bind_some, pmS_some _ _ _ _ (Nat.le_refl _) (Nat.le_refl _)]
theorem e_leaf {T : List Tok} {n d m : Nat} {cl0 : Option Nat} {sc : Sc} {s : PS} {g : pm_s} {u : pm_J} {Y : List Ty} (N : Nat) (hN : 100 ≤ N) (h : cE T n d m cl0 sc s g u Y) (hs : s.1 < T.length) (hn : s.2.2.2.1 < 1800) (k : Nat) (l : Int) :
    ∃ v, F_Parser_readLeafExpr N (ie k) (ie l) g u = some (ie (s.2.2.2.1 : Nat), v) ∧ fr (cS_E d) u v ∧ cE T n d m cl0 sc (pLeaf T k l s).2 g v Y := by
  unfold F_Parser_readLeafExpr
  rw [k_here h.1 (by omega) g, Option.bind_some]
  obtain ⟨v, v1, v2, v3⟩ := e_add N hN h hn k s.1 l (-1) (-1) []
  have v1' : F_Tree_add N (ie k) (ie (tkP T n s.1)) (ie l) (-1) (-1) g u = some (ie (s.2.2.2.1 : Nat), v) := v1
  rw [v1', Option.bind_some]
  have hat : v.1 39 11 = ie (s.1 : Nat) := v3.1.2.2.2
  rw [hat, k_value v3.1.2.1 (by omega) g, Option.bind_some]
  obtain ⟨w, w1, w2, w3⟩ := e_setV v3 (tkV T s.1)
  have hat2 : w.1 39 11 = ie (s.1 : Nat) := w3.1.2.2.2
  rw [w1, Option.bind_some, hat2, iadd1]
  exact ⟨_, rfl, frE_wi _ _ _ (by omega) (fr_trans v2 w2), cE_at w3 (s.1 + 1)⟩
theorem peC_0 {T : List Tok} {n d m : Nat} {cl0 : Option Nat} {sc : Sc} {s : PS} {g : pm_s} {u v : pm_J} {Y : List Ty} {q : Nat × PS} (hv : fr (cS_E d) u v) (h : cE T n d m cl0 sc q.2 g v Y) : peC T n d m cl0 sc s g u Y (.ok q) (some (ie (q.1 : Nat), g, v)) :=
  ⟨_, g, v, rfl, hv, gL_refl h.2.2.2.2.1.2.2.1, rfl, [], by rw [List.append_nil]; exact h, by show Y.length + 0 ≤ _; omega⟩
theorem peC_S {T : List Tok} {n d m : Nat} {cl0 : Option Nat} {sc : Sc} {s : PS} {g : pm_s} {u : pm_J} {Y : List Ty} {x : PE (Nat × PS)} {F : Option (Int32 × pm_s × pm_J)} (h : peC T n d m cl0 sc s g u Y x F) : peC T n d m cl0 sc s g u Y x (pm_S g F) := by
  obtain ⟨z, g', v, rfl, h2, h3, h4⟩ := h
  exact ⟨z, g', v, pmS_some _ _ _ _ h3.2.1 h3.2.2.1, h2, h3, h4⟩
theorem peC_f {T : List Tok} {n d m : Nat} {cl0 : Option Nat} {sc : Sc} {s : PS} {g : pm_s} {u : pm_J} {Y : List Ty} {q : Nat × Nat} {F : Option (Int32 × pm_s × pm_J)} (h : flR T n d q g u F) : peC T n d m cl0 sc s g u Y (.error q) F := by
  obtain ⟨z, g', v, h1, h2, h3, h4⟩ := h
  exact ⟨z, g', v, h1, h3, h4, h2⟩
theorem peC_b {T : List Tok} {n d m : Nat} {cl0 : Option Nat} {sc sc' : Sc} {s s' : PS} {g : pm_s} {u u' : pm_J} {Y : List Ty} {x : PE (Nat × PS)} {k : Nat × PS → PE (Nat × PS)} {F : Option (Int32 × pm_s × pm_J)} {f : Int32 × pm_s × pm_J → Option (Int32 × pm_s × pm_J)}
    (h : peC T n d m cl0 sc' s' g u' Y x F) (hu : fr (cS_E d) u u') (hss : s.1 ≤ s'.1) (hb : bOK T s' x)
    (hok : ∀ q g' v Z, x = .ok q → s'.1 < q.2.1 → q.2.1 ≤ T.length → fr (cS_E d) u v → gL g g' → cE T n d m cl0 sc' q.2 g' v (Y ++ Z) → Z.length ≤ q.2.1 - s'.1 → peC T n d m cl0 sc q.2 g' v (Y ++ Z) (k q) (f (ie (q.1 : Nat), g', v)))
    (her : ∀ q z g' v, fl T n q g' v → v.1 39 12 = u.1 39 12 → flR T n d q g' v (f (z, g', v)))
    (hk : ∀ q p, x = .ok q → k q = .ok p → q.2.1 ≤ p.2.1) :
    peC T n d m cl0 sc s g u Y (pB x k) (F.bind fun w => if sh_Tb w.2.1 = true then pm_S w.2.1 (f w) else none) := by
  obtain ⟨z, g', v, rfl, h2, h3, h4⟩ := h
  rw [Option.bind_some, if_pos (gI_Tb h3.1)]
  have hfr := fr_trans hu h2
  cases x with
  | error q =>
    have := her q z g' v h4 (frE_12 hfr)
    obtain ⟨z2, g2, v2, y1, y2, y3, y4⟩ := flR_S this
    exact ⟨z2, g2, v2, y1, fr_trans hfr y3, gL_trans h3 y4, y2⟩
  | ok q =>
    obtain ⟨rfl, Z, c1, c2⟩ := h4
    obtain ⟨b1, b2, _⟩ := hb q rfl
    obtain ⟨z2, g2, v2, y1, y2, y3, y4⟩ := peC_S (hok q g' v Z rfl b1 b2 hfr h3 c1 (by omega))
    refine ⟨z2, g2, v2, y1, fr_trans hfr y2, gL_trans h3 y3, ?_⟩
    show (match k q with
     | .error q => fl T n q g2 v2
     | .ok q => _)
    cases hkq : k q with
    | error e' => rw [hkq] at y4; exact y4
    | ok p =>
      rw [hkq] at y4
      obtain ⟨w1, Z2, w2, w3⟩ := y4
      have hp := hk q p rfl hkq
      refine ⟨w1, Z ++ Z2, by rw [← List.append_assoc]; exact w2, ?_⟩
      rw [List.length_append] at w3 ⊢
      omega
