set_option maxRecDepth 100000
theorem f_prog {T : List Tok} {n : Nat} {q : Nat × Nat} {g : pm_s} {u : pm_J} (N f : Nat) (hf : 0 < f) (x : Int32) (h : fl T n q g u) : K_Parser_readProgram_7 N f x g u = some ((), g, u) := by
  obtain ⟨f, rfl⟩ : ∃ f', f = f' + 1 := ⟨f - 1, by omega⟩
  rw [K_Parser_readProgram_7, f_kind h.1 g]
  unfold F_Tokens_size
  rw [Option.bind_some, Option.bind_some, if_pos rfl]
  split <;> rfl
theorem c_progL {T : List Tok} {n : Nat} (N : Nat) (hN : 100000 ≤ N) (hG : tkG T) (f : Nat) : ∀ (k x a : Nat) (D : List Df) (t : Tr) (g : pm_s) (u : pm_J) (Y : List Ty), f + D.length = 31 → f + 1 < k → x ≤ a → cQ T n D a t g u Y → a ≤ T.length → Y.length + (T.length - a) ≤ 60000 → t.1 ≤ 2 * a →
    ∃ (g' : pm_s) (v : pm_J), K_Parser_readProgram_7 N k (ie x) g u = some ((), g', v) ∧ fr cS_Q u v ∧ gL g g' ∧
      (match pProg T f D a t with
       | .error q => fl T n q g' v
       | .ok q => ∃ (Z : List Ty) (a' : Nat), cQ T n q.1 a' q.2 g' v (Y ++ Z) ∧ Y.length + Z.length ≤ Y.length + (a' - a) ∧ a ≤ a' ∧ a' ≤ T.length ∧ q.2.1 ≤ 2 * a') := by
  induction f with
  | zero => intro k x a D t g u Y hf hk hx h ha hY hn; have := h.2.2.2.2.1.2; omega
  | succ f ih =>
    intro k x a D t g u Y hf hk hx h ha hY hn
    obtain ⟨k, rfl⟩ : ∃ f', k = f' + 1 := ⟨k - 1, by omega⟩
    have h9 := h.1.2.1.2.1
    have k0 : (ie (tkK T a : Int) = 0) ↔ tkK T a = 0 := kq (hG.1 a) 0 (by omega)
    rw [pProg, K_Parser_readProgram_7, k_kind h.1 ha g]
    unfold F_Tokens_size
    rw [Option.bind_some, Option.bind_some, h.1.2.1.1]
    simp only [k0]
    by_cases e0 : tkK T a = 0
    · rw [if_pos e0, if_pos e0]
      refine ⟨g, u, ?_, fr_refl _ _, gL_refl h.2.1.2.2.1, [], a, by rw [List.append_nil]; exact h, by show Y.length + 0 ≤ _; omega, Nat.le_refl _, ha, hn⟩
      split <;> rfl
    · have hlt := tkK_lt e0
      rw [if_neg e0, if_neg e0, if_neg (fun hh => by have := (inle T.length x (by omega) (by omega)).mp hh; omega)]
      obtain ⟨g1, v1, y1, y2, y3, y4⟩ := c_def N hN hG h ha hY hn
      rw [y1, Option.bind_some, if_pos (gI_Tb y3.1), iadd1]
      cases hp : pDef T D.length a t with
      | error q =>
        rw [hp] at y4
        have y4' : fl T n q g1 v1 := y4
        rw [f_prog N k (by omega) _ y4', pmS_some _ _ _ _ (Nat.le_refl _) (Nat.le_refl _)]
        exact ⟨g1, v1, rfl, y2, y3, y4'⟩
      | ok q =>
        rw [hp] at y4
        obtain ⟨Z, y5, y6, y7, y8, y9⟩ := y4
        obtain ⟨g2, v2, z1, z2, z3, z4⟩ := ih k (x + 1) q.2.1 (D ++ [q.1]) q.2.2 g1 v1 (Y ++ Z) (by rw [List.length_append]; show f + (D.length + 1) = 31; omega) (by omega) (by omega) y5 y8 (by rw [List.length_append]; omega) y9
        rw [z1, pmS_some _ _ _ _ z3.2.1 z3.2.2.1]
        refine ⟨g2, v2, rfl, fr_trans y2 z2, gL_trans y3 z3, ?_⟩
        rw [pB_o]
        cases hr : pProg T f (D ++ [q.1]) q.2.1 q.2.2 with
        | error e' => rw [hr] at z4; exact z4
        | ok p =>
          rw [hr] at z4
          obtain ⟨Z2, a', x1, x2, x3, x4, x5⟩ := z4
          refine ⟨Z ++ Z2, a', by rw [← List.append_assoc]; exact x1, ?_, by omega, x4, x5⟩
          rw [List.length_append] at x2 ⊢; omega
theorem c_prog {T : List Tok} {n : Nat} {g : pm_s} {u : pm_J} {Y : List Ty} (N : Nat) (hN : 100000 ≤ N) (hG : tkG T) (h : cQ T n [] 0 tr0 g (wi u 39 11 (ie 0)) Y) (hY : Y.length ≤ 1000) :
    ∃ (g' : pm_s) (v : pm_J), F_Parser_readProgram N g u = some ((), g', v) ∧ fr cS_Q u v ∧ gL g g' ∧
      (match pProg T 31 [] 0 tr0 with
       | .error q => fl T n q g' v
       | .ok q => ∃ (Z : List Ty) (a' : Nat), cQ T n q.1 a' q.2 g' v (Y ++ Z) ∧ Y.length + Z.length ≤ Y.length + 900) := by
  have h9 := h.1.2.1.2.1
  obtain ⟨g', v, y1, y2, y3, y4⟩ := c_progL N hN hG 31 N 0 0 [] tr0 g _ Y rfl (by omega) (by omega) h (by omega) (by omega) (by decide)
  have y1' : K_Parser_readProgram_7 N N 0 g (wi u 39 11 0) = some ((), g', v) := y1
  unfold F_Parser_readProgram
  rw [y1', pmS_some _ _ _ _ y3.2.1 y3.2.2.1]
  refine ⟨g', v, rfl, fr_trans (frQ_wi _ _ _ (by omega) (fr_refl _ _)) y2, y3, ?_⟩
  cases hr : pProg T 31 [] 0 tr0 with
  | error q => rw [hr] at y4; exact y4
  | ok q =>
    rw [hr] at y4
    obtain ⟨Z, a', x1, x2, x3, x4, x5⟩ := y4
    exact ⟨Z, a', x1, by omega⟩
