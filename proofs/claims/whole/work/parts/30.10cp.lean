set_option maxRecDepth 100000
theorem csy_T {c i : Nat} (h : cS_T c i = false) : cS_y c i = false := by
  unfold cS_T at h
  cases hh : cS_y c i with
  | false => rfl
  | true => rw [hh] at h; simp at h
theorem fr_yT {u v : pm_J} (h : fr cS_y u v) : fr cS_T u v := fr_sub h (fun _ _ h => csy_T h)
theorem csy_no {c i : Nat} (h : c < 10 ∨ (17 < c ∧ c < 140)) : cS_y c i = false := by
  cases hh : cS_y c i with
  | false => rfl
  | true => have := csy_lo hh; omega
theorem fry_1 {u v : pm_J} (h : fr cS_y u v) (c i : Nat) (hc : c < 10 ∨ (17 < c ∧ c < 140)) : v.1 c i = u.1 c i := (h c i (csy_no hc)).1
theorem fry_2 {u v : pm_J} (h : fr cS_y u v) (c i : Nat) (hc : c < 10 ∨ (17 < c ∧ c < 140)) : v.2 c i = u.2 c i := (h c i (csy_no hc)).2
theorem cBI_y {u v : pm_J} (hb : cBI u) (h : fr cS_y u v) : cBI v :=
  cBI_cong hb (fry_1 h _ _ (by omega)) (fry_1 h _ _ (by omega)) (fry_1 h _ _ (by omega)) (fry_1 h _ _ (by omega)) (fun d => fry_1 h _ _ (by omega)) (fry_1 h _ _ (by omega))
theorem cT_y {T : List Tok} {n a c b m : Nat} {cl : Option Nat} {g g' : pm_s} {u v : pm_J} {Y Y' : List Ty} (h : cT T n a c b m cl g u Y) (hf : fr cS_y u v) (hy : tyC g' v Y') : cT T n a c b m cl g' v Y' := by
  obtain ⟨h1, h2, h3, h4, h5, h6⟩ := h
  refine ⟨cTk_at h1 (fry_1 hf _ _ (by omega)) (fun i => fry_1 hf _ _ (by omega)) (fun i => ⟨fry_1 hf _ _ (by omega), fry_1 hf _ _ (by omega), fry_2 hf _ _ (by omega)⟩) ((fry_1 hf _ _ (by omega)).trans h1.2.2.2), (fry_1 hf _ _ (by omega)).trans h2, (fry_1 hf _ _ (by omega)).trans h3, (fry_1 hf _ _ (by omega)).trans h4, ?_, hy⟩
  cases cl with
  | none => exact (fry_1 hf 4 0 (by omega)).trans h5
  | some x => exact ⟨(fry_1 hf 4 0 (by omega)).trans h5.1, (fry_1 hf 4 1 (by omega)).trans h5.2⟩
theorem fl_y {T : List Tok} {n : Nat} {q : Nat × Nat} {g g' : pm_s} {u v : pm_J} {Y' : List Ty} (h : fl T n q g u) (hf : fr cS_y u v) (hy : tyC g' v Y') : fl T n q g' v := by
  obtain ⟨h1, h2, Y, h4⟩ := h
  exact ⟨⟨(fry_1 hf _ _ (by omega)).trans h1.1, h1.2.1, h1.2.2.1, (fry_1 hf _ _ (by omega)).trans h1.2.2.2⟩, cBI_y h2 hf, Y', hy⟩
theorem cBI_b {u : pm_J} (h : cBI u) (b : Nat) (hb : b ≤ 200) (k : Nat) (x : Int32) : cBI (wi (wi u 42 k x) 39 10 (ie b)) := by
  obtain ⟨a1, a2, a3, a4, a5, a6⟩ := h
  exact ⟨⟨b, hb, rfl⟩, a2, a3, a4, a5, a6⟩
theorem cBI_b1 {u : pm_J} (h : cBI u) (b : Nat) (hb : b ≤ 200) : cBI (wi u 39 10 (ie b)) := by
  obtain ⟨a1, a2, a3, a4, a5, a6⟩ := h
  exact ⟨⟨b, hb, rfl⟩, a2, a3, a4, a5, a6⟩
theorem s_push {u : pm_J} (h : cBI u) (z : Int32) (g : pm_s) : ∃ v, F_Parser_pushBase z g u = some v ∧ fr cS_T u v ∧ cBI v ∧ (∀ c i, cS_y c i = true → v.1 c i = u.1 c i) ∧ v.1 3 0 = u.1 3 0 ∧ v.1 3 1 = u.1 3 1 := by
  obtain ⟨b, hb, hc⟩ := h.1
  unfold F_Parser_pushBase
  rw [hc]
  by_cases h2 : 200 ≤ b
  · rw [if_pos (show (200 : Int32) ≤ ie b from (inle 200 b (by omega) (by omega)).mpr h2)]
    exact ⟨u, rfl, fr_refl _ _, h, fun _ _ _ => rfl, rfl, rfl⟩
  · rw [if_neg (show ¬ ((200 : Int32) ≤ ie b) from fun hh => h2 ((inle 200 b (by omega) (by omega)).mp hh)), if_pos (okn b 200 (by omega) (by omega)), ntn b (by omega), iadd1]
    refine ⟨_, rfl, fr_wi _ _ _ _ _ _ rfl (fr_wi _ _ _ _ _ _ rfl (fr_refl _ _)), cBI_b h (b + 1) (by omega) _ _, ?_, rfl, rfl⟩
    intro c i hci; rw [wi_csy _ _ _ _ (by omega) c i hci, wi_csy _ _ _ _ (by omega) c i hci]
theorem s_pop {u : pm_J} (h : cBI u) (g : pm_s) : ∃ x v, F_Parser_popBase g u = some (x, v) ∧ fr cS_T u v ∧ cBI v ∧ (∀ c i, cS_y c i = true → v.1 c i = u.1 c i) ∧ v.1 3 0 = u.1 3 0 ∧ v.1 3 1 = u.1 3 1 := by
  obtain ⟨b, hb, hc⟩ := h.1
  unfold F_Parser_popBase
  rw [hc]
  by_cases h2 : 1 ≤ b
  · have e1 : ie (b : Int) - 1 = ie ((b - 1 : Nat) : Int) := by rw [show (1 : Int32) = ie 1 from rfl, ie_sub]; congr 1; omega
    rw [if_pos (show (1 : Int32) ≤ ie b from (inle 1 b (by omega) (by omega)).mpr h2), e1, if_pos (okn (b - 1) 200 (by omega) (by omega))]
    refine ⟨_, _, rfl, fr_wi _ _ _ _ _ _ rfl (fr_refl _ _), cBI_b1 h (b - 1) (by omega), ?_, rfl, rfl⟩
    intro c i hci; rw [wi_csy _ _ _ _ (by omega) c i hci]
  · rw [if_neg (show ¬ ((1 : Int32) ≤ ie b) from fun hh => h2 ((inle 1 b (by omega) (by omega)).mp hh))]
    exact ⟨_, u, rfl, fr_refl _ _, h, fun _ _ _ => rfl, rfl, rfl⟩
theorem f_push {T : List Tok} {n : Nat} {q : Nat × Nat} {g : pm_s} {u : pm_J} (h : fl T n q g u) (z : Int32) : ∃ v, F_Parser_pushBase z g u = some v ∧ fl T n q g v ∧ fr cS_T u v := by
  obtain ⟨v, v1, v2, v3, v4, v5, v6⟩ := s_push h.2.1 z g
  exact ⟨v, v1, fl_of h v5 v6 v3 v4, v2⟩
theorem f_pop {T : List Tok} {n : Nat} {q : Nat × Nat} {g : pm_s} {u : pm_J} (h : fl T n q g u) : ∃ x v, F_Parser_popBase g u = some (x, v) ∧ fl T n q g v ∧ fr cS_T u v := by
  obtain ⟨x, v, v1, v2, v3, v4, v5, v6⟩ := s_pop h.2.1 g
  exact ⟨x, v, v1, fl_of h v5 v6 v3 v4, v2⟩
def flP (T : List Tok) (n : Nat) (q : Nat × Nat) (g : pm_s) (u : pm_J) (F : Option (Int32 × pm_s × pm_J)) : Prop := ∃ z g' v, F = some (z, g', v) ∧ fl T n q g' v ∧ fr cS_T u v ∧ gL g g'
theorem f_91 {T : List Tok} {n : Nat} {q : Nat × Nat} (N : Nat) (hN : 100000 ≤ N) (R : Int32 → Int32 → pm_s → pm_J → Option (Int32 × pm_s × pm_J)) (j : Nat) : ∀ (m x5 : Nat) (x3 x4 : Int32) (g : pm_s) (u : pm_J), x5 + j = 8 → j < m → fl T n q g u → flP T n q g u (K_Parser_readPart_91 N R m x3 x4 (ie x5) g u) := by
  induction j with
  | zero =>
    intro m x5 x3 x4 g u hx hm h
    obtain ⟨m, rfl⟩ : ∃ f', m = f' + 1 := ⟨m - 1, by omega⟩
    obtain ⟨Y, hY⟩ := h.2.2
    rw [K_Parser_readPart_91, if_pos (show (8 : Int32) ≤ ie x5 from (inle 8 x5 (by omega) (by omega)).mpr (by omega))]
    exact ⟨_, _, _, rfl, h, fr_refl _ _, gL_refl hY.2.2.1⟩
  | succ j ih =>
    intro m x5 x3 x4 g u hx hm h
    obtain ⟨m, rfl⟩ : ∃ f', m = f' + 1 := ⟨m - 1, by omega⟩
    obtain ⟨Y, hY⟩ := h.2.2
    rw [K_Parser_readPart_91, if_neg (show ¬ ((8 : Int32) ≤ ie x5) from fun hh => by have := (inle 8 x5 (by omega) (by omega)).mp hh; omega)]
    by_cases hle : u.1 39 10 ≤ x3
    · rw [if_pos hle]; exact ⟨_, _, _, rfl, h, fr_refl _ _, gL_refl hY.2.2.1⟩
    · rw [if_neg hle]
      obtain ⟨x, v, v1, v2, v3⟩ := f_pop h
      rw [v1, Option.bind_some]
      obtain ⟨Y2, hY2⟩ := v2.2.2
      obtain ⟨z, g', w, Z, w1, w2, w3, w4⟩ := s_make N hN hY2 false x x4
      have w1' : F_Types_make N 3 x x4 g v = some (z, g', w) := w1
      rw [w1', Option.bind_some, if_pos (gI_Tb w4.1), iadd1]
      obtain ⟨z2, g2, w5, y1, y2, y3, y4⟩ := ih m (x5 + 1) x3 z g' w (by omega) (by omega) (fl_y v2 w3 w2)
      rw [y1, pmS_some _ _ _ _ y4.2.1 y4.2.2.1]
      exact ⟨z2, g2, w5, rfl, y2, fr_trans v3 (fr_trans (fr_yT w3) y3), gL_trans w4 y4⟩
theorem f_18 {T : List Tok} {n : Nat} {q : Nat × Nat} (N : Nat) (hN : 100000 ≤ N) (R : Int32 → Int32 → pm_s → pm_J → Option (Int32 × pm_s × pm_J)) (m : Nat) (hm : 0 < m) (x1 x2 x3 x4 : Int32) (g : pm_s) (u : pm_J) (h : fl T n q g u) : flP T n q g u (K_Parser_readPart_18 N R m x1 x2 x3 x4 g u) := by
  obtain ⟨m, rfl⟩ : ∃ f', m = f' + 1 := ⟨m - 1, by omega⟩
  obtain ⟨x, v, v1, v2, v3⟩ := f_pop h
  obtain ⟨z2, g2, w5, y1, y2, y3, y4⟩ := f_91 N hN R 8 N 0 x3 x g v (by omega) (by omega) v2
  have y1' : K_Parser_readPart_91 N R N x3 x 0 g v = some (z2, g2, w5) := y1
  rw [K_Parser_readPart_18, f_kind h.1 g, Option.bind_some, if_neg (show ¬ ((0 : Int32) = 21) by decide), v1, Option.bind_some, y1']
  refine ⟨z2, g2, w5, ?_, y2, fr_trans v3 y3, y4⟩
  split <;> rfl
def foldM : List Ty → Ty → Ty
  | [], p => p
  | t :: M, p => foldM M (.add t p)
def bsR (u : pm_J) (Y : List Ty) (b : Nat) : List Ty → Prop
  | [] => True
  | t :: M => (∃ k : Nat, u.1 42 (b + M.length) = ie k ∧ Y[k]? = some t) ∧ bsR u Y b M
theorem bsR_cong (u v : pm_J) (Y : List Ty) (Z : List Ty) (b : Nat) (M : List Ty) (h : bsR u Y b M) (hv : ∀ i, i < b + M.length → v.1 42 i = u.1 42 i) : bsR v (Y ++ Z) b M := by
  induction M with
  | nil => trivial
  | cons t M ih =>
    obtain ⟨⟨k, k1, k2⟩, h2⟩ := h
    have hlen : (t :: M).length = M.length + 1 := rfl
    refine ⟨⟨k, by rw [hv _ (by omega)]; exact k1, by rw [List.getElem?_append_left (List.getElem?_eq_some_iff.mp k2).1]; exact k2⟩, ih h2 (fun i hi => hv i (by omega))⟩
theorem bsR_cong0 (u v : pm_J) (Y : List Ty) (b : Nat) (M : List Ty) (h : bsR u Y b M) (hv : ∀ i, v.1 42 i = u.1 42 i) : bsR v Y b M := by
  have := bsR_cong u v Y [] b M h (fun i _ => hv i)
  rwa [List.append_nil] at this
theorem foldM_M (M : List Ty) (p : Ty) (h : ∀ t ∈ M, tyM t < 16) (hp : tyM p < 16) : tyM (foldM M p) < 16 := by
  induction M generalizing p with
  | nil => exact hp
  | cons t M ih =>
    apply ih
    · exact fun x hx => h x (by simp [hx])
    · show tyM t ||| tyM p < 16
      exact or_lt16 _ (h t (by simp)) _ hp
theorem cT_b {T : List Tok} {n a c b m : Nat} {cl : Option Nat} {g : pm_s} {u : pm_J} {Y : List Ty} (h : cT T n a c b m cl g u Y) (b' : Nat) : cT T n a c b' m cl g (wi u 39 10 (ie b')) Y := by
  obtain ⟨h1, h2, h3, h4, h5, h6⟩ := h
  refine ⟨cTk_at h1 rfl (fun _ => rfl) (fun _ => ⟨rfl, rfl, rfl⟩) h1.2.2.2, h2, rfl, h4, ?_, tyC_fr h6 (wi_csy _ _ _ _ (by omega))⟩
  cases cl <;> exact h5
theorem cT_push {T : List Tok} {n a c b m : Nat} {cl : Option Nat} {g : pm_s} {u : pm_J} {Y : List Ty} (h : cT T n a c b m cl g u Y) (hb : b < 200) (z : Int32) : F_Parser_pushBase z g u = some (wi (wi u 42 b z) 39 10 (ie ((b + 1 : Nat) : Int))) ∧ cT T n a c (b + 1) m cl g (wi (wi u 42 b z) 39 10 (ie ((b + 1 : Nat) : Int))) Y := by
  constructor
  · unfold F_Parser_pushBase
    rw [h.2.2.1, if_neg (show ¬ ((200 : Int32) ≤ ie b) from fun hh => by have := (inle 200 b (by omega) (by omega)).mp hh; omega), if_pos (okn b 200 (by omega) (by omega)), ntn b (by omega), iadd1]
  · obtain ⟨h1, h2, h3, h4, h5, h6⟩ := h
    refine ⟨cTk_at h1 rfl (fun _ => rfl) (fun _ => ⟨rfl, rfl, rfl⟩) h1.2.2.2, h2, rfl, h4, ?_, tyC_fr (tyC_fr h6 (wi_csy _ _ _ _ (by omega))) (wi_csy _ _ _ _ (by omega))⟩
    cases cl <;> exact h5
theorem cT_pop {T : List Tok} {n a c b m : Nat} {cl : Option Nat} {g : pm_s} {u : pm_J} {Y : List Ty} (h : cT T n a c (b + 1) m cl g u Y) (hb : b < 200) : F_Parser_popBase g u = some (u.1 42 b, wi u 39 10 (ie (b : Int))) := by
  unfold F_Parser_popBase
  have e1 : ie ((b + 1 : Nat) : Int) - 1 = ie (b : Int) := by rw [show (1 : Int32) = ie 1 from rfl, ie_sub]; congr 1; omega
  rw [h.2.2.1, if_pos (show (1 : Int32) ≤ ie ((b + 1 : Nat) : Int) from (inle 1 (b + 1) (by omega) (by omega)).mpr (by omega)), e1, if_pos (okn b 200 (by omega) (by omega)), ntn b (by omega)]
theorem c_91 {T : List Tok} {n a c b m : Nat} {cl : Option Nat} (N : Nat) (hN : 100000 ≤ N) (hb : b ≤ 180) (R : Int32 → Int32 → pm_s → pm_J → Option (Int32 × pm_s × pm_J)) (M : List Ty) : ∀ (f x5 k : Nat) (P : Ty) (g : pm_s) (u : pm_J) (Y : List Ty), x5 + M.length ≤ 8 → M.length < f → cT T n a c (b + M.length) m cl g u Y → cBI u → bsR u Y b M → Y[k]? = some P → Y.length + M.length < 65536 →
    ∃ (k' : Nat) (g' : pm_s) (v : pm_J) (Z : List Ty), K_Parser_readPart_91 N R f (ie b) (ie k) (ie x5) g u = some (ie k', g', v) ∧ cT T n a c b m cl g' v (Y ++ Z) ∧ (Y ++ Z)[k']? = some (foldM M P) ∧ Z.length ≤ M.length ∧ fr cS_T u v ∧ gL g g' ∧ cBI v ∧ (∀ i, i < b → v.1 42 i = u.1 42 i) := by
  induction M with
  | nil =>
    intro f x5 k P g u Y hx hf h hB hR hk hY
    obtain ⟨f, rfl⟩ : ∃ f', f = f' + 1 := ⟨f - 1, by omega⟩
    refine ⟨k, g, u, [], ?_, by rw [List.append_nil]; exact h, by rw [List.append_nil]; exact hk, Nat.le_refl _, fr_refl _ _, gL_refl h.2.2.2.2.2.2.2.1, hB, fun _ _ => rfl⟩
    rw [K_Parser_readPart_91, h.2.2.1]
    have : ie ((b + ([] : List Ty).length : Nat) : Int) ≤ ie (b : Int) := (inle _ _ (by simp; omega) (by omega)).mpr (by simp)
    rw [if_pos this]
    split <;> rfl
  | cons t M ih =>
    intro f x5 k P g u Y hx hf h hB hR hk hY
    obtain ⟨f, rfl⟩ : ∃ f', f = f' + 1 := ⟨f - 1, by omega⟩
    have hl : (t :: M).length = M.length + 1 := rfl
    rw [hl] at hx hf hY
    obtain ⟨⟨kt, kt1, kt2⟩, hR2⟩ := hR
    have h' : cT T n a c ((b + M.length) + 1) m cl g u Y := h
    have hpop := cT_pop h' (by omega)
    have hc2 := cT_b h (b + M.length)
    obtain ⟨z, g', v, Z, w1, w2, w3, w4, w5, w6⟩ := c_make N hN hc2.2.2.2.2.2 false t P kt k kt2 hk (by omega)
    have w1' : F_Types_make N 3 (ie kt) (ie k) g (wi u 39 10 (ie ((b + M.length : Nat) : Int))) = some (ie z, g', v) := w1
    have hBv : cBI v := cBI_y (cBI_b1 hB (b + M.length) (by omega)) w5
    have hRv : bsR v (Y ++ Z) b M := bsR_cong u v Y Z b M hR2 (fun i hi => by rw [fry_1 w5 42 i (by omega)]; rfl)
    obtain ⟨k', g2, v2, Z2, y1, y2, y3, y4, y5, y6, y7, y8⟩ := ih f (x5 + 1) z (.add t P) g' v (Y ++ Z) (by omega) (by omega) (cT_y hc2 w5 w2) hBv hRv w4 (by rw [List.length_append]; omega)
    refine ⟨k', g2, v2, Z ++ Z2, ?_, by rw [← List.append_assoc]; exact y2, by rw [← List.append_assoc]; exact y3, by rw [List.length_append, hl]; omega, ?_, gL_trans w6 y6, y7, ?_⟩
    · rw [K_Parser_readPart_91, if_neg (show ¬ ((8 : Int32) ≤ ie x5) from fun hh => by have := (inle 8 x5 (by omega) (by omega)).mp hh; omega), h.2.2.1]
      have : ¬ (ie ((b + (t :: M).length : Nat) : Int) ≤ ie (b : Int)) := fun hh => by have := (inle _ _ (by rw [hl]; omega) (by omega)).mp hh; omega
      rw [if_neg this, hpop, Option.bind_some, kt1, w1', Option.bind_some, if_pos (gI_Tb w6.1), iadd1, y1, pmS_some _ _ _ _ y6.2.1 y6.2.2.1]
    · exact fr_trans (fr_wi _ _ _ _ _ _ rfl (fr_refl _ _)) (fr_trans (fr_yT w5) y5)
    · intro i hi; rw [y8 i hi, fry_1 w5 42 i (by omega)]; rfl
def mM : List Ty → Nat
  | [] => 0
  | t :: M => mM M ||| tyM t
theorem mM_fold (M : List Ty) (p : Ty) : tyM (foldM M p) = mM M ||| tyM p := by
  induction M generalizing p with
  | nil => show tyM p = 0 ||| tyM p; rw [Nat.zero_or]
  | cons t M ih => rw [foldM, ih]; show mM M ||| (tyM t ||| tyM p) = (mM M ||| tyM t) ||| tyM p; rw [Nat.or_assoc]
def pRest (r : Nat → Nat → PE PT) (T : List Tok) (j : Nat) (q : PT) : PE PT := if tkK T q.2.1 = 21 then (match j with
    | 0 => .error (3, q.2.1)
    | j + 1 => pB (pPart r T j (q.2.1 + 1) q.2.2) (fun p => .ok (.add q.1 p.1, p.2))) else .ok q
theorem pPart_eq (r : Nat → Nat → PE PT) (T : List Tok) (j a c : Nat) : pPart r T j a c = pB (pBase r T a c) (pRest r T j) := by
  cases j <;> rfl
theorem pB_assoc {α β γ : Type} (x : PE α) (f : α → PE β) (h : β → PE γ) : pB (pB x f) h = pB x (fun a => pB (f a) h) := by cases x <;> rfl
theorem c_18 {T : List Tok} {n b : Nat} (N : Nat) (hN : 100000 ≤ N) (hG : tkG T) (hb : b ≤ 180) (R : Int32 → Int32 → pm_s → pm_J → Option (Int32 × pm_s × pm_J)) (pr : Nat → Nat → PE PT) (dp : Int32) (o : Bool)
    (ih : ∀ b' a c m cl g u Y, b' ≤ b + 9 → cT T n a c b' m cl g u Y → cBI u → a ≤ T.length → Y.length + (T.length - a) ≤ 60000 → m < 16 → c ≤ 100 → ptC T n o a b' m cl g u Y (pr a c) (R (dp + 1) (ib o) g u))
    (j : Nat) : ∀ (f : Nat) (M : List Ty) (t : Ty) (a a0 c m m0 : Nat) (cl cl0 : Option Nat) (g : pm_s) (u u0 : pm_J) (Y : List Ty), M.length + j = 8 → j + 1 < f → cT T n a c (b + M.length + 1) m cl g u Y → cBI u → bsR u Y b (t :: M) → a ≤ T.length → a0 < a → M.length + a0 < a → Y.length + M.length + (T.length - a) ≤ 60000 → m < 16 → c ≤ 100 → (∀ x ∈ t :: M, tyM x < 16) →
    (m = if o = true then m0 ||| mM (t :: M) else m0) → (cl = if o = true then cl0 else oE cl0 (badL T m0 a0 (a - a0))) → fr cS_T u0 u → (∀ i, i < b → u.1 42 i = u0.1 42 i) → m0 < 16 →
    (∃ (z : Int32) (g' : pm_s) (v : pm_J), K_Parser_readPart_18 N R f dp (ib o) (ie b) (ie M.length) g u = some (z, g', v) ∧ fr cS_T u0 v ∧ gL g g' ∧ cBI v ∧
      (match pB (pRest pr T j (t, a, c)) (fun p => (.ok (foldM M p.1, p.2) : PE PT)) with
       | .error q => fl T n q g' v
       | .ok t' => ∃ (k : Nat) (Z : List Ty), z = ie k ∧ cT T n t'.2.1 t'.2.2 b (if o = true then m0 ||| tyM t'.1 else m0) (if o = true then cl0 else oE cl0 (badL T m0 a0 (t'.2.1 - a0))) g' v (Y ++ Z) ∧ (Y ++ Z)[k]? = some t'.1 ∧ Z.length ≤ M.length + (t'.2.1 - a) ∧ a ≤ t'.2.1 ∧ t'.2.1 ≤ T.length ∧ t'.2.2 ≤ 100 ∧ tyM t'.1 < 16 ∧ (∀ i, i < b → v.1 42 i = u0.1 42 i))) := by
  induction j with
  | zero =>
    intro f M t a a0 c m m0 cl cl0 g u u0 Y hj hf h hB hR ha ha0 hMa hY hm hc hT16 hmm hcl hfr h42 hm0
    obtain ⟨f, rfl⟩ : ∃ f', f = f' + 1 := ⟨f - 1, by omega⟩
    have hgI := h.2.2.2.2.2.2.2.1
    have k21 : (ie (tkK T a : Int) = 21) ↔ tkK T a = 21 := kq (hG.1 _) 21 (by omega)
    rw [K_Parser_readPart_18, if_neg (show ¬ ((8 : Int32) < ie (M.length : Int)) from fun hh => by have := (inlt 8 M.length (by omega) (by omega)).mp hh; omega), k_kind h.1 ha g, Option.bind_some]
    simp only [k21]
    unfold pRest
    by_cases e21 : tkK T a = 21
    · rw [if_pos e21, if_pos (show ie (M.length : Int) = 8 from (ineq M.length 8 (by omega) (by omega)).mpr (by omega)), k_here h.1 ha g, Option.bind_some]
      obtain ⟨k1, k2⟩ := fl_tell h hB 3 a (by omega) (by omega)
      have k1' : F_Fault_tell_3 3 (ie (tkP T n a)) g u = some (cTell u 3 (tkP T n a)) := k1
      have k2' : fl T n (3, a) g (cTell u 3 (tkP T n a)) := k2
      rw [k1', Option.bind_some]
      obtain ⟨z, g', v, y1, y2, y3, y4⟩ := f_18 N hN R f (by omega) dp (ib o) (ie b) (ie (M.length : Int) + 1) g _ k2'
      rw [y1]
      refine ⟨z, g', v, rfl, fr_trans hfr (fr_trans (frT_tell u _ _) y3), y4, y2.2.1, ?_⟩
      simp only [if_true, if_false, true_or, or_true, false_or, or_false, and_true, true_and, and_false, false_and, or_self, and_self, not_true_eq_false, not_false_eq_true, reduceIte, e21]
      exact y2
    · rw [if_neg e21]
      have hpop := cT_pop h (by omega)
      obtain ⟨⟨kt, kt1, kt2⟩, hR2⟩ := hR
      rw [hpop, Option.bind_some, kt1]
      obtain ⟨k', g', v, Z, y1, y2, y3, y4, y5, y6, y7, y8⟩ := c_91 N hN hb R M N 0 kt t g (wi u 39 10 (ie ((b + M.length : Nat) : Int))) Y (by omega) (by omega) (cT_b h _) (cBI_b1 hB _ (by omega)) (bsR_cong0 u _ Y b M hR2 (fun _ => rfl)) kt2 (by omega)
      have y1' : K_Parser_readPart_91 N R N (ie b) (ie kt) 0 g (wi u 39 10 (ie ((b + M.length : Nat) : Int))) = some (ie k', g', v) := y1
      rw [y1']
      refine ⟨_, g', v, rfl, fr_trans hfr (fr_trans (fr_wi _ _ _ _ _ _ rfl (fr_refl _ _)) y5), y6, y7, ?_⟩
      simp only [if_true, if_false, true_or, or_true, false_or, or_false, and_true, true_and, and_false, false_and, or_self, and_self, not_true_eq_false, not_false_eq_true, reduceIte, e21]
      refine ⟨k', Z, rfl, ?_, y3, ?_, ?_, ha, hc, ?_, ?_⟩
      · show cT T n a c b (if o = true then m0 ||| tyM (foldM M t) else m0) (if o = true then cl0 else oE cl0 (badL T m0 a0 (a - a0))) g' v (Y ++ Z)
        rw [mM_fold, ← hcl, show (if o = true then m0 ||| (mM M ||| tyM t) else m0) = m from hmm.symm]; exact y2
      · show Z.length ≤ M.length + (a - a); omega
      · show a ≤ a; omega
      · exact foldM_M M t (fun x hx => hT16 x (by simp [hx])) (hT16 t (by simp))
      · intro i hi; rw [y8 i hi]; exact h42 i hi
  | succ j ihj =>
    intro f M t a a0 c m m0 cl cl0 g u u0 Y hj hf h hB hR ha ha0 hMa hY hm hc hT16 hmm hcl hfr h42 hm0
    obtain ⟨f, rfl⟩ : ∃ f', f = f' + 1 := ⟨f - 1, by omega⟩
    have hgI := h.2.2.2.2.2.2.2.1
    have k21 : (ie (tkK T a : Int) = 21) ↔ tkK T a = 21 := kq (hG.1 _) 21 (by omega)
    rw [K_Parser_readPart_18, if_neg (show ¬ ((8 : Int32) < ie (M.length : Int)) from fun hh => by have := (inlt 8 M.length (by omega) (by omega)).mp hh; omega), k_kind h.1 ha g, Option.bind_some]
    simp only [k21]
    unfold pRest
    by_cases e21 : tkK T a = 21
    · have hlt := tkK_lt (show tkK T a ≠ 0 by omega)
      rw [if_pos e21, if_neg (show ¬ (ie (M.length : Int) = 8) from fun hh => by have := (ineq M.length 8 (by omega) (by omega)).mp hh; omega), h.1.2.2.2, iadd1]
      obtain ⟨z, g', v, f1, f2, f3, f4, f5⟩ := c_base N hG R pr dp o (fun a c m cl g u Y => ih (b + M.length + 1) a c m cl g u Y (by omega)) (cT_at h (a + 1)) (cBI_wi _ _ _ _ hB (by omega)) (by omega) (by omega) hm hc
      rw [f1, Option.bind_some, if_pos (gI_Tb f3.1)]
      have fr0 : fr cS_T u0 v := fr_trans hfr (fr_trans (fr_wi _ _ _ _ _ _ rfl (fr_refl _ _)) f2)
      simp only [if_true, if_false, true_or, or_true, false_or, or_false, and_true, true_and, and_false, false_and, or_self, and_self, not_true_eq_false, not_false_eq_true, reduceIte, e21]
      rw [pPart_eq]
      cases hp : pBase pr T (a + 1) c with
      | error q =>
        rw [hp] at f5
        have f5' : fl T n q g' v := f5
        obtain ⟨w, w1, w2, w3⟩ := f_push f5' z
        rw [w1, Option.bind_some]
        obtain ⟨z2, g2, v2, y1, y2, y3, y4⟩ := f_18 N hN R f (by omega) dp (ib o) (ie b) (ie (M.length : Int) + 1) g' w w2
        rw [y1, pmS_some _ _ _ _ y4.2.1 y4.2.2.1]
        exact ⟨z2, g2, v2, rfl, fr_trans fr0 (fr_trans w3 y3), gL_trans f3 y4, y2.2.1, y2⟩
      | ok q =>
        rw [hp] at f5
        obtain ⟨k, Z, y1, y2, y3, y4, y5, y6, y7, y8, y9⟩ := f5
        obtain ⟨p1, p2⟩ := cT_push y2 (by omega) z
        rw [p1, Option.bind_some, iadd1]
        have hb1 : badL T m0 a 1 = none := badL_1 T m0 a (by omega)
        have hRn : bsR (wi (wi v 42 (b + M.length + 1) z) 39 10 (ie ((b + M.length + 1 + 1 : Nat) : Int))) (Y ++ Z) b (q.1 :: t :: M) := by
          refine ⟨⟨k, ?_, y3⟩, ?_⟩
          · show (wi (wi v 42 (b + M.length + 1) z) 39 10 _).1 42 (b + (M.length + 1)) = ie k
            rw [← y1]; simp [wi_1, Nat.add_assoc]
          · refine bsR_cong u _ Y Z b (t :: M) hR (fun i hi => ?_)
            have hi' : i < b + (M.length + 1) := hi
            have hne : i ≠ b + M.length + 1 := by omega
            simp [wi_1, hne]
            rw [y9 i (by omega)]; rfl
        have key := ihj f (t :: M) q.1 q.2.1 a0 q.2.2 _ m0 _ cl0 g' _ u0 (Y ++ Z) (by show M.length + 1 + j = 8; omega) (by omega) p2 (cBI_b f4 _ (by omega) _ _) hRn y6 (by omega) (by show M.length + 1 + a0 < q.2.1; omega)
          (by rw [List.length_append]; show Y.length + Z.length + (M.length + 1) + (T.length - q.2.1) ≤ 60000; omega)
          (by split
              · exact or_lt16 _ hm _ y8
              · exact hm)
          y7
          (by intro x hx
              rcases List.mem_cons.mp hx with rfl | hx
              · exact y8
              · exact hT16 x hx)
          (by rw [hmm]; cases o
              · rfl
              · show (m0 ||| mM (t :: M)) ||| tyM q.1 = m0 ||| (mM (t :: M) ||| tyM q.1); rw [Nat.or_assoc])
          (by rw [hcl]; cases o
              · show oE (oE cl0 (badL T m0 a0 (a - a0))) (badL T m (a + 1) (q.2.1 - (a + 1))) = oE cl0 (badL T m0 a0 (q.2.1 - a0))
                rw [show m = m0 from hmm, oE_assoc, badL_split T m0 a0 a q.2.1 (by omega) (by omega), badL_split T m0 a (a + 1) q.2.1 (by omega) (by omega), show a + 1 - a = 1 by omega, hb1]; rfl
              · rfl)
          (fr_wi _ _ _ _ _ _ rfl (fr_wi _ _ _ _ _ _ rfl fr0))
          (by intro i hi
              have hne : i ≠ b + M.length + 1 := by omega
              simp [wi_1, hne]
              rw [y9 i (by omega)]; exact h42 i hi)
          hm0
        obtain ⟨z2, g2, v2, x1, x2, x3, x4, x5⟩ := key
        refine ⟨z2, g2, v2, ?_, x2, gL_trans f3 x3, x4, ?_⟩
        · have x1' : K_Parser_readPart_18 N R f dp (ib o) (ie b) (ie ((M.length + 1 : Nat) : Int)) g' (wi (wi v 42 (b + M.length + 1) z) 39 10 (ie ((b + M.length + 1 + 1 : Nat) : Int))) = some (z2, g2, v2) := x1
          rw [x1', pmS_some _ _ _ _ x3.2.1 x3.2.2.1]
        · show (match pB (pB (pB (.ok q) (pRest pr T j)) (fun p => (.ok (.add t p.1, p.2) : PE PT))) (fun p => (.ok (foldM M p.1, p.2) : PE PT)) with
            | .error q => fl T n q g2 v2
            | .ok t' => _)
          have he : pB (pB (pB (.ok q) (pRest pr T j)) (fun p => (.ok (.add t p.1, p.2) : PE PT))) (fun p => (.ok (foldM M p.1, p.2) : PE PT)) = pB (pRest pr T j (q.1, q.2.1, q.2.2)) (fun p => (.ok (foldM (t :: M) p.1, p.2) : PE PT)) := by
            rw [pB_assoc]; rfl
          rw [he]
          cases hr : pB (pRest pr T j (q.1, q.2.1, q.2.2)) (fun p => (.ok (foldM (t :: M) p.1, p.2) : PE PT)) with
          | error e' => rw [hr] at x5; exact x5
          | ok t' =>
            rw [hr] at x5
            obtain ⟨k2, Z2, u1, u2, u3, u4, u5, u6, u7, u8, u9⟩ := x5
            have u4' : Z2.length ≤ M.length + 1 + (t'.2.1 - q.2.1) := u4
            refine ⟨k2, Z ++ Z2, u1, by rw [← List.append_assoc]; exact u2, by rw [← List.append_assoc]; exact u3, by rw [List.length_append]; omega, by omega, u6, u7, u8, u9⟩
    · rw [if_neg e21]
      have hpop := cT_pop h (by omega)
      obtain ⟨⟨kt, kt1, kt2⟩, hR2⟩ := hR
      rw [hpop, Option.bind_some, kt1]
      obtain ⟨k', g', v, Z, y1, y2, y3, y4, y5, y6, y7, y8⟩ := c_91 N hN hb R M N 0 kt t g (wi u 39 10 (ie ((b + M.length : Nat) : Int))) Y (by omega) (by omega) (cT_b h _) (cBI_b1 hB _ (by omega)) (bsR_cong0 u _ Y b M hR2 (fun _ => rfl)) kt2 (by omega)
      have y1' : K_Parser_readPart_91 N R N (ie b) (ie kt) 0 g (wi u 39 10 (ie ((b + M.length : Nat) : Int))) = some (ie k', g', v) := y1
      rw [y1']
      refine ⟨_, g', v, rfl, fr_trans hfr (fr_trans (fr_wi _ _ _ _ _ _ rfl (fr_refl _ _)) y5), y6, y7, ?_⟩
      simp only [if_true, if_false, true_or, or_true, false_or, or_false, and_true, true_and, and_false, false_and, or_self, and_self, not_true_eq_false, not_false_eq_true, reduceIte, e21]
      refine ⟨k', Z, rfl, ?_, y3, ?_, ?_, ha, hc, ?_, ?_⟩
      · show cT T n a c b (if o = true then m0 ||| tyM (foldM M t) else m0) (if o = true then cl0 else oE cl0 (badL T m0 a0 (a - a0))) g' v (Y ++ Z)
        rw [mM_fold, ← hcl, show (if o = true then m0 ||| (mM M ||| tyM t) else m0) = m from hmm.symm]; exact y2
      · show Z.length ≤ M.length + (a - a); omega
      · show a ≤ a; omega
      · exact foldM_M M t (fun x hx => hT16 x (by simp [hx])) (hT16 t (by simp))
      · intro i hi; rw [y8 i hi]; exact h42 i hi
