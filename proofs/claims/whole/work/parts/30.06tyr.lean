set_option maxRecDepth 100000
def tyR (u : pm_J) (Y : List Ty) : Prop := u.1 64 18 = ie Y.length ∧ (6 ≤ Y.length ∧ Y.length ≤ 100000) ∧
  (∀ (i : Nat) (T : Ty), Y[i]? = some T → (6 ≤ i → u.1 70 i = ib (Nat.beq (tyK T) 4)) ∧ u.1 74 i = ie (min 1000 (tyL T) : Nat) ∧ u.1 73 i = ie (tyM T) ∧ tyRow Y i T (u.1 71 i) (u.1 72 i)) ∧
  (∀ (i j : Nat) (T : Ty), Y[i]? = some T → Y[j]? = some T → i = j) ∧ (∀ k : Nat, k < 6 → Y[k]? = some (.num k)) ∧
  ch (u.1 75) (u.1 76) 8192 Y (fun i T l r b => u.1 71 i = ie l ∧ u.1 72 i = ie r ∧ l < i ∧ r < i ∧ (31 * l + 7 * r + (if tyK T = 4 then 1 else 0)) % 8192 = b)
def rS_y : Nat → Nat → Bool := fun c i => (Nat.beq c 64 && Nat.beq i 18) || (Nat.ble 70 c && Nat.ble c 76)
theorem ty_6 {u : pm_J} {Y : List Ty} (h : tyR u Y) (i : Nat) (T : Ty) (hi : Y[i]? = some T) : (6 ≤ i) ↔ ∃ f A B, T = tyP f A B := by
  constructor
  · intro h6
    have hr := (h.2.2.1 i T hi).2.2.2
    cases T with
    | num k => have : i = k ∧ k < 6 := hr; omega
    | var k => exact hr.elim
    | add A B => exact ⟨false, A, B, rfl⟩
    | mul A B => exact ⟨true, A, B, rfl⟩
  · rintro ⟨f, A, B, rfl⟩
    apply Decidable.byContradiction
    intro hlt
    have := h.2.2.2.2.1 i (by omega)
    rw [hi] at this
    exact tyP_num f A B i (Option.some.inj this)
theorem tyK_b (f : Bool) (A B : Ty) : Nat.beq (tyK (tyP f A B)) 4 = f := by cases f <;> rfl
theorem ib_inj {a b : Bool} (h : ib a = ib b) : a = b := by cases a <;> cases b <;> first | rfl | (exact absurd h (by decide))
theorem r_match {u : pm_J} {Y : List Ty} (h : tyR u Y) (f : Bool) (A B : Ty) (l r i : Nat) (T : Ty) (hl : Y[l]? = some A) (hr : Y[r]? = some B) (hi : Y[i]? = some T) (h6i : 6 ≤ i) :
    (u.1 70 i = ib f ∧ u.1 71 i = ie l ∧ u.1 72 i = ie r) ↔ T = tyP f A B := by
  have hh := h
  obtain ⟨h1, h2, h4, h5, h6, h7⟩ := hh
  obtain ⟨a1, a2, a3, a4⟩ := h4 i T hi
  have hil := (List.getElem?_eq_some_iff.mp hi).1
  have hll := (List.getElem?_eq_some_iff.mp hl).1
  have hrl := (List.getElem?_eq_some_iff.mp hr).1
  constructor
  · rintro ⟨b1, b2, b3⟩
    obtain ⟨f', A', B', rfl⟩ := (ty_6 h i T hi).mp h6i
    rw [a1 h6i, tyK_b] at b1
    have hf := ib_inj b1
    subst hf
    obtain ⟨l', r', c1, c2, c3, c4, c5, c6⟩ := (tyP_row Y f' A' B' i _ _).mp a4
    have e1 : l' = l := ien_inj (c5.symm.trans b2) (by omega) (by omega)
    have e2 : r' = r := ien_inj (c6.symm.trans b3) (by omega) (by omega)
    subst e1; subst e2
    rw [hl] at c3; rw [hr] at c4
    cases c3; cases c4; rfl
  · rintro rfl
    obtain ⟨l', r', c1, c2, c3, c4, c5, c6⟩ := (tyP_row Y f A B i _ _).mp a4
    have e1 : l' = l := h5 _ _ _ c3 hl
    have e2 : r' = r := h5 _ _ _ c4 hr
    subst e1; subst e2
    exact ⟨by rw [a1 h6i, tyK_b], c5, c6⟩
def rNew (u : pm_J) (n l r b : Nat) (f : Bool) (p m : Int) : pm_J :=
  wi (wi (wi (wi (wi (wi (wi (wi u 75 n (u.1 76 b)) 76 b (ie n)) 74 n (ie p)) 70 n (ib f)) 71 n (ie l)) 72 n (ie r)) 73 n (ie m)) 64 18 (ie (n + 1))
theorem r_find {u : pm_J} {Y : List Ty} (N : Nat) (g : pm_s) (h : tyR u Y) (f : Bool) (A B : Ty) (l r b : Nat) (hb : b < 8192) (hl : Y[l]? = some A) (hr : Y[r]? = some B) (hY : Y.length < 100000) (L : List Nat) : ∀ (x5 : Int32) (m : Nat), lk (u.1 75) x5 L → (∀ i ∈ L, 6 ≤ i ∧ i < Y.length) → L.length < m →
    (∃ i, i ∈ L ∧ Y[i]? = some (tyP f A B) ∧ K_Md_typeOf_34 N g m (ib f) (ie l) (ie r) (ie b) x5 u = some (ie i, u)) ∨
    ((∀ i ∈ L, Y[i]? ≠ some (tyP f A B)) ∧ K_Md_typeOf_34 N g m (ib f) (ie l) (ie r) (ie b) x5 u = some (ie Y.length, rNew u Y.length l r b f (min 1000 (tyL (tyP f A B)) : Nat) (tyM (tyP f A B) : Nat))) := by
  have hh := h
  obtain ⟨h1, h2, h4, h5, h6, h7⟩ := hh
  have hll := (List.getElem?_eq_some_iff.mp hl).1
  have hrl := (List.getElem?_eq_some_iff.mp hr).1
  have okn : ∀ x : Nat, x < 100000 → pm_ok (ie x) 100000 = true := fun x hx => (ie_ok x 100000 (by omega) (by omega)).mpr (by omega)
  have nt : ∀ x : Nat, x < 200000 → (ie (x : Int)).toNatClampNeg = x := fun x hx => by rw [ie_nat _ (by omega) (by omega)]; omega
  induction L with
  | nil =>
    intro x5 m hk hL hm
    right
    refine ⟨by simp, ?_⟩
    obtain ⟨m, rfl⟩ : ∃ f', m = f' + 1 := ⟨m - 1, by omega⟩
    have okb : pm_ok (ie b) 8192 = true := (ie_ok b 8192 (by omega) (by omega)).mpr (by omega)
    obtain ⟨a1, a2, a3, a4⟩ := h4 l A hl
    obtain ⟨b1, b2, b3, b4⟩ := h4 r B hr
    rw [K_Md_typeOf_34, show x5 = ie (-1) from hk, h1, if_pos (show ie (-1) < 0 by decide)]
    unfold K_Md_typeOf_160
    simp only [okb, okn l (by omega), okn r (by omega), okn Y.length hY, nt b (by omega), nt l (by omega), nt r (by omega), nt Y.length (by omega), if_true, a2, b2, ib_ok]
    have hp : ∀ x : Int32, (∃ i, x = ie i ∧ i = ((min 1000 (tyL (tyP f A B)) : Nat) : Int)) → x = ie (min 1000 (tyL (tyP f A B)) : Nat) := by rintro x ⟨i, rfl, rfl⟩; rfl
    have hcond : (if ie (min 1000 (tyL A) : Nat) + ie (min 1000 (tyL B) : Nat) ≤ 1000 then ie (min 1000 (tyL A) : Nat) + ie (min 1000 (tyL B) : Nat) else 1000) = ie (min 1000 (tyL (tyP f A B)) : Nat) := by
      rw [tyL_P]
      simp (disch := omega) only [ie_lit, Int.cast_ofNat_Int, ie_add, ie_sub, ie_mul, ie_neg, ie_lt, ie_le, ie_eq, ie_nat, ie_ok, ib_z, ib_e, ib_1, lge_lt, lge_ge, lge_eq, lge_le, lge_gt]
      by_cases hb : ((min 1000 (tyL A) : Nat) : Int) + ((min 1000 (tyL B) : Nat) : Int) ≤ 1000
      · rw [if_pos hb]; congr 1; omega
      · rw [if_neg hb]; congr 1; omega
    have hwr : ∀ p : Int32, p = ie (min 1000 (tyL (tyP f A B)) : Nat) →
        wi (wi (wi (wi (wi (wi (wi (wi u 75 Y.length (u.1 76 b)) 76 b (ie Y.length)) 74 Y.length p) 70 Y.length (ib f)) 71 Y.length (ie l)) 72 Y.length (ie r)) 73 Y.length ((wi (wi u 75 Y.length (u.1 76 b)) 76 b (ie Y.length)).1 73 l ||| (wi (wi u 75 Y.length (u.1 76 b)) 76 b (ie Y.length)).1 73 r)) 64 18 ((wi (wi u 75 Y.length (u.1 76 b)) 76 b (ie Y.length)).1 64 18 + 1) = rNew u Y.length l r b f (min 1000 (tyL (tyP f A B)) : Nat) (tyM (tyP f A B) : Nat) := by
      rintro p rfl
      unfold rNew
      have q1 : (wi (wi u 75 Y.length (u.1 76 b)) 76 b (ie Y.length)).1 73 l = ie (tyM A) := a3
      have q2 : (wi (wi u 75 Y.length (u.1 76 b)) 76 b (ie Y.length)).1 73 r = ie (tyM B) := b3
      have q3 : (wi (wi u 75 Y.length (u.1 76 b)) 76 b (ie Y.length)).1 64 18 = ie Y.length := h1
      rw [q1, q2, q3, ie_or, ← tyM_P f A B, show (1 : Int32) = ie 1 from rfl, ie_add]
    by_cases hc : ie (min 1000 (tyL A) : Nat) + ie (min 1000 (tyL B) : Nat) ≤ 1000
    · rw [if_pos hc]
      rw [if_pos hc] at hcond
      congr 2
      exact hwr _ hcond
    · rw [if_neg hc]
      rw [if_neg hc] at hcond
      congr 2
      exact hwr _ hcond
  | cons i L ih =>
    intro x5 m hk hL hm
    obtain ⟨m, rfl⟩ : ∃ f', m = f' + 1 := ⟨m - 1, by omega⟩
    have hi := hL i (by simp)
    obtain ⟨T, hT⟩ : ∃ T, Y[i]? = some T := ⟨Y[i]'hi.2, List.getElem?_eq_getElem hi.2⟩
    have hmt := r_match h f A B l r i T hl hr hT hi.1
    have hs : K_Md_typeOf_34 N g (m + 1) (ib f) (ie l) (ie r) (ie b) x5 u = if (u.1 70 i = ib f ∧ u.1 71 i = ie l ∧ u.1 72 i = ie r) then some (ie i, u) else K_Md_typeOf_34 N g m (ib f) (ie l) (ie r) (ie b) (u.1 75 i) u := by
      rw [K_Md_typeOf_34, hk.1, if_neg (show ¬ (ie (i : Int) < 0) by simp (disch := omega) only [ie_lit, Int.cast_ofNat_Int, ie_add, ie_sub, ie_mul, ie_neg, ie_lt, ie_le, ie_eq, ie_nat, ie_ok, ib_z, ib_e, ib_1, lge_lt, lge_ge, lge_eq, lge_le, lge_gt]; omega)]
      simp only [okn i (by omega), nt i (by omega), if_true]
      by_cases b1 : u.1 70 i = ib f
      · by_cases b2 : u.1 71 i = ie l
        · by_cases b3 : u.1 72 i = ie r
          · rw [if_pos b1, if_pos b2, if_pos b3, if_pos ⟨b1, b2, b3⟩]
          · rw [if_pos b1, if_pos b2, if_neg b3, if_neg (fun h => b3 h.2.2)]
        · rw [if_pos b1, if_neg b2, if_neg (fun h => b2 h.2.1)]
      · rw [if_neg b1, if_neg (fun h => b1 h.1)]
    rw [hs]
    by_cases hc : T = tyP f A B
    · left
      refine ⟨i, by simp, by rw [hT, hc], ?_⟩
      rw [if_pos (hmt.mpr hc)]
    · rw [if_neg (fun hh => hc (hmt.mp hh))]
      rcases ih (u.1 75 i) m hk.2 (fun j hj => hL j (by simp [hj])) (by have : L.length + 1 < m + 1 := hm; omega) with ⟨j, j1, j2, j3⟩ | ⟨j1, j2⟩
      · left; exact ⟨j, by simp [j1], j2, j3⟩
      · right
        refine ⟨fun j hj => ?_, j2⟩
        rcases List.mem_cons.mp hj with rfl | hj
        · rw [hT]; intro hh; exact hc (Option.some.inj hh)
        · exact j1 j hj
theorem r_type2 {u : pm_J} {Y : List Ty} (g : pm_s) (h : tyR u Y) (f : Bool) (A B : Ty) (l r : Nat) (hl : Y[l]? = some A) (hr : Y[r]? = some B) (hY : Y.length < 100000) :
    ∃ (z : Nat) (v : pm_J) (Z : List Ty), (∀ N, 200000 ≤ N → F_Md_typeOf N (ib f) (ie l) (ie r) g u = some (ie z, v)) ∧ tyR v (Y ++ Z) ∧ Z.length ≤ 1 ∧ (Y ++ Z)[z]? = some (tyP f A B) ∧ fr rS_y u v ∧ ∀ x ∈ Z, x = tyP f A B := by
  have hh := h
  obtain ⟨h1, h2, h4, h5, h6, h7⟩ := hh
  have hll := (List.getElem?_eq_some_iff.mp hl).1
  have hrl := (List.getElem?_eq_some_iff.mp hr).1
  have hcl : ∀ N, F_Md_typeOf N (ib f) (ie l) (ie r) g u = K_Md_typeOf_34 N g N (ib f) (ie l) (ie r) (ie (((31 * l + 7 * r + (if f = true then 1 else 0)) % 8192 : Nat) : Int)) (u.1 76 ((31 * l + 7 * r + (if f = true then 1 else 0)) % 8192)) u := by
    intro N
    have key : ∀ q : Nat, q < 2 → K_Md_typeOf_18 N g (ib f) (ie l) (ie r) (ie q) ((31 * ie (l : Int)) + (7 * ie (r : Int))) u = K_Md_typeOf_34 N g N (ib f) (ie l) (ie r) (ie (((31 * l + 7 * r + q) % 8192 : Nat) : Int)) (u.1 76 ((31 * l + 7 * r + q) % 8192)) u := by
      intro q hq
      have e1 : ((31 * ie (l : Int)) + (7 * ie (r : Int))) + ie (q : Int) = ie ((31 * l + 7 * r + q : Nat) : Int) := by
        rw [show (31 : Int32) = ie 31 from rfl, show (7 : Int32) = ie 7 from rfl, ie_mul, ie_mul, ie_add, ie_add]; congr 1
      have e2 : ie ((31 * l + 7 * r + q : Nat) : Int) - ie ((31 * l + 7 * r + q : Nat) : Int) / 8192 * 8192 = ie (((31 * l + 7 * r + q) % 8192 : Nat) : Int) := by
        rw [show (8192 : Int32) = ie 8192 from rfl, ie_div _ _ (by omega) (by omega) (by omega) (by omega), ie_mul, ie_sub]; congr 1; omega
      unfold K_Md_typeOf_18
      rw [e1, e2, if_pos ((ie_ok _ 8192 (by omega) (by omega)).mpr (by omega)), ie_nat _ (by omega) (by omega)]
      congr 1
    unfold F_Md_typeOf
    cases f with
    | false => rw [if_pos (show ib false = 0 from rfl)]; exact key 0 (by omega)
    | true => rw [if_neg (show ¬ ib true = 0 by decide)]; exact key 1 (by omega)
  generalize hb : (31 * l + 7 * r + (if f = true then 1 else 0)) % 8192 = b at hcl
  have hb8 : b < 8192 := by omega
  obtain ⟨L, l1, l2, l3, l4⟩ := h7 b hb8
  have hin : ∀ i : Nat, Y[i]? = some (tyP f A B) → i ∈ L := by
      intro i hi
      have h6i : 6 ≤ i := (ty_6 h i _ hi).mpr ⟨f, A, B, rfl⟩
      obtain ⟨a1, a2, a3, a4⟩ := h4 i _ hi
      obtain ⟨l', r', c1, c2, c3, c4, c5, c6⟩ := (tyP_row Y f A B i _ _).mp a4
      have e1 : l' = l := h5 _ _ _ c3 hl
      have e2 : r' = r := h5 _ _ _ c4 hr
      subst e1; subst e2
      refine l4 i _ l' r' hi h6i ⟨c5, c6, c1, c2, ?_⟩
      rw [← hb]; cases f <;> rfl
  by_cases hex : ∃ i : Nat, Y[i]? = some (tyP f A B)
  · obtain ⟨i, hi⟩ := hex
    refine ⟨i, u, [], ?_, by rw [List.append_nil]; exact h, by simp, by rw [List.append_nil]; exact hi, fr_refl _ _, fun x hx => (by cases hx)⟩
    intro N hN
    rcases r_find N g h f A B l r b hb8 hl hr hY L _ N l1 l3 (by omega) with ⟨j, j1, j2, j3⟩ | ⟨j1, j2⟩
    · rw [hcl, j3, h5 j i _ j2 hi]
    · exact absurd hi (j1 i (hin i hi))
  · have hnew : ∀ i : Nat, Y[i]? ≠ some (tyP f A B) := fun i hi => hex ⟨i, hi⟩
    have i2 : ∀ N, 200000 ≤ N → F_Md_typeOf N (ib f) (ie l) (ie r) g u = some (ie Y.length, rNew u Y.length l r b f (min 1000 (tyL (tyP f A B)) : Nat) (tyM (tyP f A B) : Nat)) := by
      intro N hN
      rcases r_find N g h f A B l r b hb8 hl hr hY L _ N l1 l3 (by omega) with ⟨j, j1, j2, j3⟩ | ⟨j1, j2⟩
      · exact absurd j2 (hnew j)
      · rw [hcl, j2]
    refine ⟨Y.length, _, [tyP f A B], i2, ?_, by simp, getE_r Y _, ?_, fun x hx => List.mem_singleton.mp hx⟩
    · have V : ∀ (c i : Nat), (c = 70 ∨ c = 71 ∨ c = 72 ∨ c = 73 ∨ c = 74 ∨ c = 75) → i ≠ Y.length → (rNew u Y.length l r b f (min 1000 (tyL (tyP f A B)) : Nat) (tyM (tyP f A B) : Nat)).1 c i = u.1 c i := by
        intro c i hc hi
        unfold rNew
        have c1 : c ≠ 64 := by omega
        have c2 : c ≠ 76 := by omega
        simp only [wi_1, hi, c1, c2, false_and, and_false, if_false]
      have W5 : (rNew u Y.length l r b f (min 1000 (tyL (tyP f A B)) : Nat) (tyM (tyP f A B) : Nat)).1 75 Y.length = u.1 76 b := by unfold rNew; simp [wi_1]
      have W4 : (rNew u Y.length l r b f (min 1000 (tyL (tyP f A B)) : Nat) (tyM (tyP f A B) : Nat)).1 74 Y.length = ie (min 1000 (tyL (tyP f A B)) : Nat) := by unfold rNew; simp [wi_1]
      have W0 : (rNew u Y.length l r b f (min 1000 (tyL (tyP f A B)) : Nat) (tyM (tyP f A B) : Nat)).1 70 Y.length = ib f := by unfold rNew; simp [wi_1]
      have W1 : (rNew u Y.length l r b f (min 1000 (tyL (tyP f A B)) : Nat) (tyM (tyP f A B) : Nat)).1 71 Y.length = ie l := by unfold rNew; simp [wi_1]
      have W2 : (rNew u Y.length l r b f (min 1000 (tyL (tyP f A B)) : Nat) (tyM (tyP f A B) : Nat)).1 72 Y.length = ie r := by unfold rNew; simp [wi_1]
      have W3 : (rNew u Y.length l r b f (min 1000 (tyL (tyP f A B)) : Nat) (tyM (tyP f A B) : Nat)).1 73 Y.length = ie (tyM (tyP f A B)) := by unfold rNew; simp [wi_1]
      have H76 : ∀ x : Nat, (rNew u Y.length l r b f (min 1000 (tyL (tyP f A B)) : Nat) (tyM (tyP f A B) : Nat)).1 76 x = if x = b then ie Y.length else u.1 76 x := by intro x; unfold rNew; simp [wi_1]
      have H18 : (rNew u Y.length l r b f (min 1000 (tyL (tyP f A B)) : Nat) (tyM (tyP f A B) : Nat)).1 64 18 = ie ((Y.length + 1 : Nat) : Int) := by unfold rNew; simp [wi_1]
      generalize rNew u Y.length l r b f (min 1000 (tyL (tyP f A B)) : Nat) (tyM (tyP f A B) : Nat) = v at V W0 W1 W2 W3 W4 W5 H76 H18
      have hYl : (Y ++ [tyP f A B]).length = Y.length + 1 := by simp
      refine ⟨by rw [hYl]; exact H18, by rw [hYl]; omega, ?_, ?_, fun k hk => getE_l (h6 k hk), ?_⟩
      · intro i S hi
        rcases getE_app hi with ⟨hlt, hi⟩ | ⟨rfl, rfl⟩
        · obtain ⟨a1, a2, a3, a4⟩ := h4 i S hi
          have hne : i ≠ Y.length := by omega
          rw [V 70 i (by omega) hne, V 71 i (by omega) hne, V 72 i (by omega) hne, V 73 i (by omega) hne, V 74 i (by omega) hne]
          exact ⟨a1, a2, a3, tyRow_app _ _ _ _ _ _ a4⟩
        · rw [W0, W1, W2, W3, W4]
          exact ⟨fun _ => by rw [tyK_b], rfl, rfl, (tyP_row _ f A B _ _ _).mpr ⟨l, r, hll, hrl, getE_l hl, getE_l hr, rfl, rfl⟩⟩
      · intro i j S hi hj
        rcases getE_app hi with ⟨hlt, hi⟩ | ⟨rfl, rfl⟩
        · rcases getE_app hj with ⟨hlt2, hj⟩ | ⟨rfl, rfl⟩
          · exact h5 i j S hi hj
          · exact absurd hi (hnew i)
        · rcases getE_app hj with ⟨hlt2, hj⟩ | ⟨rfl, _⟩
          · exact absurd hj (hnew j)
          · rfl
      · intro x hx
        obtain ⟨L, l1, l2, l3, l4⟩ := h7 x hx
        have hL5 : ∀ i ∈ L, v.1 75 i = u.1 75 i := fun i hi => V 75 i (by omega) (by have := l3 i hi; omega)
        rw [H76 x]
        by_cases hbc : x = b
        · refine ⟨Y.length :: L, ?_, by rw [hYl]; show L.length + 1 + 6 ≤ _; omega, ?_, ?_⟩
          · rw [if_pos hbc]
            refine ⟨rfl, ?_⟩
            rw [W5, ← hbc]
            exact lk_cong _ _ L _ hL5 l1
          · intro i hi
            rcases List.mem_cons.mp hi with rfl | hi
            · rw [hYl]; omega
            · have := l3 i hi; rw [hYl]; omega
          · intro i S l' r' hi h6i hh
            rcases getE_app hi with ⟨hlt, hi⟩ | ⟨rfl, _⟩
            · have hne : i ≠ Y.length := by omega
              rw [V 71 i (by omega) hne, V 72 i (by omega) hne] at hh
              exact List.mem_cons_of_mem _ (l4 i S l' r' hi h6i hh)
            · exact List.mem_cons_self
        · refine ⟨L, ?_, by rw [hYl]; omega, fun i hi => by have := l3 i hi; rw [hYl]; omega, ?_⟩
          · rw [if_neg hbc]; exact lk_cong _ _ L _ hL5 l1
          · intro i S l' r' hi h6i hh
            rcases getE_app hi with ⟨hlt, hi⟩ | ⟨rfl, rfl⟩
            · have hne : i ≠ Y.length := by omega
              rw [V 71 i (by omega) hne, V 72 i (by omega) hne] at hh
              exact l4 i S l' r' hi h6i hh
            · exfalso
              obtain ⟨b1, b2, b3, b4, b5⟩ := hh
              rw [W1] at b1
              rw [W2] at b2
              have e1 : l = l' := ien_inj b1 (by omega) (by omega)
              have e2 : r = r' := ien_inj b2 (by omega) (by omega)
              subst e1; subst e2
              apply hbc
              rw [← b5, ← hb]; cases f <;> rfl
    · unfold rNew
      exact fr_wi _ _ _ _ _ _ rfl (fr_wi _ _ _ _ _ _ rfl (fr_wi _ _ _ _ _ _ rfl (fr_wi _ _ _ _ _ _ rfl (fr_wi _ _ _ _ _ _ rfl (fr_wi _ _ _ _ _ _ rfl (fr_wi _ _ _ _ _ _ rfl (fr_wi _ _ _ _ _ _ rfl (fr_refl _ _))))))))
theorem r_type {u : pm_J} {Y : List Ty} (g : pm_s) (h : tyR u Y) (f : Bool) (A B : Ty) (l r : Nat) (hl : Y[l]? = some A) (hr : Y[r]? = some B) (hY : Y.length < 100000) :
    ∃ (z : Nat) (v : pm_J) (Z : List Ty), (∀ N, 200000 ≤ N → F_Md_typeOf N (ib f) (ie l) (ie r) g u = some (ie z, v)) ∧ tyR v (Y ++ Z) ∧ Z.length ≤ 1 ∧ (Y ++ Z)[z]? = some (tyP f A B) ∧ fr rS_y u v := by
  obtain ⟨z, v, Z, h1, h2, h3, h4, h5, _⟩ := r_type2 g h f A B l r hl hr hY
  exact ⟨z, v, Z, h1, h2, h3, h4, h5⟩
theorem tyR_fr {u v : pm_J} {Y : List Ty} (h : tyR u Y) (hf : ∀ c i, rS_y c i = true → v.1 c i = u.1 c i) : tyR v Y := by
  obtain ⟨h1, h2, h4, h5, h6, h7⟩ := h
  have V : ∀ c i : Nat, 70 ≤ c → c ≤ 76 → v.1 c i = u.1 c i := by
    intro c i a b
    apply hf; unfold rS_y
    rw [show Nat.ble 70 c = true from Nat.ble_eq.mpr a, show Nat.ble c 76 = true from Nat.ble_eq.mpr b]; simp
  have V5 : v.1 75 = u.1 75 := by funext i; exact V 75 i (by omega) (by omega)
  have V6 : v.1 76 = u.1 76 := by funext i; exact V 76 i (by omega) (by omega)
  have V1 : v.1 71 = u.1 71 := by funext i; exact V 71 i (by omega) (by omega)
  have V2 : v.1 72 = u.1 72 := by funext i; exact V 72 i (by omega) (by omega)
  refine ⟨by rw [hf 64 18 rfl]; exact h1, h2, ?_, h5, h6, ?_⟩
  · intro i T hi
    rw [V 70 i (by omega) (by omega), V1, V2, V 73 i (by omega) (by omega), V 74 i (by omega) (by omega)]; exact h4 i T hi
  · rw [V5, V6, V1, V2]; exact h7
theorem r_same {u : pm_J} {Y : List Ty} (h : tyR u Y) (x y : Nat) (S T : Ty) (hx : Y[x]? = some S) (hy : Y[y]? = some T) : (ie (x : Int) = ie (y : Int)) ↔ S = T := by
  obtain ⟨h1, h2, h4, h5, h6, h7⟩ := h
  have hxl := (List.getElem?_eq_some_iff.mp hx).1
  have hyl := (List.getElem?_eq_some_iff.mp hy).1
  constructor
  · intro hh
    have : x = y := ien_inj hh (by omega) (by omega)
    subst this; rw [hx] at hy; exact Option.some.inj hy
  · rintro rfl
    rw [h5 x y S hx hy]
theorem r_parts {u : pm_J} {Y : List Ty} (h : tyR u Y) (f : Bool) (A B : Ty) (x : Nat) (hx : Y[x]? = some (tyP f A B)) : ∃ l r : Nat, Y[l]? = some A ∧ Y[r]? = some B ∧ u.1 71 x = ie l ∧ u.1 72 x = ie r ∧ l < x ∧ r < x ∧ u.1 70 x = ib f ∧ 6 ≤ x := by
  have h6x := (ty_6 h x _ hx).mpr ⟨f, A, B, rfl⟩
  obtain ⟨a1, a2, a3, a4⟩ := h.2.2.1 x _ hx
  obtain ⟨l, r, c1, c2, c3, c4, c5, c6⟩ := (tyP_row Y f A B x _ _).mp a4
  exact ⟨l, r, c3, c4, c5, c6, c1, c2, by rw [a1 h6x, tyK_b], h6x⟩
