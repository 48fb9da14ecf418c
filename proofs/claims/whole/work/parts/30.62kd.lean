set_option maxRecDepth 100000
theorem sbt_0 (f : Fi) {p : Ty} (hg : tyG p) (h : tyM p = 0) : sbt f p = some p := by
  induction p with
  | num k =>
    have h' : (if k < 2 then 0 else 2 ^ (k - 2)) = 0 := h
    by_cases e : k < 2
    · unfold sbt; rw [if_pos e]
    · rw [if_neg e] at h'; have := Nat.two_pow_pos (k - 2); omega
  | var k => exact hg.elim
  | add a b iha ihb =>
    have h' : tyM a ||| tyM b = 0 := h
    have := Nat.or_eq_zero_iff.mp h'
    rw [sbt, iha hg.1 this.1, ihb hg.2 this.2]; rfl
  | mul a b iha ihb =>
    have h' : tyM a ||| tyM b = 0 := h
    have := Nat.or_eq_zero_iff.mp h'
    rw [sbt, iha hg.1 this.1, ihb hg.2 this.2]; rfl
theorem sbtP (f : Fi) (b : Bool) (A B : Ty) : sbt f (tyP b A B) = (sbt f A).bind fun x => (sbt f B).bind fun y => some (tyP b x y) := by
  cases b with
  | true => show sbt f (.mul A B) = _; rw [sbt]; rfl
  | false => show sbt f (.add A B) = _; rw [sbt]; rfl
theorem c_sbt {T : List Tok} {n : Nat} {D : List Df} {t : Tr} {e : Nat} (N : Nat) (hN : 100000 ≤ N) (he : e < t.1) (p : Ty) : ∀ (k dep kp : Nat) (s : Ty) (c : CS) (g : pm_s) (u : pm_J) (Y : List Ty), tyL p + dep ≤ 101 → tyL p ≤ k → Y[kp]? = some p → cK T n D t c g u Y → sbt (c.2.2.1 e) p = some s → Y.length + tyL p ≤ 60000 →
    ∃ (z : Nat) (g' : pm_s) (v : pm_J) (Z : List Ty), F_Checker_substitute N k (ie (kp : Nat)) (ie (e : Nat)) (ie (dep : Nat)) g u = some (ie (z : Nat), g', v) ∧ cK T n D t c g' v (Y ++ Z) ∧ (Y ++ Z)[z]? = some s ∧ Z.length + 1 ≤ tyL p ∧ fr cS_y u v ∧ gL g g' := by
  have zero : ∀ (p : Ty) (k dep kp : Nat) (s : Ty) (c : CS) (g : pm_s) (u : pm_J) (Y : List Ty), tyM p = 0 → tyL p + dep ≤ 101 → tyL p ≤ k → Y[kp]? = some p → cK T n D t c g u Y → sbt (c.2.2.1 e) p = some s →
      ∃ (z : Nat) (g' : pm_s) (v : pm_J) (Z : List Ty), F_Checker_substitute N k (ie (kp : Nat)) (ie (e : Nat)) (ie (dep : Nat)) g u = some (ie (z : Nat), g', v) ∧ cK T n D t c g' v (Y ++ Z) ∧ (Y ++ Z)[z]? = some s ∧ Z.length + 1 ≤ tyL p ∧ fr cS_y u v ∧ gL g g' := by
    intro p k dep kp s c g u Y h0 hd hk hp H hs
    have pp := tyL_pos p
    obtain ⟨k, rfl⟩ : ∃ k', k = k' + 1 := ⟨k - 1, by omega⟩
    obtain ⟨r1, r2, r3, r4, r5⟩ := c_row H.2.1 kp p hp
    rw [sbt_0 _ (tyC_g H.2.1 kp p hp) h0] at hs
    cases hs
    refine ⟨kp, g, u, [], ?_, by rw [List.append_nil]; exact H, by rw [List.append_nil]; exact hp, by show 0 + 1 ≤ _; omega, fr_refl _ _, gL_refl H.2.1.2.2.1⟩
    rw [F_Checker_substitute, FO_Checker_substitute, if_pos (show ie (dep : Nat) ≤ 101 from (inle dep 101 (by omega) (by omega)).mpr (by omega)), r3, Option.bind_some, h0, if_pos (show ie ((0 : Nat) : Int) = 0 from rfl), pmS_some g g _ _ (Nat.le_refl _) (Nat.le_refl _)]
  have two : ∀ (f : Bool) (A B : Ty), (∀ (k dep kp : Nat) (s : Ty) (c : CS) (g : pm_s) (u : pm_J) (Y : List Ty), tyL A + dep ≤ 101 → tyL A ≤ k → Y[kp]? = some A → cK T n D t c g u Y → sbt (c.2.2.1 e) A = some s → Y.length + tyL A ≤ 60000 →
    ∃ (z : Nat) (g' : pm_s) (v : pm_J) (Z : List Ty), F_Checker_substitute N k (ie (kp : Nat)) (ie (e : Nat)) (ie (dep : Nat)) g u = some (ie (z : Nat), g', v) ∧ cK T n D t c g' v (Y ++ Z) ∧ (Y ++ Z)[z]? = some s ∧ Z.length + 1 ≤ tyL A ∧ fr cS_y u v ∧ gL g g') → (∀ (k dep kp : Nat) (s : Ty) (c : CS) (g : pm_s) (u : pm_J) (Y : List Ty), tyL B + dep ≤ 101 → tyL B ≤ k → Y[kp]? = some B → cK T n D t c g u Y → sbt (c.2.2.1 e) B = some s → Y.length + tyL B ≤ 60000 →
    ∃ (z : Nat) (g' : pm_s) (v : pm_J) (Z : List Ty), F_Checker_substitute N k (ie (kp : Nat)) (ie (e : Nat)) (ie (dep : Nat)) g u = some (ie (z : Nat), g', v) ∧ cK T n D t c g' v (Y ++ Z) ∧ (Y ++ Z)[z]? = some s ∧ Z.length + 1 ≤ tyL B ∧ fr cS_y u v ∧ gL g g') → ∀ (k dep kp : Nat) (s : Ty) (c : CS) (g : pm_s) (u : pm_J) (Y : List Ty), tyL (tyP f A B) + dep ≤ 101 → tyL (tyP f A B) ≤ k → Y[kp]? = some (tyP f A B) → cK T n D t c g u Y → sbt (c.2.2.1 e) (tyP f A B) = some s → Y.length + tyL (tyP f A B) ≤ 60000 →
    ∃ (z : Nat) (g' : pm_s) (v : pm_J) (Z : List Ty), F_Checker_substitute N k (ie (kp : Nat)) (ie (e : Nat)) (ie (dep : Nat)) g u = some (ie (z : Nat), g', v) ∧ cK T n D t c g' v (Y ++ Z) ∧ (Y ++ Z)[z]? = some s ∧ Z.length + 1 ≤ tyL (tyP f A B) ∧ fr cS_y u v ∧ gL g g' := by
    intro f A B ihA ihB k dep kp s c g u Y hd hk hp H hs hY
    by_cases h0 : tyM (tyP f A B) = 0
    · exact zero _ k dep kp s c g u Y h0 hd hk hp H hs
    · rw [tyL_P] at hd hk hY ⊢
      have pA := tyL_pos A
      have pB := tyL_pos B
      obtain ⟨k, rfl⟩ : ∃ k', k = k' + 1 := ⟨k - 1, by omega⟩
      rw [sbtP] at hs
      cases hsA : sbt (c.2.2.1 e) A with
      | none => rw [hsA] at hs; cases hs
      | some sA =>
        cases hsB : sbt (c.2.2.1 e) B with
        | none => rw [hsA, hsB] at hs; cases hs
        | some sB =>
          rw [hsA, hsB] at hs
          have hs' : s = tyP f sA sB := (Option.some.inj hs).symm
          subst hs'
          obtain ⟨r1, r2, r3, r4, r5⟩ := c_row H.2.1 kp _ hp
          have hM := tyG_M (tyC_g H.2.1 kp _ hp)
          have hKp : tyK (tyP f A B) = tyF f := tyK_P f A B
          have hF : tyF f = 3 ∨ tyF f = 4 := by cases f <;> decide
          obtain ⟨l1, _, l3, _, l5, _⟩ := c_parts H.2.1 f A B kp hp
          obtain ⟨z1, g1, v1, Z1, a1, a2, a3, a4, a5, a6⟩ := ihA k (dep + 1) l1 sA c g u Y (by omega) (by omega) l3 H hsA (by omega)
          have hp1 := gapp hp Z1
          obtain ⟨_, m2, _, m4, _, m6, _⟩ := c_parts a2.2.1 f A B kp hp1
          obtain ⟨z2, g2, v2, Z2, b1, b2, b3, b4, b5, b6⟩ := ihB k (dep + 1) m2 sB c g1 v1 (Y ++ Z1) (by omega) (by omega) m4 a2 hsB (by rw [List.length_append]; omega)
          have hp2 := gapp hp1 Z2
          obtain ⟨t1, _⟩ := c_row b2.2.1 kp _ hp2
          obtain ⟨z3, g3, v3, Z3, d1, d2, d3, d4, d5, d6⟩ := c_make N hN b2.2.1 f sA sB z1 z2 (gapp a3 Z2) b3 (by rw [List.length_append, List.length_append]; omega)
          refine ⟨z3, g3, v3, Z1 ++ Z2 ++ Z3, ?_, ?_, ?_, ?_, fr_trans a5 (fr_trans b5 d5), gL_trans a6 (gL_trans b6 d6)⟩
          · rw [F_Checker_substitute, FO_Checker_substitute, if_pos (show ie (dep : Nat) ≤ 101 from (inle dep 101 (by omega) (by omega)).mpr (by omega)), r3, Option.bind_some, if_neg (show ¬ (ie (tyM (tyP f A B) : Nat) = 0) from fun hh => h0 ((ineq _ 0 (by omega) (by omega)).mp hh)), r1, Option.bind_some, hKp, if_neg (show ¬ (ie (tyF f : Nat) = 2) from fun hh => by have := (ineq _ 2 (by omega) (by omega)).mp hh; omega), l5, Option.bind_some, iadd1, a1, Option.bind_some, if_pos (gI_Tb a6.1), m6, Option.bind_some, b1, Option.bind_some, if_pos (gI_Tb b6.1), t1, Option.bind_some, hKp, d1, Option.bind_some, if_pos (gI_Tb d6.1), pmS_some g3 g3 _ _ (Nat.le_refl _) (Nat.le_refl _), pmS_some g2 g3 _ _ d6.2.1 d6.2.2.1, pmS_some g1 g3 _ _ (Nat.le_trans b6.2.1 d6.2.1) (Nat.le_trans b6.2.2.1 d6.2.2.1), pmS_some g g3 _ _ (Nat.le_trans a6.2.1 (Nat.le_trans b6.2.1 d6.2.1)) (Nat.le_trans a6.2.2.1 (Nat.le_trans b6.2.2.1 d6.2.2.1))]
          · have := cK_grow b2 Z3 d2 d5
            rw [List.append_assoc, List.append_assoc] at this
            rw [List.append_assoc]; exact this
          · rw [← List.append_assoc, ← List.append_assoc]; exact d4
          · rw [List.length_append, List.length_append]; omega
  induction p with
  | num j =>
    intro k dep kp s c g u Y hd hk hp H hs hY
    obtain ⟨rfl, h6⟩ := num_at H.2.1 hp
    by_cases e2 : kp < 2
    · exact zero _ k dep kp s c g u Y (by show (if kp < 2 then 0 else _) = 0; rw [if_pos e2]) hd hk hp H hs
    · have h0 : tyM (.num kp) ≠ 0 := by
        show (if kp < 2 then 0 else 2 ^ (kp - 2)) ≠ 0
        rw [if_neg e2]; have := Nat.two_pow_pos (kp - 2); omega
      have hd' : 1 + dep ≤ 101 := hd
      have hk' : 1 ≤ k := hk
      obtain ⟨k, rfl⟩ : ∃ k', k = k' + 1 := ⟨k - 1, by omega⟩
      obtain ⟨r1, r2, r3, r4, r5⟩ := c_row H.2.1 kp _ hp
      have hM := tyG_M (tyC_g H.2.1 kp _ hp)
      have hKp : tyK (.num kp) = 2 := by show (if kp < 2 then kp else 2) = 2; rw [if_neg e2]
      obtain ⟨_, _, _, _, q5, _⟩ := tr_set (g := g) H.2.2.1 e he
      obtain ⟨q6, _⟩ := q5 (kp - 2) (by omega)
      have hln : F_Types_letterNumber (ie (kp : Nat)) g u = some (ie ((kp - 2 : Nat) : Int)) := by
        unfold F_Types_letterNumber; rw [show (2 : Int32) = ie 2 from rfl, ie_sub]; congr 2; omega
      have hN2 := (H.2.2.2.2.2 e he).2.2.2.2.2.2.2.2.2 (kp - 2) (by omega)
      rw [sbt, if_neg e2] at hs
      rw [hs] at hN2
      obtain ⟨kr, kr1, kr2⟩ := hN2
      refine ⟨kr, g, u, [], ?_, by rw [List.append_nil]; exact H, by rw [List.append_nil]; exact kr2, by show 0 + 1 ≤ 1; omega, fr_refl _ _, gL_refl H.2.1.2.2.1⟩
      rw [F_Checker_substitute, FO_Checker_substitute, if_pos (show ie (dep : Nat) ≤ 101 from (inle dep 101 (by omega) (by omega)).mpr (by omega)), r3, Option.bind_some, if_neg (show ¬ (ie (tyM (.num kp) : Nat) = 0) from fun hh => h0 ((ineq _ 0 (by omega) (by omega)).mp hh)), r1, Option.bind_some, hKp, if_pos (show ie ((2 : Nat) : Int) = 2 from rfl), hln, Option.bind_some, q6, Option.bind_some, kr1, pmS_some g g _ _ (Nat.le_refl _) (Nat.le_refl _)]
  | var j => intro k dep kp s c g u Y _ _ hp H _ _; exact (tyC_g H.2.1 kp _ hp).elim
  | add A B ihA ihB => exact two false A B ihA ihB
  | mul A B ihA ihB => exact two true A B ihA ihB
def hdI (l : List Nat) : Int32 := match l with
  | [] => ie (-1)
  | a :: _ => ie (a : Nat)
theorem cn_hd {f : Nat → Int} {a : Nat} {l : List Nat} (h : cn f (a :: l)) : ie (f a) = hdI l ∧ cn f l := by
  cases l with
  | nil => exact ⟨by have h' : f a = -1 := h; rw [h']; rfl, trivial⟩
  | cons b l => exact ⟨by have h' : f a = b := h.1; rw [h']; rfl, h.2⟩
theorem aLt_c (D : List Df) (t : Tr) {c c' : CS} (h : c'.2.1 = c.2.1) (a : Nat) : aLt D t c' a = aLt D t c a := by unfold aLt; rw [h]
theorem shs_c (D : List Df) (t : Tr) {c c' : CS} (h : c'.2.1 = c.2.1) : ∀ (ps : List Ty) (l : List Nat) (s : Nat → Bool), shs D t c' ps l s = shs D t c ps l s
  | [], _, _ => by unfold shs; rfl
  | _ :: _, [], _ => by unfold shs; rfl
  | p :: ps, a :: l, s => by rw [shs, shs, aLt_c D t h, shs_c D t h ps l]
def dfI (D : List Df) (c : CS) : Prop := ∀ i d, c.2.1 i = some d → d < D.length
theorem isL_K {s : Ty} : (tyK s = 2) ↔ isL s = true := by
  cases s with
  | num k => show (if k < 2 then k else 2) = 2 ↔ Nat.ble 2 k = true
             rw [Nat.ble_eq]; by_cases h : k < 2
             · rw [if_pos h]; omega
             · rw [if_neg h]; omega
  | var k => exact ⟨fun h => (by cases h), fun h => (by cases h)⟩
  | add a b => exact ⟨fun h => (by cases h), fun h => (by cases h)⟩
  | mul a b => exact ⟨fun h => (by cases h), fun h => (by cases h)⟩
theorem dPs_some {D : List Df} {d : Nat} {x : Df} (h : D[d]? = some x) : dPs D d = x.2.1.reverse.map Prod.snd ∧ dTy D d = x.2.2.1 ∧ (dPs D d).length = x.2.1.length := by
  unfold dPs dTy; rw [h]
  exact ⟨rfl, rfl, by show (x.2.1.reverse.map Prod.snd).length = _; rw [List.length_map, List.length_reverse]⟩
theorem kk_n {D : List Df} {c : CS} {x : Nd} {i : Nat} (h : c.2.1 i = none) : kk D c x i = x.1 := by unfold kk; rw [h]
theorem kk_c {D : List Df} {c : CS} {x : Nd} {i d : Nat} (h : c.2.1 i = some d) (h16 : x.1 = 16) : kk D c x i = 17 := by unfold kk; rw [h]; show (if x.1 = 16 then _ else _) = _; rw [if_pos h16]
theorem kk_o {D : List Df} {c : CS} {x : Nd} {i d : Nat} (h : c.2.1 i = some d) (h16 : x.1 ≠ 16) : kk D c x i = if (dPs D d).length = 0 then 6 else 5 := by unfold kk; rw [h]; show (if x.1 = 16 then _ else _) = _; rw [if_neg h16]
def plI (D : List Df) : Prop := ∀ (d : Nat) (x : Df), D[d]? = some x → x.2.1.length ≤ 6
theorem c_aL {T : List Tok} {n : Nat} {D : List Df} {t : Tr} {c : CS} {g : pm_s} {u : pm_J} {Y : List Ty} {a : Nat} (H : cK T n D t c g u Y) (ha : a < t.1) (hd : dfI D c) (hw : (t.2.1 a).1 = 16 → (t.2.1 a).2.2.2.2.1 = ((t.2.1 a).2.2.2.2.2.2.length : Nat) ∧ (t.2.1 a).2.2.2.2.2.2.length ≤ 8) (hk : (t.2.1 a).1 ≤ 16) (hpl : plI D) : F_Checker_answersLetter (ie (a : Nat)) g u = some (ib (aLt D t c a)) := by
  obtain ⟨r1, _, _, _, r5, _, _, r8⟩ := tr_row (g := g) H.2.2.1 a ha
  obtain ⟨k1, _, _, _, k5, _, _, k8, _, _⟩ := H.2.2.2.2.2 a ha
  unfold F_Checker_answersLetter aLt
  rw [r8, Option.bind_some, r1, Option.bind_some, k1]
  cases hf : c.2.1 a with
  | none =>
    rw [kk_n hf, if_neg (show ¬ (ie ((t.2.1 a).1 : Nat) = 17) from fun hh => by have := (ineq _ 17 (by omega) (by omega)).mp hh; omega)]
    by_cases e16 : (t.2.1 a).1 = 16
    · rw [if_pos e16]; rfl
    · rw [if_neg e16]; rfl
  | some d =>
    rw [hf] at k8
    have hd' := hd a d hf
    have h30 := H.2.2.2.1.2
    by_cases e16 : (t.2.1 a).1 = 16
    · obtain ⟨w1, w2⟩ := hw e16
      obtain ⟨x, hx⟩ : ∃ x, D[d]? = some x := ⟨D[d], List.getElem?_eq_getElem hd'⟩
      obtain ⟨p1, p2, p3⟩ := dPs_some hx
      have hD := H.2.2.2.2.1 d x hx
      obtain ⟨b1, _, _, _, _, b6, _⟩ := tb_row (g := g) H.2.2.2.1 d hd'
      have k8' : u.2 26 a = je (d : Nat) := k8
      obtain ⟨kt, kt1, kt2⟩ := hD.2.2.1
      obtain ⟨q1, _⟩ := c_row H.2.1 kt _ kt2
      rw [kk_c hf e16, if_pos e16, if_pos (show ie ((17 : Nat) : Int) = 17 from rfl), r5, Option.bind_some, k8', je_ie _ (by omega) (by omega), b6, Option.bind_some, k5, w1, hD.2.2.2.2.2.2.1]
      have h8 := hpl d x hx
      by_cases el : (t.2.1 a).2.2.2.2.2.2.length = x.2.1.length
      · rw [if_pos (by rw [el]), b1, Option.bind_some, kt1, q1, Option.bind_some]
        have hb : Nat.beq x.2.1.length x.2.1.length = true := Nat.beq_eq.mpr rfl
        show _ = some (ib (Nat.beq (t.2.1 a).2.2.2.2.2.2.length (dPs D d).length && isL (dTy D d)))
        rw [p3, p2, el, hb, Bool.true_and]
        by_cases eL : tyK x.2.2.1 = 2
        · rw [if_pos (show ie (tyK x.2.2.1 : Nat) = 2 by rw [eL]; rfl), isL_K.mp eL]; rfl
        · have hle := tyK_le x.2.2.1
          rw [if_neg (show ¬ (ie (tyK x.2.2.1 : Nat) = 2) from fun hh => eL ((ineq _ 2 (by omega) (by omega)).mp hh)), show isL x.2.2.1 = false from Bool.eq_false_iff.mpr (fun hh => eL (isL_K.mpr hh))]; rfl
      · rw [if_neg (fun hh => el ((ineq _ _ (by omega) (by omega)).mp hh))]
        show _ = some (ib (Nat.beq (t.2.1 a).2.2.2.2.2.2.length (dPs D d).length && isL (dTy D d)))
        rw [p3, nbf el]; rfl
    · rw [kk_o hf e16, if_neg e16]
      have : ∀ b : Prop, ∀ [Decidable b], ¬ (ie ((if b then 6 else 5 : Nat) : Int) = 17) := fun b _ => by split <;> decide
      rw [if_neg (this _)]; rfl
