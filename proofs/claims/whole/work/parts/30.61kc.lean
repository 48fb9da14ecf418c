set_option maxRecDepth 100000
theorem ie_m1 (k : Nat) (h : k < 2147483648) : ¬ (ie (k : Nat) = (-1 : Int32)) := fun hh => by
  have h2 : ie (k : Nat) = ie (-1) := hh.trans (by decide)
  have := (ie_eq k (-1) (by omega) (by omega) (by omega) (by omega)).mp h2; omega
theorem tyG_M {p : Ty} (h : tyG p) : tyM p < 16 := by
  induction p with
  | num k =>
    have hk : k < 6 := h
    show (if k < 2 then 0 else 2 ^ (k - 2)) < 16
    by_cases e : k < 2
    · rw [if_pos e]; omega
    · rw [if_neg e]
      have : ∀ k, k < 6 → 2 ^ (k - 2) < 16 := by decide
      exact this k hk
  | var k => exact h.elim
  | add a b iha ihb => show tyM a ||| tyM b < 16; exact Nat.or_lt_two_pow (n := 4) (iha h.1) (ihb h.2)
  | mul a b iha ihb => show tyM a ||| tyM b < 16; exact Nat.or_lt_two_pow (n := 4) (iha h.1) (ihb h.2)
theorem fitP1 (f : Bool) (a b c d : Ty) (fi : Fi) (h : tyM (tyP f a b) ≠ 0) : fit (tyP f a b) (tyP f c d) fi = (fit a c fi).bind fun f' => fit b d f' := by
  cases f with
  | true => have h' : tyM (.mul a b) ≠ 0 := h
            show fit (.mul a b) (.mul c d) fi = _
            rw [fit, if_neg h']
  | false => have h' : tyM (.add a b) ≠ 0 := h
             show fit (.add a b) (.add c d) fi = _
             rw [fit, if_neg h']
theorem fitP2 (f : Bool) (a b s : Ty) (fi : Fi) (h : tyM (tyP f a b) ≠ 0) (hs : ¬ ∃ c d, s = tyP f c d) : fit (tyP f a b) s fi = none := by
  cases f with
  | true =>
    have h' : tyM (.mul a b) ≠ 0 := h
    show fit (.mul a b) s fi = _
    unfold fit
    rw [if_neg h']
    cases s with
    | mul c d => exact absurd ⟨c, d, rfl⟩ hs
    | _ => rfl
  | false =>
    have h' : tyM (.add a b) ≠ 0 := h
    show fit (.add a b) s fi = _
    unfold fit
    rw [if_neg h']
    cases s with
    | add c d => exact absurd ⟨c, d, rfl⟩ hs
    | _ => rfl
theorem fit0 (p s : Ty) (fi : Fi) (hg : tyG p) (h : tyM p = 0) : fit p s fi = if tyQ p s = true then some fi else none := by
  cases p with
  | num k =>
    by_cases e : k < 2
    · unfold fit; rw [if_pos e]
    · exfalso
      have h' : (if k < 2 then 0 else 2 ^ (k - 2)) = 0 := h
      rw [if_neg e] at h'
      have := Nat.two_pow_pos (k - 2); omega
  | var k => exact hg.elim
  | add a b => unfold fit; rw [if_pos h]
  | mul a b => unfold fit; rw [if_pos h]
def sFt (c : CS) (e : Nat) (f : Fi) : CS := (c.1, c.2.1, pu_upd c.2.2.1 e f, c.2.2.2)
theorem sFt_same (c : CS) (e : Nat) : sFt c e (c.2.2.1 e) = c := by
  unfold sFt
  have : pu_upd c.2.2.1 e (c.2.2.1 e) = c.2.2.1 := by
    funext i
    by_cases h : i = e
    · rw [h, upd_same]
    · rw [upd_ne _ _ _ _ h]
  rw [this]
theorem sFt_2 (c : CS) (e : Nat) (f f' : Fi) : sFt (sFt c e f) e f' = sFt c e f' := by
  unfold sFt
  have : pu_upd (pu_upd c.2.2.1 e f) e f' = pu_upd c.2.2.1 e f' := by
    funext i
    by_cases h : i = e
    · rw [h, upd_same, upd_same]
    · rw [upd_ne _ _ _ _ h, upd_ne _ _ _ _ h, upd_ne _ _ _ _ h]
  rw [this]
def cSKp (c i : Nat) : Prop := c = 3 ∨ (10 ≤ c ∧ c ≤ 28 ∧ ¬ (c = 18 ∧ i = 10)) ∨ 140 ≤ c
def frK (u v : pm_J) : Prop := ∀ c i, ¬ cSKp c i → v.1 c i = u.1 c i ∧ v.2 c i = u.2 c i
theorem frK_refl (u : pm_J) : frK u u := fun _ _ _ => ⟨rfl, rfl⟩
theorem frK_trans {u v w : pm_J} (h : frK u v) (h' : frK v w) : frK u w := fun c i hc => ⟨(h' c i hc).1.trans (h c i hc).1, (h' c i hc).2.trans (h c i hc).2⟩
theorem frK_wi {u v : pm_J} (h : frK u v) (a k : Nat) (x : Int32) (ha : cSKp a k) : frK u (wi v a k x) := fun c i hc => ⟨(wi_ne _ _ _ _ _ _ (fun hh => hc (by rw [hh.1, hh.2]; exact ha))).trans (h c i hc).1, (h c i hc).2⟩
theorem frK_y {u v : pm_J} (h : fr cS_y u v) : frK u v := fun c i hc => h c i (cSy_no (by unfold cSKp at hc; omega))
theorem cK_ft {T : List Tok} {n : Nat} {D : List Df} {t : Tr} {c : CS} {g : pm_s} {u : pm_J} {Y : List Ty} {e l : Nat} (H : cK T n D t c g u Y) (he : e < t.1) (hl : l < 4) (k : Nat) (s : Ty) (hk : Y[k]? = some s) : cK T n D t (sFt c e (pu_upd (c.2.2.1 e) l (some s))) g (wi u 28 (4 * e + l) (ie (k : Nat))) Y := by
  obtain ⟨a1, a2, a3, a4, a5, a6, a7, a8, a9, a10⟩ := H.2.2.2.2.2 e he
  refine cK_at e H he (fun x k' h1 h2 => ⟨wi_ne _ _ _ _ _ _ (by omega), rfl⟩) (fun i hi => ⟨rfl, rfl, upd_ne _ _ _ _ hi, rfl⟩) ⟨(wi_ne _ _ _ _ _ _ (by omega)).trans a1, (wi_ne _ _ _ _ _ _ (by omega)).trans a2, (wi_ne _ _ _ _ _ _ (by omega)).trans a3, (wi_ne _ _ _ _ _ _ (by omega)).trans a4, (wi_ne _ _ _ _ _ _ (by omega)).trans a5, (wi_ne _ _ _ _ _ _ (by omega)).trans a6, ?_, a8, (wi_ne _ _ _ _ _ _ (by omega)).trans a9, fun l' hl' => ?_⟩
  · rw [wi_ne _ _ _ _ _ _ (by omega)]; exact a7
  · show tyN Y _ (pu_upd c.2.2.1 e (pu_upd (c.2.2.1 e) l (some s)) e l')
    rw [upd_same]
    by_cases el : l' = l
    · rw [el, upd_same, wi_at]; exact ⟨k, rfl, hk⟩
    · rw [upd_ne _ _ _ _ el, wi_ne _ _ _ _ _ _ (by omega)]; exact a10 l' hl'
theorem num_at {g : pm_s} {u : pm_J} {Y : List Ty} (h : tyC g u Y) {k kp : Nat} (hk : Y[kp]? = some (.num k)) : kp = k ∧ k < 6 := by
  have hg := tyC_g h kp _ hk
  have hk6 : k < 6 := hg
  exact ⟨h.2.2.2.2.1 _ _ _ hk (h.2.2.2.2.2.1 k hk6), hk6⟩
theorem c_fit {T : List Tok} {n : Nat} {D : List Df} {t : Tr} {g : pm_s} {Y : List Ty} {e : Nat} (N : Nat) (he : e < t.1) (p : Ty) : ∀ (k dep kp ks : Nat) (s : Ty) (c : CS) (u : pm_J), tyL p + dep ≤ 101 → tyL p ≤ k → Y[kp]? = some p → Y[ks]? = some s → cK T n D t c g u Y →
    ∃ (v : pm_J) (b : Bool) (f' : Fi), F_Checker_fit N k (ie (kp : Nat)) (ie (ks : Nat)) (ie (e : Nat)) (ie (dep : Nat)) g u = some (ib b, v) ∧ cK T n D t (sFt c e f') g v Y ∧ frK u v ∧ (match fit p s (c.2.2.1 e) with | none => b = false | some f => b = true ∧ f' = f) := by
  have pre : ∀ (p : Ty) (k dep kp ks : Nat) (s : Ty) (c : CS) (u : pm_J), 1 ≤ k → dep ≤ 101 → Y[kp]? = some p → Y[ks]? = some s → cK T n D t c g u Y → ∃ k', k = k' + 1 ∧ ((tyM p = 0 → F_Checker_fit N k (ie (kp : Nat)) (ie (ks : Nat)) (ie (e : Nat)) (ie (dep : Nat)) g u = some (ib (tyQ p s), u)) ∧ (tyM p ≠ 0 → F_Checker_fit N k (ie (kp : Nat)) (ie (ks : Nat)) (ie (e : Nat)) (ie (dep : Nat)) g u = (F_Types_kind (ie (kp : Nat)) g u).bind fun q5 => if q5 = 2 then (F_Types_letterNumber (ie (kp : Nat)) g u).bind fun q18 => (F_Tree_fit (ie (e : Nat)) q18 g u).bind fun q19 => if q19 = (-1) then (F_Tree_setFit (ie (e : Nat)) q18 (ie (ks : Nat)) g u).bind fun q23 => K_Checker_fit_83 N (F_Checker_fit N k') g (ie (ks : Nat)) (ie (e : Nat)) q18 q23 else K_Checker_fit_83 N (F_Checker_fit N k') g (ie (ks : Nat)) (ie (e : Nat)) q18 u else (F_Types_kind (ie (kp : Nat)) g u).bind fun q7 => (F_Types_kind (ie (ks : Nat)) g u).bind fun q8 => if q7 = q8 then (F_Types_left (ie (kp : Nat)) g u).bind fun q10 => (F_Types_left (ie (ks : Nat)) g u).bind fun q11 => ((F_Checker_fit N k') q10 q11 (ie (e : Nat)) (ie (dep : Nat) + 1) g u).bind fun q12 => if q12.1 = 0 then some (0, q12.2) else (F_Types_right (ie (kp : Nat)) g q12.2).bind fun q14 => (F_Types_right (ie (ks : Nat)) g q12.2).bind fun q15 => ((F_Checker_fit N k') q14 q15 (ie (e : Nat)) (ie (dep : Nat) + 1) g q12.2).bind fun q16 => if q16.1 = 0 then some (0, q16.2) else some (1, q16.2) else some (0, u))) := by
    intro p k dep kp ks s c u hk hd hp hs H
    obtain ⟨k, rfl⟩ : ∃ k', k = k' + 1 := ⟨k - 1, by omega⟩
    obtain ⟨r1, r2, r3, r4, r5⟩ := c_row H.2.1 kp p hp
    have hgp := tyC_g H.2.1 kp p hp
    have hM := tyG_M hgp
    have hksl := (List.getElem?_eq_some_iff.mp hs).1
    have hY := H.2.1.2.1
    have i1 : ¬ ((101 : Int32) < ie (dep : Nat)) := fun hh => by have := (inlt 101 dep (by omega) (by omega)).mp hh; omega
    have i2 : ¬ (ie (ks : Nat) = -1) := ie_m1 ks (by omega)
    refine ⟨k, rfl, fun h0 => ?_, fun h0 => ?_⟩
    · rw [F_Checker_fit, FO_Checker_fit, if_neg i1, if_neg i2, r3, Option.bind_some, h0, if_pos (show ie ((0 : Nat) : Int) = 0 from rfl)]
      by_cases eq : p = s
      · rw [if_pos ((c_same H.2.1 kp ks p s hp hs).mpr eq), (tyQ_eq hgp).mpr eq]; rfl
      · rw [if_neg (fun hh => eq ((c_same H.2.1 kp ks p s hp hs).mp hh)), show tyQ p s = false from Bool.eq_false_iff.mpr (fun hh => eq ((tyQ_eq hgp).mp hh))]; rfl
    · rw [F_Checker_fit, FO_Checker_fit, if_neg i1, if_neg i2, r3, Option.bind_some, if_neg (show ¬ (ie (tyM p : Nat) = 0) from fun hh => h0 ((ineq _ 0 (by omega) (by omega)).mp hh))]
  have zero : ∀ (p : Ty) (k dep kp ks : Nat) (s : Ty) (c : CS) (u : pm_J), tyM p = 0 → 1 ≤ k → dep ≤ 101 → Y[kp]? = some p → Y[ks]? = some s → cK T n D t c g u Y → ∃ (v : pm_J) (b : Bool) (f' : Fi), F_Checker_fit N k (ie (kp : Nat)) (ie (ks : Nat)) (ie (e : Nat)) (ie (dep : Nat)) g u = some (ib b, v) ∧ cK T n D t (sFt c e f') g v Y ∧ frK u v ∧ (match fit p s (c.2.2.1 e) with | none => b = false | some f => b = true ∧ f' = f) := by
    intro p k dep kp ks s c u h0 hk hd hp hs H
    obtain ⟨k', _, h1, _⟩ := pre p k dep kp ks s c u hk hd hp hs H
    refine ⟨u, tyQ p s, c.2.2.1 e, h1 h0, by rw [sFt_same]; exact H, frK_refl _, ?_⟩
    rw [fit0 p s _ (tyC_g H.2.1 kp p hp) h0]
    cases hq : tyQ p s with
    | true => rw [if_pos rfl]; exact ⟨rfl, rfl⟩
    | false => rw [if_neg (by decide)]
  have two : ∀ (f : Bool) (A B : Ty), (∀ (k dep kp ks : Nat) (s : Ty) (c : CS) (u : pm_J), tyL A + dep ≤ 101 → tyL A ≤ k → Y[kp]? = some A → Y[ks]? = some s → cK T n D t c g u Y →
    ∃ (v : pm_J) (b : Bool) (f' : Fi), F_Checker_fit N k (ie (kp : Nat)) (ie (ks : Nat)) (ie (e : Nat)) (ie (dep : Nat)) g u = some (ib b, v) ∧ cK T n D t (sFt c e f') g v Y ∧ frK u v ∧ (match fit A s (c.2.2.1 e) with | none => b = false | some f => b = true ∧ f' = f)) → (∀ (k dep kp ks : Nat) (s : Ty) (c : CS) (u : pm_J), tyL B + dep ≤ 101 → tyL B ≤ k → Y[kp]? = some B → Y[ks]? = some s → cK T n D t c g u Y →
    ∃ (v : pm_J) (b : Bool) (f' : Fi), F_Checker_fit N k (ie (kp : Nat)) (ie (ks : Nat)) (ie (e : Nat)) (ie (dep : Nat)) g u = some (ib b, v) ∧ cK T n D t (sFt c e f') g v Y ∧ frK u v ∧ (match fit B s (c.2.2.1 e) with | none => b = false | some f => b = true ∧ f' = f)) → ∀ (k dep kp ks : Nat) (s : Ty) (c : CS) (u : pm_J), tyL (tyP f A B) + dep ≤ 101 → tyL (tyP f A B) ≤ k → Y[kp]? = some (tyP f A B) → Y[ks]? = some s → cK T n D t c g u Y →
    ∃ (v : pm_J) (b : Bool) (f' : Fi), F_Checker_fit N k (ie (kp : Nat)) (ie (ks : Nat)) (ie (e : Nat)) (ie (dep : Nat)) g u = some (ib b, v) ∧ cK T n D t (sFt c e f') g v Y ∧ frK u v ∧ (match fit (tyP f A B) s (c.2.2.1 e) with | none => b = false | some f => b = true ∧ f' = f) := by
    intro f A B ihA ihB k dep kp ks s c u hd hk hp hs H
    rw [tyL_P] at hd hk
    have pA := tyL_pos A
    have pB := tyL_pos B
    by_cases h0 : tyM (tyP f A B) = 0
    · exact zero _ k dep kp ks s c u h0 (by omega) (by omega) hp hs H
    · obtain ⟨k', hk', _, h1⟩ := pre _ k dep kp ks s c u (by omega) (by omega) hp hs H
      obtain ⟨r1, r2, r3, r4, r5⟩ := c_row H.2.1 kp _ hp
      obtain ⟨s1, s2, s3, s4, s5⟩ := c_row H.2.1 ks _ hs
      have hKp : tyK (tyP f A B) = tyF f := tyK_P f A B
      have hF : tyF f = 3 ∨ tyF f = 4 := by cases f <;> decide
      rw [h1 h0, r1, s1, Option.bind_some, if_neg (show ¬ (ie (tyK (tyP f A B) : Nat) = 2) from fun hh => by have := (ineq _ 2 (by omega) (by omega)).mp hh; omega), Option.bind_some, Option.bind_some, hKp]
      by_cases hx : ∃ C E, s = tyP f C E
      · obtain ⟨C, E, rfl⟩ := hx
        rw [tyK_P, if_pos rfl]
        obtain ⟨l1, l2, l3, l4, l5, l6, _⟩ := c_parts H.2.1 f A B kp hp
        obtain ⟨m1, m2, m3, m4, m5, m6, _⟩ := c_parts H.2.1 f C E ks hs
        rw [l5, m5, Option.bind_some, Option.bind_some, iadd1]
        obtain ⟨v1, b1, f1, w1, w2, w3, w4⟩ := ihA k' (dep + 1) l1 m1 C c u (by omega) (by omega) l3 m3 H
        rw [w1, Option.bind_some, fitP1 f A B C E _ h0]
        cases hfa : fit A C (c.2.2.1 e) with
        | none =>
          rw [hfa] at w4
          subst w4
          exact ⟨v1, false, f1, by rw [if_pos (show ib false = 0 from rfl)]; rfl, w2, w3, rfl⟩
        | some fa =>
          rw [hfa] at w4
          obtain ⟨rfl, rfl⟩ := w4
          obtain ⟨x1, x2, x3, x4, x5, x6, _⟩ := c_parts w2.2.1 f A B kp hp
          obtain ⟨y1, y2, y3, y4, y5, y6, _⟩ := c_parts w2.2.1 f C E ks hs
          obtain ⟨v2, b2, f2, z1, z2, z3, z4⟩ := ihB k' (dep + 1) x2 y2 E (sFt c e f1) v1 (by omega) (by omega) x4 y4 w2
          rw [if_neg (show ¬ (ib true = 0) by decide), x6, y6, Option.bind_some, Option.bind_some, z1, Option.bind_some]
          rw [sFt_2] at z2
          have hup : (sFt c e f1).2.2.1 e = f1 := upd_same _ _ _
          rw [hup] at z4
          refine ⟨v2, b2, f2, ?_, z2, frK_trans w3 z3, z4⟩
          cases b2 <;> rfl
      · rw [if_neg (show ¬ (ie (tyF f : Nat) = ie (tyK s : Nat)) from fun hh => hx (by
          have hle := tyK_le s
          obtain ⟨C, E, h⟩ := tyK_eq ((ineq _ _ (by omega) (by omega)).mp hh).symm
          exact ⟨C, E, h⟩))]
        rw [fitP2 f A B s _ h0 hx]
        exact ⟨u, false, c.2.2.1 e, rfl, by rw [sFt_same]; exact H, frK_refl _, rfl⟩
  induction p with
  | num j =>
    intro k dep kp ks s c u hd hk hp hs H
    have hd' : 1 + dep ≤ 101 := hd
    have hk' : 1 ≤ k := hk
    obtain ⟨rfl, h6⟩ := num_at H.2.1 hp
    by_cases e2 : kp < 2
    · exact zero _ k dep kp ks s c u (by show (if kp < 2 then 0 else _) = 0; rw [if_pos e2]) hk' (by omega) hp hs H
    · have h0 : tyM (.num kp) ≠ 0 := by
        show (if kp < 2 then 0 else 2 ^ (kp - 2)) ≠ 0
        rw [if_neg e2]; have := Nat.two_pow_pos (kp - 2); omega
      obtain ⟨k', _, _, h1⟩ := pre _ k dep kp ks s c u hk' (by omega) hp hs H
      obtain ⟨r1, _⟩ := c_row H.2.1 kp _ hp
      have hKp : tyK (.num kp) = 2 := by show (if kp < 2 then kp else 2) = 2; rw [if_neg e2]
      obtain ⟨_, _, _, _, q5, _⟩ := tr_set (g := g) H.2.2.1 e he
      obtain ⟨q6, q7⟩ := q5 (kp - 2) (by omega)
      have hln : F_Types_letterNumber (ie (kp : Nat)) g u = some (ie ((kp - 2 : Nat) : Int)) := by
        unfold F_Types_letterNumber; rw [show (2 : Int32) = ie 2 from rfl, ie_sub]; congr 2; omega
      rw [h1 h0, r1, Option.bind_some, hKp, if_pos (show ie ((2 : Nat) : Int) = 2 from rfl), hln, Option.bind_some, q6, Option.bind_some]
      have hN := (H.2.2.2.2.2 e he).2.2.2.2.2.2.2.2.2 (kp - 2) (by omega)
      have hY := H.2.1.2.1
      have hksl := (List.getElem?_eq_some_iff.mp hs).1
      unfold fit
      rw [if_neg e2]
      cases hf : c.2.2.1 e (kp - 2) with
      | none =>
        rw [hf] at hN
        have hN' : u.1 28 (4 * e + (kp - 2)) = ie (-1) := hN
        rw [hN', if_pos (show ie (-1) = -1 from rfl), q7, Option.bind_some]
        have H2 := cK_ft (l := kp - 2) H he (by omega) ks s hs
        obtain ⟨_, _, _, _, q5', _⟩ := tr_set (g := g) H2.2.2.1 e he
        obtain ⟨q6', _⟩ := q5' (kp - 2) (by omega)
        refine ⟨_, true, _, ?_, H2, frK_wi (frK_refl _) _ _ _ (by unfold cSKp; omega), rfl, rfl⟩
        unfold K_Checker_fit_83
        rw [q6', Option.bind_some, wi_at, if_pos rfl]; rfl
      | some r =>
        rw [hf] at hN
        obtain ⟨kr, kr1, kr2⟩ := hN
        have hkrl := (List.getElem?_eq_some_iff.mp kr2).1
        rw [kr1, if_neg (ie_m1 kr (by omega))]
        unfold K_Checker_fit_83
        rw [q6, Option.bind_some, kr1]
        by_cases eq : r = s
        · rw [if_pos ((c_same H.2.1 kr ks r s kr2 hs).mpr eq)]
          refine ⟨u, true, c.2.2.1 e, rfl, by rw [sFt_same]; exact H, frK_refl _, ?_⟩
          show match (if tyQ r s = true then some (c.2.2.1 e) else none) with | none => _ | some f => _
          rw [if_pos ((tyQ_eq (tyC_g H.2.1 kr r kr2)).mpr eq)]; exact ⟨rfl, rfl⟩
        · rw [if_neg (fun hh => eq ((c_same H.2.1 kr ks r s kr2 hs).mp hh))]
          refine ⟨u, false, c.2.2.1 e, rfl, by rw [sFt_same]; exact H, frK_refl _, ?_⟩
          show match (if tyQ r s = true then some (c.2.2.1 e) else none) with | none => _ | some f => _
          rw [if_neg (fun hh => eq ((tyQ_eq (tyC_g H.2.1 kr r kr2)).mp hh))]
  | var j => intro k dep kp ks s c u _ _ hp _ H; exact (tyC_g H.2.1 kp _ hp).elim
  | add A B ihA ihB => exact two false A B ihA ihB
  | mul A B ihA ihB => exact two true A B ihA ihB
