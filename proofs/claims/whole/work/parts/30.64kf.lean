set_option maxRecDepth 100000
theorem fit_dom {p : Ty} : ∀ {s : Ty} {f f' : Fi}, fit p s f = some f' → (∀ b r, f b = some r → f' b = some r) ∧ (∀ b, Nat.testBit (tyM p) b = true → ∃ r, f' b = some r) := by
  have z : ∀ (p s : Ty) (f f' : Fi), tyM p = 0 → (if tyQ p s = true then some f else none) = some f' → (∀ b r, f b = some r → f' b = some r) ∧ (∀ b, Nat.testBit (tyM p) b = true → ∃ r, f' b = some r) := by
    intro p s f f' h0 h
    by_cases e : tyQ p s = true
    · rw [if_pos e] at h; cases h
      exact ⟨fun _ _ h => h, fun b hb => by rw [h0, Nat.zero_testBit] at hb; cases hb⟩
    · rw [if_neg e] at h; cases h
  induction p with
  | num k =>
    intro s f f' h
    unfold fit at h
    by_cases e : k < 2
    · rw [if_pos e] at h
      exact z (.num k) s f f' (by show (if k < 2 then 0 else _) = 0; rw [if_pos e]) h
    · rw [if_neg e] at h
      have hb : ∀ b, Nat.testBit (tyM (.num k)) b = true → b = k - 2 := fun b hb => by
        have hb' : Nat.testBit (if k < 2 then 0 else 2 ^ (k - 2)) b = true := hb
        rw [if_neg e, Nat.testBit_two_pow] at hb'
        have := of_decide_eq_true hb'; omega
      cases hf : f (k - 2) with
      | none =>
        rw [hf] at h
        have h' : f' = pu_upd f (k - 2) (some s) := (Option.some.inj h).symm
        subst h'
        refine ⟨fun b r hr => ?_, fun b hh => ?_⟩
        · by_cases eb : b = k - 2
          · rw [eb, hf] at hr; cases hr
          · rw [upd_ne _ _ _ _ eb]; exact hr
        · rw [hb b hh]; exact ⟨s, upd_same _ _ _⟩
      | some r =>
        rw [hf] at h
        have h' : (if tyQ r s = true then some f else none) = some f' := h
        by_cases eq : tyQ r s = true
        · rw [if_pos eq] at h'; cases h'
          exact ⟨fun _ _ h => h, fun b hh => by rw [hb b hh]; exact ⟨r, hf⟩⟩
        · rw [if_neg eq] at h'; cases h'
  | var k => intro s f f' h; cases h
  | add A B ihA ihB =>
    intro s f f' h
    by_cases h0 : tyM (.add A B) = 0
    · unfold fit at h; rw [if_pos h0] at h; exact z _ s f f' h0 h
    · by_cases hs : ∃ C E, s = tyP false C E
      · obtain ⟨C, E, rfl⟩ := hs
        rw [show (Nat.Internal.SOM.Expr.add A B) = tyP false A B from rfl, fitP1 false A B C E f h0] at h
        cases h1 : fit A C f with
        | none => rw [h1] at h; cases h
        | some f1 =>
          rw [h1] at h
          have h2 : fit B E f1 = some f' := h
          obtain ⟨a1, a2⟩ := ihA h1
          obtain ⟨b1, b2⟩ := ihB h2
          refine ⟨fun b r hr => b1 b r (a1 b r hr), fun b hb => ?_⟩
          have hb' : Nat.testBit (tyM A ||| tyM B) b = true := hb
          rw [Nat.testBit_or, Bool.or_eq_true] at hb'
          rcases hb' with hb' | hb'
          · obtain ⟨r, hr⟩ := a2 b hb'; exact ⟨r, b1 b r hr⟩
          · exact b2 b hb'
      · rw [show (Nat.Internal.SOM.Expr.add A B) = tyP false A B from rfl, fitP2 false A B s f h0 hs] at h; cases h
  | mul A B ihA ihB =>
    intro s f f' h
    by_cases h0 : tyM (.mul A B) = 0
    · unfold fit at h; rw [if_pos h0] at h; exact z _ s f f' h0 h
    · by_cases hs : ∃ C E, s = tyP true C E
      · obtain ⟨C, E, rfl⟩ := hs
        rw [show (Nat.Internal.SOM.Expr.mul A B) = tyP true A B from rfl, fitP1 true A B C E f h0] at h
        cases h1 : fit A C f with
        | none => rw [h1] at h; cases h
        | some f1 =>
          rw [h1] at h
          have h2 : fit B E f1 = some f' := h
          obtain ⟨a1, a2⟩ := ihA h1
          obtain ⟨b1, b2⟩ := ihB h2
          refine ⟨fun b r hr => b1 b r (a1 b r hr), fun b hb => ?_⟩
          have hb' : Nat.testBit (tyM A ||| tyM B) b = true := hb
          rw [Nat.testBit_or, Bool.or_eq_true] at hb'
          rcases hb' with hb' | hb'
          · obtain ⟨r, hr⟩ := a2 b hb'; exact ⟨r, b1 b r hr⟩
          · exact b2 b hb'
      · rw [show (Nat.Internal.SOM.Expr.mul A B) = tyP true A B from rfl, fitP2 true A B s f h0 hs] at h; cases h
theorem fits_dom {ty : Nat → Option Ty} : ∀ (ps : List Ty) (l : List Nat) (f f' : Fi), fits ty ps l f = some f' → (∀ b r, f b = some r → f' b = some r) ∧ (∀ p ∈ ps, ∀ b, Nat.testBit (tyM p) b = true → ∃ r, f' b = some r)
  | [], _, f, f', h => by
    unfold fits at h; cases h; exact ⟨fun _ _ h => h, fun p hp => by cases hp⟩
  | p :: ps, [], f, f', h => by unfold fits at h; cases h
  | p :: ps, a :: l, f, f', h => by
    rw [fits] at h
    cases ha : ty a with
    | none => rw [ha] at h; cases h
    | some s =>
      rw [ha] at h
      have h' : ((fit p s f).bind fun f1 => fits ty ps l f1) = some f' := h
      cases h1 : fit p s f with
      | none => rw [h1] at h'; cases h'
      | some f1 =>
        rw [h1] at h'
        have h2 : fits ty ps l f1 = some f' := h'
        obtain ⟨a1, a2⟩ := fit_dom h1
        obtain ⟨b1, b2⟩ := fits_dom ps l f1 f' h2
        refine ⟨fun b r hr => b1 b r (a1 b r hr), fun q hq b hb => ?_⟩
        rcases List.mem_cons.mp hq with rfl | hq
        · obtain ⟨r, hr⟩ := a2 b hb; exact ⟨r, b1 b r hr⟩
        · exact b2 q hq b hb
theorem sbt_dom {f : Fi} {p : Ty} (hg : tyG p) (h : ∀ b, Nat.testBit (tyM p) b = true → ∃ r, f b = some r) : ∃ s, sbt f p = some s := by
  induction p with
  | num k =>
    by_cases e : k < 2
    · exact ⟨.num k, by rw [sbt, if_pos e]⟩
    · obtain ⟨r, hr⟩ := h (k - 2) (by
        show Nat.testBit (if k < 2 then 0 else 2 ^ (k - 2)) (k - 2) = true
        rw [if_neg e, Nat.testBit_two_pow]; exact decide_eq_true rfl)
      exact ⟨r, by rw [sbt, if_neg e, hr]⟩
  | var k => exact hg.elim
  | add A B ihA ihB =>
    obtain ⟨a, ha⟩ := ihA hg.1 (fun b hb => h b (by show Nat.testBit (tyM A ||| tyM B) b = true; rw [Nat.testBit_or, hb]; rfl))
    obtain ⟨c, hc⟩ := ihB hg.2 (fun b hb => h b (by show Nat.testBit (tyM A ||| tyM B) b = true; rw [Nat.testBit_or, hb, Bool.or_true]))
    exact ⟨.add a c, by rw [sbt, ha, hc]; rfl⟩
  | mul A B ihA ihB =>
    obtain ⟨a, ha⟩ := ihA hg.1 (fun b hb => h b (by show Nat.testBit (tyM A ||| tyM B) b = true; rw [Nat.testBit_or, hb]; rfl))
    obtain ⟨c, hc⟩ := ihB hg.2 (fun b hb => h b (by show Nat.testBit (tyM A ||| tyM B) b = true; rw [Nat.testBit_or, hb, Bool.or_true]))
    exact ⟨.mul a c, by rw [sbt, ha, hc]; rfl⟩
def ltI (D : List Df) : Prop := ∀ (d : Nat) (x : Df), D[d]? = some x → ∀ b, Nat.testBit (tyM x.2.2.1) b = true → Nat.testBit (pmM x.2.1) b = true
theorem pmM_mem : ∀ (ps : PM) (b : Nat), Nat.testBit (pmM ps) b = true → ∃ p ∈ ps, Nat.testBit (tyM p.2) b = true
  | [], b, h => by rw [pmM, Nat.zero_testBit] at h; cases h
  | p :: ps, b, h => by
    rw [pmM, Nat.testBit_or, Bool.or_eq_true] at h
    rcases h with h | h
    · obtain ⟨q, q1, q2⟩ := pmM_mem ps b h; exact ⟨q, List.mem_cons_of_mem _ q1, q2⟩
    · exact ⟨p, List.mem_cons_self, h⟩
theorem clash_none (T : List Tok) : ∀ (R P : List Df), clash T P R = none → ∀ x ∈ R, x.2.2.2.2.2.1 = none
  | [], _, _, x, hx => by cases hx
  | y :: R, P, h, x, hx => by
    unfold clash at h
    by_cases e : (P.any fun z => tkV T z.1 == tkV T y.1) = true
    · rw [if_pos e] at h; cases h
    · rw [if_neg e] at h
      cases hw : y.2.2.2.2.2.1 with
      | some w => rw [hw] at h; cases h
      | none =>
        rw [hw] at h
        rcases List.mem_cons.mp hx with rfl | hx
        · exact hw
        · exact clash_none T R _ h x hx
theorem pW_let {T : List Tok} {D : List Df} {t : Tr} (h : pW T D t) (hc : clash T [] D = none) : ltI D := fun d x hx b hb => by
  obtain ⟨_, _, _, _, _, _, _, _, a⟩ := h.1 d x hx
  exact a (clash_none T D [] hc x (List.mem_of_getElem? hx)) b hb
theorem sbt_some {D : List Df} (hl : ltI D) {d : Nat} {x : Df} (hx : D[d]? = some x) (hg : tyG x.2.2.1) {ty : Nat → Option Ty} {l : List Nat} {f f' : Fi} (h : fits ty (dPs D d) l f = some f') : ∃ s, sbt f' (dTy D d) = some s := by
  obtain ⟨p1, p2, p3⟩ := dPs_some hx
  rw [p2]
  obtain ⟨_, h2⟩ := fits_dom _ _ _ _ h
  refine sbt_dom hg (fun b hb => ?_)
  obtain ⟨p, q1, q2⟩ := pmM_mem _ b (hl d x hx b hb)
  exact h2 p.2 (by rw [p1]; exact List.mem_map_of_mem (List.mem_reverse.mpr q1)) b q2
def kI (D : List Df) (t : Tr) (f0 e : Nat) (c : CS) : Prop := dfI D c ∧ (∀ i d, c.2.1 i = some d → ((t.2.1 i).1 = 3 ∧ (dPs D d).length = 0) ∨ (t.2.1 i).1 = 4 ∨ ((t.2.1 i).1 = 16 ∧ (dPs D d).length ≠ 0)) ∧ (∀ j, f0 ≤ j → j < e → (t.2.1 j).1 ≠ 4 → ∃ s, c.1 j = some s) ∧ (∀ j, f0 ≤ j → j < e → (t.2.1 j).1 = 4 → ∃ d, c.2.1 j = some d ∧ ((dPs D d).length = 0 → ∃ s, c.1 j = some s)) ∧ ∀ j, e ≤ j → c.1 j = none ∧ c.2.1 j = none ∧ c.2.2.1 j = fun _ => none
theorem cK_df {T : List Tok} {n : Nat} {D : List Df} {t : Tr} {c : CS} {g : pm_s} {u : pm_J} {Y : List Ty} {a d : Nat} (H : cK T n D t c g u Y) (ha : a < t.1) (k : Nat) (hk : kk D (sDf c a d) (t.2.1 a) a = k) : cK T n D t (sDf c a d) g (wj (wi u 19 a (ie (k : Nat))) 26 a (je (d : Nat))) Y := by
  obtain ⟨a1, a2, a3, a4, a5, a6, a7, a8, a9, a10⟩ := H.2.2.2.2.2 a ha
  have ne1 : ∀ x k', ¬ (x = 19 ∧ k' = a) → (wj (wi u 19 a (ie (k : Nat))) 26 a (je (d : Nat))).1 x k' = u.1 x k' := fun x k' h => wi_ne _ _ _ _ _ _ h
  have ne2 : ∀ x k', ¬ (x = 26 ∧ k' = a) → (wj (wi u 19 a (ie (k : Nat))) 26 a (je (d : Nat))).2 x k' = u.2 x k' := fun x k' h => by unfold wj; exact if_neg h
  have at1 : (wj (wi u 19 a (ie (k : Nat))) 26 a (je (d : Nat))).1 19 a = ie (k : Nat) := wi_at _ _ _ _
  have at2 : (wj (wi u 19 a (ie (k : Nat))) 26 a (je (d : Nat))).2 26 a = je (d : Nat) := by unfold wj; exact if_pos ⟨rfl, rfl⟩
  have hdf : (sDf c a d).2.1 a = some d := upd_same _ _ _
  refine cK_at a H ha (fun x k' h1 h2 => ⟨ne1 x k' (by omega), ne2 x k' (by omega)⟩) (fun i hi => ⟨rfl, upd_ne _ _ _ _ hi, rfl, rfl⟩) ⟨at1.trans (by rw [hk]), (ne1 _ _ (by omega)).trans a2, (ne1 _ _ (by omega)).trans a3, (ne1 _ _ (by omega)).trans a4, (ne1 _ _ (by omega)).trans a5, (ne1 _ _ (by omega)).trans a6, ?_, ?_, (ne1 _ _ (by omega)).trans a9, fun l' hl' => ?_⟩
  · rw [ne1 _ _ (by omega)]; exact a7
  · rw [at2, hdf]
  · rw [ne1 _ _ (by omega)]; exact a10 l' hl'
theorem frK_wj {u v : pm_J} (h : frK u v) (a k : Nat) (x : Int64) (ha : cSKp a k) : frK u (wj v a k x) := fun c i hc => ⟨(h c i hc).1, by
  have hne : ¬ (c = a ∧ i = k) := fun hh => hc (by rw [hh.1, hh.2]; exact ha)
  show (wj v a k x).2 c i = u.2 c i
  unfold wj; exact (if_neg hne).trans (h c i hc).2⟩
theorem cK_ty {T : List Tok} {n : Nat} {D : List Df} {t : Tr} {c : CS} {g : pm_s} {u : pm_J} {Y : List Ty} {e k : Nat} {s : Ty} (H : cK T n D t c g u Y) (he : e < t.1) (hk : Y[k]? = some s) : cK T n D t (sTy c e s) g (wi u 25 e (ie (k : Nat))) Y := by
  obtain ⟨a1, a2, a3, a4, a5, a6, a7, a8, a9, a10⟩ := H.2.2.2.2.2 e he
  refine cK_at e H he (fun x k' h1 h2 => ⟨wi_ne _ _ _ _ _ _ (by omega), rfl⟩) (fun i hi => ⟨upd_ne _ _ _ _ hi, rfl, rfl, rfl⟩) ⟨(wi_ne _ _ _ _ _ _ (by omega)).trans a1, (wi_ne _ _ _ _ _ _ (by omega)).trans a2, (wi_ne _ _ _ _ _ _ (by omega)).trans a3, (wi_ne _ _ _ _ _ _ (by omega)).trans a4, (wi_ne _ _ _ _ _ _ (by omega)).trans a5, (wi_ne _ _ _ _ _ _ (by omega)).trans a6, ?_, a8, (wi_ne _ _ _ _ _ _ (by omega)).trans a9, fun l' hl' => ?_⟩
  · rw [wi_at]
    show tyN Y _ (pu_upd c.1 e (some s) e)
    rw [upd_same]; exact ⟨k, rfl, hk⟩
  · rw [wi_ne _ _ _ _ _ _ (by omega)]; exact a10 l' hl'
theorem k_call {T : List Tok} {n : Nat} {D : List Df} {t : Tr} {c : CS} {lc : Lc} {g : pm_s} {u : pm_J} {Y : List Ty} {e f0 : Nat} (N : Nat) (hN : 100000 ≤ N) (H : cK T n D t c g u Y) (he : e < t.1) (h16 : (t.2.1 e).1 = 16) (hC : nC (lc, t) f0 e (t.2.1 e)) (hW : ∀ j, f0 ≤ j → j < e → ((t.2.1 j).1 ≤ 16 ∧ (t.2.1 j).1 ≠ 5 ∧ (t.2.1 j).1 ≠ 6) ∧ ((t.2.1 j).1 = 16 → (t.2.1 j).2.2.2.2.1 = ((t.2.1 j).2.2.2.2.2.2.length : Nat) ∧ (t.2.1 j).2.2.2.2.2.2.length ≤ 8)) (hI : kI D t f0 e c) (hpar : parI D) (hlet : ltI D) (hY : Y.length + 200 ≤ 60000) :
    ∃ (w : Int32) (g' : pm_s) (v : pm_J) (Z : List Ty) (c' : CS), F_Checker_typeOfCall N (ie (e : Nat)) g u = some (w, g', v) ∧ cK T n D t c' g' v (Y ++ Z) ∧ frK u v ∧ gL g g' ∧ Z.length ≤ 99 ∧ (match ckC D t c e (t.2.1 e) with | none => w = ie (-1) | some q => c' = q.2 ∧ tyN (Y ++ Z) w (some q.1)) := by
  obtain ⟨b1, b2, b3, b4, b5, b6, b7, b8, b9, b10, b11⟩ := hC
  obtain ⟨i1, i2, i3, i4, i5⟩ := hI
  obtain ⟨h, hh⟩ : ∃ h : Nat, (t.2.1 e).2.2.1 = h := ⟨(t.2.1 e).2.2.1.toNat, by omega⟩
  have htn : (t.2.1 e).2.2.1.toNat = h := by omega
  have hrow : row (t.2.1 e) = h :: (t.2.1 e).2.2.2.2.2.2 := by rw [row_c h16, htn]
  rw [hrow] at b2 b3 b8
  rw [htn] at b10 b11
  have hhr := b3 h List.mem_cons_self
  obtain ⟨m1, m2, m3, m4, m5, m6, m7, m8⟩ := tr_row (g := g) H.2.2.1 e he
  obtain ⟨k1, k2, k3, k4, k5, k6, k7, k8, k9, k10⟩ := H.2.2.2.2.2 e he
  have hlt : h < t.1 := by omega
  obtain ⟨n1, n2, n3, n4, n5, n6, n7, n8⟩ := tr_row (g := g) H.2.2.1 h hlt
  obtain ⟨o1, o2, o3, o4, o5, o6, o7, o8, o9, o10⟩ := H.2.2.2.2.2 h hlt
  obtain ⟨c1, c2⟩ := cn_hd b8
  have n24 : u.1 24 h = hdI (t.2.1 e).2.2.2.2.2.2 := o6.trans c1
  have hat : ∀ a ∈ (t.2.1 e).2.2.2.2.2.2, atO t c a := fun a ha => by
    have hr := b3 a (List.mem_cons_of_mem _ ha)
    obtain ⟨q1, q2⟩ := hW a hr.1 hr.2
    exact ⟨by omega, q1.1, q2, i3 a hr.1 hr.2 (b4 a ha)⟩
  have hst : F_Checker_typeOfCall N (ie (e : Nat)) g u = pm_S g (if ie (kk D c (t.2.1 h) h : Nat) = 5 then (F_Tree_value (ie (h : Nat)) g u).bind fun q16 => (F_Table_parameters q16.toInt32 g u).bind fun q17 => if ie ((t.2.1 e).2.2.2.2.2.2.length : Nat) < q17 then some ((-1), g, u) else (F_Checker_fitAtoms N (ie (e : Nat)) q16.toInt32 g u).bind fun q19 => if q19.1 = 0 then some ((-1), g, q19.2) else (F_Tree_turnInto (ie (e : Nat)) 17 g q19.2).bind fun q21 => (F_Tree_setValue (ie (e : Nat)) q16.toInt32.toInt64 g q21).bind fun q22 => (F_Table_type q16.toInt32 g q22).bind fun q23 => (F_Checker_substitute N 104 q23 (ie (e : Nat)) 0 g q22).bind fun q24 => if sh_Tb q24.2.1 = true then pm_S q24.2.1 (K_Checker_typeOfCall_141 N N q24.1 (hdI (t.2.1 e).2.2.2.2.2.2) (ie ((t.2.1 e).2.2.2.2.2.2.length : Nat)) q17 0 q24.2.1 q24.2.2) else none else K_Checker_typeOfCall_169 N N (u.1 25 h) (hdI (t.2.1 e).2.2.2.2.2.2) (ie ((t.2.1 e).2.2.2.2.2.2.length : Nat)) 0 g u) := by
    unfold F_Checker_typeOfCall
    rw [m3, Option.bind_some, k3, hh, n7, Option.bind_some, Option.bind_some, n6, Option.bind_some, n24, m5, Option.bind_some, k5, b5, n1, Option.bind_some, o1]
  rw [hst]
  have hgI := H.2.1.2.2.1
  unfold ckC
  rw [htn]
  have hplain : calD D t c h = none → kk D c (t.2.1 h) h ≠ 5 → (∃ s, c.1 h = some s) → ∃ (w : Int32) (g' : pm_s) (v : pm_J) (Z : List Ty) (c' : CS), pm_S g (if ie (kk D c (t.2.1 h) h : Nat) = 5 then (F_Tree_value (ie (h : Nat)) g u).bind fun q16 => (F_Table_parameters q16.toInt32 g u).bind fun q17 => if ie ((t.2.1 e).2.2.2.2.2.2.length : Nat) < q17 then some ((-1), g, u) else (F_Checker_fitAtoms N (ie (e : Nat)) q16.toInt32 g u).bind fun q19 => if q19.1 = 0 then some ((-1), g, q19.2) else (F_Tree_turnInto (ie (e : Nat)) 17 g q19.2).bind fun q21 => (F_Tree_setValue (ie (e : Nat)) q16.toInt32.toInt64 g q21).bind fun q22 => (F_Table_type q16.toInt32 g q22).bind fun q23 => (F_Checker_substitute N 104 q23 (ie (e : Nat)) 0 g q22).bind fun q24 => if sh_Tb q24.2.1 = true then pm_S q24.2.1 (K_Checker_typeOfCall_141 N N q24.1 (hdI (t.2.1 e).2.2.2.2.2.2) (ie ((t.2.1 e).2.2.2.2.2.2.length : Nat)) q17 0 q24.2.1 q24.2.2) else none else K_Checker_typeOfCall_169 N N (u.1 25 h) (hdI (t.2.1 e).2.2.2.2.2.2) (ie ((t.2.1 e).2.2.2.2.2.2.length : Nat)) 0 g u) = some (w, g', v) ∧ cK T n D t c' g' v (Y ++ Z) ∧ frK u v ∧ gL g g' ∧ Z.length ≤ 99 ∧ (match (match calD D t c h with
      | none => (match c.1 h with
        | none => none
        | some s => (apF c.1 s (t.2.1 e).2.2.2.2.2.2).map fun r => (r, c))
      | some d => if (t.2.1 e).2.2.2.2.2.2.length < (dPs D d).length then none else (fits c.1 (dPs D d) (t.2.1 e).2.2.2.2.2.2 (fun _ => none)).bind fun f => (sbt f (dTy D d)).bind fun s => (apF c.1 s ((t.2.1 e).2.2.2.2.2.2.drop (dPs D d).length)).map fun r => (r, (c.1, pu_upd c.2.1 e (some d), pu_upd c.2.2.1 e f, shs D t c (dPs D d) (t.2.1 e).2.2.2.2.2.2 c.2.2.2))) with | none => w = ie (-1) | some q => c' = q.2 ∧ tyN (Y ++ Z) w (some q.1)) := by
    rintro hcal hk5 ⟨s, hs⟩
    have hkb : kk D c (t.2.1 h) h ≤ 17 := by
      have hq := (hW h hhr.1 hhr.2).1.1
      unfold kk
      cases c.2.1 h with
      | none => show (t.2.1 h).1 ≤ 17; omega
      | some d => show (if (t.2.1 h).1 = 16 then 17 else if (dPs D d).length = 0 then 6 else 5) ≤ 17; split <;> (try split) <;> omega
    rw [hs] at o7
    obtain ⟨ks, ks1, ks2⟩ := o7
    obtain ⟨w, w1, w2⟩ := c_apF N H (t.2.1 e).2.2.2.2.2.2 s ks 0 _ N (Nat.zero_add _) b7 (by omega) ks2 c2 hat
    rw [if_neg (show ¬ (ie (kk D c (t.2.1 h) h : Nat) = 5) from fun hx => hk5 ((ineq _ 5 (by omega) (by omega)).mp hx)), ks1]
    refine ⟨w, g, u, [], c, ?_, by rw [List.append_nil]; exact H, frK_refl _, gL_refl hgI, Nat.zero_le _, ?_⟩
    · have w1' : K_Checker_typeOfCall_169 N N (ie (ks : Nat)) (hdI (t.2.1 e).2.2.2.2.2.2) (ie ((t.2.1 e).2.2.2.2.2.2.length : Nat)) 0 g u = some (w, g, u) := w1
      rw [w1', pmS_some g g _ _ (Nat.le_refl _) (Nat.le_refl _)]
    · rw [hcal, hs, List.append_nil]
      show match (apF c.1 s (t.2.1 e).2.2.2.2.2.2).map fun r => (r, c) with | none => _ | some q => _
      cases hap : apF c.1 s (t.2.1 e).2.2.2.2.2.2 with
      | none => rw [hap] at w2; exact w2
      | some r => rw [hap] at w2; exact ⟨rfl, w2⟩
  by_cases h4 : (t.2.1 h).1 = 4
  · obtain ⟨d, hd1, hd2⟩ := i4 h hhr.1 hhr.2 h4
    have hko := kk_o (D := D) hd1 (show (t.2.1 h).1 ≠ 16 by omega)
    by_cases h0 : (dPs D d).length = 0
    · rw [if_pos h0] at hko
      exact hplain (by unfold calD; rw [if_pos h4, hd1]; show (if (dPs D d).length = 0 then none else some d) = none; rw [if_pos h0]) (by rw [hko]; omega) (hd2 h0)
    · rw [if_neg h0] at hko
      have hcal : calD D t c h = some d := by unfold calD; rw [if_pos h4, hd1]; show (if (dPs D d).length = 0 then none else some d) = some d; rw [if_neg h0]
      have hdl := i1 h d hd1
      obtain ⟨x, hx⟩ : ∃ x, D[d]? = some x := ⟨D[d], List.getElem?_eq_getElem hdl⟩
      obtain ⟨p1, p2, p3⟩ := dPs_some hx
      have h30 := H.2.2.2.1.2
      obtain ⟨t1, _, _, _, _, t6, _⟩ := tb_row (g := g) H.2.2.2.1 d hdl
      have hD := H.2.2.2.2.1 d x hx
      have hp6 := (hpar d x hx).1
      rw [hd1] at o8
      have o8' : u.2 26 h = je (d : Nat) := o8
      rw [hko, hcal, if_pos (show ie ((5 : Nat) : Int) = 5 from rfl), n8, Option.bind_some, o8', je_ie _ (by omega) (by omega), t6, Option.bind_some, hD.2.2.2.2.2.2.1, ← p3]
      show ∃ w g' v Z c', _ ∧ _ ∧ _ ∧ _ ∧ _ ∧ (match (if (t.2.1 e).2.2.2.2.2.2.length < (dPs D d).length then none else (fits c.1 (dPs D d) (t.2.1 e).2.2.2.2.2.2 (fun _ => none)).bind fun f => (sbt f (dTy D d)).bind fun s => (apF c.1 s ((t.2.1 e).2.2.2.2.2.2.drop (dPs D d).length)).map fun r => (r, (c.1, pu_upd c.2.1 e (some d), pu_upd c.2.2.1 e f, shs D t c (dPs D d) (t.2.1 e).2.2.2.2.2.2 c.2.2.2))) with | none => _ | some q => _)
      by_cases hsh : (t.2.1 e).2.2.2.2.2.2.length < (dPs D d).length
      · rw [if_pos ((inlt _ _ (by omega) (by omega)).mpr hsh), if_pos hsh]
        exact ⟨-1, g, u, [], c, by rw [pmS_some g g _ _ (Nat.le_refl _) (Nat.le_refl _)], by rw [List.append_nil]; exact H, frK_refl _, gL_refl hgI, Nat.zero_le _, rfl⟩
      · rw [if_neg (fun hx => hsh ((inlt _ _ (by omega) (by omega)).mp hx)), if_neg hsh]
        obtain ⟨v1, bb, c', w1, w2, w3, w4⟩ := c_fits (e := e) N hN he hx hpar (dPs D d).length 0 (t.2.1 e).2.2.2.2.2.2 c u N (Nat.zero_add _) (by omega) (by omega) c2 hat H i1
        have hft : F_Checker_fitAtoms N (ie (e : Nat)) (ie (d : Nat)) g u = some (ib bb, v1) := by
          unfold F_Checker_fitAtoms
          rw [m3, Option.bind_some, k3, hh, n6, Option.bind_some, n24]; exact w1
        rw [hft, Option.bind_some]
        rw [List.drop_zero, (i5 e (Nat.le_refl _)).2.2] at w4
        cases hfi : fits c.1 (dPs D d) (t.2.1 e).2.2.2.2.2.2 (fun _ => none) with
        | none =>
          rw [hfi] at w4
          subst w4
          exact ⟨-1, g, v1, [], c', by rw [if_pos (show (ib false, v1).1 = 0 from rfl), pmS_some g g _ _ (Nat.le_refl _) (Nat.le_refl _)], by rw [List.append_nil]; exact w2, w3, gL_refl hgI, Nat.zero_le _, rfl⟩
        | some f =>
          rw [hfi] at w4
          obtain ⟨rfl, hc'⟩ := w4
          obtain ⟨kt, kt1, kt2⟩ := hD.2.2.1
          obtain ⟨s, hs⟩ := sbt_some hlet hx (tyC_g H.2.1 kt _ kt2) hfi
          rw [if_neg (show ¬ ((ib true, v1).1 = 0) from (by decide : ¬ (ib true = 0)))]
          obtain ⟨y1, _, y3, _⟩ := tr_set (g := g) w2.2.2.1 e he
          have hdfn : c'.2.1 e = none := by rw [hc']; exact (i5 e (Nat.le_refl _)).2.1
          have H2 := cK_df (d := d) w2 he 17 (kk_c (upd_same _ _ _) h16)
          obtain ⟨_, _, y3', _⟩ := tr_set (g := g) (u := wi v1 19 e 17) (t := t) ⟨(wi_ne _ _ _ _ _ _ (by omega)).trans w2.2.2.1.1, w2.2.2.1.2⟩ e he
          rw [y1, Option.bind_some, y3', Option.bind_some, ie_je _ (by omega) (by omega)]
          have H2' : cK T n D t (sDf c' e d) g (wj (wi v1 19 e 17) 26 e (je (d : Nat))) Y := H2
          obtain ⟨z1, _⟩ := tb_row (g := g) H2'.2.2.2.1 d hdl
          obtain ⟨kt', kt1', kt2'⟩ := (H2'.2.2.2.2.1 d x hx).2.2.1
          have hfe : (sDf c' e d).2.2.1 e = f := by rw [hc']; exact upd_same _ _ _
          rw [p2] at hs
          obtain ⟨zz, g2, v2, Z, s1, s2, s3, s4, s5, s6⟩ := c_sbt (e := e) N hN he x.2.2.1 104 0 kt' s (sDf c' e d) g _ Y (by have := (hpar d x hx).2.2.2; omega) (by have := (hpar d x hx).2.2.2; omega) kt2' H2' (by rw [hfe]; exact hs) (by have := (hpar d x hx).2.2.2; omega)
          have s1' : F_Checker_substitute N 104 (ie (kt' : Nat)) (ie (e : Nat)) 0 g (wj (wi v1 19 e 17) 26 e (je (d : Nat))) = some (ie (zz : Nat), g2, v2) := s1
          rw [z1, Option.bind_some, kt1', s1', Option.bind_some, if_pos (gI_Tb s6.1)]
          have hat2 : ∀ a ∈ (t.2.1 e).2.2.2.2.2.2, atO t (sDf c' e d) a := fun a ha => by
            obtain ⟨q1, q2, q3, q4⟩ := hat a ha
            refine ⟨q1, q2, q3, ?_⟩
            rw [hc']; exact q4
          obtain ⟨u1, u2⟩ := c_skip N s2 (ie (zz : Nat)) (ie ((t.2.1 e).2.2.2.2.2.2.length : Nat)) (dPs D d).length (by omega) (dPs D d).length 0 (t.2.1 e).2.2.2.2.2.2 N (Nat.zero_add _) (by omega) (by omega) c2 (fun a ha => (hat a ha).1)
          obtain ⟨w, x1, x2⟩ := c_apF N s2 ((t.2.1 e).2.2.2.2.2.2.drop (dPs D d).length) s zz (dPs D d).length _ N (by rw [List.length_drop]; omega) b7 (by rw [List.length_drop]; omega) s3 u2 (fun a ha => hat2 a (List.mem_of_mem_drop ha))
          have u1' : K_Checker_typeOfCall_141 N N (ie (zz : Nat)) (hdI (t.2.1 e).2.2.2.2.2.2) (ie ((t.2.1 e).2.2.2.2.2.2.length : Nat)) (ie ((dPs D d).length : Nat)) 0 g2 v2 = K_Checker_typeOfCall_169 N N (ie (zz : Nat)) (hdI ((t.2.1 e).2.2.2.2.2.2.drop (dPs D d).length)) (ie ((t.2.1 e).2.2.2.2.2.2.length : Nat)) (ie ((dPs D d).length : Nat)) g2 v2 := u1
          refine ⟨w, g2, v2, Z, sDf c' e d, ?_, s2, frK_trans (frK_wj (frK_wi w3 _ _ _ (by unfold cSKp; omega)) _ _ _ (by unfold cSKp; omega)) (frK_y s5), s6, by have := (hpar d x hx).2.2.2; omega, ?_⟩
          · rw [u1', x1, pmS_some g2 g2 _ _ (Nat.le_refl _) (Nat.le_refl _), pmS_some g g2 _ _ s6.2.1 s6.2.2.1]
          · have hty : (sDf c' e d).1 = c.1 := by rw [hc']; rfl
            rw [hty] at x2
            show match (some f).bind fun f => (sbt f (dTy D d)).bind fun s => (apF c.1 s ((t.2.1 e).2.2.2.2.2.2.drop (dPs D d).length)).map fun r => (r, (c.1, pu_upd c.2.1 e (some d), pu_upd c.2.2.1 e f, shs D t c (dPs D d) (t.2.1 e).2.2.2.2.2.2 c.2.2.2)) with | none => _ | some q => _
            rw [Option.bind_some, p2, hs, Option.bind_some]
            cases hap : apF c.1 s ((t.2.1 e).2.2.2.2.2.2.drop (dPs D d).length) with
            | none => rw [hap] at x2; exact x2
            | some r =>
              rw [hap] at x2
              refine ⟨?_, x2⟩
              rw [hc']; rfl
  · have hcal : calD D t c h = none := by unfold calD; rw [if_neg h4]
    refine hplain hcal (fun h5 => ?_) (i3 h hhr.1 hhr.2 h4)
    have hq := (hW h hhr.1 hhr.2).1
    cases hdf : c.2.1 h with
    | none =>
      rw [kk_n hdf] at h5
      exact hq.2.1 h5
    | some d =>
      rcases i2 h d hdf with ⟨q1, q2⟩ | q1 | ⟨q1, q2⟩
      · rw [kk_o hdf (by omega), if_pos q2] at h5; omega
      · exact h4 q1
      · rw [kk_c hdf q1] at h5; omega
