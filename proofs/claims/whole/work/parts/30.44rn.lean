set_option maxRecDepth 100000
theorem rLo_app {d : Nat} {Y : List Ty} {l : Lc} {u : pm_J} (h : rLo d Y l u) (Z : List Ty) : rLo d (Y ++ Z) l u := by
  refine ⟨h.1, h.2.1, fun i t hi ht => ?_⟩
  obtain ⟨k, k1, k2⟩ := h.2.2 i t hi ht
  exact ⟨k, k1, by rw [List.getElem?_append_left (List.getElem?_eq_some_iff.mp k2).1]; exact k2⟩
theorem fr_rTE {h qt d : Nat} {u v : pm_J} (hf : fr (rS_T h qt) u v) : fr (rS_E d) u v := fr_sub hf (fun c i hs => by
  cases hb : rS_T h qt c i with
  | false => rfl
  | true => exact absurd (by have := rST' hb; unfold rSEp; omega) (rSE_no' hs))
theorem r_tyE {c : RC} {g : pm_s} {fl dp : Nat} (hC : rCn c) {K : List (Int32 × Int32 × Int32)} {V : List Nat} {S : List (Nat × Nat)} {Y : List Ty} {s : PS} {u : pm_J} (H : rE c none dp ((1, 0, 0) :: K) V S Y s u) (h63 : u.1 64 63 = ie 0) (hfl : fl ≤ K.length) (hK : K.length ≤ 1000) : match pTy c.1 20 s.1 0 with
    | .error e => rPe c g fl u e
    | .ok t => ∃ (v : pm_J) (Z : List Ty) (k : Nat), rEq g fl u v ∧ rE c none dp K V S (Y ++ Z) (sAt s t.2.1) (wi v 64 60 (ie 0)) ∧ v.1 64 60 = ie 1 ∧ v.1 109 0 = ie k ∧ (Y ++ Z)[k]? = some t.1 := by
  obtain ⟨a1, a2, a3, a4, a5, a6, a7, a8, a9⟩ := id H
  obtain ⟨b1, b2, b3⟩ := rE_b H
  have hT : rT c.1 c.2.1 s.1 0 0 (K.length + 1) 0 u Y := ⟨a1.1.1, a1.1.2, a1.2.1, a1.2.2.1, h63, a1.2.2.2.2.2.1, a2.1, a1.2.2.2.2.2.2.1 rfl, a5.1⟩
  have hy6 := a5.2
  have i1 := r_ty (fl := fl) (g := g) (n := c.2.1) hC.1 20 0 rfl s.1 0 K.length 0 u Y hT a2.2.1 a2.2.2.1 hfl (by omega) (Nat.le_refl _) (by omega) b2 (by omega)
  cases hq : pTy c.1 20 s.1 0 with
  | error e =>
    rw [hq] at i1
    obtain ⟨v, v1, v2, v3⟩ := i1
    exact ⟨v, v1, v2, fr_trans a9 (fr_rTE v3)⟩
  | ok t =>
    rw [hq] at i1
    obtain ⟨v, Z, k, v1, v2, v3, v4, v5, v6⟩ := i1
    obtain ⟨p1, p2, _, _⟩ := pAt_ty 20 s.1 0 t (by omega) hq
    have v5' : Z.length ≤ t.2.1 - s.1 := v5
    have F1 : ∀ x i, ¬ (x = 64 ∧ (i = 4 ∨ i = 5 ∨ i = 18 ∨ i = 51 ∨ i = 52 ∨ i = 56 ∨ i = 60 ∨ i = 62 ∨ i = 63)) → ¬ (70 ≤ x ∧ x ≤ 76) → ¬ ((x = 105 ∨ x = 106 ∨ x = 107) ∧ K.length ≤ i) → x ≠ 109 → (wi v 64 60 (ie 0)).1 x i = u.1 x i := by
      intro x i h1 h2 h3 h4
      rw [wi_ne _ _ _ _ _ _ (by omega)]
      exact (v6 x i (rST_no (by omega))).1
    obtain ⟨t1, t2, t3, t4, t5, t6, t7, t8, t9⟩ := v2
    refine ⟨v, Z, k, v1, ⟨⟨⟨?_, ?_⟩, ?_, ?_, p2, ?_, ?_, fun _ => wi_at _ _ _ _, ?_, a1.2.2.2.2.2.2.2.2⟩, ⟨?_, ?_⟩, ⟨?_, ?_⟩, ⟨?_, ?_⟩, ⟨?_, ?_⟩, ⟨?_, ?_⟩, ?_, ?_, ?_⟩, t8, v3, v4⟩
    · rw [wi_ne _ _ _ _ _ _ (by omega)]; exact t1
    · rw [wi_ne _ _ _ _ _ _ (by omega)]; exact t2
    · exact rK_fr t3 (wi_ne _ _ _ _ _ _ (by omega)) (fun x i h1 h2 => ⟨wi_ne _ _ _ _ _ _ (by omega), rfl⟩) (r5_e (wi_ne _ _ _ _ _ _ (by omega)) (wi_ne _ _ _ _ _ _ (by omega)))
    · rw [wi_ne _ _ _ _ _ _ (by omega)]; exact t4
    · exact (F1 _ _ (by omega) (by omega) (by omega) (by omega)).trans a1.2.2.2.2.1
    · rw [wi_ne _ _ _ _ _ _ (by omega)]; exact t6
    · exact (F1 _ _ (by omega) (by omega) (by omega) (by omega)).trans a1.2.2.2.2.2.2.2.1
    · rw [wi_ne _ _ _ _ _ _ (by omega)]; exact t7
    · exact rKs_of a2.2.2.2.2 (fun x i h1 h2 h3 => F1 _ _ (by omega) (by omega) (by omega) (by omega))
    · exact (F1 _ _ (by omega) (by omega) (by omega) (by omega)).trans a3.1
    · exact rVs_of a3.2 (fun i h => F1 _ _ (by omega) (by omega) (by omega) (by omega))
    · exact (F1 _ _ (by omega) (by omega) (by omega) (by omega)).trans a4.1
    · exact rSs_of a4.2 (fun x i h1 h2 h3 => F1 _ _ (by omega) (by omega) (by omega) (by omega))
    · exact tyR_w t9 (wi_ne _ _ _ _ _ _ (by omega)) (fun x i h1 h2 => wi_ne _ _ _ _ _ _ (by omega))
    · rw [List.length_append]; show Y.length + Z.length ≤ 6 + t.2.1; omega
    · exact (F1 _ _ (by omega) (by omega) (by omega) (by omega)).trans a6.1
    · intro x hx; have := a6.2 x hx; show x < t.2.1; omega
    · exact rLo_app (rLo_of a7 (F1 _ _ (by omega) (by omega) (by omega) (by omega)) (fun i h => F1 _ _ (by omega) (by omega) (by omega) (by omega))) Z
    · exact rNs_of a8 (fun x i h => F1 _ _ (by omega) (by omega) (by omega) (by omega))
    · refine fr_trans a9 (fr_trans (fr_rTE v6) (fr_wi _ _ _ _ _ _ ?_ (fr_refl _ _)))
      exact (rSE_iff _ _ _).mpr (by unfold rSEp; omega)
theorem wi_comm (u : pm_J) (a k b l : Nat) (x y : Int32) (h : ¬ (a = b ∧ k = l)) : wi (wi u a k x) b l y = wi (wi u b l y) a k x := by
  apply pj_ext
  · intro c i
    simp only [wi_1]
    by_cases h1 : c = b ∧ i = l
    · rw [if_pos h1, if_neg (by omega)]; rw [if_pos h1]
    · rw [if_neg h1]
      by_cases h2 : c = a ∧ i = k
      · rw [if_pos h2, if_pos h2]
      · rw [if_neg h2, if_neg h2, if_neg h1]
  · intro c i; rfl
theorem wi_self (u : pm_J) (a k : Nat) (x : Int32) (h : u.1 a k = x) : wi u a k x = u := by
  apply pj_ext
  · intro c i
    simp only [wi_1]
    by_cases h1 : c = a ∧ i = k
    · rw [if_pos h1, ← h, h1.1, h1.2]
    · rw [if_neg h1]
  · intro c i; rfl
theorem expG {u : pm_J} (N : Nat) (k : Int32) (g : pm_s) (a b : Nat) (y : Int32) (hab : (a = 64 ∧ b = 60) ∨ a = 109) : F_Md_expect N k g (wi u a b y) = (F_Md_expect N k g u).map (fun v => wi v a b y) := by
  have r51 : (wi u a b y).1 64 51 = u.1 64 51 := wi_ne _ _ _ _ _ _ (by omega)
  have r52 : (wi u a b y).1 64 52 = u.1 64 52 := wi_ne _ _ _ _ _ _ (by omega)
  have r66 : ∀ i, (wi u a b y).1 66 i = u.1 66 i := fun i => wi_ne _ _ _ _ _ _ (by omega)
  have k29 : ∀ w : pm_J, K_Md_expect_29 N g (wi w a b y) = (K_Md_expect_29 N g w).map (fun v => wi v a b y) := by
    intro w
    unfold K_Md_expect_29
    have w51 : (wi w a b y).1 64 51 = w.1 64 51 := wi_ne _ _ _ _ _ _ (by omega)
    have w52 : (wi w a b y).1 64 52 = w.1 64 52 := wi_ne _ _ _ _ _ _ (by omega)
    rw [w51, w52]
    by_cases e : w.1 64 52 = 0
    · rw [if_pos e, if_pos e, wi_comm _ _ _ _ _ _ _ (by omega)]; rfl
    · rw [if_neg e, if_neg e, wi_comm _ _ _ _ _ _ _ (by omega)]; rfl
  have kst : ∀ f t, F_Md_stop f t g (wi u a b y) = (F_Md_stop f t g u).map (fun v => wi v a b y) := by
    intro f t
    unfold F_Md_stop F_Md_fails
    have r67 : ∀ i, (wi u a b y).1 67 i = u.1 67 i := fun i => wi_ne _ _ _ _ _ _ (by omega)
    have r4 : (wi u a b y).1 64 4 = u.1 64 4 := wi_ne _ _ _ _ _ _ (by omega)
    rw [r67, r4]
    by_cases e1 : pm_ok t 902 = true
    · rw [if_pos e1, if_pos e1]
      by_cases e2 : u.1 64 4 = 0
      · simp only [if_pos e2, Option.bind_some]
        split
        · rw [wi_comm u a b 64 4 _ _ (by omega), wi_comm _ a b 64 5 _ _ (by omega), wi_comm _ a b 64 52 _ _ (by omega)]; rfl
        · rfl
      · simp only [if_neg e2, Option.bind_some]
        split
        · rw [wi_comm _ a b 64 52 _ _ (by omega)]; rfl
        · rfl
    · rw [if_neg e1, if_neg e1]; rfl
  unfold F_Md_expect
  rw [r51, r52, r66]
  by_cases e : u.1 64 52 = 0
  · rw [if_pos e, if_pos e, k29]
  · rw [if_neg e, if_neg e]
    by_cases e1 : pm_ok (u.1 64 51) 902 = true
    · rw [if_pos e1, if_pos e1]
      by_cases e2 : u.1 66 (u.1 64 51).toNatClampNeg = k
      · rw [if_pos e2, if_pos e2, k29]
      · rw [if_neg e2, if_neg e2, kst]
        cases F_Md_stop 2 (u.1 64 51) g u with
        | none => rfl
        | some w => exact k29 w
    · rw [if_neg e1, if_neg e1]; rfl
theorem z_exp60 {P : pm_J → Prop} {u : pm_J} {k : Int32} (g : pm_s) (y : Int32) (h : zu (fun N => F_Md_expect N k g u) P) : zu (fun N => F_Md_expect N k g (wi u 64 60 y)) (fun v => ∃ w, v = wi w 64 60 y ∧ w.1 109 0 = u.1 109 0 ∧ P w) := by
  obtain ⟨w, h1, h2⟩ := h
  refine ⟨wi w 64 60 y, fun N hN => ?_, w, rfl, ?_, h2⟩
  · show F_Md_expect N k g (wi u 64 60 y) = _
    rw [expG _ _ _ _ _ _ (Or.inl ⟨rfl, rfl⟩), show F_Md_expect N k g u = some w from h1 N hN]; rfl
  · have e1 : F_Md_expect 200000 k g u = some w := h1 200000 (by omega)
    have e2 := expG (u := u) 200000 k g 109 0 (u.1 109 0) (Or.inr rfl)
    rw [wi_self u 109 0 _ rfl, e1] at e2
    have e3 : w = wi w 109 0 (u.1 109 0) := Option.some.inj e2
    rw [e3]; exact wi_at _ _ _ _
theorem rE_60 {c : RC} {e : Nat × Nat} {dp : Nat} {K : List (Int32 × Int32 × Int32)} {V : List Nat} {S : List (Nat × Nat)} {Y : List Ty} {s : PS} {u : pm_J} (H : rE c (some e) dp K V S Y s u) (y : Int32) : rE c (some e) dp K V S Y s (wi u 64 60 y) := by
  obtain ⟨a1, a2, a3, a4, a5, a6, a7, a8, a9⟩ := H
  obtain ⟨b1, b2, b3, b4, b5, b6, b7, b8, b9⟩ := a1
  have hv : ∀ x i, ¬ (x = 64 ∧ i = 60) → (wi u 64 60 y).1 x i = u.1 x i := fun x i h => wi_ne _ _ _ _ _ _ h
  exact ⟨⟨rSt_of b1 (fun i h => hv _ _ (by omega)), rK_fr b2 (hv _ _ (by omega)) (fun x i h1 h2 => ⟨hv x i (by omega), rfl⟩) (r5_e (hv _ _ (by omega)) (hv _ _ (by omega))), (hv _ _ (by omega)).trans b3, b4, (hv _ _ (by omega)).trans b5, (hv _ _ (by omega)).trans b6, (fun h => by cases h), (hv _ _ (by omega)).trans b8, b9⟩, ⟨(hv _ _ (by omega)).trans a2.1, rKs_of a2.2 (fun x i h1 h2 h3 => hv _ _ (by omega))⟩, ⟨(hv _ _ (by omega)).trans a3.1, rVs_of a3.2 (fun i h => hv _ _ (by omega))⟩, ⟨(hv _ _ (by omega)).trans a4.1, rSs_of a4.2 (fun x i h1 h2 h3 => hv _ _ (by omega))⟩, ⟨tyR_w a5.1 (hv _ _ (by omega)) (fun x i h1 h2 => hv _ _ (by omega)), a5.2⟩, rW_of a6 (hv _ _ (by omega)), rLo_of a7 (hv _ _ (by omega)) (fun i h => hv _ _ (by omega)), rNs_of a8 (fun x i h => hv _ _ (by omega)), frE_of a9 (fun x i h => hv _ _ (by unfold rSEp at h; omega)) rfl⟩
theorem d100 (l m : Nat) (hl : l < 100) (hm : m < 10000) : ie ((l + 100 * m : Nat) : Int) / 100 = ie (m : Nat) ∧ ie ((l + 100 * m : Nat) : Int) - ie ((l + 100 * m : Nat) : Int) / 100 * 100 = ie (l : Nat) := by
  have h1 : ie ((l + 100 * m : Nat) : Int) / 100 = ie (m : Nat) := by
    rw [show (100 : Int32) = ie 100 from rfl, ie_div _ _ (by omega) (by omega) (by omega) (by omega)]; congr 1; omega
  refine ⟨h1, ?_⟩
  rw [h1, show (100 : Int32) = ie 100 from rfl, ie_mul, ie_sub]; congr 1; omega
theorem m100 (l m : Nat) : ie (l : Nat) + 100 * ie (m : Nat) = ie ((l + 100 * m : Nat) : Int) := by
  rw [show (100 : Int32) = ie 100 from rfl, ie_mul, ie_add]; rfl
theorem pB_er2 {α β γ : Type} {x : PE α} {f : α → PE β} {e : Nat × Nat} (h : pB x f = .error e) (k : α → β → PE γ) : pB x (fun a => pB (f a) (k a)) = .error e := by
  cases x with
  | error q => have h' : (Except.error q : PE β) = .error e := h; cases h'; rfl
  | ok a => show pB (f a) (k a) = .error e; rw [show f a = .error e from h]; rfl
theorem rStep60 {c : RC} {g : pm_s} {fl dp : Nat} {k x y : Int32} {K : List (Int32 × Int32 × Int32)} {V : List Nat} {S : List (Nat × Nat)} {Y : List Ty} {s : PS} {u : pm_J} {P : pm_J → Prop} (H : rE c none dp ((k, x, y) :: K) V S Y s (wi u 64 60 (ie 0))) (h60 : u.1 64 60 = ie 1) (hk : (10 : Int32) ≤ k) (hfl : fl ≤ K.length) (h6 : K.length < 6000) (ht : ∀ u', rE c none dp K V S Y s u' → u'.1 109 0 = u.1 109 0 → zu (fun N => F_Md_exprTask N k x y g (wi u' 64 60 (ie 1))) P) : ∃ v, rEq g fl u v ∧ P v := by
  obtain ⟨v, hv, hP⟩ := ht _ (rE_pop H) rfl
  have hw : wi (wi (wi u 64 60 (ie 0)) 64 56 (ie (K.length : Nat))) 64 60 (ie 1) = wi u 64 56 (ie (K.length : Nat)) := by
    rw [wi_comm _ 64 56 64 60 _ _ (by omega), wi_wi, wi_self u 64 60 _ h60]
  have hh : u.1 64 56 = ie ((K.length + 1 : Nat) : Int) := H.2.1.1
  have ho : u.1 64 52 = ie 1 := H.1.1.1
  have e1 : u.1 105 K.length = k := H.2.1.2.1
  have e2 : u.1 106 K.length = x := H.2.1.2.2.1
  have e3 : u.1 107 K.length = y := H.2.1.2.2.2.1
  refine ⟨v, ?_, hP⟩
  rintro a ⟨n0, h0⟩
  refine ⟨n0 + 200001, fun N hN f hf => ?_⟩
  obtain ⟨f, rfl⟩ : ∃ f', f = f' + 1 := ⟨f - 1, by omega⟩
  rw [K_Md_work_7, ho, hh, if_neg (show ¬ (ie 1 = 0) by decide), if_neg (fun hh => by have := (inle _ _ (by omega) (by omega)).mp hh; omega), isub1, if_pos (okn _ 6000 h6 (by omega)), ntn _ (by omega), e1, if_pos hk, if_pos (okn _ 6000 h6 (by omega)), if_pos (okn _ 6000 h6 (by omega)), if_pos (okn _ 6000 h6 (by omega)), e2, e3]
  have h9 := hv N (by omega)
  rw [hw] at h9
  have h9' : F_Md_exprTask N k x y g (wi u 64 56 (ie (K.length : Nat))) = some v := h9
  rw [h9', Option.bind_some]
  exact h0 N (by omega) f (by omega)
