set_option maxRecDepth 100000
def hwR (bo : Bool) (site : Int) : Nat := if site = -1 then (if bo = true then 0 else 1) else (if bo = true then 2 else 3)
def itR (Y : List Ty) (u : pm_J) (i : Nat) (it : It) : Prop :=
  (it.1 = 0 → u.1 119 i = ie (it.2.1.1 : Nat) ∧ u.2 120 i = it.2.1.2 ∧ u.1 121 i = ie (it.2.2.1.1 : Nat) ∧ u.2 122 i = it.2.2.1.2) ∧
  (it.1 = 1 → u.1 115 i = ie 0 ∧ u.2 120 i = it.2.1.2 ∧ u.2 122 i = it.2.2.1.2) ∧
  (it.1 = 2 ∨ it.1 = 3 → u.1 119 i = ie (it.2.1.1 : Nat) ∧ u.2 120 i = it.2.1.2) ∧
  (it.1 = 4 ∨ it.1 = 5 → u.1 115 i = ie 1 ∧ u.1 116 i = ie (hwR (Nat.beq it.1 4) it.2.2.2.2 : Nat) ∧ (∃ k : Nat, u.1 117 i = ie (k : Nat) ∧ k < 100000 ∧ Y[k]? = some it.2.2.2.1) ∧ u.1 118 i = ie it.2.2.2.2 ∧ u.1 119 i = ie (it.2.1.1 : Nat) ∧ u.2 120 i = it.2.1.2)
theorem itR_e {Y : List Ty} {u v : pm_J} {i : Nat} {it : It} (h : itR Y u i it) (e : ∀ c, 115 ≤ c → c ≤ 122 → v.1 c i = u.1 c i ∧ v.2 c i = u.2 c i) : itR Y v i it := by
  obtain ⟨h0, h1, h2, h4⟩ := h
  refine ⟨fun k => ?_, fun k => ?_, fun k => ?_, fun k => ?_⟩
  · obtain ⟨a1, a2, a3, a4⟩ := h0 k
    exact ⟨(e _ (by omega) (by omega)).1.trans a1, (e _ (by omega) (by omega)).2.trans a2, (e _ (by omega) (by omega)).1.trans a3, (e _ (by omega) (by omega)).2.trans a4⟩
  · obtain ⟨a1, a2, a3⟩ := h1 k
    exact ⟨(e _ (by omega) (by omega)).1.trans a1, (e _ (by omega) (by omega)).2.trans a2, (e _ (by omega) (by omega)).2.trans a3⟩
  · obtain ⟨a1, a2⟩ := h2 k
    exact ⟨(e _ (by omega) (by omega)).1.trans a1, (e _ (by omega) (by omega)).2.trans a2⟩
  · obtain ⟨a1, a2, ⟨k', b1, b2⟩, a4, a5, a6⟩ := h4 k
    exact ⟨(e _ (by omega) (by omega)).1.trans a1, (e _ (by omega) (by omega)).1.trans a2, ⟨k', (e _ (by omega) (by omega)).1.trans b1, b2⟩, (e _ (by omega) (by omega)).1.trans a4, (e _ (by omega) (by omega)).1.trans a5, (e _ (by omega) (by omega)).2.trans a6⟩
def ctR (u : pm_J) (H : List It) : Prop := u.1 64 99 = ie ((cntI 2 H + cntI 3 H : Nat) : Int) ∧ u.1 64 101 = ie ((cntI 4 H + cntI 5 H : Nat) : Int) ∧ u.1 64 102 = ie (cntI 0 H : Nat) ∧ u.1 64 103 = ie (cntI 1 H : Nat)
def hR (Y : List Ty) (u : pm_J) (hp : Hp) : Prop := u.1 64 81 = ie (hp.1.length : Nat) ∧ hp.1.length ≤ 4000 ∧ (∀ (i : Nat) (it : It), hp.1[i]? = some it → itR Y u i it) ∧ ctR u hp.1 ∧ u.1 64 100 = ie (hp.2 : Nat)
def wH (c i : Nat) : Prop := (c = 64 ∧ (i = 81 ∨ i = 99 ∨ i = 100 ∨ i = 101 ∨ i = 102 ∨ i = 103)) ∨ (115 ≤ c ∧ c ≤ 122)
theorem hR_ag {Y : List Ty} {u v : pm_J} {hp : Hp} (h : hR Y u hp) (ha : ag wH u v) : hR Y v hp := by
  obtain ⟨h1, h2, h3, ⟨c1, c2, c3, c4⟩, h5⟩ := h
  have e : ∀ c i, (c = 64 ∧ (i = 81 ∨ i = 99 ∨ i = 100 ∨ i = 101 ∨ i = 102 ∨ i = 103)) ∨ (115 ≤ c ∧ c ≤ 122) → v.1 c i = u.1 c i ∧ v.2 c i = u.2 c i := ha
  exact ⟨(e _ _ (by omega)).1.trans h1, h2, fun i it hi => itR_e (h3 i it hi) (fun c a b => e c i (by omega)), ⟨(e _ _ (by omega)).1.trans c1, (e _ _ (by omega)).1.trans c2, (e _ _ (by omega)).1.trans c3, (e _ _ (by omega)).1.trans c4⟩, (e _ _ (by omega)).1.trans h5⟩
theorem hR_new {Y : List Ty} {u v : pm_J} {hp : Hp} {it : It} (h : hR Y u hp) (hl : hp.1.length < 4000) (h81 : v.1 64 81 = ie ((hp.1.length + 1 : Nat) : Int)) (ho : ∀ c i, 115 ≤ c → c ≤ 122 → i < hp.1.length → v.1 c i = u.1 c i ∧ v.2 c i = u.2 c i) (hn : itR Y v hp.1.length it) (hc : ctR v (hp.1 ++ [it])) (h100 : v.1 64 100 = u.1 64 100) : hR Y v (hp.1 ++ [it], hp.2) := by
  obtain ⟨h1, h2, h3, _, h5⟩ := h
  have hlen : (hp.1 ++ [it]).length = hp.1.length + 1 := by rw [List.length_append]; rfl
  refine ⟨by rw [h81, hlen], by rw [hlen]; omega, fun i x hi => ?_, hc, h100.trans h5⟩
  by_cases e : i < hp.1.length
  · rw [List.getElem?_append_left e] at hi
    exact itR_e (h3 i x hi) (fun c a b => ho c i a b e)
  · rw [List.getElem?_append_right (by omega)] at hi
    have i0 : i - hp.1.length = 0 := by
      have := (List.getElem?_eq_some_iff.mp hi).1
      rw [List.length_singleton] at this; omega
    rw [i0] at hi
    have hx : it = x := by cases hi; rfl
    subst hx
    have ei : i = hp.1.length := by omega
    subst ei; exact hn
theorem ct_add {u v : pm_J} {H : List It} {it : It} (h : ctR u H) (a0 : v.1 64 102 = u.1 64 102 + (if it.1 = 0 then 1 else 0)) (a1 : v.1 64 103 = u.1 64 103 + (if it.1 = 1 then 1 else 0)) (a2 : v.1 64 99 = u.1 64 99 + (if it.1 = 2 ∨ it.1 = 3 then 1 else 0)) (a4 : v.1 64 101 = u.1 64 101 + (if it.1 = 4 ∨ it.1 = 5 then 1 else 0)) : ctR v (H ++ [it]) := by
  obtain ⟨h1, h2, h3, h4⟩ := h
  have z : ∀ (x : Nat) (p : Prop) [Decidable p], ie (x : Nat) + (if p then (1 : Int32) else 0) = ie ((x + (if p then 1 else 0) : Nat) : Int) := fun x p _ => by
    by_cases e : p
    · rw [if_pos e, if_pos e, iadd1]
    · rw [if_neg e, if_neg e, show (0 : Int32) = ie 0 from rfl, ie_add]; congr 1
  refine ⟨?_, ?_, ?_, ?_⟩
  · rw [a2, h1, z]
    congr 1
    rw [cntI_s, cntI_s]
    by_cases e2 : it.1 = 2
    · rw [if_pos e2, if_neg (show ¬ (it.1 = 3) by omega), if_pos (Or.inl e2)]; omega
    · by_cases e3 : it.1 = 3
      · rw [if_neg e2, if_pos e3, if_pos (Or.inr e3)]; omega
      · rw [if_neg e2, if_neg e3, if_neg (by omega)]; omega
  · rw [a4, h2, z]
    congr 1
    rw [cntI_s, cntI_s]
    by_cases e2 : it.1 = 4
    · rw [if_pos e2, if_neg (show ¬ (it.1 = 5) by omega), if_pos (Or.inl e2)]; omega
    · by_cases e3 : it.1 = 5
      · rw [if_neg e2, if_pos e3, if_pos (Or.inr e3)]; omega
      · rw [if_neg e2, if_neg e3, if_neg (by omega)]; omega
  · rw [a0, h3, z, cntI_s]
  · rw [a1, h4, z, cntI_s]
theorem r_make {u : pm_J} {l : Nat} (g : pm_s) (h : u.1 64 81 = ie (l : Nat)) (hl : l ≤ 4000) : (l < 4000 → F_Md_make g u = some (ie (l : Nat), wi u 64 81 (ie ((l + 1 : Nat) : Int)))) ∧ (l = 4000 → F_Md_make g u = some (0, wi u 64 96 4)) := by
  refine ⟨fun hh => ?_, fun hh => ?_⟩
  · unfold F_Md_make
    rw [h, if_neg (show ¬ (ie (l : Nat) = (4000 : Int32)) from fun he => by have := (ineq l 4000 (by omega) (by omega)).mp he; omega), iadd1, isub1]
  · unfold F_Md_make
    rw [h, hh, if_pos (show ie ((4000 : Nat) : Int) = (4000 : Int32) from rfl)]
theorem r_makePair {Y : List Ty} {u : pm_J} {hp : Hp} (g : pm_s) (x y : Va) (h : hR Y u hp) (h0 : u.1 64 96 = ie 0) : (hp.1.length < 4000 → ∃ v, F_Md_makePair (ie (x.1 : Nat)) x.2 (ie (y.1 : Nat)) y.2 g u = some v ∧ hR Y v (hp.1 ++ [(0, x, y, .num 0, -1)], hp.2) ∧ v.1 64 108 = ie ((2 : Nat) : Int) ∧ v.2 64 109 = je (hp.1.length : Nat) ∧ ag (fun c i => ¬ (wH c i ∨ (c = 64 ∧ (i = 108 ∨ i = 109)))) u v) ∧ (4000 ≤ hp.1.length → ∃ v, F_Md_makePair (ie (x.1 : Nat)) x.2 (ie (y.1 : Nat)) y.2 g u = some v ∧ hR Y v hp ∧ v.1 64 96 = ie 4 ∧ ag (fun c i => ¬ (c = 64 ∧ i = 96)) u v) := by
  obtain ⟨m1, m2⟩ := r_make g h.1 h.2.1
  refine ⟨fun hl => ?_, fun hl => ?_⟩
  · have ok := okn hp.1.length 4000 hl (by omega)
    have nt := ntn hp.1.length (by omega)
    have ht := h.2.2.2.1
    refine ⟨wj (wi (wi (wj (wi (wj (wi (wi u 64 81 (ie ((hp.1.length + 1 : Nat) : Int))) 119 hp.1.length (ie (x.1 : Nat))) 120 hp.1.length x.2) 121 hp.1.length (ie (y.1 : Nat))) 122 hp.1.length y.2) 64 102 (u.1 64 102 + 1)) 64 108 2) 64 109 (je (hp.1.length : Nat)), ?_, hR_new h hl ?_ (fun c i c1 c2 hi => ?_) ⟨fun _ => ⟨?_, ?_, ?_, ?_⟩, fun k => (by cases k), fun k => (by rcases k with k | k <;> cases k), fun k => (by rcases k with k | k <;> cases k)⟩ (ct_add ht ?_ ?_ ?_ ?_) ?_, ?_, ?_, ?_⟩
    · unfold F_Md_makePair
      rw [m1 hl, Option.bind_some]
      show (if (wi u 64 81 (ie ((hp.1.length + 1 : Nat) : Int))).1 64 96 = 0 then _ else _) = _
      rw [wi_ne _ _ _ _ _ _ (by omega), h0, if_pos (show ie 0 = (0 : Int32) from rfl), if_pos ok, if_pos ok, if_pos ok, if_pos ok, nt, ie_je _ (by omega) (by omega), wi_ne _ _ _ _ _ _ (by omega)]
    · rw [wj_1, wi_ne _ _ _ _ _ _ (by omega), wi_ne _ _ _ _ _ _ (by omega), wj_1, wi_ne _ _ _ _ _ _ (by omega), wj_1, wi_ne _ _ _ _ _ _ (by omega), wi_at]
    · exact ⟨by rw [wj_1, wi_ne _ _ _ _ _ _ (by omega), wi_ne _ _ _ _ _ _ (by omega), wj_1, wi_ne _ _ _ _ _ _ (by omega), wj_1, wi_ne _ _ _ _ _ _ (by omega), wi_ne _ _ _ _ _ _ (by omega)], by rw [wj_ne _ _ _ _ _ _ (by omega), wi_2, wi_2, wj_ne _ _ _ _ _ _ (by omega), wi_2, wj_ne _ _ _ _ _ _ (by omega), wi_2, wi_2]⟩
    · rw [wj_1, wi_ne _ _ _ _ _ _ (by omega), wi_ne _ _ _ _ _ _ (by omega), wj_1, wi_ne _ _ _ _ _ _ (by omega), wj_1, wi_at]
    · rw [wj_ne _ _ _ _ _ _ (by omega), wi_2, wi_2, wj_ne _ _ _ _ _ _ (by omega), wi_2, wj_at]
    · rw [wj_1, wi_ne _ _ _ _ _ _ (by omega), wi_ne _ _ _ _ _ _ (by omega), wj_1, wi_at]
    · rw [wj_ne _ _ _ _ _ _ (by omega), wi_2, wi_2, wj_at]
    · rw [if_pos (show (0 : Nat) = 0 from rfl), wj_1, wi_ne _ _ _ _ _ _ (by omega), wi_at]
    · rw [if_neg (show ¬ ((0 : Nat) = 1) by omega), Int32.add_zero, wj_1, wi_ne _ _ _ _ _ _ (by omega), wi_ne _ _ _ _ _ _ (by omega), wj_1, wi_ne _ _ _ _ _ _ (by omega), wj_1, wi_ne _ _ _ _ _ _ (by omega), wi_ne _ _ _ _ _ _ (by omega)]
    · rw [if_neg (show ¬ ((0 : Nat) = 2 ∨ (0 : Nat) = 3) by omega), Int32.add_zero, wj_1, wi_ne _ _ _ _ _ _ (by omega), wi_ne _ _ _ _ _ _ (by omega), wj_1, wi_ne _ _ _ _ _ _ (by omega), wj_1, wi_ne _ _ _ _ _ _ (by omega), wi_ne _ _ _ _ _ _ (by omega)]
    · rw [if_neg (show ¬ ((0 : Nat) = 4 ∨ (0 : Nat) = 5) by omega), Int32.add_zero, wj_1, wi_ne _ _ _ _ _ _ (by omega), wi_ne _ _ _ _ _ _ (by omega), wj_1, wi_ne _ _ _ _ _ _ (by omega), wj_1, wi_ne _ _ _ _ _ _ (by omega), wi_ne _ _ _ _ _ _ (by omega)]
    · rw [wj_1, wi_ne _ _ _ _ _ _ (by omega), wi_ne _ _ _ _ _ _ (by omega), wj_1, wi_ne _ _ _ _ _ _ (by omega), wj_1, wi_ne _ _ _ _ _ _ (by omega), wi_ne _ _ _ _ _ _ (by omega)]
    · rw [wj_1, wi_at]; rfl
    · rw [wj_at]
    · refine ag_wj (ag_wi (ag_wi (ag_wj (ag_wi (ag_wj (ag_wi (ag_wi (ag_r _ u) _ _ _ ?_) _ _ _ ?_) _ _ _ ?_) _ _ _ ?_) _ _ _ ?_) _ _ _ ?_) _ _ _ ?_) _ _ _ ?_ <;> (unfold wH; omega)
  · have hl' : hp.1.length = 4000 := by have := h.2.1; omega
    refine ⟨wi u 64 96 4, ?_, hR_ag h (ag_wi (ag_r _ u) _ _ _ (by unfold wH; omega)), by rw [wi_at]; rfl, ag_wi (ag_r _ u) _ _ _ (by omega)⟩
    unfold F_Md_makePair
    rw [m2 hl', Option.bind_some]
    show (if (wi u 64 96 4).1 64 96 = 0 then _ else _) = _
    rw [wi_at, if_neg (by decide)]
