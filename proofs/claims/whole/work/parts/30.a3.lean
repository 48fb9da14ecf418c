set_option maxRecDepth 100000
theorem cn_get {f : Nat → Int} : ∀ {l : List Nat} {j a : Nat}, cn f l → l[j]? = some a → (∀ a', l[j + 1]? = some a' → f a = (a' : Int)) ∧ (l.length = j + 1 → f a = -1)
  | [], _, _, _, h => by cases h
  | [x], j, a, hc, h => by
    cases j with
    | zero => cases h; exact ⟨(fun a' h' => by cases h'), fun _ => hc⟩
    | succ j => cases h
  | x :: y :: l, j, a, hc, h => by
    cases j with
    | zero => cases h; exact ⟨fun a' h' => by cases h'; exact hc.1, fun h' => by (have : l.length + 1 + 1 = 1 := h'); omega⟩
    | succ j =>
      obtain ⟨a1, a2⟩ := cn_get (j := j) hc.2 h
      exact ⟨a1, fun h' => a2 (by (have : l.length + 1 + 1 = j + 1 + 1 := h'); show l.length + 1 = j + 1; omega)⟩
theorem nC_any {T : List Tok} {D : List Df} {t : Tr} (h : pW T D t) {e : Nat} (he : e < t.1) (h16 : (t.2.1 e).1 = 16) : ∃ (lc : Lc) (f0 : Nat), nC (lc, t) f0 e (t.2.1 e) := by
  rw [h.2.1] at he
  obtain ⟨i, x, _, hx, h1, h2⟩ := in_def h D.length (Nat.le_refl _) e he
  exact ⟨_, _, ((h.1 i x hx).2.1 e h1 h2).2.2.2.2.2.2.2.2.2.2 h16⟩
theorem at_next {T : List Tok} {D : List Df} {t : Tr} (h : pW T D t) {e : Nat} (he : e < t.1) (h16 : (t.2.1 e).1 = 16) {j : Nat} (hj : j ≤ (t.2.1 e).2.2.2.2.2.2.length) : ∃ x : Nat, rAt t e j = (x : Int) ∧ x < t.1 ∧ (0 < j → (t.2.1 e).2.2.2.2.2.2[j - 1]? = some x) ∧ (∀ a', (t.2.1 e).2.2.2.2.2.2[j]? = some a' → t.2.2.1 x = (a' : Int) ∧ rAt t e (j + 1) = (a' : Int)) ∧ ((t.2.1 e).2.2.2.2.2.2.length = j → t.2.2.1 x = -1) := by
  obtain ⟨lc, f0, hn⟩ := nC_any h he h16
  have hr := row_c h16
  have hx : (row (t.2.1 e))[j]? = some ((row (t.2.1 e))[j]'(by rw [hr, List.length_cons]; omega)) := List.getElem?_eq_getElem _
  obtain ⟨a1, a2⟩ := cn_get hn.2.2.2.2.2.2.2.1 hx
  refine ⟨_, by unfold rAt; rw [hx], ?_, fun h0 => ?_, fun a' ha' => ?_, fun hl => a2 (by rw [hr, List.length_cons]; omega)⟩
  · have := hn.2.2.1 _ (List.mem_of_getElem? hx); omega
  · rw [← hx, hr]
    obtain ⟨k, rfl⟩ : ∃ k, j = k + 1 := ⟨j - 1, by omega⟩
    rfl
  · have hj1 : (row (t.2.1 e))[j + 1]? = some a' := by rw [hr]; exact ha'
    exact ⟨a1 a' hj1, by unfold rAt; rw [hj1]⟩
theorem c_workAtom {u : pm_J} {T : List Tok} {n : Nat} {D : List Df} {t : Tr} {c : CS} {sT : Nat → Ta} {g : pm_s} {Y : List Ty} {bx : Bool} {lim : Nat} {rk ov : Int32} {u0 : pm_J} {hp : Hp} {L : Lo} {lc : Nat} {F : List Fr} {v : Va} {st cc dp : Nat} {e b q q' : Nat} {hd : List Va} {x y : Nat} (H0 : cF T n D t c sT g u0 Y) (h : rcT u0 t Y bx lim rk ov u hp L lc (some e) b q (x : Int) hd F v st cc dp) (hx : x < t.1) (hy : t.2.2.1 x = (y : Int)) : ∃ w, F_Machine_workAtom (ie (q' : Nat)) g u = some w ∧ rcT u0 t Y bx lim rk ov w hp L lc (some e) b q' (y : Int) hd F v st cc dp ∧ mdC w (0, y, b, v0) := by
  obtain ⟨k1, _, _, _, k5, _, ⟨k7, k7'⟩, _⟩ := id h
  obtain ⟨_, _, _, r4, _⟩ := fr_rd g k7 k7' k5
  have t5 := (tr_all (cF_ag H0 k1) hx).2.2.2.2.1
  obtain ⟨w, w1, w2, _⟩ := c_setAtom g (y : Int) h
  obtain ⟨_, _, _, _, k5', _, ⟨k8, k8'⟩, _⟩ := id w2
  obtain ⟨_, _, _, r4', _⟩ := fr_rd g k8 k8' k5'
  obtain ⟨z, z1, z2, z3⟩ := c_wPart g y q' w2
  refine ⟨z, ?_, z2, z3⟩
  unfold F_Machine_workAtom
  rw [r4, Option.bind_some, t5, Option.bind_some, hy, w1, Option.bind_some, r4', Option.bind_some, z1]; rfl
theorem loC_d0 {u : pm_J} {L : Lo} {lc w : Nat} (h : loC u L lc) (hw : lc + w ≤ 60000) : loC (wi u 45 8 (ie ((lc + w : Nat) : Int))) (lDef L lc w []) (lc + w) := by
  refine ⟨wi_at _ _ _ _, hw, fun i v hi hv => ?_⟩
  unfold lDef at hv
  by_cases e : lc ≤ i ∧ i < lc + w
  · rw [if_pos e] at hv; cases hv
  · rw [if_neg e] at hv; exact h.2.2 i v (by omega) hv
theorem loC_d1 {u : pm_J} {L : Lo} {lc w i : Nat} {hd : List Va} {x : Va} (h : loC u (lDef L lc w (hd.take i)) (lc + w)) (hx : hd[i]? = some x) : loC (wj u 51 (lc + i) x.2) (lDef L lc w (hd.take (i + 1))) (lc + w) := by
  refine ⟨h.1, h.2.1, fun k v hk hv => ?_⟩
  unfold lDef at hv
  by_cases e : lc ≤ k ∧ k < lc + w
  · rw [if_pos e] at hv
    by_cases ek : k = lc + i
    · have : k - lc = i := by omega
      rw [this, List.getElem?_take_of_lt (by omega), hx] at hv
      cases hv; rw [ek, wj_at]
    · rw [wj_ne _ _ _ _ _ _ (by omega)]
      have hlt : k - lc < i + 1 := by
        have := (List.getElem?_eq_some_iff.mp hv).1
        rw [List.length_take] at this; omega
      rw [List.getElem?_take_of_lt hlt] at hv
      refine h.2.2 k v hk ?_
      unfold lDef
      rw [if_pos e, List.getElem?_take_of_lt (by omega)]; exact hv
  · rw [if_neg e] at hv
    rw [wj_ne _ _ _ _ _ _ (by omega)]
    refine h.2.2 k v hk ?_
    unfold lDef; rw [if_neg e]; exact hv
theorem c_goInto {u0 u : pm_J} {t : Tr} {Y : List Ty} {bx : Bool} {lim : Nat} {rk ov : Int32} {hp : Hp} {L : Lo} {lc : Nat} {F : List Fr} {v : Va} {st cc dp : Nat} {n : Option Nat} {b q : Nat} {a : Int} {hd : List Va} (g : pm_s) (x y : Int32) (h : rcT u0 t Y bx lim rk ov u hp L lc n b q a hd F v st cc dp) : ∃ w, F_Machine_goInto x y g u = some w ∧ rcT u0 t Y bx lim rk ov w hp L lc n b q a hd F v st cc dp ∧ w.1 44 11 = ie 0 ∧ w.1 44 12 = x ∧ w.1 44 13 = y := by
  have a2 : ag (fun c i => ¬ (c = 44 ∧ (i = 11 ∨ i = 12 ∨ i = 13))) u (wi (wi (wi u 44 12 x) 44 13 y) 44 11 0) := ag_wi (ag_wi (ag_wi (ag_r _ _) _ _ _ (by omega)) _ _ _ (by omega)) _ _ _ (by omega)
  exact ⟨_, rfl, rcT_rg h (ag_m a2 (fun c i hc => by omega)) (rgC_ag h.2.2.2.2.2.2.2 (ag_m a2 (fun c i hc => by unfold qR at hc; omega))), by rw [wi_at]; rfl, by rw [wi_ne _ _ _ _ _ _ (by omega), wi_ne _ _ _ _ _ _ (by omega), wi_at], by rw [wi_ne _ _ _ _ _ _ (by omega), wi_at]⟩
theorem tb_all {T : List Tok} {n : Nat} {D : List Df} {t : Tr} {c : CS} {sT : Nat → Ta} {g : pm_s} {u : pm_J} {Y : List Ty} (H : cF T n D t c sT g u Y) {d : Nat} (hd : d < D.length) : F_Table_root (ie (d : Nat)) g u = some (ie (dRt D d : Nat)) ∧ F_Table_locals (ie (d : Nat)) g u = some (ie (dWd D d : Nat)) ∧ F_Table_parameters (ie (d : Nat)) g u = some (ie ((dPs D d).length : Nat)) ∧ dWd D d ≤ 24 ∧ ∃ k : Nat, F_Table_type (ie (d : Nat)) g u = some (ie (k : Nat)) ∧ Y[k]? = some (dTy D d) := by
  have hx : D[d]? = some D[d] := List.getElem?_eq_getElem hd
  obtain ⟨a1, a2, _, _, a5, a6, _⟩ := tb_row (g := g) H.2.2.2.1 d hd
  obtain ⟨⟨_, _, ⟨k, k1, k2⟩, k3, _, ⟨k5, k6, _⟩, k7, _⟩, _⟩ := H.2.2.2.2.1 d _ hx
  have e1 : dRt D d = D[d].2.2.2.1 := by unfold dRt; rw [hx]
  have e2 : dWd D d = D[d].2.2.2.2.2.2.1 := by unfold dWd; rw [hx]
  obtain ⟨_, p2, p3⟩ := dPs_some hx
  exact ⟨by rw [a2, k3, e1], by rw [a5, k5, e2], by rw [a6, k7, p3], by omega, k, by rw [a1, k1], by rw [p2]; exact k2⟩
theorem cd_loop {u0 : pm_J} {hp : Hp} {L : Lo} {lc : Nat} {F : List Fr} {v : Va} {st cc dp : Nat} {T : List Tok} {n : Nat} {D : List Df} {t : Tr} {c : CS} {sT : Nat → Ta} {g : pm_s} {Y : List Ty} {bx : Bool} {lim : Nat} {rk ov : Int32} {e b q d w : Nat} {a : Int} {hd : List Va} (N : Nat) (H0 : cF T n D t c sT g u0 Y) (hd' : d < D.length) (hw : hd.length ≤ w) (k : Nat) : ∀ (i : Nat) (u : pm_J) (f : Nat), i + k = hd.length → k < f → rcT u0 t Y bx lim rk ov u hp (lDef L lc w (hd.take i)) (lc + w) (some e) b q a hd F v st cc dp → ∃ z, K_Machine_callDef_29 N g f (ie (d : Nat)) (ie (lc : Nat)) (ie (i : Nat)) u = some z ∧ rcT u0 t Y bx lim rk ov z hp (lDef L lc w hd) (lc + w) (some e) b 4 a hd F v st cc dp ∧ z.1 44 11 = ie 0 ∧ z.1 44 12 = ie (dRt D d : Nat) ∧ z.1 44 13 = ie (lc : Nat) := by
  induction k with
  | zero =>
    intro i u f hi hf h
    obtain ⟨f, rfl⟩ : ∃ f', f = f' + 1 := ⟨f - 1, by omega⟩
    obtain ⟨k1, _, _, _, k5, _, ⟨k7, k7'⟩, _⟩ := id h
    have r5 := (fr_rd g k7 k7' k5).2.2.2.2.1
    have h6 := k5.2.2.2.2.2.2.1
    rw [List.take_of_length_le (by omega)] at h
    obtain ⟨z, z1, z2, _⟩ := c_setState g 4 h
    obtain ⟨y, y1, y2, y3⟩ := c_goInto g (ie (dRt D d : Nat)) (ie (lc : Nat)) z2
    refine ⟨y, ?_, y2, y3⟩
    have z1' : F_Frames_setState 4 g u = some z := z1
    rw [K_Machine_callDef_29, r5, Option.bind_some, if_pos ((inle _ _ (by omega) (by omega)).mpr (by omega)), z1', Option.bind_some, (tb_all (cF_ag H0 z2.1) hd').1, Option.bind_some, y1]; rfl
  | succ k ih =>
    intro i u f hi hf h
    obtain ⟨f, rfl⟩ : ∃ f', f = f' + 1 := ⟨f - 1, by omega⟩
    obtain ⟨k1, _, _, k4, k5, _, ⟨k7, k7'⟩, _⟩ := id h
    obtain ⟨_, _, _, _, r5, r6⟩ := fr_rd g k7 k7' k5
    have h6 := k5.2.2.2.2.2.2.1
    have hx : hd[i]? = some hd[i] := List.getElem?_eq_getElem (by omega)
    have hlt : lc + i < lc + w := by omega
    have a1 : ag (fun c i => ¬ ((c = 45 ∧ i = 8) ∨ c = 51)) u (wj u 51 (lc + i) hd[i].2) := ag_wj (ag_r _ u) _ _ _ (by omega)
    obtain ⟨z, z1, z2⟩ := ih (i + 1) _ f (by omega) (by omega) (rcT_lo h a1 (loC_d1 k4 hx))
    refine ⟨z, ?_, z2⟩
    rw [K_Machine_callDef_29, r5, Option.bind_some, if_neg (fun hh => by have := (inle _ _ (by omega) (by omega)).mp hh; omega), r6 i _ hx, Option.bind_some, (lo_rd g k4.1 k4.2.1 hlt).2, Option.bind_some, iadd1]; exact z1
theorem cd_loopN {u0 : pm_J} {hp : Hp} {L : Lo} {lc : Nat} {F : List Fr} {v : Va} {st cc dp : Nat} {T : List Tok} {n : Nat} {D : List Df} {t : Tr} {c : CS} {sT : Nat → Ta} {g : pm_s} {Y : List Ty} {bx : Bool} {lim : Nat} {rk ov : Int32} {e b q d : Nat} {a : Int} {hd : List Va} (N : Nat) (H0 : cF T n D t c sT g u0 Y) (hd' : d < D.length) (u : pm_J) (h : rcT u0 t Y bx lim rk ov u hp L lc (some e) b q a hd F v st cc dp) (k : Nat) : ∀ (i : Nat) (f : Nat), i + k = hd.length → k < f → ∃ z, K_Machine_callDef_29 N g f (ie (d : Nat)) (-1) (ie (i : Nat)) u = some z ∧ rcT u0 t Y bx lim rk ov z hp L lc (some e) b 4 a hd F v st cc dp := by
  obtain ⟨k1, _, _, k4, k5, _, ⟨k7, k7'⟩, _⟩ := id h
  obtain ⟨_, _, _, _, r5, r6⟩ := fr_rd g k7 k7' k5
  have h6 := k5.2.2.2.2.2.2.1
  induction k with
  | zero =>
    intro i f hi hf
    obtain ⟨f, rfl⟩ : ∃ f', f = f' + 1 := ⟨f - 1, by omega⟩
    obtain ⟨z, z1, z2, _⟩ := c_setState g 4 h
    obtain ⟨y, y1, y2, y3⟩ := c_goInto g (ie (dRt D d : Nat)) (-1) z2
    refine ⟨y, ?_, y2⟩
    have z1' : F_Frames_setState 4 g u = some z := z1
    rw [K_Machine_callDef_29, r5, Option.bind_some, if_pos ((inle _ _ (by omega) (by omega)).mpr (by omega)), z1', Option.bind_some, (tb_all (cF_ag H0 z2.1) hd').1, Option.bind_some, y1]; rfl
  | succ k ih =>
    intro i f hi hf
    obtain ⟨f, rfl⟩ : ∃ f', f = f' + 1 := ⟨f - 1, by omega⟩
    have hx : hd[i]? = some hd[i] := List.getElem?_eq_getElem (by omega)
    obtain ⟨z, z1, z2⟩ := ih (i + 1) f (by omega) (by omega)
    refine ⟨z, ?_, z2⟩
    have hno : ∀ w, F_Heap_setLocal (-1) (ie (i : Nat)) w g u = some u := fun w => rfl
    rw [K_Machine_callDef_29, r5, Option.bind_some, if_neg (fun hh => by have := (inle _ _ (by omega) (by omega)).mp hh; omega), r6 i _ hx, Option.bind_some, hno, Option.bind_some, iadd1]; exact z1
theorem c_callDef {u : pm_J} {T : List Tok} {n : Nat} {D : List Df} {t : Tr} {c : CS} {sT : Nat → Ta} {g : pm_s} {Y : List Ty} {bx : Bool} {lim : Nat} {rk ov : Int32} {u0 : pm_J} {hp : Hp} {L : Lo} {lc : Nat} {F : List Fr} {v : Va} {st cc dp : Nat} {e b q d : Nat} {a : Int} {hd : List Va} (N : Nat) (hN : 100 ≤ N) (H0 : cF T n D t c sT g u0 Y) (he : e < t.1) (hc : c.2.1 e = some d) (hd' : d < D.length) (hl : hd.length ≤ dWd D d) (h : rcT u0 t Y bx lim rk ov u hp L lc (some e) b q a hd F v st cc dp) :
    (lc + dWd D d ≤ 60000 → ∃ z, F_Machine_callDef N (ie (e : Nat)) g u = some z ∧ rcT u0 t Y bx lim rk ov z hp (lDef L lc (dWd D d) hd) (lc + dWd D d) (some e) b 4 a hd F v st cc dp ∧ mdC z (0, dRt D d, lc, v0)) ∧
    (60000 < lc + dWd D d → ∃ z, F_Machine_callDef N (ie (e : Nat)) g u = some z ∧ rcT u0 t Y bx lim rk (ie 1) z hp L lc (some e) b 4 a hd F v st cc dp) := by
  obtain ⟨k1, k2, k3, k4, k5, _⟩ := id h
  have H := cF_ag H0 k1
  obtain ⟨_, _, _, _, _, t6, _⟩ := tr_all H he
  obtain ⟨b1, b2, _, b4, _⟩ := tb_all H hd'
  rw [hc] at t6
  have t6' : F_Tree_value (ie (e : Nat)) g u = some (je (d : Nat)) := t6
  have h30 := H.2.2.2.1.2
  have h6 := k5.2.2.2.2.2.2.1
  obtain ⟨c1, c2⟩ := hp_claim g (dWd D d) b4 k4.1 k4.2.1
  refine ⟨fun hr => ?_, fun hr => ?_⟩
  · have a1 : ag (fun c i => ¬ ((c = 45 ∧ i = 8) ∨ c = 51)) u (wi u 45 8 (ie ((lc + dWd D d : Nat) : Int))) := ag_wi (ag_r _ u) _ _ _ (by omega)
    obtain ⟨z, z1, z2, z3, z4, z5⟩ := cd_loop N H0 hd' hl hd.length 0 _ N (by omega) (by omega) (rcT_lo (L' := lDef L lc (dWd D d) (hd.take 0)) h a1 (loC_d0 k4 hr))
    refine ⟨z, ?_, z2, mdC_0 z3 z4 z5 k4.2.1⟩
    unfold F_Machine_callDef
    rw [t6', Option.bind_some, je_i32 d (by omega), b2, Option.bind_some, c1 hr, Option.bind_some]; exact z1
  · have aw : ag (fun c i => ¬ (c = 45 ∧ i = 9)) u (wi u 45 9 1) := ag_wi (ag_r _ u) _ _ _ (by omega)
    have h' : rcT u0 t Y bx lim rk (ie 1) (wi u 45 9 1) hp L lc (some e) b q a hd F v st cc dp := rcT_hp h (ag_m aw (fun c i hc => by unfold qA at hc; omega)) (hC_ag k2 (ag_m aw (fun c i hc => by unfold qH at hc; omega))) (by rw [wi_at]; rfl)
    obtain ⟨z, z1, z2⟩ := cd_loopN N H0 hd' _ h' hd.length 0 N (by omega) (by omega)
    refine ⟨z, ?_, z2⟩
    unfold F_Machine_callDef
    rw [t6', Option.bind_some, je_i32 d (by omega), b2, Option.bind_some, c2 hr, Option.bind_some]; exact z1
