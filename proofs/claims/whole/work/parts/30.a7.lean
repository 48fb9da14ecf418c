set_option maxRecDepth 100000
def lFi (L : Lo) (lc w b i : Nat) : Lo := fun k => if lc ≤ k ∧ k < lc + w then (if k - lc < i then L (b + (k - lc)) else none) else L k
theorem loC_f0 {u : pm_J} {L : Lo} {lc w : Nat} (b : Nat) (h : loC u L lc) (hw : lc + w ≤ 60000) : loC (wi u 45 8 (ie ((lc + w : Nat) : Int))) (lFi L lc w b 0) (lc + w) := by
  refine ⟨wi_at _ _ _ _, hw, fun i v hi hv => ?_⟩
  unfold lFi at hv
  by_cases e : lc ≤ i ∧ i < lc + w
  · rw [if_pos e, if_neg (by omega)] at hv; cases hv
  · rw [if_neg e] at hv; exact h.2.2 i v (by omega) hv
theorem loC_f1 {u : pm_J} {L : Lo} {lc w b i : Nat} (h : loC u (lFi L lc w b i) (lc + w)) (hb : b + w ≤ lc) (hi : i < w) : loC (wj u 51 (lc + i) (u.2 51 (b + i))) (lFi L lc w b (i + 1)) (lc + w) := by
  refine ⟨h.1, h.2.1, fun k v hk hv => ?_⟩
  unfold lFi at hv
  by_cases e : lc ≤ k ∧ k < lc + w
  · rw [if_pos e] at hv
    by_cases e1 : k - lc < i + 1
    · rw [if_pos e1] at hv
      by_cases ek : k = lc + i
      · have : k - lc = i := by omega
        rw [this] at hv
        rw [ek, wj_at]
        refine h.2.2 (b + i) v (by omega) ?_
        unfold lFi; rw [if_neg (by omega)]; exact hv
      · rw [wj_ne _ _ _ _ _ _ (by omega)]
        refine h.2.2 k v hk ?_
        unfold lFi; rw [if_pos e, if_pos (by omega)]; exact hv
    · rw [if_neg e1] at hv; cases hv
  · rw [if_neg e] at hv
    rw [wj_ne _ _ _ _ _ _ (by omega)]
    refine h.2.2 k v hk ?_
    unfold lFi; rw [if_neg e]; exact hv
theorem loC_f2 {u : pm_J} {L : Lo} {lc w b l : Nat} {x : Va} (hl : l < w) (h : loC u (lFi L lc w b w) (lc + w)) : loC (wj u 51 (lc + l) x.2) (lFn L lc w b l x) (lc + w) := by
  refine ⟨h.1, h.2.1, fun k v hk hv => ?_⟩
  unfold lFn at hv
  by_cases e : lc ≤ k ∧ k < lc + w
  · rw [if_pos e] at hv
    by_cases ek : k = lc + l
    · rw [if_pos ek] at hv; cases hv; rw [ek, wj_at]
    · rw [if_neg ek] at hv
      rw [wj_ne _ _ _ _ _ _ (by omega)]
      refine h.2.2 k v hk ?_
      unfold lFi; rw [if_pos e, if_pos (by omega)]; exact hv
  · rw [if_neg e] at hv
    rw [wj_ne _ _ _ _ _ _ (by omega)]
    refine h.2.2 k v hk ?_
    unfold lFi; rw [if_neg e]; exact hv
theorem c_goInto0 {u0 u : pm_J} {t : Tr} {Y : List Ty} {bx : Bool} {lim : Nat} {rk ov : Int32} {hp : Hp} {L : Lo} {lc : Nat} {F : List Fr} {v : Va} {st cc dp : Nat} (g : pm_s) (x y : Int32) (h : rc0 u0 t Y bx lim rk ov u hp L lc F v st cc dp) : ∃ w, F_Machine_goInto x y g u = some w ∧ rc0 u0 t Y bx lim rk ov w hp L lc F v st cc dp ∧ w.1 44 11 = ie 0 ∧ w.1 44 12 = x ∧ w.1 44 13 = y := by
  have a2 : ag (fun c i => ¬ (c = 44 ∧ (i = 11 ∨ i = 12 ∨ i = 13))) u (wi (wi (wi u 44 12 x) 44 13 y) 44 11 0) := ag_wi (ag_wi (ag_wi (ag_r _ _) _ _ _ (by omega)) _ _ _ (by omega)) _ _ _ (by omega)
  exact ⟨_, rfl, rc0_rg h (ag_m a2 (fun c i hc => by omega)) (rgC_ag h.2.2.2.2.2.2 (ag_m a2 (fun c i hc => by unfold qR at hc; omega))), by rw [wi_at]; rfl, by rw [wi_ne _ _ _ _ _ _ (by omega), wi_ne _ _ _ _ _ _ (by omega), wi_at], by rw [wi_ne _ _ _ _ _ _ (by omega), wi_at]⟩
theorem rc0_ov {u0 u : pm_J} {t : Tr} {Y : List Ty} {bx : Bool} {lim : Nat} {rk ov : Int32} {hp : Hp} {L : Lo} {lc : Nat} {F : List Fr} {v : Va} {st cc dp : Nat} (h : rc0 u0 t Y bx lim rk ov u hp L lc F v st cc dp) : rc0 u0 t Y bx lim rk (ie 1) (wi u 45 9 1) hp L lc F v st cc dp := by
  have aw : ag (fun c i => ¬ (c = 45 ∧ i = 9)) u (wi u 45 9 1) := ag_wi (ag_r _ u) _ _ _ (by omega)
  obtain ⟨h1, h2, h3, h4, h7, ⟨h8, h8'⟩, h9⟩ := h
  exact ⟨ag_t h1 (ag_m aw (fun c i hc => by unfold qS at hc; omega)), hC_ag h2 (ag_m aw (fun c i hc => by unfold qH at hc; omega)), by rw [wi_at]; rfl, loC_ag h4 (ag_m aw (fun c i hc => by unfold qL at hc; omega)), fCs_ag h7 (ag_m aw (fun c i hc => by unfold qF at hc; omega)), ⟨(aw 57 6 (by omega)).1.trans h8, h8'⟩, rgC_ag h9 (ag_m aw (fun c i hc => by unfold qR at hc; omega))⟩
theorem ef_loop {u0 : pm_J} {hp : Hp} {L : Lo} {lc : Nat} {F : List Fr} {v : Va} {st cc dp : Nat} {T : List Tok} {n : Nat} {D : List Df} {t : Tr} {c : CS} {sT : Nat → Ta} {g : pm_s} {Y : List Ty} {bx : Bool} {lim : Nat} {rk ov : Int32} {e b l x w : Nat} (N : Nat) (H0 : cF T n D t c sT g u0 Y) (he : e < t.1) (hb : b + w ≤ lc) (hw : w ≤ 24) (hl : (t.2.1 e).2.2.2.2.1 = (l : Int)) (hlw : l < w) (hx : (t.2.1 e).2.2.1 = (x : Int)) (hr : lc + w ≤ 60000) (k : Nat) : ∀ (i : Nat) (u : pm_J) (f : Nat), i + k = w → k < f → rc0 u0 t Y bx lim rk ov u hp (lFi L lc w b i) (lc + w) F v st cc dp → ∃ z, K_Machine_enterFunction_56 N g f (ie (e : Nat)) (ie (b : Nat)) (ie (w : Nat)) (ie (lc : Nat)) (ie (i : Nat)) u = some z ∧ rc0 u0 t Y bx lim rk ov z hp (lFn L lc w b l v) (lc + w) F v st cc dp ∧ mdC z (0, x, lc, v0) := by
  induction k with
  | zero =>
    intro i u f hi hf h
    obtain ⟨f, rfl⟩ : ∃ f', f = f' + 1 := ⟨f - 1, by omega⟩
    have ei : i = w := by omega
    subst ei
    obtain ⟨k1, _, _, k4, _, _, k8⟩ := id h
    have H := cF_ag H0 k1
    have t4 := (tr_all H he).2.2.2.1
    have a1 : ag (fun c i => ¬ ((c = 45 ∧ i = 8) ∨ c = 51)) u (wj u 51 (lc + l) v.2) := ag_wj (ag_r _ u) _ _ _ (by omega)
    have h' := rc0_lo h a1 (loC_f2 (l := l) hlw k4)
    have t2 := (tr_all (cF_ag H0 h'.1) he).2.1
    obtain ⟨y, y1, y2, y3, y4, y5⟩ := c_goInto0 g (ie (x : Nat)) (ie (lc : Nat)) h'
    refine ⟨y, ?_, y2, mdC_0 y3 y4 y5 (by omega)⟩
    have hv : u.2 44 15 = v.2 := k8.1
    rw [K_Machine_enterFunction_56, if_pos ((inle _ _ (by omega) (by omega)).mpr (by omega)), t4, Option.bind_some, hl, hv, (lo_rd g k4.1 k4.2.1 (show lc + l < lc + i by omega)).2, Option.bind_some, t2, Option.bind_some, hx, y1]; rfl
  | succ k ih =>
    intro i u f hi hf h
    obtain ⟨f, rfl⟩ : ∃ f', f = f' + 1 := ⟨f - 1, by omega⟩
    obtain ⟨k1, _, _, k4, _⟩ := id h
    have a1 : ag (fun c i => ¬ ((c = 45 ∧ i = 8) ∨ c = 51)) u (wj u 51 (lc + i) (u.2 51 (b + i))) := ag_wj (ag_r _ u) _ _ _ (by omega)
    obtain ⟨z, z1, z2⟩ := ih (i + 1) _ f (by omega) (by omega) (rc0_lo h a1 (loC_f1 k4 hb (by omega)))
    refine ⟨z, ?_, z2⟩
    rw [K_Machine_enterFunction_56, if_neg (fun hh => by have := (inle _ _ (by omega) (by omega)).mp hh; omega), (lo_rd g k4.1 k4.2.1 (show b + i < lc + w by omega)).1, Option.bind_some, (lo_rd g k4.1 k4.2.1 (show lc + i < lc + w by omega)).2, Option.bind_some, iadd1]; exact z1
theorem ef_loopN {u0 : pm_J} {hp : Hp} {L : Lo} {lc : Nat} {F : List Fr} {v : Va} {st cc dp : Nat} {T : List Tok} {n : Nat} {D : List Df} {t : Tr} {c : CS} {sT : Nat → Ta} {g : pm_s} {Y : List Ty} {bx : Bool} {lim : Nat} {rk ov : Int32} {e b w : Nat} (N : Nat) (H0 : cF T n D t c sT g u0 Y) (he : e < t.1) (hb : b + w ≤ lc) (hw : w ≤ 24) (u : pm_J) (h : rc0 u0 t Y bx lim rk ov u hp L lc F v st cc dp) (k : Nat) : ∀ (i : Nat) (f : Nat), i + k = w → k < f → ∃ z, K_Machine_enterFunction_56 N g f (ie (e : Nat)) (ie (b : Nat)) (ie (w : Nat)) (-1) (ie (i : Nat)) u = some z ∧ rc0 u0 t Y bx lim rk ov z hp L lc F v st cc dp := by
  obtain ⟨k1, _, _, k4, _, _, k8⟩ := id h
  have H := cF_ag H0 k1
  have hlc := k4.2.1
  have hno : ∀ i w, F_Heap_setLocal (-1) i w g u = some u := fun i w => rfl
  induction k with
  | zero =>
    intro i f hi hf
    obtain ⟨f, rfl⟩ : ∃ f', f = f' + 1 := ⟨f - 1, by omega⟩
    obtain ⟨t1, t2, t3, t4, _⟩ := tr_all H he
    obtain ⟨y, y1, y2, _⟩ := c_goInto0 g (ie (t.2.1 e).2.2.1) (-1) h
    refine ⟨y, ?_, y2⟩
    rw [K_Machine_enterFunction_56, if_pos ((inle _ _ (by omega) (by omega)).mpr (by omega)), t4, Option.bind_some, hno, Option.bind_some, t2, Option.bind_some, y1]; rfl
  | succ k ih =>
    intro i f hi hf
    obtain ⟨f, rfl⟩ : ∃ f', f = f' + 1 := ⟨f - 1, by omega⟩
    obtain ⟨z, z1, z2⟩ := ih (i + 1) f (by omega) (by omega)
    refine ⟨z, ?_, z2⟩
    rw [K_Machine_enterFunction_56, if_neg (fun hh => by have := (inle _ _ (by omega) (by omega)).mp hh; omega), (lo_rd g k4.1 k4.2.1 (show b + i < lc by omega)).1, Option.bind_some, hno, Option.bind_some, iadd1]; exact z1
theorem c_apFn {u : pm_J} {T : List Tok} {n : Nat} {D : List Df} {t : Tr} {c : CS} {sT : Nat → Ta} {g : pm_s} {Y : List Ty} {bx : Bool} {lim : Nat} {rk : Int32} {u0 : pm_J} {hp : Hp} {L : Lo} {lc : Nat} {F : List Fr} {v : Va} {st cc dp : Nat} {f : Va} {i e b d l x : Nat} {it : It} (N : Nat) (hN : 200000 ≤ N) (hI : kI0 D t t.1 c) (H0 : cF T n D t c sT g u0 Y) (h : rc0 u0 t Y bx lim rk (ie 0) u hp L lc F v st cc dp) (hm : mdC u (1, 0, 0, f)) (h1 : f.2 = je (i : Nat)) (h2 : hp.1[i]? = some it) (h3 : it.1 = 1) (h4 : it.2.1.2 = je (e : Nat)) (h5 : it.2.2.1.2 = je (b : Nat)) (he : e < t.1) (h9 : (t.2.1 e).1 = 9) (hd : (t.2.1 e).2.2.2.2.2.1 = je (d : Nat)) (hd' : d < D.length) (hl : (t.2.1 e).2.2.2.2.1 = (l : Int)) (hlw : l < dWd D d) (hb : b + dWd D d ≤ lc) (hx : (t.2.1 e).2.2.1 = (x : Int)) :
    (lc + dWd D d ≤ 60000 → ∃ w, F_Machine_applyCallee N g u = some w ∧ rcM u0 t Y bx lim rk w (hp, lFn L lc (dWd D d) b l v, lc + dWd D d, F, v, st, cc, dp, (0, x, lc, v0))) ∧ (60000 < lc + dWd D d → ∃ w, F_Machine_applyCallee N g u = some w ∧ fn4 u0 Y rk w hp st cc dp) := by
  obtain ⟨_, hm2⟩ := hm.2.1 rfl
  have hm2 : u.2 44 14 = f.2 := hm2
  obtain ⟨k1, k2, k3, k4, k6, k7, k8⟩ := id h
  have H := cF_ag H0 k1
  have hi := (List.getElem?_eq_some_iff.mp h2).1
  obtain ⟨g1, g2, g3, _, _⟩ := hp_rd g k2.1 k2.2.1 hi
  obtain ⟨_, q1, q2, q3, _⟩ := k2.2.2.1 i it h2
  obtain ⟨b1, b2, b3, b4, _⟩ := tb_all H hd'
  have hlc := k4.2.1
  have h18 := H.2.2.1.2
  have h30 := H.2.2.2.1.2
  have t6 := (tr_all H he).2.2.2.2.2.1
  have hc : c.2.1 e = none := by
    cases hc : c.2.1 e with
    | none => rfl
    | some d' => rcases hI.2.1 e d' hc with ⟨a, _⟩ | a | ⟨a, _⟩ <;> omega
  rw [hc] at t6
  have t6' : F_Tree_value (ie (e : Nat)) g u = some (je (d : Nat)) := by rw [← hd]; exact t6
  obtain ⟨c1, c2⟩ := hp_claim g (dWd D d) b4 k4.1 hlc
  have hap : F_Machine_applyCallee N g u = (F_Heap_claim (ie (dWd D d : Nat)) g u).bind fun q5 => K_Machine_enterFunction_56 N g N (ie (e : Nat)) (ie (b : Nat)) (ie (dWd D d : Nat)) q5.1 0 q5.2 := by
    unfold F_Machine_applyCallee
    rw [hm2, h1, g1, Option.bind_some, q1, h3, if_neg (by decide), if_neg (by decide), obd]
    unfold F_Machine_enterFunction
    rw [hm2, h1, g2, Option.bind_some, q2, h4, g3, Option.bind_some, q3 (by omega), h5, je_i32 e (by omega), je_i32 b (by omega), t6', Option.bind_some, je_i32 d (by omega), b2, Option.bind_some]
  refine ⟨fun hr => ?_, fun hr => ?_⟩
  · have a1 : ag (fun c i => ¬ ((c = 45 ∧ i = 8) ∨ c = 51)) u (wi u 45 8 (ie ((lc + dWd D d : Nat) : Int))) := ag_wi (ag_r _ u) _ _ _ (by omega)
    obtain ⟨z, z1, z2, z3⟩ := ef_loop N H0 he hb b4 hl hlw hx hr (dWd D d) 0 _ N (by omega) (by omega) (rc0_lo h a1 (loC_f0 b k4 hr))
    refine ⟨z, ?_, z2, z3⟩
    rw [hap, c1 hr, Option.bind_some]; exact z1
  · obtain ⟨z, z1, z2⟩ := ef_loopN N H0 he hb b4 _ (rc0_ov h) (dWd D d) 0 N (by omega) (by omega)
    refine ⟨z, ?_, rc0_4 z2⟩
    rw [hap, c2 hr, Option.bind_some]; exact z1
