set_option maxRecDepth 100000
theorem mkI_grow {h : Hp} {tag : Nat} {it : It} {x : Option Va × Hp} (hx : mkI h tag it = x) : ∃ Z, x.2.1 = h.1 ++ Z := by
  subst hx
  unfold mkI
  by_cases e : h.1.length < 4000
  · rw [if_pos e]; exact ⟨[it], rfl⟩
  · rw [if_neg e]; exact ⟨[], (List.append_nil _).symm⟩
theorem oB_grow {h : Hp} {q : Option (Option Va × Hp)} {f : Va → Hp → Option (Option Va × Hp)} {x : Option Va × Hp} (hq : ∀ y, q = some y → ∃ Z, y.2.1 = h.1 ++ Z) (hf : ∀ v h' y, (∃ Z, h'.1 = h.1 ++ Z) → f v h' = some y → ∃ Z, y.2.1 = h.1 ++ Z) (hx : oB q f = some x) : ∃ Z, x.2.1 = h.1 ++ Z := by
  cases q with
  | none => cases hx
  | some z =>
    obtain ⟨a, h'⟩ := z
    have hz := hq _ rfl
    cases a with
    | none => cases hx; exact hz
    | some v => exact hf v h' x hz hx
theorem app_g {h h1 h2 : List It} (a : ∃ Z, h1 = h ++ Z) (b : ∃ Z, h2 = h1 ++ Z) : ∃ Z, h2 = h ++ Z := by
  obtain ⟨Z, rfl⟩ := a; obtain ⟨Z', rfl⟩ := b; exact ⟨Z ++ Z', by rw [List.append_assoc]⟩
theorem bxA_grow (bo : Bool) (s : Ty) : ∀ (v : Va) (h : Hp) (x : Option Va × Hp), bxA bo s v h = some x → ∃ Z, x.2.1 = h.1 ++ Z := by
  have nil : ∀ h : Hp, ∃ Z, h.1 = h.1 ++ Z := fun h => ⟨[], (List.append_nil _).symm⟩
  induction s with
  | num k =>
    intro v h x hx
    unfold bxA at hx
    by_cases hk : 2 ≤ k
    · rw [if_pos hk] at hx; cases hx; exact nil h
    · rw [if_neg hk] at hx
      cases bo with
      | true => rw [if_pos rfl] at hx; injection hx with hx; exact mkI_grow hx
      | false =>
        rw [if_neg (by decide)] at hx
        cases hat : hAt h.1 v with
        | none => rw [hat] at hx; cases hx
        | some it =>
          rw [hat] at hx
          have hx' : (if it.1 = 2 ∨ it.1 = 3 then some (some it.2.1, (h.1, h.2 + 1)) else none) = some x := hx
          by_cases e : it.1 = 2 ∨ it.1 = 3
          · rw [if_pos e] at hx'; cases hx'; exact nil h
          · rw [if_neg e] at hx'; cases hx'
  | var k => intro v h x hx; cases hx
  | add a b iha ihb =>
    intro v h x hx
    unfold bxA at hx
    cases hat : hAt h.1 v with
    | none => rw [hat] at hx; cases hx
    | some it =>
      rw [hat] at hx
      have hx' : (if it.1 = 0 then oB (bxA bo a it.2.1 h) (fun x h1 => oB (bxA bo b it.2.2.1 h1) fun y h2 => some (mkI h2 2 (0, x, y, .num 0, -1))) else none) = some x := hx
      by_cases e : it.1 = 0
      · rw [if_pos e] at hx'
        refine oB_grow (fun y hy => iha _ _ _ hy) (fun v1 h1 y g1 hy => ?_) hx'
        refine app_g g1 (oB_grow (fun y hy => ihb _ _ _ hy) (fun v2 h2 z g2 hz => ?_) hy)
        injection hz with hz
        exact app_g g2 (mkI_grow hz)
      · rw [if_neg e] at hx'; cases hx'
  | mul a b _ _ => intro v h x hx; unfold bxA at hx; injection hx with hx; exact mkI_grow hx
theorem adA_grow (bo : Bool) (f : Fi) (e : Nat) (s : Ty) : ∀ (v : Va) (h : Hp) (x : Option Va × Hp), adA bo f e s v h = some x → ∃ Z, x.2.1 = h.1 ++ Z := by
  have nil : ∀ h : Hp, ∃ Z, h.1 = h.1 ++ Z := fun h => ⟨[], (List.append_nil _).symm⟩
  induction s with
  | num k =>
    intro v h x hx
    unfold adA at hx
    by_cases hk : k < 2
    · rw [if_pos hk] at hx; cases hx; exact nil h
    · rw [if_neg hk] at hx
      cases hf : f (k - 2) with
      | none => rw [hf] at hx; cases hx
      | some r => rw [hf] at hx; exact bxA_grow bo r v h x hx
  | var k => intro v h x hx; cases hx
  | add a b iha ihb =>
    intro v h x hx
    unfold adA at hx
    by_cases h0 : tyM (.add a b) = 0
    · rw [if_pos h0] at hx; cases hx; exact nil h
    rw [if_neg h0] at hx
    cases hat : hAt h.1 v with
    | none => rw [hat] at hx; cases hx
    | some it =>
      rw [hat] at hx
      have hx' : (if it.1 = 0 then oB (adA bo f e a it.2.1 h) (fun x h1 => oB (adA bo f e b it.2.2.1 h1) fun y h2 => some (mkI h2 2 (0, x, y, .num 0, -1))) else none) = some x := hx
      by_cases e0 : it.1 = 0
      · rw [if_pos e0] at hx'
        refine oB_grow (fun y hy => iha _ _ _ hy) (fun v1 h1 y g1 hy => ?_) hx'
        refine app_g g1 (oB_grow (fun y hy => ihb _ _ _ hy) (fun v2 h2 z g2 hz => ?_) hy)
        injection hz with hz
        exact app_g g2 (mkI_grow hz)
      · rw [if_neg e0] at hx'; cases hx'
  | mul a b _ _ =>
    intro v h x hx
    unfold adA at hx
    by_cases h0 : tyM (.mul a b) = 0
    · rw [if_pos h0] at hx; cases hx; exact nil h
    · rw [if_neg h0] at hx; injection hx with hx; exact mkI_grow hx
theorem adp_grow {c : CS} {bo : Bool} {site : Int} {s : Ty} {v : Va} {h : Hp} {x : Option Va × Hp} (hx : adp c bo site s v h = some x) : ∃ Z, x.2.1 = h.1 ++ Z := by
  unfold adp at hx
  by_cases e : site = -1
  · rw [if_pos e] at hx; exact bxA_grow _ _ _ _ _ hx
  · rw [if_neg e] at hx; exact adA_grow _ _ _ _ _ _ _ hx
theorem c_node {u : pm_J} {T : List Tok} {n : Nat} {D : List Df} {t : Tr} {c : CS} {sT : Nat → Ta} {g : pm_s} {Y : List Ty} {bx : Bool} {lim : Nat} {rk : Int32} {u0 : pm_J} {hp : Hp} {L : Lo} {lc : Nat} {F : List Fr} {v : Va} {st cc dp : Nat} {e b q j r : Nat} {hd : List Va} {s' : Ms} (N : Nat) (hN : 200000 ≤ N) (hW : pW T D t) (hKJ : kJ D t c) (H0 : cF T n D t c sT g u0 Y) (h : rc0 u0 t Y bx lim rk (ie 0) u hp L lc ((some e, b, q, j, hd) :: F) v st cc dp) (hm : u.1 44 11 = ie 2) (hs : oNd D t c bx hp L lc e b q j hd F v st cc dp r s') : gC u0 t Y bx lim rk (F_Machine_resume N g u) r s' := by
  by_cases c1 : (t.2.1 e).1 = 16
  · rcases hs with ⟨k, _⟩ | ⟨k, _⟩ | ⟨k, _⟩ | ⟨k, _⟩ | ⟨k, _⟩ | ⟨k, _⟩ | ⟨k, _⟩ | ⟨k, _⟩ | ⟨k, hk, hs⟩
    · exfalso; omega
    · exfalso; omega
    · exfalso; omega
    · exfalso; omega
    · exfalso; omega
    · exfalso; omega
    · exfalso; omega
    · exfalso; omega
    · exact c_node16 N hN hW H0 h hm k hk hKJ hs
  · by_cases c3 : (t.2.1 e).1 = 3 ∨ (t.2.1 e).1 = 4
    · exact c_node3 N hN H0 h hm c3 hs
    · exact c_node1 N H0 h (by omega) hs
theorem isOv {g : pm_s} {u : pm_J} : (u.1 45 9 = ie 0 → F_Heap_isOver g u = some (ie 0)) ∧ (u.1 45 9 = ie 1 → F_Heap_isOver g u = some (ie 1)) := by
  unfold F_Heap_isOver
  exact ⟨fun h => by rw [h]; rfl, fun h => by rw [h]; rfl⟩
theorem cov_rd {T : List Tok} {n : Nat} {D : List Df} {t : Tr} {c : CS} {sT : Nat → Ta} {g : pm_s} {u : pm_J} {Y : List Ty} {hp : Hp} (H : cF T n D t c sT g u Y) (hh : hC Y u hp) {f : Va} {i : Nat} {it : It} {A B : Ty} (h1 : f.2 = je (i : Nat)) (h2 : hp.1[i]? = some it) (h3 : it.1 = 4 ∨ it.1 = 5) (h4 : it.2.2.2.1 = .mul A B) : F_Heap_kind f.2 g u = some (ie (it.1 : Nat)) ∧ F_Heap_first f.2 g u = some it.2.1.2 ∧ F_Heap_site f.2 g u = some (ie it.2.2.2.2) ∧ ∃ (w : Int64) (l r : Nat), F_Heap_second f.2 g u = some w ∧ F_Types_left w.toInt32 g u = some (ie (l : Nat)) ∧ F_Types_right w.toInt32 g u = some (ie (r : Nat)) ∧ Y[l]? = some A ∧ Y[r]? = some B := by
  have hi := (List.getElem?_eq_some_iff.mp h2).1
  obtain ⟨g1, g2, g3, g4, _⟩ := hp_rd g hh.1 hh.2.1 hi
  obtain ⟨q0, q1, q2, _, q4⟩ := hh.2.2.1 i it h2
  obtain ⟨⟨k, k1, k2, k3⟩, k4⟩ := q4 (by omega)
  rw [h4] at k3
  obtain ⟨l, r, l1, r1, l2, r2, _, _⟩ := c_parts H.2.1 true A B k k3
  refine ⟨by rw [h1, g1, q1], by rw [h1, g2, q2], by rw [h1, g4, k4], je (k : Nat), l, r, by rw [h1, g3, k1], ?_, ?_, l1, r1⟩
  · rw [je_i32 k (by omega)]; exact l2
  · rw [je_i32 k (by omega)]; exact r2
theorem c_leave {u : pm_J} {T : List Tok} {n : Nat} {D : List Df} {t : Tr} {c : CS} {sT : Nat → Ta} {g : pm_s} {Y : List Ty} {bx : Bool} {lim : Nat} {rk : Int32} {u0 : pm_J} {hp : Hp} {L : Lo} {lc : Nat} {F : List Fr} {v : Va} {st cc dp : Nat} {f : Va} {it : It} {x : Option Va × Hp} (N : Nat) (hN : 200000 ≤ N) (H0 : cF T n D t c sT g u0 Y) (h : rc0 u0 t Y bx lim rk (ie 0) u hp L lc ((none, 0, 1, 0, [f]) :: F) v st cc dp) (hc : oCov t c false hp f v it x) :
    (∀ y, x.1 = some y → ∃ w, F_Machine_resume N g u = some w ∧ rcM u0 t Y bx lim rk w (x.2, L, lc, F, y, st, cc, dp, rM)) ∧ (x.1 = none → ∃ w, F_Machine_resume N g u = some w ∧ fn4 u0 Y rk w x.2 st cc dp) := by
  have hT : rcT u0 t Y bx lim rk (ie 0) u hp L lc none 0 1 (-1) [f] F v st cc dp := (rc_T h).1
  clear h
  obtain ⟨k1, k2, k3, k4, k5, k6, ⟨k7, k7'⟩, k8⟩ := id hT
  have H := cF_ag H0 k1
  obtain ⟨r1, _, _, _, _, r6⟩ := fr_rd g k7 k7' k5
  have hf : F_Frames_held 0 g u = some f.2 := r6 0 f rfl
  have hv : u.2 44 15 = v.2 := k8.1
  obtain ⟨i, A, B, c1, c2, c3, c4, c5, c6⟩ := hc
  obtain ⟨d1, d2, d3, w, l, r, d4, d5, d6, d7, d8⟩ := cov_rd H k2 c1 c2 c3 c4
  rw [if_neg (by decide), if_neg (by decide)] at c6
  obtain ⟨wd, z, z1, z2, z3, z4, z5⟩ := c_adapt N hN (Nat.beq it.1 4) v H d8 k2 k3 (aOK_mul c5).2 c6
  have hres : F_Machine_resume N g u = F_Machine_finish wd g z := by
    unfold F_Machine_resume
    have r1' : F_Frames_node g u = some (ie (-1)) := r1
    rw [r1', Option.bind_some, (tr_m1 g u).2.1, Option.bind_some, if_pos (by decide), obd]
    unfold F_Machine_leaveCover K_Machine_leaveCover_43
    rw [hf, Option.bind_some, d4, Option.bind_some, d6, Option.bind_some, d1, Option.bind_some]
    rcases c3 with c3 | c3
    · have z1' : F_Adapter_adapt N v.2 (ie (r : Nat)) (ie it.2.2.2.2) 1 g u = some (wd, z) := by rw [c3] at z1; exact z1
      rw [c3, if_pos (by decide), d3, Option.bind_some, hv, z1', Option.bind_some, obd]
    · have z1' : F_Adapter_adapt N v.2 (ie (r : Nat)) (ie it.2.2.2.2) 0 g u = some (wd, z) := by rw [c3] at z1; exact z1
      rw [c3, if_neg (by decide), d3, Option.bind_some, hv, z1', Option.bind_some, obd]
  rw [hres]
  refine ⟨fun y hy => ?_, fun hy => ?_⟩
  · obtain ⟨rfl, z6⟩ := z4 y hy
    obtain ⟨p, p1, p2, p3⟩ := c_wFin g y (rcT_hp hT z3 z2 z6)
    exact ⟨p, p1, p2, p3⟩
  · obtain ⟨p, p1, p2, p3⟩ := c_wFin g (0, wd) (rcT_hp hT z3 z2 (z5 hy))
    exact ⟨p, p1, rc0_4 p2⟩
theorem c_cover {u : pm_J} {T : List Tok} {n : Nat} {D : List Df} {t : Tr} {c : CS} {sT : Nat → Ta} {g : pm_s} {Y : List Ty} {bx : Bool} {lim : Nat} {rk : Int32} {u0 : pm_J} {hp : Hp} {L : Lo} {lc : Nat} {F : List Fr} {v : Va} {st cc dp : Nat} {f : Va} {it : It} {x : Option Va × Hp} (N : Nat) (hN : 200000 ≤ N) (H0 : cF T n D t c sT g u0 Y) (h : rc0 u0 t Y bx lim rk (ie 0) u hp L lc F v st cc dp) (hm : mdC u (1, 0, 0, f)) (hF : F.length < 150) (hc : oCov t c true hp f v it x) :
    (∀ y, x.1 = some y → ∃ w, F_Machine_applyCallee N g u = some w ∧ rcM u0 t Y bx lim rk w (x.2, L, lc, (none, 0, 1, 0, [f]) :: F, y, st, cc + 1, max dp (F.length + 1), (1, 0, 0, it.2.1))) ∧ (x.1 = none → ∃ w, F_Machine_applyCallee N g u = some w ∧ fn4 u0 Y rk w x.2 st (cc + 1) (max dp (F.length + 1))) := by
  obtain ⟨hm1, hm2⟩ := hm.2.1 rfl
  have hm2 : u.2 44 14 = f.2 := hm2
  obtain ⟨k1, k2, k3, k4, k6, ⟨k7, k7'⟩, k8⟩ := id h
  have H := cF_ag H0 k1
  obtain ⟨i, A, B, c1, c2, c3, c4, c5, c6⟩ := hc
  obtain ⟨d1, _⟩ := cov_rd H k2 c1 c2 c3 c4
  rw [if_pos rfl, if_pos rfl] at c6
  have aw : ag (fun c i => ¬ (c = 44 ∧ i = 9)) u (wi u 44 9 (u.1 44 9 + 1)) := ag_wi (ag_r _ u) _ _ _ (by omega)
  have h1 : rc0 u0 t Y bx lim rk (ie 0) (wi u 44 9 (u.1 44 9 + 1)) hp L lc F v st (cc + 1) dp := by
    obtain ⟨q1, q2, q3, q4, q5, q6, q7, q8, q9⟩ := k8
    exact rc0_rg h (ag_m aw (fun c i hc => by omega)) ⟨q1, (wi_ne _ _ _ _ _ _ (by omega)).trans q2, by rw [wi_at, q3, iadd1], (wi_ne _ _ _ _ _ _ (by omega)).trans q4, (wi_ne _ _ _ _ _ _ (by omega)).trans q5, (wi_ne _ _ _ _ _ _ (by omega)).trans q6, (wi_ne _ _ _ _ _ _ (by omega)).trans q7, (wi_ne _ _ _ _ _ _ (by omega)).trans q8, q9⟩
  obtain ⟨w, w1, w2, w3⟩ := c_wPush g none 0 (by omega) h1 hF
  obtain ⟨z, z1, z2, z3⟩ := c_hold g f w2 (by show 0 < 6; omega)
  have w14 : w.2 44 14 = f.2 := by rw [(w3 44 14 rfl).2]; exact hm2
  have z14 : z.2 44 14 = f.2 := by rw [(z3 44 14 (by omega) (by omega)).2]; exact w14
  have z11 : z.1 44 11 = ie 1 := by rw [(z3 44 11 (by omega) (by omega)).1, (w3 44 11 rfl).1, wi_ne _ _ _ _ _ _ (by omega)]; exact hm1
  have z15 : z.2 44 15 = v.2 := z2.2.2.2.2.2.2.2.1
  obtain ⟨kz1, kz2, kz3, _⟩ := id z2
  have Hz := cF_ag H0 kz1
  obtain ⟨e1, e2, e3, wt, l, r, e4, e5, e6, e7, e8⟩ := cov_rd Hz kz2 c1 c2 c3 c4
  obtain ⟨wd, p, p1, p2, p3, p4, p5⟩ := c_adapt N hN (Nat.beq it.1 5) v Hz e7 kz2 kz3 (aOK_mul c5).1 c6
  have p14 : p.2 44 14 = f.2 := by rw [(p3 44 14 (by unfold qA; omega)).2]; exact z14
  have p11 : p.1 44 11 = ie 1 := by rw [(p3 44 11 (by unfold qA; omega)).1]; exact z11
  have Hp := cF_ag Hz (qA_S p3)
  have hpf : F_Heap_first f.2 g (wj p 44 15 wd) = some it.2.1.2 := by
    have hle : ∃ Zz, x.2.1 = hp.1 ++ Zz := adp_grow c6
    obtain ⟨Zz, hZ⟩ := hle
    have a2 : ag qH p (wj p 44 15 wd) := ag_wj (ag_r _ p) _ _ _ (by unfold qH; omega)
    have a3 : ag qS p (wj p 44 15 wd) := ag_wj (ag_r _ p) _ _ _ (by unfold qS; omega)
    exact (cov_rd (cF_ag Hp a3) (hC_ag p2 a2) c1 (by rw [hZ]; exact getz c2 Zz) c3 c4).2.1
  have c15 : ie (F.length : Nat) < (150 : Int32) := (inlt F.length 150 (by omega) (by omega)).mpr hF
  have hres : F_Machine_applyCallee N g u = some (wj (wj p 44 15 wd) 44 14 it.2.1.2) := by
    unfold F_Machine_applyCallee K_Machine_applyCallee_22
    have w1' : F_Frames_push (-1) 0 g (wi u 44 9 (u.1 44 9 + 1)) = some w := w1
    have hfull : F_Frames_isFull g u = some 0 := by unfold F_Frames_isFull; rw [k7, if_pos c15]
    have hec : ∀ b : Int32, F_Machine_enterCover N b g u = if b = 0 then K_Machine_enterCover_96 N g 1 (ie it.2.2.2.2) (ie (l : Nat)) v.2 z else K_Machine_enterCover_96 N g 0 (ie it.2.2.2.2) (ie (l : Nat)) v.2 z := fun b => by
      unfold F_Machine_enterCover
      rw [hfull, Option.bind_some, if_pos rfl, w1', Option.bind_some, w14, z1, Option.bind_some, z14, e4, Option.bind_some, e5, Option.bind_some, e3, Option.bind_some, z15]
    have hK : ∀ b : Int32, F_Adapter_adapt N v.2 (ie (l : Nat)) (ie it.2.2.2.2) b g z = some (wd, p) → K_Machine_enterCover_96 N g b (ie it.2.2.2.2) (ie (l : Nat)) v.2 z = some (wj (wj p 44 15 wd) 44 14 it.2.1.2) := fun b hb => by
      unfold K_Machine_enterCover_96
      rw [hb, Option.bind_some]
      show (F_Heap_first (p.2 44 14) g (wj p 44 15 wd)).bind _ = _
      rw [p14, hpf]; rfl
    rw [hm2, d1, Option.bind_some]
    rcases c3 with c3 | c3
    · rw [c3, if_pos (by decide), if_pos (by decide), obd, hec, if_neg (by decide)]
      exact hK 0 (by rw [c3] at p1; exact p1)
    · rw [c3, if_neg (by decide), if_pos (by decide), if_neg (by decide), obd, hec, if_pos (by decide)]
      exact hK 1 (by rw [c3] at p1; exact p1)
  rw [hres]
  have aw4 : ∀ q : pm_J, ag (fun c i => ¬ (c = 44 ∧ i = 14)) q (wj q 44 14 it.2.1.2) := fun q => ag_wj (ag_r _ q) _ _ _ (by omega)
  refine ⟨fun y hy => ?_, fun hy => ?_⟩
  · obtain ⟨rfl, p6⟩ := p4 y hy
    have q1 := rc_val y (rcT_hp z2 p3 p2 p6)
    have q2 := rcT_rg q1 (ag_m (aw4 _) (fun c i hc => by omega)) (rgC_ag q1.2.2.2.2.2.2.2 (ag_m (aw4 _) (fun c i hc => by unfold qR at hc; omega)))
    refine ⟨_, rfl, rcT_0 (a := -1) (q := 1) (j := 0) ?_ rfl (fun e' h' => by cases h'), mdC_1 ?_ (wj_at _ _ _ _)⟩
    · obtain ⟨a1, a2, a3, a4, ⟨b1, b2, b3, b4, b5⟩, a6⟩ := q2
      exact ⟨a1, a2, a3, a4, ⟨b1, b2, b3, fun hh => absurd rfl hh, b5⟩, a6⟩
    · exact p11
  · have q1 := rc_val (0, wd) (rcT_hp z2 p3 p2 (p5 hy))
    have q2 := rcT_rg q1 (ag_m (aw4 _) (fun c i hc => by omega)) (rgC_ag q1.2.2.2.2.2.2.2 (ag_m (aw4 _) (fun c i hc => by unfold qR at hc; omega)))
    exact ⟨_, rfl, rcT_4 q2⟩
