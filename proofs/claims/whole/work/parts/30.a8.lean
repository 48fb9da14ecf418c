set_option maxRecDepth 100000
theorem md_nd {D : List Df} {t : Tr} {c : CS} {bx : Bool} {hp : Hp} {L : Lo} {lc e b q j : Nat} {hd : List Va} {F : List Fr} {v : Va} {st cc dp r : Nat} {s' : Ms} (h : oNd D t c bx hp L lc e b q j hd F v st cc dp r s') (hr : r = 0) : s'.2.2.2.2.2.2.2.2.1 ≠ 3 := by
  have f1 : ∀ {hp : Hp} {L : Lo} {F : List Fr} {v : Va}, oFin hp L lc F v st cc dp r s' → s'.2.2.2.2.2.2.2.2.1 ≠ 3 := fun h => by obtain ⟨_, rfl⟩ := h; show 2 ≠ 3; omega
  have f2 : ∀ {hp : Hp} {L : Lo} {q j : Nat} {hd : List Va} {v : Va} {x : Int}, oPt t hp L lc e b q j hd F v st cc dp x r s' → s'.2.2.2.2.2.2.2.2.1 ≠ 3 := fun h => by obtain ⟨_, _, _, _, rfl⟩ := h; show 0 ≠ 3; omega
  have f3 : ∀ {F' : List Fr} {tag : Nat} {it : It}, oMk hp L lc F F' tag it v st cc dp r s' → s'.2.2.2.2.2.2.2.2.1 ≠ 3 := fun h => by
    rcases h with ⟨_, _, rfl⟩ | ⟨_, _, rfl⟩ <;> (show 2 ≠ 3; omega)
  have f4 : ∀ {hp : Hp} {j : Nat} {hd : List Va} {v : Va} {d : Nat}, oDf D hp L lc e b j hd F v st cc dp d r s' → s'.2.2.2.2.2.2.2.2.1 ≠ 3 := fun h => by
    rcases h with ⟨_, ⟨_, _, rfl⟩ | ⟨_, _, rfl⟩⟩
    · show 0 ≠ 3; omega
    · show 2 ≠ 3; omega
  rcases h with ⟨_, _, h⟩ | ⟨_, _, l, y, _, _, _, h⟩ | ⟨_, _, h⟩ | ⟨k, _, ⟨rfl, h⟩ | ⟨rfl, l, _, _, h⟩ | ⟨rfl, h⟩⟩ | ⟨k, _, ⟨rfl, h⟩ | ⟨rfl, h⟩ | ⟨rfl, h⟩⟩ | ⟨k, _, ⟨rfl, h⟩ | ⟨rfl, i, it, _, _, _, h⟩⟩ | ⟨k, _, ⟨rfl, h⟩ | ⟨rfl, _, h⟩ | ⟨rfl, a, _, h⟩⟩ | ⟨k, _, _, d, _, _, _, _, ⟨rfl, _, h⟩ | ⟨rfl, _, h⟩ | ⟨rfl, h⟩⟩ | ⟨k, _, h⟩
  · exact f1 h
  · exact f1 h
  · exact f3 h
  · exact f2 h
  · exact f2 h
  · exact f1 h
  · exact f2 h
  · exact f2 h
  · exact f1 h
  · exact f2 h
  · exact f1 h
  · exact f2 h
  · exact f2 h
  · rcases h with ⟨_, h⟩ | ⟨_, h⟩ | ⟨_, h⟩ | ⟨_, h⟩
    · exact f1 h
    · exact f1 h
    · exact f1 h
    · exact f3 h
  · exact f4 h
  · subst h; show 2 ≠ 3; omega
  · exact f1 h
  · rcases h with ⟨rfl, _, rfl, _, h⟩ | ⟨rfl, _, rfl, _, a, ha, h⟩ | ⟨rfl, _, h⟩ | ⟨rfl, a, ha, h⟩ | ⟨rfl, k1, k2, f, _, _, h⟩ | ⟨rfl, k1, d, a, p, y, h', _, _, k2, _, _, _, _, ⟨_, _, h⟩ | ⟨x, _, _, a', k3, h⟩ | ⟨x, _, _, h⟩⟩ | ⟨rfl, d, y, h', _, _, k1, k2, _, _, ⟨_, _, h⟩ | ⟨x, _, _, h⟩⟩
    · exact f2 h
    · exact f2 h
    · exact f1 h
    · exact f2 h
    · subst h; show 1 ≠ 3; omega
    · subst h; show 2 ≠ 3; omega
    · exact f2 h
    · exact f4 h
    · subst h; show 2 ≠ 3; omega
    · subst h; show 2 ≠ 3; omega
theorem wi_same (u : pm_J) (a k : Nat) : wi u a k (u.1 a k) = u := by
  unfold wi
  obtain ⟨x, y⟩ := u
  congr 1
  funext i j
  by_cases h : i = a ∧ j = k
  · rw [if_pos h, h.1, h.2]
  · rw [if_neg h]
def finC (u0 : pm_J) (Y : List Ty) (rk : Int32) (u : pm_J) (r : Nat) (hp : Hp) (v : Va) (st cc dp : Nat) : Prop := ag qS u0 u ∧ hC Y u hp ∧ u.1 44 10 = ie (r : Nat) ∧ u.1 44 8 = ie (st : Nat) ∧ u.1 44 9 = ie (cc : Nat) ∧ u.1 57 7 = ie (dp : Nat) ∧ u.1 44 16 = rk ∧ (r = 1 → u.2 44 15 = v.2)
theorem rc0_end {u0 u : pm_J} {t : Tr} {Y : List Ty} {bx : Bool} {lim : Nat} {rk ov : Int32} {hp : Hp} {L : Lo} {lc : Nat} {F : List Fr} {v : Va} {st cc dp : Nat} (r : Nat) (h : rc0 u0 t Y bx lim rk ov u hp L lc F v st cc dp) : finC u0 Y rk (wi u 44 10 (ie (r : Nat))) r hp v st cc dp ∧ (wi u 44 10 (ie (r : Nat))).1 45 9 = ov := by
  have aw : ag (fun c i => ¬ (c = 44 ∧ i = 10)) u (wi u 44 10 (ie (r : Nat))) := ag_wi (ag_r _ u) _ _ _ (by omega)
  obtain ⟨h1, h2, h3, h4, h7, _, r1, r2, r3, r4, r5, r6, r7, r8, r9⟩ := h
  exact ⟨⟨ag_t h1 (ag_m aw (fun c i hc => by unfold qS at hc; omega)), hC_ag h2 (ag_m aw (fun c i hc => by unfold qH at hc; omega)), wi_at _ _ _ _, (aw _ _ (by omega)).1.trans r2, (aw _ _ (by omega)).1.trans r3, (aw _ _ (by omega)).1.trans r4, (aw _ _ (by omega)).1.trans r8, fun _ => (aw 44 15 (by omega)).2.trans r1⟩, (aw _ _ (by omega)).1.trans h3⟩
theorem fn4_end {u0 u : pm_J} {Y : List Ty} {rk : Int32} {hp : Hp} {st cc dp : Nat} (v : Va) (h : fn4 u0 Y rk u hp st cc dp) : finC u0 Y rk (wi u 44 10 4) 4 hp v st cc dp := by
  have aw : ag (fun c i => ¬ (c = 44 ∧ i = 10)) u (wi u 44 10 4) := ag_wi (ag_r _ u) _ _ _ (by omega)
  obtain ⟨h1, h2, h3, h4, h5, h6, h7⟩ := h
  exact ⟨ag_t h1 (ag_m aw (fun c i hc => by unfold qS at hc; omega)), hC_ag h2 (ag_m aw (fun c i hc => by unfold qH at hc; omega)), by rw [wi_at]; rfl, (aw _ _ (by omega)).1.trans h4, (aw _ _ (by omega)).1.trans h5, (aw _ _ (by omega)).1.trans h6, (aw _ _ (by omega)).1.trans h7, fun hh => by cases hh⟩
def trn (N : Nat) (g : pm_s) (u : pm_J) : Option pm_J := if u.1 44 11 = 0 then F_Machine_enter g u else if u.1 44 11 = 1 then F_Machine_applyCallee N g u else (F_Frames_isEmpty g u).bind fun q => if q = 0 then F_Machine_resume N g u else some (wi u 44 10 1)
theorem trn_K (N : Nat) (g : pm_s) (f x : Nat) (u : pm_J) (hx : x < 20000000) (h0 : u.1 44 10 = ie 0) : K_Machine_start_2_111 N g (f + 1) (ie (x : Nat)) u = (trn N g u).bind fun q => K_Machine_start_2_176 N g (K_Machine_start_2_111 N g f) (ie (x : Nat)) q := by
  have c1 : ¬ ((20000000 : Int32) ≤ ie (x : Nat)) := fun hh => by have := (inle 20000000 x (by omega) (by omega)).mp hh; omega
  rw [K_Machine_start_2_111, if_neg c1, h0, if_pos (show ie 0 = (0 : Int32) from rfl)]
  unfold trn
  by_cases e0 : u.1 44 11 = 0
  · rw [if_pos e0, if_pos e0]
  rw [if_neg e0, if_neg e0]
  by_cases e1 : u.1 44 11 = 1
  · rw [if_pos e1, if_pos e1]
  rw [if_neg e1, if_neg e1]
  unfold F_Frames_isEmpty
  by_cases e2 : u.1 57 6 = 0
  · rw [if_pos e2]; rfl
  · rw [if_neg e2]; rfl
theorem trn_0 {N : Nat} {g : pm_s} {f x : Nat} {u w : pm_J} (hx : x < 20000000) (h0 : u.1 44 10 = ie 0) (ht : trn N g u = some w) (ho : w.1 45 9 = ie 0) : K_Machine_start_2_111 N g (f + 1) (ie (x : Nat)) u = K_Machine_start_2_111 N g f (ie ((x + 1 : Nat) : Int)) w := by
  rw [trn_K N g f x u hx h0, ht, Option.bind_some]
  unfold K_Machine_start_2_176
  rw [isOv.1 ho, Option.bind_some, if_pos (show ie 0 = (0 : Int32) from rfl), wi_same, iadd1]
theorem trn_e {N : Nat} {g : pm_s} {f x r : Nat} {w : pm_J} (hx : x < 20000000) (hr : r ≤ 4 ∧ 1 ≤ r) (h : w.1 44 10 = ie (r : Nat)) : K_Machine_start_2_111 N g (f + 1) (ie (x : Nat)) w = some (ie (r : Nat), w) := by
  have c1 : ¬ ((20000000 : Int32) ≤ ie (x : Nat)) := fun hh => by have := (inle 20000000 x (by omega) (by omega)).mp hh; omega
  rw [K_Machine_start_2_111, if_neg c1, h, if_neg (show ¬ (ie (r : Nat) = (0 : Int32)) from fun hh => by have := (ineq r 0 (by omega) (by omega)).mp hh; omega)]
theorem trn_4 {N : Nat} {g : pm_s} {f x : Nat} {u w : pm_J} (hx : x + 1 < 20000000) (h0 : u.1 44 10 = ie 0) (ht : trn N g u = some w) (ho : w.1 45 9 = ie 1) : K_Machine_start_2_111 N g (f + 2) (ie (x : Nat)) u = some (ie ((4 : Nat) : Int), wi w 44 10 4) := by
  rw [show f + 2 = (f + 1) + 1 from rfl, trn_K N g (f + 1) x u (by omega) h0, ht, Option.bind_some]
  unfold K_Machine_start_2_176
  rw [isOv.2 ho, Option.bind_some, if_neg (by decide), iadd1]
  exact trn_e hx (by omega) (by rw [wi_at]; rfl)
theorem c_run {T : List Tok} {n : Nat} {D : List Df} {t : Tr} {c : CS} {sT : Nat → Ta} {g : pm_s} {Y : List Ty} {bx : Bool} {lim : Nat} {rk : Int32} {u0 : pm_J} {r : Nat} {sf : Ms} (N : Nat) (hN : 200000 ≤ N) (hW : pW T D t) (hKJ : kJ D t c) (hI : kI0 D t t.1 c) (H0 : cF T n D t c sT g u0 Y) (k : Nat) : ∀ (k' : Nat) (s : Ms) (u : pm_J) (x f : Nat), k' ≤ k → rch D t c bx lim k' s r sf → s.2.2.2.2.2.2.2.2.1 ≠ 3 → rcM u0 t Y bx lim rk u s → x + k + 5 ≤ 20000000 → k + 5 ≤ f → ∃ w, K_Machine_start_2_111 N g f (ie (x : Nat)) u = some (ie (r : Nat), w) ∧ finC u0 Y rk w r sf.1 sf.2.2.2.2.1 sf.2.2.2.2.2.1 sf.2.2.2.2.2.2.1 sf.2.2.2.2.2.2.2.1 := by
  induction k with
  | zero => intro k' s u x f hk h; have : k' = 0 := by omega
            subst this; exact h.elim
  | succ k ih =>
    intro k' s u x f hk h h30 hM0 hx hf
    cases k' with
    | zero => exact h.elim
    | succ k' =>
    obtain ⟨hp, L, lc, F, v, st, cc, dp, m⟩ := s
    have hM : rc0 u0 t Y bx lim rk (ie 0) u hp L lc F v st cc dp := hM0.1
    have hm : mdC u m := hM0.2
    have h3 : m.1 ≠ 3 := h30
    clear hM0 h30
    obtain ⟨k1, k2, k3, k4, k6, ⟨k7, k7'⟩, k8⟩ := id hM
    have h0 : u.1 44 10 = ie 0 := k8.2.2.2.2.2.2.1
    obtain ⟨f, rfl⟩ : ∃ f', f = f' + 2 := ⟨f - 2, by omega⟩
    obtain ⟨r', s', hs0, hcon⟩ := h
    have hs : stp D t c bx lim hp L lc F v st cc dp m r' s' := hs0
    clear hs0
    have go : ∀ (w : pm_J), trn N g u = some w → r' = 0 → rcM u0 t Y bx lim rk w s' → s'.2.2.2.2.2.2.2.2.1 ≠ 3 → ∃ w, K_Machine_start_2_111 N g (f + 2) (ie (x : Nat)) u = some (ie (r : Nat), w) ∧ finC u0 Y rk w r sf.1 sf.2.2.2.2.1 sf.2.2.2.2.2.1 sf.2.2.2.2.2.2.1 sf.2.2.2.2.2.2.2.1 := fun w hw hr hR h3' => by
      subst hr
      rcases hcon with ⟨_, hcon⟩ | ⟨hh, _⟩
      · obtain ⟨z, z1, z2⟩ := ih k' s' w (x + 1) (f + 1) (by omega) hcon h3' hR (by omega) (by omega)
        exact ⟨z, by rw [trn_0 (by omega) h0 hw hR.1.2.2.1]; exact z1, z2⟩
      · exact absurd rfl hh
    have four : ∀ (w : pm_J), trn N g u = some w → r' = 4 → fn4 u0 Y rk w s'.1 s'.2.2.2.2.2.1 s'.2.2.2.2.2.2.1 s'.2.2.2.2.2.2.2.1 → ∃ w, K_Machine_start_2_111 N g (f + 2) (ie (x : Nat)) u = some (ie (r : Nat), w) ∧ finC u0 Y rk w r sf.1 sf.2.2.2.2.1 sf.2.2.2.2.2.1 sf.2.2.2.2.2.2.1 sf.2.2.2.2.2.2.2.1 := fun w hw hr hR => by
      subst hr
      rcases hcon with ⟨hh, _⟩ | ⟨_, rfl, rfl⟩
      · cases hh
      · exact ⟨_, trn_4 (by omega) h0 hw hR.2.2.1, fn4_end _ hR⟩
    have fin : ∀ (q : Nat), r' = q → 1 ≤ q ∧ q ≤ 4 → s' = (hp, L, lc, F, v, st, cc, dp, s'.2.2.2.2.2.2.2.2) → trn N g u = some (wi u 44 10 (ie (q : Nat))) → ∃ w, K_Machine_start_2_111 N g (f + 2) (ie (x : Nat)) u = some (ie (r : Nat), w) ∧ finC u0 Y rk w r sf.1 sf.2.2.2.2.1 sf.2.2.2.2.2.1 sf.2.2.2.2.2.2.1 sf.2.2.2.2.2.2.2.1 := fun q hq hq' hs' hw => by
      rcases hcon with ⟨hh, _⟩ | ⟨_, rfl, rfl⟩
      · omega
      · obtain ⟨e1, e2⟩ := rc0_end r hM
        subst hq
        refine ⟨wi u 44 10 (ie (r : Nat)), ?_, ?_⟩
        · rw [show f + 2 = (f + 1) + 1 from rfl, trn_0 (by omega) h0 hw e2]
          exact trn_e (by omega) (by omega) e1.2.2.1
        · rw [hs']; exact e1
    have c15 : F.length < 150 → F_Frames_isFull g u = some 0 := fun hl => by
      unfold F_Frames_isFull; rw [k7, if_pos (show ie (F.length : Nat) < (150 : Int32) from (inlt F.length 150 (by omega) (by omega)).mpr hl)]
    have c15' : 150 ≤ F.length → F_Frames_isFull g u = some 1 := fun hl => by
      unfold F_Frames_isFull; rw [k7, if_neg (show ¬ (ie (F.length : Nat) < (150 : Int32)) from fun hh => by have := (inlt F.length 150 (by omega) (by omega)).mp hh; omega)]
    rcases hs with ⟨a, b, rfl, ha, hs⟩ | ⟨fv, rfl, hs⟩ | ⟨fv, F', it, z, rfl, _⟩ | ⟨rfl, rfl, hr, hs'⟩ | ⟨fv, F', it, z, rfl, rfl, hc, hs⟩ | ⟨e, b, q, j, hd, F', rfl, rfl, he, hs⟩
    · -- an EXPR begins
      obtain ⟨m1, m2, m3, m4⟩ := hm.1 rfl
      have m2 : u.1 44 12 = ie (a : Nat) := m2
      have m3 : u.1 44 13 = ie (b : Nat) := m3
      have m4 : b ≤ 60000 := m4
      have ht : trn N g u = F_Machine_enter g u := by unfold trn; rw [m1, if_pos (show ie 0 = (0 : Int32) from rfl)]
      have hst : u.1 44 8 = ie (st : Nat) := k8.2.1
      have hlim : u.1 44 7 = ie (lim : Nat) := k8.2.2.2.2.1
      have b1 : st ≤ 20000 := k8.2.2.2.2.2.2.2.2.1
      have b2 : lim ≤ 20000 := k8.2.2.2.2.2.2.2.2.2.1
      rcases hs with ⟨l1, hr, hs'⟩ | ⟨l1, l2, hr, hs'⟩ | ⟨l1, l2, rfl, rfl⟩
      · refine fin 3 hr (by omega) (by rw [hs']) ?_
        rw [ht]; unfold F_Machine_enter; rw [c15' l1, Option.bind_some, if_neg (by decide)]; rfl
      · refine fin 2 hr (by omega) (by rw [hs']) ?_
        rw [ht]; unfold F_Machine_enter; rw [c15 l1, Option.bind_some, if_pos rfl, hst, hlim, if_neg (fun hh => by have := (inlt st lim (by omega) (by omega)).mp hh; omega)]; rfl
      · have aw : ag (fun c i => ¬ (c = 44 ∧ i = 8)) u (wi u 44 8 (ie ((st + 1 : Nat) : Int))) := ag_wi (ag_r _ u) _ _ _ (by omega)
        have h1 : rc0 u0 t Y bx lim rk (ie 0) (wi u 44 8 (ie ((st + 1 : Nat) : Int))) hp L lc F v (st + 1) cc dp := by
          obtain ⟨q1, q2, q3, q4, q5, q6, q7, q8, q9, q10⟩ := k8
          exact rc0_rg hM (ag_m aw (fun c i hc => by omega)) ⟨q1, wi_at _ _ _ _, (wi_ne _ _ _ _ _ _ (by omega)).trans q3, (wi_ne _ _ _ _ _ _ (by omega)).trans q4, (wi_ne _ _ _ _ _ _ (by omega)).trans q5, (wi_ne _ _ _ _ _ _ (by omega)).trans q6, (wi_ne _ _ _ _ _ _ (by omega)).trans q7, (wi_ne _ _ _ _ _ _ (by omega)).trans q8, by omega, q10⟩
        obtain ⟨w, w1, w2, w3⟩ := c_wPush g (some a) b m4 h1 l1
        have aw2 : ag (fun c i => ¬ (c = 44 ∧ i = 11)) w (wi w 44 11 2) := ag_wi (ag_r _ w) _ _ _ (by omega)
        have h2 := rcT_rg w2 (ag_m aw2 (fun c i hc => by omega)) (rgC_ag w2.2.2.2.2.2.2.2 (ag_m aw2 (fun c i hc => by unfold qR at hc; omega)))
        refine go (wi w 44 11 2) ?_ rfl ⟨rcT_0 (j := 0) h2 (atm_z _ _ _).symm (fun e' h' => by cases h'; exact ha), mdC_2 (by rw [wi_at]; rfl)⟩ (by show 2 ≠ 3; omega)
        rw [ht]; unfold F_Machine_enter
        have w1' : F_Frames_push (ie (a : Nat)) (ie (b : Nat)) g (wi u 44 8 (ie ((st + 1 : Nat) : Int))) = some w := w1
        rw [c15 l1, Option.bind_some, if_pos rfl, hst, hlim, if_pos ((inlt st lim (by omega) (by omega)).mpr l2), iadd1, m2, m3, w1']; rfl
    · -- a function is called
      obtain ⟨m1, m2⟩ := hm.2.1 rfl
      have ht : trn N g u = F_Machine_applyCallee N g u := by unfold trn; rw [m1, if_neg (by decide), if_pos (show ie 1 = (1 : Int32) from rfl)]
      obtain ⟨i, it, i1, i2, hs⟩ := hs
      rcases hs with ⟨i3, e, b, d, l, a, e1, e2, e3, e4, e5, e6, e7, e8, e9, e10, e11, e12, e13, _, hs⟩ | ⟨i3, hs⟩
      · obtain ⟨c1, c2⟩ := c_apFn N hN hI H0 hM hm i1 i2 i3 e1 e2 e3 e4 e5 e6 e9 e10 e11 e12
        rcases hs with ⟨hr, rfl, rfl⟩ | ⟨hr, rfl, rfl⟩
        · obtain ⟨w, w1, w2⟩ := c1 hr
          exact go w (by rw [ht]; exact w1) rfl w2 (by show 0 ≠ 3; omega)
        · obtain ⟨w, w1, w2⟩ := c2 hr
          exact four w (by rw [ht]; exact w1) rfl w2
      · rcases hs with ⟨hl, rfl, rfl⟩ | ⟨hl, hr, hs'⟩
        · -- two small steps are one turn
          rcases hcon with ⟨_, hcon⟩ | ⟨hh, _⟩
          · cases k' with
            | zero => exact hcon.elim
            | succ k' =>
              obtain ⟨r2, s2, hs20, hcon2⟩ := hcon
              have hs2 : stp D t c bx lim hp L lc ((none, 0, 0, 0, [fv]) :: F) v st (cc + 1) (max dp (F.length + 1)) (3, 0, 0, fv) r2 s2 := hs20
              clear hs20
              rcases hs2 with ⟨a, b, h, _⟩ | ⟨_, h, _⟩ | ⟨fv', F', it', z, h, hF', hc, hs2⟩ | ⟨h, _⟩ | ⟨_, _, _, _, h, _⟩ | ⟨_, _, _, _, _, _, h, _⟩
              · cases h
              · cases h
              · cases h
                cases hF'
                obtain ⟨c1, c2⟩ := c_cover N hN H0 hM hm hl hc
                rcases hs2 with ⟨y, hy, rfl, rfl⟩ | ⟨hy, rfl, rfl⟩
                · obtain ⟨w, w1, w2⟩ := c1 y hy
                  rcases hcon2 with ⟨_, hcon2⟩ | ⟨hh, _⟩
                  · obtain ⟨p, p1, p2⟩ := ih k' _ w (x + 1) (f + 1) (by omega) hcon2 (by show 1 ≠ 3; omega) w2 (by omega) (by omega)
                    exact ⟨p, by rw [trn_0 (by omega) h0 (by rw [ht]; exact w1) w2.1.2.2.1]; exact p1, p2⟩
                  · exact absurd rfl hh
                · obtain ⟨w, w1, w2⟩ := c2 hy
                  rcases hcon2 with ⟨hh, _⟩ | ⟨_, rfl, rfl⟩
                  · cases hh
                  · exact ⟨_, trn_4 (by omega) h0 (by rw [ht]; exact w1) w2.2.2.1, fn4_end _ w2⟩
              · cases h
              · cases h
              · cases h
          · exact absurd rfl hh
        · refine fin 3 hr (by omega) (by rw [hs']) ?_
          rw [ht]
          have hi := (List.getElem?_eq_some_iff.mp i2).1
          obtain ⟨g1, _⟩ := hp_rd g k2.1 k2.2.1 hi
          obtain ⟨_, q1, _⟩ := k2.2.2.1 i it i2
          have m2' : u.2 44 14 = fv.2 := m2
          have hec : ∀ b, F_Machine_enterCover N b g u = some (wi u 44 10 3) := fun b => by
            unfold F_Machine_enterCover; rw [c15' hl, Option.bind_some, if_neg (by decide)]
          unfold F_Machine_applyCallee K_Machine_applyCallee_22
          rw [m2', i1, g1, Option.bind_some, q1]
          rcases i3 with i3 | i3
          · rw [i3, if_pos (by decide), if_pos (by decide), obd, hec]; rfl
          · rw [i3, if_neg (by decide), if_pos (by decide), if_neg (by decide), obd, hec]; rfl
    · exact absurd rfl h3
    · -- the end
      have m1 : u.1 44 11 = ie 2 := hm.2.2 rfl
      refine fin 1 hr (by omega) (by rw [hs']) ?_
      unfold trn F_Frames_isEmpty
      rw [m1, if_neg (by decide), if_neg (by decide), k7, if_pos (show ie (([] : List Fr).length : Nat) = (0 : Int32) from rfl)]; rfl
    · have m1 : u.1 44 11 = ie 2 := hm.2.2 rfl
      have ht : trn N g u = F_Machine_resume N g u := by
        unfold trn F_Frames_isEmpty
        rw [m1, if_neg (by decide), if_neg (by decide), k7, if_neg (show ¬ (ie ((((none : Option Nat), (0 : Nat), (1 : Nat), (0 : Nat), [fv]) :: F').length : Nat) = (0 : Int32)) from fun hh => by have := (ineq _ 0 (by rw [List.length_cons] at k7' ⊢; omega) (by omega)).mp hh; cases this)]; rfl
      obtain ⟨c1, c2⟩ := c_leave N hN H0 hM hc
      rcases hs with ⟨y, hy, rfl, rfl⟩ | ⟨hy, rfl, rfl⟩
      · obtain ⟨w, w1, w2⟩ := c1 y hy
        exact go w (by rw [ht]; exact w1) rfl w2 (by show 2 ≠ 3; omega)
      · obtain ⟨w, w1, w2⟩ := c2 hy
        exact four w (by rw [ht]; exact w1) rfl w2
    · have m1 : u.1 44 11 = ie 2 := hm.2.2 rfl
      have ht : trn N g u = F_Machine_resume N g u := by
        unfold trn F_Frames_isEmpty
        rw [m1, if_neg (by decide), if_neg (by decide), k7, if_neg (show ¬ (ie (((some e, b, q, j, hd) :: F' : List Fr).length : Nat) = (0 : Int32)) from fun hh => by have := (ineq _ 0 (by rw [List.length_cons] at k7' ⊢; omega) (by omega)).mp hh; cases this)]; rfl
      rcases c_node N hN hW hKJ H0 hM m1 hs with ⟨hr, w, w1, w2⟩ | ⟨hr, w, w1, w2⟩
      · exact go w (by rw [ht]; exact w1) hr w2 (md_nd hs hr)
      · exact four w (by rw [ht]; exact w1) hr w2
