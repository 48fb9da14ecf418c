set_option maxRecDepth 100000
theorem atm_c {t : Tr} {e : Nat} (h : (t.2.1 e).1 = 16) {q : Nat} (hq : q ≠ 0) (b j : Nat) (hd : List Va) : atm t (some e, b, q, j, hd) = rAt t e j := by
  unfold atm; show (if (t.2.1 e).1 = 16 ∧ q ≠ 0 then _ else _) = _; rw [if_pos ⟨h, hq⟩]
theorem atm_z {t : Tr} {e : Nat} (b j : Nat) (hd : List Va) : atm t (some e, b, 0, j, hd) = -1 := by
  unfold atm; show (if (t.2.1 e).1 = 16 ∧ 0 ≠ 0 then _ else _) = _; rw [if_neg (fun hh => hh.2 rfl)]
theorem gC_df {u : pm_J} {T : List Tok} {n : Nat} {D : List Df} {t : Tr} {c : CS} {sT : Nat → Ta} {g : pm_s} {Y : List Ty} {bx : Bool} {lim : Nat} {rk : Int32} {u0 : pm_J} {hp : Hp} {L : Lo} {lc : Nat} {F : List Fr} {v : Va} {st cc dp : Nat} {e b q j d r : Nat} {a : Int} {hd : List Va} {s' : Ms} (N : Nat) (hN : 100 ≤ N) (H0 : cF T n D t c sT g u0 Y) (he : e < t.1) (hc : c.2.1 e = some d) (hl : hd.length ≤ dWd D d) (ha : a = atm t (some e, b, 4, j, hd)) (h : rcT u0 t Y bx lim rk (ie 0) u hp L lc (some e) b q a hd F v st cc dp) (hs : oDf D hp L lc e b j hd F v st cc dp d r s') : gC u0 t Y bx lim rk (F_Machine_callDef N (ie (e : Nat)) g u) r s' := by
  obtain ⟨hd', hs⟩ := hs
  obtain ⟨c1, c2⟩ := c_callDef N hN H0 he hc hd' hl h
  rcases hs with ⟨hr, rfl, rfl⟩ | ⟨hr, rfl, rfl⟩
  · obtain ⟨z, z1, z2, z3⟩ := c1 hr
    exact Or.inl ⟨rfl, z, z1, rcT_0 z2 ha (fun e' h' => by cases h'; exact he), z3⟩
  · obtain ⟨z, z1, z2⟩ := c2 hr
    exact Or.inr ⟨rfl, z, z1, rcT_4 z2⟩
theorem c_node3 {u : pm_J} {T : List Tok} {n : Nat} {D : List Df} {t : Tr} {c : CS} {sT : Nat → Ta} {g : pm_s} {Y : List Ty} {bx : Bool} {lim : Nat} {rk : Int32} {u0 : pm_J} {hp : Hp} {L : Lo} {lc : Nat} {F : List Fr} {v : Va} {st cc dp : Nat} {e b q j r : Nat} {hd : List Va} {s' : Ms} (N : Nat) (hN : 200000 ≤ N) (H0 : cF T n D t c sT g u0 Y) (h : rc0 u0 t Y bx lim rk (ie 0) u hp L lc ((some e, b, q, j, hd) :: F) v st cc dp) (hm : u.1 44 11 = ie 2) (h16 : (t.2.1 e).1 = 3 ∨ (t.2.1 e).1 = 4) (hs : oNd D t c bx hp L lc e b q j hd F v st cc dp r s') : gC u0 t Y bx lim rk (F_Machine_resume N g u) r s' := by
  have he : e < t.1 := (rc_T h).2 e rfl
  have hT : rcT u0 t Y bx lim rk (ie 0) u hp L lc (some e) b q (-1) hd F v st cc dp := by
    have := (rc_T h).1
    rw [atm_o (by omega)] at this; exact this
  clear h
  obtain ⟨k1, k2, k3, k4, k5, k6, ⟨k7, k7'⟩, k8⟩ := id hT
  have H := cF_ag H0 k1
  obtain ⟨r1, r2, r3, r4, _, r6⟩ := fr_rd g k7 k7' k5
  have r2 := r2 (by intro hh; cases hh)
  obtain ⟨t1, t2, t3, t4, _, t6, t7⟩ := tr_all H he
  have hv : u.2 44 15 = v.2 := k8.1
  have hbx : u.1 44 6 = ib bx := k8.2.2.2.2.2.1
  obtain ⟨_, _, _, _, _, _, _, dC⟩ := c_disp N r1 t1
  rcases hs with ⟨k, _⟩ | ⟨k, _⟩ | ⟨k, _⟩ | ⟨k, _⟩ | ⟨k, _⟩ | ⟨k, _⟩ | ⟨k, _⟩ | ⟨_, hk, hf1, d, hc, hd', h0, hM, hs⟩ | ⟨k, _⟩
  · exfalso; omega
  · exfalso; omega
  · exfalso; omega
  · exfalso; omega
  · exfalso; omega
  · exfalso; omega
  · exfalso; omega
  · rw [dC (by rw [hk]; exact Or.inl rfl)]
    rw [hk] at t1
    rw [hf1] at t2
    unfold F_Machine_workCall
    rw [r2, Option.bind_some]
    rcases hs with ⟨rfl, rfl, hs⟩ | ⟨rfl, rfl, rfl⟩ | ⟨rfl, hs⟩
    · obtain ⟨w, w1, w2, w3⟩ := c_setAtom g (-1) hT
      have t1' := (tr_all (cF_ag H0 w2.1) he).1
      rw [hk] at t1'
      rw [if_pos (by decide), obd]
      unfold F_Machine_beginCall
      rw [t2, Option.bind_some, w1, Option.bind_some, t1', Option.bind_some, if_neg (by decide), Option.bind_some, if_neg (by decide), obd]
      exact gC_df N (by omega) H0 he hc (Nat.zero_le _) (atm_o (by omega) _ _ _ _).symm w2 hs
    · rw [if_neg (by decide), if_neg (by decide), if_neg (by decide), if_pos (by decide), obd]
      unfold F_Machine_takeResult
      obtain ⟨b1, b2, b3, b4, kk', b5, b6⟩ := tb_all H hd'
      have fin : ∀ (z : pm_J), rcT u0 t Y bx lim rk (ie 0) z hp L lc (some e) b 4 (-1) hd F v st cc dp → z.1 44 11 = ie 2 → gC u0 t Y bx lim rk (F_Frames_setState 1 g z) 0 (hp, L, lc, (some e, b, 1, j, hd) :: F, v, st, cc, dp, rM) := fun z hz hm => by
        obtain ⟨w, w1, w2, w3⟩ := c_setState g 1 hz
        exact Or.inl ⟨rfl, w, w1, rcT_0 w2 (atm_o (by omega) _ _ _ _).symm (fun e' h' => by cases h'; exact he), mdC_2 ((w3 44 11 (by omega)).1.trans hm)⟩
      rw [hbx]
      cases bx with
      | false => rw [if_pos (by decide), obd]; exact fin u hT hm
      | true =>
        rw [if_neg (by decide), t7, Option.bind_some]
        cases hsh : c.2.2.2 e with
        | true => rw [if_neg (by decide), obd]; exact fin u hT hm
        | false =>
          rw [hc] at t6
          have t6' : F_Tree_value (ie (e : Nat)) g u = some (je (d : Nat)) := t6
          have h30 := H.2.2.2.1.2
          obtain ⟨z, z1, z2, z3, z4⟩ := c_adapt0 N hN false v H he b6 hM k2 k3
          rw [if_pos (by decide), t6', Option.bind_some, je_i32 d (by omega), b5, Option.bind_some, hv]
          have z1' : F_Adapter_adapt N v.2 (ie (kk' : Nat)) (ie (e : Nat)) 0 g u = some (v.2, z) := z1
          rw [z1', Option.bind_some, obd]
          have hz := rcT_hp hT z3 z2 z4
          have aw : ag (fun c i => ¬ (c = 44 ∧ i = 15)) z (wj z 44 15 v.2) := ag_wj (ag_r _ z) _ _ _ (by omega)
          exact fin _ (rcT_rg hz (ag_m aw (fun c i hc => by omega)) (rgC_w hz.2.2.2.2.2.2.2 (ag_m aw (fun c i hc => by omega)) v (wj_at _ _ _ _))) ((z3 44 11 (by unfold qA; omega)).1.trans hm)
    · rw [if_neg (by decide), if_neg (by decide), if_neg (by decide), if_neg (by decide), obd]
      unfold F_Machine_goOnCalling
      rw [r4, Option.bind_some, (tr_m1 g u).2.2, Option.bind_some, if_pos (by decide), obd, hv]
      exact gC_fin hT hs
  · exfalso; omega
