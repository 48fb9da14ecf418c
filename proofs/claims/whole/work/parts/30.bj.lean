set_option maxRecDepth 100000
def bvv (y : Int64) (j : Nat) : Int := (btC y j).toInt
theorem bvv_e (y : Int64) (j : Nat) : ie (bvv y j) = btC y j := Int32.ofInt_toInt _
theorem bvv_r (y : Int64) (j : Nat) : 0 ≤ bvv y j ∧ bvv y j ≤ 255 := by
  obtain ⟨k, k1, k2⟩ := bt_255 (((y.toUInt64 >>> (((8 : Int32) * ie (j : Nat)).toInt64.toUInt64 &&& Int64.toUInt64 63)).toInt64).toInt32)
  have h : btC y j = ie (k : Nat) := k1
  unfold bvv
  rw [h, ie_toInt _ (by omega) (by omega)]
  omega
theorem fd_C {n a : Nat} {y : Int64} (N : Nat) (g : pm_s) (hna : n + a ≤ 3000) (ha : a ≤ 8) (m : Nat) : ∀ (i : Nat) (u : pm_J) (f : Nat), i + m = a → m < f → u.1 0 1 = ie ((n + i : Nat) : Int) → ∃ v, K_BC_feed_36 N g f (ie (a : Nat)) y (ie (i : Nat)) u = ((F_BC_forget N g v).bind fun q5 => some (q5.1 0 1, q5)) ∧ v.1 0 1 = ie ((n + a : Nat) : Int) ∧ (∀ p, i ≤ p → p < a → v.1 1 (n + p) = btC y p) ∧ ag (fun c k => ¬ (c = 0 ∧ k = 1) ∧ ¬ (c = 1 ∧ n + i ≤ k)) u v := by
  induction m with
  | zero =>
    intro i u f hi hf h
    obtain ⟨f, rfl⟩ : ∃ f', f = f' + 1 := ⟨f - 1, by omega⟩
    have : i = a := by omega
    subst this
    exact ⟨u, by rw [K_BC_feed_36, if_pos ((inle _ _ (by omega) (by omega)).mpr (Nat.le_refl _))], h, (fun p h1 h2 => by omega), ag_r _ u⟩
  | succ m ih =>
    intro i u f hi hf h
    obtain ⟨f, rfl⟩ : ∃ f', f = f' + 1 := ⟨f - 1, by omega⟩
    have a1 : ag (fun c k => ¬ (c = 0 ∧ k = 1) ∧ ¬ (c = 1 ∧ n + i ≤ k)) u (wi (wi u 1 (n + i) (btC y i)) 0 1 (ie ((n + i + 1 : Nat) : Int))) := ag_wi (ag_wi (ag_r _ u) _ _ _ (by omega)) _ _ _ (by omega)
    obtain ⟨v, v1, v2, v3, v4⟩ := ih (i + 1) (wi (wi u 1 (n + i) (btC y i)) 0 1 (ie ((n + i + 1 : Nat) : Int))) f (by omega) (by omega) (by rw [wi_at]; rfl)
    refine ⟨v, ?_, v2, fun p h1 h2 => ?_, ag_t a1 (ag_m v4 (fun c k hc => by omega))⟩
    · rw [K_BC_feed_36, if_neg (fun hh => by have := (inle _ _ (by omega) (by omega)).mp hh; omega), h, if_neg (show ¬ (Nat.toInt32 3000 ≤ ie ((n + i : Nat) : Int)) from fun hh => by have := (inle 3000 (n + i) (by omega) (by omega)).mp hh; omega), if_pos (okn (n + i) 3000 (by omega) (by omega)), ntn _ (by omega), iadd1, iadd1]
      exact v1
    · by_cases e : p = i
      · subst e
        rw [(v4 1 (n + p) (by omega)).1, wi_ne _ _ _ _ _ _ (by omega), wi_at]
      · exact v3 p (by omega) h2
theorem fd_R {n a : Nat} {y : Int64} (N : Nat) (g : pm_s) (hna : n + a ≤ 3000) (ha : a ≤ 8) (m : Nat) : ∀ (i : Nat) (u : pm_J) (f : Nat), i + m = a → m < f → u.1 64 1 = ie (n : Nat) → ∃ v, K_Md_feed_44 N g f (ie (a : Nat)) y (ie (i : Nat)) u = ((F_Md_forget g (wi v 64 1 (ie ((n + a : Nat) : Int)))).bind fun q7 => some (q7.1 64 1, q7)) ∧ (∀ p, i ≤ p → p < a → v.1 65 (n + p) = btC y p) ∧ ag (fun c k => ¬ (c = 65 ∧ n + i ≤ k)) u v := by
  induction m with
  | zero =>
    intro i u f hi hf h
    obtain ⟨f, rfl⟩ : ∃ f', f = f' + 1 := ⟨f - 1, by omega⟩
    have : i = a := by omega
    subst this
    exact ⟨u, by rw [K_Md_feed_44, if_pos ((inle _ _ (by omega) (by omega)).mpr (Nat.le_refl _)), h, ie_bl], (fun p h1 h2 => by omega), ag_r _ u⟩
  | succ m ih =>
    intro i u f hi hf h
    obtain ⟨f, rfl⟩ : ∃ f', f = f' + 1 := ⟨f - 1, by omega⟩
    have a1 : ag (fun c k => ¬ (c = 65 ∧ n + i ≤ k)) u (wi u 65 (n + i) (btR y i)) := ag_wi (ag_r _ u) _ _ _ (by omega)
    obtain ⟨v, v1, v2, v3⟩ := ih (i + 1) (wi u 65 (n + i) (btR y i)) f (by omega) (by omega) ((a1 _ _ (by omega)).1.trans h)
    refine ⟨v, ?_, fun p h1 h2 => ?_, ag_t a1 (ag_m v3 (fun c k hc => by omega))⟩
    · rw [K_Md_feed_44, if_neg (fun hh => by have := (inle _ _ (by omega) (by omega)).mp hh; omega), h, ie_bl, if_pos (okn (n + i) 3000 (by omega) (by omega)), ntn _ (by omega), iadd1]
      exact v1
    · by_cases e : p = i
      · subst e
        rw [(v3 65 (n + p) (by omega)).1, wi_at, bt_eq y p (by omega)]
      · exact v2 p (by omega) h2
theorem o_feed {N : Nat} (hN : 100 ≤ N) {c1 : Int32} {y : Int64} {g : pm_s} {u : pm_J} (h : LI g u) : gLB g ((FX_feed N c1 y g u).bind fun q2 => if sh_Tb q2.2.1 = true then pm_S q2.2.1 ((F_Md_feed N c1 y q2.2.1 q2.2.2).bind fun q5 => (F_Md_thrown q2.2.1 q5.2).bind fun q6 => if q6 = q2.1 then if q2.1 = 0 then if pm_ok 0 1 = true then if (lg_cmp (q5.2.2 139 0) q5.1.toInt64) = 0 then some ((), q2.2.1, q5.2) else none else none else some ((), q2.2.1, q5.2) else none) else none) := by
  obtain ⟨o, n, pu_W, ⟨t1, t2, t3, t4⟩, h2, h3, h4, h5, h6, h7⟩ := id h
  obtain ⟨n1, n2, n3⟩ := id t1
  have bad : T_BC_feed c1 y g u = some 0 → F_Md_feed N c1 y (sx g) u = some (0, wi u 64 2 1) → gLB g ((FX_feed N c1 y g u).bind fun q2 => if sh_Tb q2.2.1 = true then pm_S q2.2.1 ((F_Md_feed N c1 y q2.2.1 q2.2.2).bind fun q5 => (F_Md_thrown q2.2.1 q5.2).bind fun q6 => if q6 = q2.1 then if q2.1 = 0 then if pm_ok 0 1 = true then if (lg_cmp (q5.2.2 139 0) q5.1.toInt64) = 0 then some ((), q2.2.1, q5.2) else none else none else some ((), q2.2.1, q5.2) else none) else none) := fun h1 h2 => by
    refine gLB_x (u := u) (F := F_Md_feed N c1 y) (a := (1, sx g, u)) (m := 0) (q := wi u 64 2 1) ?_ (Or.inr rfl) h2 (LI_2 (LI_sx h) 1) (by rw [wi_at]) (fun hh => by cases hh)
    unfold FX_feed
    rw [h1]; rfl
  by_cases e1 : c1 < 1
  · refine bad ?_ ?_
    · unfold T_BC_feed; rw [if_pos e1]
    · unfold F_Md_feed K_Md_feed_24; rw [if_pos e1]
  by_cases e8 : 8 < c1
  · refine bad ?_ ?_
    · unfold T_BC_feed; rw [if_neg e1, if_pos e8]
    · unfold F_Md_feed K_Md_feed_24; rw [if_neg e1, if_pos e8]
  obtain ⟨a, rfl, ha⟩ := i32_nat c1 (fun hh => e1 (Int32.lt_iff_toInt_lt.mpr (Int.lt_trans (Int32.lt_iff_toInt_lt.mp hh) (by decide))))
  have ha8 : a ≤ 8 := Nat.le_of_not_lt (fun hh => e8 ((inlt 8 a (by omega) (by omega)).mpr hh))
  by_cases e3 : n + a ≤ 3000
  · have c3 : ie (n : Nat) + ie (a : Nat) ≤ 3000 := by rw [ie_bl]; exact (inle _ 3000 (by omega) (by omega)).mpr e3
    obtain ⟨v, v1, v2, v3, v4⟩ := fd_C (n := n) (a := a) (y := y) N g e3 ha8 a 0 u N (by omega) (by omega) t2
    obtain ⟨w, w1, w2, w3, w4, w5⟩ := c_bforget N hN g v
    let m : Int32 := ie ((n + a : Nat) : Int)
    have ew : w.1 0 1 = m := (w5 0 1 (by unfold qG; omega)).1.trans v2
    let u1 : pm_J := wj w 139 0 m.toInt64
    have au1 : ag (fun c _ => c ≠ 139) w u1 := ag_wj (ag_r _ w) _ _ _ (by omega)
    have ax : ag (fun c k => ¬ (c = 0 ∧ (k = 1 ∨ k = 2 ∨ k = 4)) ∧ ¬ (c = 1 ∧ n ≤ k) ∧ ¬ qG c k ∧ c ≠ 139) u u1 := ag_t (ag_t (ag_m v4 (fun c i hc => by omega)) (ag_m w5 (fun c i hc => by unfold qG at hc ⊢; omega))) (ag_m au1 (fun c i hc => by omega))
    have e641 : (wi u1 64 2 0).1 64 1 = ie (n : Nat) := by
      rw [wi_ne _ _ _ _ _ _ (by omega), (ax 64 1 (by unfold qG; omega)).1]; exact t4.1
    obtain ⟨z, z1, z2, z3⟩ := fd_R (n := n) (a := a) (y := y) N g e3 ha8 a 0 (wi u1 64 2 0) N (by omega) (by omega) e641
    obtain ⟨q, q1, q2, q3⟩ := r_forget g (wi z 64 1 m)
    have az : ag (fun c k => ¬ (c = 64 ∧ (k = 1 ∨ k = 2)) ∧ ¬ (c = 65 ∧ n ≤ k)) u1 (wi z 64 1 m) := ag_wi (ag_t (ag_wi (ag_r _ u1) _ _ _ (by omega)) (ag_m z3 (fun c i hc => by omega))) _ _ _ (by omega)
    have aq : ag (fun c k => c ≠ 64 ∧ ¬ (c = 65 ∧ n ≤ k)) u1 q := ag_t (ag_m az (fun c i hc => by omega)) (ag_m q3 (fun c i hc => by omega))
    have auq : ag (fun c k => c ≠ 64 ∧ ¬ (c = 65 ∧ n ≤ k) ∧ c ≠ 0 ∧ ¬ (c = 1 ∧ n ≤ k) ∧ ¬ qG c k ∧ c ≠ 139) u q := ag_t (ag_m ax (fun c i hc => by unfold qG at hc ⊢; omega)) (ag_m aq (fun c i hc => by omega))
    have awq : ag (fun c k => c ≠ 64 ∧ ¬ (c = 65 ∧ n ≤ k) ∧ c ≠ 139) w q := ag_t (ag_m au1 (fun c i hc => by omega)) (ag_m aq (fun c i hc => by omega))
    have eq1 : q.1 64 1 = m := (q3 64 1 (by omega)).1.trans (wi_at _ _ _ _)
    let o' : Nat → Int := fun p => if p < n then o p else if p < n + a then bvv y (p - n) else -1
    have hb : ∀ p, n ≤ p → p < n + a → ie (o' p) = btC y (p - n) := fun p h1 h2 => by
      show ie (if p < n then o p else if p < n + a then bvv y (p - n) else -1) = _
      rw [if_neg (by omega), if_pos h2, bvv_e]
    have ho : ∀ p, p < n → o' p = o p := fun p hp => by
      show (if p < n then o p else _) = _
      rw [if_pos hp]
    have ht : liT o' (n + a) q := by
      refine ⟨⟨e3, fun p hp => ?_, fun p hp => ?_⟩, (awq 0 1 (by omega)).1.trans ew, fun p hp => ?_, eq1, fun p hp => ?_⟩
      · show (if p < n then o p else if p < n + a then bvv y (p - n) else -1) = -1
        rw [if_neg (by omega), if_neg (by omega)]
      · by_cases hpn : p < n
        · rw [ho p hpn]; exact n3 p hpn
        · show 0 ≤ (if p < n then o p else if p < n + a then bvv y (p - n) else -1) ∧ (if p < n then o p else if p < n + a then bvv y (p - n) else -1) ≤ 255
          rw [if_neg hpn, if_pos hp]; exact bvv_r y _
      · by_cases hpn : p < n
        · rw [ho p hpn]; exact (auq 1 p (by unfold qG; omega)).1.trans (t3 p hpn)
        · rw [hb p (by omega) hp, (awq 1 p (by omega)).1, (w5 1 p (by unfold qG; omega)).1]
          have := v3 (p - n) (by omega) (by omega)
          rw [show n + (p - n) = p by omega] at this; exact this
      · by_cases hpn : p < n
        · rw [ho p hpn]; exact (auq 65 p (by unfold qG; omega)).1.trans (t4.2 p hpn)
        · rw [hb p (by omega) hp, (q3 65 p (by omega)).1, wi_ne _ _ _ _ _ _ (by omega)]
          have := z2 (p - n) (by omega) (by omega)
          rw [show n + (p - n) = p by omega] at this; exact this
    have hY := LI_Y h
    have hq : LI g q := LI_new ht (liB_ag2 h2 (ag_m auq (fun c i hc => by unfold aB at hc; unfold qG; omega))) (tyB_ag hY (ag_m auq (fun c i hc => by unfold qG; omega))) h7 (clC_ag w2 (ag_m awq (fun c i hc => by unfold qG at hc; omega))) ((awq _ _ (by omega)).1.trans w3) ((awq _ _ (by omega)).1.trans w4) q2
    refine gLB_x (u := u) (F := F_Md_feed N (ie (a : Nat)) y) (a := (0, g, u1)) (m := m) (q := q) ?_ (Or.inl rfl) ?_ hq ?_ (fun _ => ?_)
    · unfold FX_feed T_BC_feed
      rw [if_neg e1, if_neg e8, t2, if_pos c3]
      show (F_Law_feed_0_139 N (ie (a : Nat)) y g u).bind _ = _
      unfold F_Law_feed_0_139 F_BC_feed
      rw [if_neg e1, if_neg e8, t2, if_pos c3]
      have v1' : K_BC_feed_36 N g N (ie (a : Nat)) y 0 u = ((F_BC_forget N g v).bind fun q5 => some (q5.1 0 1, q5)) := v1
      rw [v1', w1, Option.bind_some, Option.bind_some, if_pos (by decide)]
      show some ((0 : Int32), g, wj w 139 0 ((w.1 0 1).toInt64)) = _
      rw [ew]
    · show F_Md_feed N (ie (a : Nat)) y g u1 = some (m, q)
      have e641' : u1.1 64 1 = ie (n : Nat) := (ax 64 1 (by unfold qG; omega)).1.trans t4.1
      unfold F_Md_feed
      rw [if_neg e1, if_neg e8, e641', if_pos c3]
      have z1' : K_Md_feed_44 N g N (ie (a : Nat)) y 0 (wi u1 64 2 0) = ((F_Md_forget g (wi z 64 1 (ie ((n + a : Nat) : Int)))).bind fun q7 => some (q7.1 64 1, q7)) := z1
      rw [z1']
      show (F_Md_forget g (wi z 64 1 m)).bind _ = _
      rw [q1, Option.bind_some, eq1]
    · show q.1 64 2 = 0
      rw [(q3 64 2 (by omega)).1, wi_ne _ _ _ _ _ _ (by omega), (z3 64 2 (by omega)).1, wi_at]
    · rw [(aq 139 0 (by omega)).2]
      exact wj_at _ _ _ _
  · have c3 : ¬ (ie (n : Nat) + ie (a : Nat) ≤ 3000) := by rw [ie_bl]; exact fun hh => e3 ((inle _ 3000 (by omega) (by omega)).mp hh)
    refine bad ?_ ?_
    · unfold T_BC_feed; rw [if_neg e1, if_neg e8, t2, if_neg c3]
    · unfold F_Md_feed K_Md_feed_24; rw [if_neg e1, if_neg e8, t4.1, if_neg c3]
