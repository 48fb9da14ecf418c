set_option maxRecDepth 100000
theorem orF16 : ∀ a b : Fin 16, ie (a.1 : Nat) ||| ie (b.1 : Nat) = ie ((a.1 ||| b.1 : Nat) : Int) ∧ a.1 ||| b.1 < 16 := by decide +kernel
theorem bits16 : ∀ m : Fin 16, (((((ie (m.1 : Nat) &&& 1) + ((ie (m.1 : Nat) >>> ((1 : Int32) &&& 31)) &&& 1)) + ((ie (m.1 : Nat) >>> ((2 : Int32) &&& 31)) &&& 1)) + ((ie (m.1 : Nat) >>> ((3 : Int32) &&& 31)) &&& 1))) = ie (bc m.1 : Nat) := by decide +kernel
theorem pmM_in : ∀ (ps : PM) (b : Nat) (p : Nat × Ty), p ∈ ps → Nat.testBit (tyM p.2) b = true → Nat.testBit (pmM ps) b = true
  | x :: l, b, p, h, hb => by
    show Nat.testBit (pmM l ||| tyM x.2) b = true
    rw [Nat.testBit_or]
    rcases List.mem_cons.mp h with rfl | h
    · rw [hb, Bool.or_true]
    · rw [pmM_in l b p h hb, Bool.true_or]
theorem df_50 {T : List Tok} {n : Nat} {D : List Df} {t : Tr} {c : CS} {u : pm_J} {Y : List Ty} (N : Nat) (g : pm_s) (hW : pW T D t) (H : rC T n D t c c.1 u Y) {d : Nat} (hd : d < D.length) (x2 : Int32) (m : Nat) : ∀ (i acc f : Nat), i + m = (dPs D d).length → m < f → acc < 16 → ∃ a, a < 16 ∧ K_Md_def_50 N g f (ie (d : Nat)) x2 (ie (acc : Nat)) (ie (i : Nat)) u = K_Md_def_107 N g N (ie (d : Nat)) x2 (ie (a : Nat)) 0 0 0 0 (u.1 95 d) u ∧ ∀ b, Nat.testBit a b = true ↔ (Nat.testBit acc b = true ∨ ∃ k p, i ≤ k ∧ (dPs D d)[k]? = some p ∧ Nat.testBit (tyM p) b = true) := by
  have h30 := H.2.2.1.2
  obtain ⟨b1, b2, b3, _, b5⟩ := rtb_all H hd
  have hx0 : D[d]? = some D[d] := List.getElem?_eq_getElem hd
  have h6p : (dPs D d).length ≤ 6 := by rw [(dPs_some hx0).2.2]; exact (hW.1 d _ hx0).2.2.2.2.2.2.1.1
  have okd := okn d 30 (by omega) (by omega)
  have ntd := ntn d (by omega)
  induction m with
  | zero =>
    intro i acc f hi hf ha
    obtain ⟨f, rfl⟩ : ∃ f', f = f' + 1 := ⟨f - 1, by omega⟩
    refine ⟨acc, ha, ?_, fun b => ⟨fun h => Or.inl h, fun h => ?_⟩⟩
    · rw [K_Md_def_50, if_pos okd, ntd, b3, if_pos ((inle _ _ (by omega) (by omega)).mpr (by omega)), if_pos okd]
    · rcases h with h | ⟨k, p, h1, h2, _⟩
      · exact h
      · have := (List.getElem?_eq_some_iff.mp h2).1; omega
  | succ m ih =>
    intro i acc f hi hf ha
    obtain ⟨f, rfl⟩ : ∃ f', f = f' + 1 := ⟨f - 1, by omega⟩
    obtain ⟨p, hp⟩ : ∃ p, (dPs D d)[i]? = some p := ⟨_, List.getElem?_eq_getElem (by omega)⟩
    obtain ⟨ky, k1, k2, k3⟩ := b5 i p hp
    have hm := (H.2.2.2.2.1.2.2.1 ky p k3).2.2.1
    have hlt := tyM_lt (tyR_g H.2.2.2.2.1 ky p k3)
    have e6 : (6 : Int32) * ie (d : Nat) + ie (i : Nat) = ie ((6 * d + i : Nat) : Int) := by
      rw [show (6 : Int32) = ie ((6 : Nat) : Int) from rfl, ie_mul, ie_add]; rfl
    obtain ⟨o1, o2⟩ := orF16 ⟨acc, ha⟩ ⟨tyM p, hlt⟩
    obtain ⟨a, a1, a2, a3⟩ := ih (i + 1) (acc ||| tyM p) f (by omega) (by omega) o2
    refine ⟨a, a1, ?_, fun b => ?_⟩
    · rw [K_Md_def_50, if_pos okd, ntd, b3, if_neg (fun hh => by have := (inle _ _ (by omega) (by omega)).mp hh; omega), e6, if_pos (okn (6 * d + i) 180 (by omega) (by omega)), ntn _ (by omega), k1, if_pos (okn ky 100000 k2 (by omega)), ntn ky (by omega), hm, iadd1]
      have o1' : ie (acc : Nat) ||| ie (tyM p : Nat) = ie ((acc ||| tyM p : Nat) : Int) := o1
      rw [o1']; exact a2
    · rw [a3 b, Nat.testBit_or, Bool.or_eq_true]
      constructor
      · rintro ((h | h) | ⟨k, p', h1, h2, h3⟩)
        · exact Or.inl h
        · exact Or.inr ⟨i, p, Nat.le_refl _, hp, h⟩
        · exact Or.inr ⟨k, p', by omega, h2, h3⟩
      · rintro (h | ⟨k, p', h1, h2, h3⟩)
        · exact Or.inl (Or.inl h)
        · by_cases e : k = i
          · subst e; rw [hp] at h2; cases h2; exact Or.inl (Or.inr h3)
          · exact Or.inr ⟨k, p', by omega, h2, h3⟩
theorem o_def {N : Nat} (hN : 10000 ≤ N) {c1 c2 : Int32} {g : pm_s} {u : pm_J} (h : LI g u) : gLB g ((FX_def N c1 c2 g u).bind fun q2 => if sh_Tb q2.2.1 = true then pm_S q2.2.1 ((F_Md_def N c1 c2 q2.2.1 q2.2.2).bind fun q5 => (F_Md_thrown q2.2.1 q5.2).bind fun q6 => if q6 = q2.1 then if q2.1 = 0 then if pm_ok 0 1 = true then if (lg_cmp (q5.2.2 139 0) q5.1.toInt64) = 0 then some ((), q2.2.1, q5.2) else none else none else some ((), q2.2.1, q5.2) else none) else none) := by
  obtain ⟨o, n, pu_W, h1, h2, h3, h4, h5, h6, h7⟩ := id h
  obtain ⟨_, hdf, hcase⟩ := LI_C h6
  have bad : T_BC_def c1 c2 g u = some 1 → F_Md_def N c1 c2 (sx g) u = some (0, wi u 64 2 1) → gLB g ((FX_def N c1 c2 g u).bind fun q2 => if sh_Tb q2.2.1 = true then pm_S q2.2.1 ((F_Md_def N c1 c2 q2.2.1 q2.2.2).bind fun q5 => (F_Md_thrown q2.2.1 q5.2).bind fun q6 => if q6 = q2.1 then if q2.1 = 0 then if pm_ok 0 1 = true then if (lg_cmp (q5.2.2 139 0) q5.1.toInt64) = 0 then some ((), q2.2.1, q5.2) else none else none else some ((), q2.2.1, q5.2) else none) else none) := fun b1 b2 => by
    refine gLB_x (u := u) (F := F_Md_def N c1 c2) (a := (1, sx g, u)) (m := 0) (q := wi u 64 2 1) ?_ (Or.inr rfl) b2 (LI_2 (LI_sx h) 1) (by rw [wi_at]) (fun hh => by cases hh)
    unfold FX_def
    rw [b1]; rfl
  have k23 : ∀ g' : pm_s, K_Md_def_23 N g' c1 c2 1 u = some (0, wi u 64 2 1) := fun g' => by
    unfold K_Md_def_23; rw [if_neg (by decide)]
  by_cases e0 : c1 < 0
  · refine bad ?_ ?_
    · unfold T_BC_def; rw [if_pos e0]
    · unfold F_Md_def F_Md_noDef; rw [if_pos e0, Option.bind_some, if_neg (by decide), k23]
  by_cases e1 : c1 < u.1 64 44
  · have e1' : ¬ (u.1 64 44 ≤ c1) := fun hh => by
      have x1 := Int32.le_iff_toInt_le.mp hh
      have x2 := Int32.lt_iff_toInt_lt.mp e1
      omega
    rcases hcase with ⟨h44, _⟩ | ⟨h02, q, hq, h44⟩
    · rw [h44] at e1; exact absurd e1 e0
    have hno : ∀ (g' : pm_s) (v : pm_J), v.1 64 44 = u.1 64 44 → F_Md_noDef c1 g' v = some 0 := fun g' v hv => by
      unfold F_Md_noDef; rw [if_neg e0, hv, if_pos e1]
    by_cases e2 : c2 < 0
    · refine bad ?_ ?_
      · unfold T_BC_def; rw [if_neg e0, hdf, Option.bind_some, if_neg e1', if_pos e2]
      · unfold F_Md_def; rw [hno _ _ rfl, Option.bind_some, if_pos rfl, if_pos e2, k23]
    obtain ⟨k, rfl, hk31⟩ := i32_nat c2 e2
    by_cases e6 : k < 6
    · have h6 : ie (k : Nat) < (6 : Int32) := (inlt k 6 (by omega) (by omega)).mpr e6
      have h5' : ie (k : Nat) ≤ (5 : Int32) := (inle k 5 (by omega) (by omega)).mpr (by omega)
      obtain ⟨T, D, t, c⟩ := q
      have h44 : u.1 64 44 = ie (D.length : Nat) := h44
      have hC2 : liC2 o n g u := by
        rcases ‹liC o n g u› with ⟨⟨a1, _⟩, _⟩ | h6
        · rw [a1] at h02; exact absurd h02 (by decide)
        · exact h6
      obtain ⟨_, k2, k3, k4⟩ := id hC2
      rw [hq] at k2 k3 k4
      obtain ⟨Y, H, _⟩ := k2
      obtain ⟨_, Y', H'⟩ := k4
      have H : cF T n D t c (taS D t c D.length) g u Y := H
      have H' : rC T n D t c c.1 u Y' := H'
      have G : gX T D t c := gX_of k3 (cmp_S hq) H H'
      obtain ⟨d, rfl, hd31⟩ := i32_nat c1 e0
      have h30 := H'.2.2.1.2
      have hd : d < D.length := by
        rw [h44] at e1; exact (inlt _ _ (by omega) (by omega)).mp e1
      have hx : D[d]? = some D[d] := List.getElem?_eq_getElem hd
      have okd := okn d 30 (by omega) (by omega)
      have ntd := ntn d (by omega)
      obtain ⟨_, _, _, _, _, _, tl⟩ := tb_row (g := g) H.2.2.2.1 d hd
      have tl := (tl k e6).1
      obtain ⟨⟨_, _, _, _, _, _, g7, g8⟩, t1, t2, t3, t4⟩ := H.2.2.2.2.1 d _ hx
      have hta : taS D t c D.length d = taD D t c D[d] := by unfold taS; rw [if_pos hd, hx]
      rw [hta] at t1 t2 t3 t4
      let x : Int32 := u.1 38 (d * 6 + k)
      let u1 : pm_J := wj u 139 0 x.toInt64
      let u2 : pm_J := wi u1 64 2 0
      have a2 : ag (fun c i => c ≠ 139 ∧ ¬ (c = 64 ∧ i = 2)) u u2 := ag_wi (ag_wj (ag_r _ u) _ _ _ (by omega)) _ _ _ (by omega)
      have H2 : rC T n D t c c.1 u2 Y' := rC_cg H' (fun c i hc => a2 c i (by unfold rKp at hc; omega))
      obtain ⟨_, _, _, ⟨ky, r1, r2, r3⟩, _⟩ := rtb_all H2 hd
      have hm := (H2.2.2.2.2.1.2.2.1 ky _ r3).2.2.1
      have hlt := tyM_lt (tyR_g H2.2.2.2.2.1 ky _ r3)
      obtain ⟨a, a3, a4, a5⟩ := df_50 N g G.1 H2 hd (ie (k : Nat)) (dPs D d).length 0 (tyM (dTy D d)) N (by omega) (by
        have hx0 : (dPs D d).length ≤ 6 := by rw [(dPs_some hx).2.2]; exact (G.1.1 d _ hx).2.2.2.2.2.2.1.1
        omega) hlt
      obtain ⟨⟨_, _, _, _, f95, _⟩, _⟩ := H2.2.2.2.2.2.1 d _ hx
      obtain ⟨⟨_, wf, wl, wr, _⟩, _⟩ := G.1.1 d _ hx
      have hrt : dRt D d = D[d].2.2.2.1 := by unfold dRt; rw [hx]
      have h18 := H2.2.2.2.1.2
      have hex := df_ex N hN g G H2 hd (ie (k : Nat)) (ie (a : Nat)) (D[d].2.2.2.1 + 1 - D[d].2.2.2.2.1) D[d].2.2.2.2.1 (0, 0, 0, 0) N (by omega) (by omega)
      have hex' : K_Md_def_107 N g N (ie (d : Nat)) (ie (k : Nat)) (ie (a : Nat)) 0 0 0 0 (ie (D[d].2.2.2.2.1 : Nat)) u2 = dfA D d (ie (a : Nat)) (ie (k : Nat)) (taD D t c D[d]) g u2 := hex
      have hpm : a = pmM D[d].2.1 := by
        apply Nat.eq_of_testBit_eq
        intro b
        have hq2 := (dPs_some hx).1
        have hty := (dPs_some hx).2.1
        have hiff : Nat.testBit a b = true ↔ Nat.testBit (pmM D[d].2.1) b = true := by
          rw [a5 b]
          constructor
          · rintro (hh | ⟨k', p, _, hp, hb⟩)
            · rw [hty] at hh; exact G.2.2.1 d _ hx b hh
            · obtain ⟨q, q1, q2⟩ := dPs_i hx hp
              rw [← q2] at hb
              exact pmM_in _ b q (List.mem_reverse.mp (List.mem_of_getElem? q1)) hb
          · intro hh
            obtain ⟨p, p1, p2⟩ := pmM_mem _ b hh
            have hmem : p.2 ∈ dPs D d := by rw [hq2]; exact List.mem_map.mpr ⟨p, List.mem_reverse.mpr p1, rfl⟩
            obtain ⟨i, hi⟩ := List.mem_iff_getElem?.mp hmem
            exact Or.inr ⟨i, p.2, Nat.zero_le _, hi, p2⟩
        cases hA : Nat.testBit a b with
        | true => exact (hiff.mp hA).symm
        | false =>
          cases hB : Nat.testBit (pmM D[d].2.1) b with
          | false => rfl
          | true => rw [hiff.mpr hB] at hA; cases hA
      have hdA : dfA D d (ie (a : Nat)) (ie (k : Nat)) (taD D t c D[d]) g u2 = some (x, u2) := by
        unfold dfA
        have hb : F_Md_bits (ie (a : Nat)) g u2 = some (ie (bc a : Nat)) := by
          unfold F_Md_bits; rw [bits16 ⟨a, a3⟩]
        rcases (show k = 0 ∨ k = 1 ∨ k = 2 ∨ k = 3 ∨ k = 4 ∨ k = 5 by omega) with rfl | rfl | rfl | rfl | rfl | rfl
        · rw [if_pos (by decide), (dPs_some hx).2.2]
          show _ = some (u.1 38 (d * 6 + 0), u2)
          rw [g7]
        · rw [if_neg (by decide), if_pos (by decide), hb, Option.bind_some, hpm]
          show _ = some (u.1 38 (d * 6 + 1), u2)
          rw [g8]
        · rw [if_neg (by decide), if_neg (by decide), if_pos (by decide)]
          show _ = some (u.1 38 (d * 6 + 2), u2)
          rw [t1]
        · rw [if_neg (by decide), if_neg (by decide), if_neg (by decide), if_pos (by decide)]
          show _ = some (u.1 38 (d * 6 + 3), u2)
          rw [t2]
        · rw [if_neg (by decide), if_neg (by decide), if_neg (by decide), if_neg (by decide), if_pos (by decide)]
          show _ = some (u.1 38 (d * 6 + 4), u2)
          rw [t3]
        · rw [if_neg (by decide), if_neg (by decide), if_neg (by decide), if_neg (by decide), if_neg (by decide)]
          show _ = some (u.1 38 (d * 6 + 5), u2)
          rw [t4]
      have hu1 : u1.1 = u.1 := rfl
      refine gLB_x (u := u) (F := F_Md_def N (ie (d : Nat)) (ie (k : Nat))) (a := (0, g, u1)) (m := x) (q := u2) ?_ (Or.inl rfl) ?_ (LI_2 (LI_9 h _) 0) rfl (fun _ => ?_)
      · unfold FX_def T_BC_def
        rw [if_neg e0, hdf, Option.bind_some, if_neg e1', if_neg e2, if_pos h6]
        show (F_Law_def_0_139 (ie (d : Nat)) (ie (k : Nat)) g u).bind _ = _
        unfold F_Law_def_0_139 F_BC_def
        rw [if_neg e0, hdf, Option.bind_some, if_neg e1', if_neg e2, if_pos h6, tl]; rfl
      · show F_Md_def N (ie (d : Nat)) (ie (k : Nat)) g u1 = some (x, u2)
        unfold F_Md_def
        rw [hno g u1 rfl, Option.bind_some, if_pos rfl, if_neg e2, if_pos h5']
        unfold K_Md_def_23
        have r1' : u1.1 93 d = ie (ky : Nat) := r1
        have hm' : u1.1 73 ky = ie (tyM (dTy D d) : Nat) := hm
        rw [if_pos (by decide), if_pos okd, ntd, r1', if_pos (okn ky 100000 r2 (by omega)), ntn ky (by omega), hm']
        show K_Md_def_50 N g N (ie (d : Nat)) (ie (k : Nat)) (ie (tyM (dTy D d) : Nat)) (ie ((0 : Nat) : Int)) u2 = _
        rw [a4, f95, hex', hdA]
      · show (wi (wj u 139 0 x.toInt64) 64 2 0).2 139 0 = x.toInt64
        rw [wi_2, wj_at]
    · have n6 : ¬ (ie (k : Nat) < (6 : Int32)) := fun hh => by have := (inlt k 6 (by omega) (by omega)).mp hh; omega
      have n5 : ¬ (ie (k : Nat) ≤ (5 : Int32)) := fun hh => by have := (inle k 5 (by omega) (by omega)).mp hh; omega
      refine bad ?_ ?_
      · unfold T_BC_def; rw [if_neg e0, hdf, Option.bind_some, if_neg e1', if_neg e2, if_neg n6]
      · unfold F_Md_def; rw [hno _ _ rfl, Option.bind_some, if_pos rfl, if_neg e2, if_neg n5, k23]
  · have e1' : u.1 64 44 ≤ c1 := by
      apply Int32.le_iff_toInt_le.mpr
      have x2 : ¬ (c1.toInt < (u.1 64 44).toInt) := fun hh => e1 (Int32.lt_iff_toInt_lt.mpr hh)
      omega
    refine bad ?_ ?_
    · unfold T_BC_def; rw [if_neg e0, hdf, Option.bind_some, if_pos e1']
    · unfold F_Md_def F_Md_noDef; rw [if_neg e0, if_neg e1, Option.bind_some, if_neg (by decide), k23]
