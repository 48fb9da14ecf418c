/-! rows that grow: System.arraycopy, Arrays.copyOf -/
def pm_cpy (M : pm_M) (a0 a N : Nat) : pm_M := (M.1, fun x y => if x = a ∧ y < N then M.2.1 a0 y else M.2.1 x y, M.2.2)
section PMG
variable {x : pm_c} {y : pm_m} {h0 : Nat} {D : pm_D} {b : pm_b} {Q : State → Prop} {pc : Nat} {L L' : List (Nat × Value)} {S : List Value} {M M' : pm_M}
theorem pm_alen {a : Nat} (hd : decode y.2.1 pc = .ok (.arraylength, 1)) (hk : M.1.2.2.1 a = 100) (kk : pm_V x y h0 D b Q (pc + 1) L (.int (M.1.2.2.2.1 a).toInt32 :: S) M) : pm_V x y h0 D b Q pc L (.ref a :: S) M := by
  obtain ⟨p, l, e, R, s, m, args, below, meth, c⟩ := x
  intro X H locs ls hR hF hlo hL hn hz
  obtain ⟨cA, h3, h4⟩ := (hR.2.1 a (by omega)).2.2 (by omega)
  exact W.alen X.1 X.2.1 h4 (h3 _ _) (by rw [arrV_size]) rfl rfl hd (kk X H locs ls hR hF hlo hL hn hz)
theorem pm_reta {d : Nat} {M0 M1 : pm_M} {v w : Nat} {t : FieldType} (hr : y.2.2.2 = some (.array t)) (hd : decode y.2.1 pc = .ok (.areturn, 1)) (hv : v = w) (hM : M = M1) (hb : b = (M0.1.1, M0.1.2.1, M1.1.1, M1.1.2.1, d)) : pm_V x y h0 D b (pm_E x h0 D M0 (some (.ref w)) M1) pc L [.ref v] M := by
  obtain ⟨p, l, e, R, s, m, args, below, meth, c⟩ := x
  subst hv; subst hM; subst hb
  intro X H locs ls hR hF hlo hL hn hz
  obtain ⟨X1, X2, X3, X4, X5, X6, X7, X8, X9, X10⟩ := id X
  exact W.aret X1 X2 (X8.trans hr) (Or.inr ⟨_, rfl⟩) (Or.inr ⟨_, rfl⟩) (fun t ht hW => ⟨rfl, by rw [ht]; exact hR.moved hW.alike, fun q hq => by rw [ht]; exact hF q hq⟩) hlo hd X7
theorem pm_acopy {idx a0 a N : Nat} {n : Int32} (hd : decode y.2.1 pc = .ok (.invokestatic idx, 3)) (hl : Cond.methodLink y.1.cls idx arraycopyName ∈ pm_tbl) (hk0 : M.1.2.2.1 a0 = 100) (hk1 : M.1.2.2.1 a = 100) (h3 : ¬ n < 0) (hN : n.toNatClampNeg = N) (h4 : N ≤ M.1.2.2.2.1 a0) (h5 : N ≤ M.1.2.2.2.1 a) (hfr : 1 ≤ b.2.2.2.2) (hS : (S.map fun v => v.category).sum ≤ 8) (kk : pm_V x y h0 D b Q (pc + 3) L S (pm_cpy M a0 a N)) : pm_V x y h0 D b Q pc L (.int n :: .int 0 :: .ref a :: .int 0 :: .ref a0 :: S) M := by
  obtain ⟨p, l, e, R, s, m, args, below, meth, c⟩ := x
  intro X H locs ls hR hF hlo hL hn hz
  obtain ⟨X1, X2, X3, X4, X5, X6, X7, X8, X9, X10, X11, X12, X13⟩ := id X
  obtain ⟨c0, ht0, hc0⟩ := (hR.2.1 a0 (by omega)).2.2 (by omega)
  obtain ⟨c1, ht1, hc1⟩ := (hR.2.1 a (by omega)).2.2 (by omega)
  rw [hk0] at ht0 hc0
  rw [hk1] at ht1 hc1
  have hsum := pm_cat h0 hS
  have hw : nativeFrameWords "java/lang/System" "arraycopy" 5 + 11 ≤ 56 := by decide
  have nn : n.toInt = (N : Int) := by
    have hz0 : (0 : Int) ≤ n.toInt := by
      have := Int32.not_lt.mp h3
      simpa using Int32.le_iff_toInt_le.mp this
    rw [← hN]
    show n.toInt = ((n.toInt.toNat : Nat) : Int)
    omega
  intro T hT XS
  obtain ⟨-, k0, hkk0, cm0, hkd0⟩ := ht0 (M.1.2.2.2.1 a0) (fun j => .int (M.2.1 a0 j))
  obtain ⟨-, k1, hkk1, cm1, hkd1⟩ := ht1 (M.1.2.2.2.1 a) (fun j => .int (M.2.1 a j))
  have hc0 : H[h0 + a0]? = some (arrV c0 (M.1.2.2.2.1 a0) (fun j => .int (M.2.1 a0 j))) := hc0
  have hc1 : H[h0 + a]? = some (arrV c1 (M.1.2.2.2.1 a) (fun j => .int (M.2.1 a j))) := hc1
  obtain ⟨vm', X', step⟩ := XS.arraycopy X1 X4 (X5 _ hl) (X5 _ (pm_c4 48 rfl rfl)) (X5 _ (pm_c4 47 rfl rfl)) (X5 _ (pm_c1 24 rfl rfl)) (src := h0 + a0) (dst := h0 + a) (cs := arrV c0 (M.1.2.2.2.1 a0) (fun j => .int (M.2.1 a0 j))) (cd := arrV c1 (M.1.2.2.2.1 a) (fun j => .int (M.2.1 a j))) (srcPos := 0) (destPos := 0) (n := n) (by rw [hT]; exact hc0) (by rw [hT]; exact hc1)
    (fun _ h => by cases h) (fun _ h => by cases h) (fun h => by cases h) (fun h => by cases h) hkk0 hkk1 hkd0 hkd1 (by simp [pm_et, refKind]) (by decide) (by decide) h3
    (by rw [nn, arrV_size]; show ¬ ((0 : Int) + N > _); omega)
    (by rw [nn, arrV_size]; show ¬ ((0 : Int) + N > _); omega)
    (fun vm₁ _ i hi => by
      have e : (arrV c0 (M.1.2.2.2.1 a0) (fun j => .int (M.2.1 a0 j))).slots.getD ((0 : Int32).toNatClampNeg + i) .null = .int (M.2.1 a0 i) := by
        have e0 : (0 : Int32).toNatClampNeg + i = i := Nat.zero_add i
        rw [e0, Array.getD_eq_getD_getElem?, arrV_read _ _ (by omega)]
        rfl
      refine ⟨?_, ?_⟩
      · rw [e]
        rfl
      · rw [e]
        exact trivial)
    (g := F0 m pc ls (.int n :: .int 0 :: .ref (h0 + a) :: .int 0 :: .ref (h0 + a0) :: S.map (pm_cv h0))) rfl (by rw [X3]; exact hL.1) (rest := S.map (pm_cv h0)) rfl (by rw [X2]; exact hd) (by omega) (by show 2 * 0 + _ + _ ≤ _; omega)
  have e1 : copied (arrV c0 (M.1.2.2.2.1 a0) (fun j => .int (M.2.1 a0 j))) (arrV c1 (M.1.2.2.2.1 a) (fun j => .int (M.2.1 a j))) 0 0 n = arrV c1 (M.1.2.2.2.1 a) (fun j => .int (va_cpy (M.2.1 a0) (M.2.1 a) 0 0 N j)) := by
    have h9 := va_copied (fun z : Int32 => Value.int z) c0 c1 (n0 := M.1.2.2.2.1 a0) (n1 := M.1.2.2.2.1 a) (sp := 0) (dp := 0) (n := N) (M.2.1 a0) (M.2.1 a) (by omega)
    rw [← h9, ← hN]
    rfl
  rw [e1] at X' step
  have hla : h0 + a < H.size := (Array.getElem?_eq_some_iff.mp hc1).1
  have hheap : ((T.setVm vm').setCell (h0 + a) (arrV c1 (M.1.2.2.2.1 a) (fun j => .int (va_cpy (M.2.1 a0) (M.2.1 a) 0 0 N j)))).heap = H.setIfInBounds (h0 + a) (arrV c1 (M.1.2.2.2.1 a) (fun j => .int (va_cpy (M.2.1 a0) (M.2.1 a) 0 0 N j))) := by rw [← hT]; rfl
  have oq : ∀ q : Nat, q ≠ h0 + a → (H.setIfInBounds (h0 + a) (arrV c1 (M.1.2.2.2.1 a) (fun j => .int (va_cpy (M.2.1 a0) (M.2.1 a) 0 0 N j))))[q]? = H[q]? := fun q hq => by simp [Array.getElem?_setIfInBounds, Ne.symm hq]
  have hR9 : pm_R s h0 D (pm_cpy M a0 a N) (H.setIfInBounds (h0 + a) (arrV c1 (M.1.2.2.2.1 a) (fun j => .int (va_cpy (M.2.1 a0) (M.2.1 a) 0 0 N j)))) := by
    refine hR.put (a := a) (M' := pm_cpy M a0 a N) rfl rfl rfl (fun _ _ _ => rfl) (fun c hc k => by simp [pm_cpy, hc]) (fun _ _ _ => rfl) (by simp) oq ⟨fun h9 => ?_, fun _ => ?_⟩
    · have h9 : M.1.2.2.1 a < 100 := h9
      omega
    · show ∃ cA, ArrOfT s cA (pm_et (M.1.2.2.1 a)) ∧ _ = some (arrV cA (M.1.2.2.2.1 a) (pm_ev (pm_cpy M a0 a N) (M.1.2.2.1 a) a))
      rw [hk1]
      refine ⟨c1, ht1, ?_⟩
      have e9 : (pm_ev (pm_cpy M a0 a N) 100 a) = fun j => Value.int (va_cpy (M.2.1 a0) (M.2.1 a) 0 0 N j) := by
        funext j
        by_cases hj : j < N
        · simp [pm_ev, pm_cpy, va_cpy, hj]
        · simp [pm_ev, pm_cpy, va_cpy, hj]
      rw [e9]
      simp [Array.getElem?_setIfInBounds, hla]
  obtain ⟨t, a1, b1⟩ := kk X _ _ ls hR9 (fun q hq => (oq q (by omega)).trans (hF q hq)) (fun w hw9 => by
    rcases List.mem_append.mp hw9 with h | h
    · exact hlo w h
    · obtain ⟨z, -, hz9⟩ := List.mem_map.mp h
      rw [← hz9]
      exact Nat.le_add_right _ _) hL hn hz _ hheap X'
  exact ⟨t, step t a1, b1⟩
end PMG
set_option maxHeartbeats 4000000 in
set_option maxRecDepth 100000 in
/-- Arrays.copyOf of ints to a row that is no shorter -/
theorem c_copyOf (l : Launch) (h0 : Nat) (D : pm_D) {M : pm_M} {a n N : Nat} {r : Int32} (hk : M.1.2.2.1 a = 100) (hne : a ≠ M.1.1) (hn : M.1.2.2.2.1 a = n) (hr : ¬ r < 0) (hN : r.toNatClampNeg = N) (hnN : n < N) (hN1 : N ≤ 1000000) : pm_C l h0 D m_Arrays_copyOf_1 1 [.ref a, .int r] M (some (.ref M.1.1)) (pm_cpy (pm_na M 100 N) a M.1.1 n) := by
  have k1 : (pm_na M 100 N).1.2.2.1 a = 100 := by simp [pm_na, hne, hk]
  have l1 : (pm_na M 100 N).1.2.2.2.1 a = n := by simp [pm_na, hne, hn]
  have k2 : (pm_na M 100 N).1.2.2.1 M.1.1 = 100 := by simp [pm_na]
  have l2 : (pm_na M 100 N).1.2.2.2.1 M.1.1 = N := by simp [pm_na]
  have en : n.toInt32.toNatClampNeg = n := nI_clamp (by omega)
  have e0 : ¬ n.toInt32 < 0 := nI_pos (by omega)
  have er : r = nI N := by
    obtain ⟨j, hj, rfl⟩ := nI_of hr
    rw [nI_clamp hj] at hN
    rw [hN]
  have em : (if r < n.toInt32 then r else n.toInt32) = n.toInt32 := if_neg (by rw [er]; exact nI_nlt (Nat.le_of_lt hnN) (by omega))
  refine pm_met (by decide +kernel) (Nat.le_of_ble_eq_true rfl) (Nat.le_succ _) (Nat.le_add_right _ _) ?_
  intro p e R s m args below meth c
  refine pm_blk (pc' := 2) (L' := [(0, .ref a), (1, .int r)]) (S' := [.ref a, .int r]) (M' := M) [pm_o (.iload_n 1), pm_o (.aload_n 0)] (by decide +kernel) rfl ?_
  refine pm_alen (by decide +kernel) hk ?_
  rw [hn]
  refine pm_ic_ne (off := 11) 14 (by decide +kernel) (by decide) (fun hc => ?_) (fun hc => ?_)
  rotate_left
  · exact absurd hc (by rw [er]; intro h9; have := (nI_eq (by omega) (by omega)).mp h9; omega)
  refine pm_blk (pc' := 15) (L' := [(0, .ref a), (1, .int r)]) (S' := [.int r]) (M' := M) [pm_o (.iload_n 1)] (by decide +kernel) rfl ?_
  refine pm_newi N (by decide +kernel) (pm_c1 53 rfl rfl) hr hN hN1 (Nat.le_refl _) (Nat.le_refl _) ?_
  refine pm_blk (pc' := 23) (L' := [(2, .ref M.1.1), (0, .ref a), (1, .int r)]) (S' := [.ref a, .int 0, .ref M.1.1, .int 0, .ref a]) (M' := pm_na M 100 N) [pm_o (.astore_n 2), pm_o (.aload_n 0), pm_oi (.iconst 0) 0, pm_o (.aload_n 2), pm_oi (.iconst 0) 0, pm_o (.aload_n 0)] (by decide +kernel) rfl ?_
  refine pm_alen (by decide +kernel) k1 ?_
  rw [l1]
  refine pm_blk (pc' := 25) (L' := [(2, .ref M.1.1), (0, .ref a), (1, .int r)]) (S' := [.int r, .int n.toInt32, .int 0, .ref M.1.1, .int 0, .ref a]) (M' := pm_na M 100 N) [pm_o (.iload_n 1)] (by decide +kernel) rfl ?_
  refine pm_min (idx := 304) (by decide +kernel) l_Arrays_304 (Nat.le_refl _) (Nat.le_of_ble_eq_true rfl) (Nat.le_refl _) (Nat.le_refl _) ?_
  rw [em]
  refine pm_acopy (idx := 150) (N := n) (by decide +kernel) (pm_c4 46 rfl rfl) k1 k2 e0 en (by rw [l1]; exact Nat.le_refl _) (by rw [l2]; exact Nat.le_of_lt hnN) (Nat.le_refl _) (Nat.le_of_ble_eq_true rfl) ?_
  refine pm_blk (pc' := 32) (L' := [(2, .ref M.1.1), (0, .ref a), (1, .int r)]) (S' := [.ref M.1.1]) (M' := pm_cpy (pm_na M 100 N) a M.1.1 n) [pm_o (.aload_n 2)] (by decide +kernel) rfl ?_
  exact pm_reta rfl (by decide +kernel) rfl rfl rfl
