/-! the law's entry -/
theorem cm_fin {u : pm_J} {U : State} {h0 : Nat} {D : pm_D} {H : Heap} (h : pm_R U h0 D (cm 140 1225794 rf_154 u) H) : pm_R U h0 D (sm (140, 1225794, 11, 2048) u) H := by
  refine ⟨h.1, fun a ha => ?_, h.2.2⟩
  have hlt : a < 140 := by
    by_cases e : a < 140
    · exact e
    · exfalso
      have h1 : Nat.blt a 140 = false := by
        cases h9 : Nat.blt a 140 with
        | false => rfl
        | true => exact absurd (Nat.le_of_ble_eq_true h9) e
      have h2 : Nat.blt a (11 + 6) = false := by
        cases h9 : Nat.blt a (11 + 6) with
        | false => rfl
        | true => exact absurd (Nat.le_of_ble_eq_true h9) (by omega)
      have h3 : cond (Nat.blt a 140) (sh_k a) (cond (Nat.ble 11 a && Nat.blt a (11 + 6)) 100 999) < 999 := ha
      rw [h1, h2, Bool.and_false] at h3
      exact absurd h3 (Nat.lt_irrefl 999)
  have hb : Nat.blt a 140 = true := Nat.ble_eq_true_of_le hlt
  have ek : (sm (140, 1225794, 11, 2048) u).1.2.2.1 a = (cm 140 1225794 rf_154 u).1.2.2.1 a := by
    show cond (Nat.blt a 140) (sh_k a) _ = cond (Nat.blt a 140) (sh_k a) 999
    rw [hb]; rfl
  obtain ⟨h1, h2⟩ := h.2.1 a (by rw [← ek]; exact ha)
  refine ⟨h1, h2.kept3 ek (fun _ => ?_) (fun hk k hk9 => ?_) (fun _ => rfl) (fun _ => rfl)⟩
  · show cond (Nat.blt a 140) (sh_l a) 2048 = sh_l a
    rw [hb]; rfl
  · have hk2 : sh_k a < 100 := by
      have h9 : cond (Nat.blt a 140) (sh_k a) 999 < 100 := hk
      rw [hb] at h9
      exact h9
    have hall : ∀ a, a < 140 → sh_k a < 100 → ∀ k, k < 130 → sh_r 11 a k = rf_154 a k := by decide +kernel
    exact hall a hlt hk2 k hk9
theorem lw_inst : ∀ q ∈ pm_cl, Cond.instantiable q.1 q.2.2 ∈ pm_tbl := List.forall_mem_cons.mpr ⟨pm_c1 33 rfl rfl, List.forall_mem_cons.mpr ⟨pm_c2 131 rfl rfl, List.forall_mem_cons.mpr ⟨pm_c2 65 rfl rfl, List.forall_mem_cons.mpr ⟨pm_c1 41 rfl rfl, List.forall_mem_cons.mpr ⟨pm_c2 165 rfl rfl, List.forall_mem_cons.mpr ⟨pm_c2 93 rfl rfl, List.forall_mem_cons.mpr ⟨pm_c2 87 rfl rfl, List.forall_mem_cons.mpr ⟨pm_c2 13 rfl rfl, List.forall_mem_cons.mpr ⟨pm_c1 216 rfl rfl, List.forall_mem_cons.mpr ⟨pm_c1 56 rfl rfl, List.forall_mem_cons.mpr ⟨pm_c1 175 rfl rfl, List.forall_mem_cons.mpr ⟨pm_c1 141 rfl rfl, List.forall_mem_cons.mpr ⟨pm_c8 49 rfl rfl, List.forall_mem_nil _⟩⟩⟩⟩⟩⟩⟩⟩⟩⟩⟩⟩⟩
theorem lw_know {s : State} {args : Array Value} (hts : ∀ w ∈ pm_tbl, w.before args s = true) : ∃ G : va_G, va_K G pm_cl [] s := by
  have h0 : ∀ c : Nat, ∃ w : ClassId × (Nat → Nat), ∀ q, pm_cl[c]? = some q → u_Kn s q.1 q.2.1 q.2.2 w.1 w.2 := by
    intro c
    cases hq : pm_cl[c]? with
    | none => exact ⟨(0, fun _ => 0), fun q h => by cases h⟩
    | some q =>
      obtain ⟨hin, -, -⟩ := pm_ck_s hq
      obtain ⟨cC, iS, hk⟩ := u_known hts hin (hts _ (lw_inst q (List.mem_of_getElem? hq)))
      exact ⟨(cC, iS), fun q' h => by cases h; exact hk⟩
  obtain ⟨w, hw⟩ := Classical.axiomOfChoice h0
  exact ⟨(fun c => (w c).1, fun c => (w c).2), fun c q h => hw c q h, fun k q h => by cases h⟩
def ks_tm (i : Nat) : Term := if i = 0 then .string "BoxedCore$Tokens" 29 else .string "BoxedCore$Tokens" 117
def lw_flat : List Cond := flatC (Jvm.Cond.and given_1 narrow_1)
def lw_g1 (i : Nat) : List Cond := [Cond.exactly (ks_tm i) "java/lang/String", Cond.eq (.field (ks_tm i) "java/lang/String" "coder" "B") (.int 0), Cond.arrayOf (.field (ks_tm i) "java/lang/String" "value" "[B") .byte, Cond.eq (.length (.field (ks_tm i) "java/lang/String" "value" "[B")) (.int (Int32.ofNat (ks_len.getD i 0)))]
def lw_g2 (i : Nat) : List Cond := (List.range (ks_len.getD i 0)).map fun j => Cond.eq (.elem (.field (ks_tm i) "java/lang/String" "value" "[B") (.int (Int32.ofNat j))) (.int ((ks_byt.getD i []).getD j 0))
set_option maxRecDepth 100000 in
theorem lw_g10 : (lw_flat.drop 270).take 4 = lw_g1 0 := by decide +kernel
set_option maxRecDepth 100000 in
theorem lw_g11 : (lw_flat.drop 317).take 4 = lw_g1 1 := by decide +kernel
set_option maxRecDepth 100000 in
theorem lw_g20 : (lw_flat.drop 274).take 43 = lw_g2 0 := by decide +kernel
set_option maxRecDepth 100000 in
theorem lw_g21 : (lw_flat.drop 321).take 10 = lw_g2 1 := by decide +kernel
theorem lw_gm {n k : Nat} {l : List Cond} (h : (lw_flat.drop n).take k = l) {c : Cond} (hc : c ∈ l) : c ∈ lw_flat := by
  rw [← h] at hc; exact List.mem_of_mem_drop (List.mem_of_mem_take hc)
theorem lw_f1 : ∀ i : Nat, i < 2 → Cond.exactly (ks_tm i) "java/lang/String" ∈ lw_flat ∧ Cond.eq (.field (ks_tm i) "java/lang/String" "coder" "B") (.int 0) ∈ lw_flat ∧ Cond.arrayOf (.field (ks_tm i) "java/lang/String" "value" "[B") .byte ∈ lw_flat ∧ Cond.eq (.length (.field (ks_tm i) "java/lang/String" "value" "[B")) (.int (Int32.ofNat (ks_len.getD i 0))) ∈ lw_flat := by
  intro i hi
  have hm : ∀ c ∈ lw_g1 i, c ∈ lw_flat := by
    rcases (show i = 0 ∨ i = 1 by omega) with rfl | rfl
    · exact fun c hc => lw_gm lw_g10 hc
    · exact fun c hc => lw_gm lw_g11 hc
  unfold lw_g1 at hm
  exact ⟨hm _ List.mem_cons_self, hm _ (List.mem_cons_of_mem _ List.mem_cons_self), hm _ (List.mem_cons_of_mem _ (List.mem_cons_of_mem _ List.mem_cons_self)), hm _ (List.mem_cons_of_mem _ (List.mem_cons_of_mem _ (List.mem_cons_of_mem _ List.mem_cons_self)))⟩
theorem lw_f2 : ∀ i : Nat, i < 2 → ∀ j : Nat, j < ks_len.getD i 0 → Cond.eq (.elem (.field (ks_tm i) "java/lang/String" "value" "[B") (.int (Int32.ofNat j))) (.int ((ks_byt.getD i []).getD j 0)) ∈ lw_flat := by
  intro i hi j hj
  have hc : Cond.eq (.elem (.field (ks_tm i) "java/lang/String" "value" "[B") (.int (Int32.ofNat j))) (.int ((ks_byt.getD i []).getD j 0)) ∈ lw_g2 i := List.mem_map.mpr ⟨j, List.mem_range.mpr hj, rfl⟩
  rcases (show i = 0 ∨ i = 1 by omega) with rfl | rfl
  · exact lw_gm lw_g20 hc
  · exact lw_gm lw_g21 hc
set_option maxRecDepth 100000 in
theorem lw_f3 : ∀ i j : Nat, i < 2 → j < 2 → i ≠ j → Cond.not (Cond.eq (ks_tm i) (ks_tm j)) ∈ lw_flat ∨ Cond.not (Cond.eq (ks_tm j) (ks_tm i)) ∈ lw_flat := by
  have h1 : ∀ i : Nat, i < 2 → ∀ j : Nat, j < 2 → i ≠ j → Cond.not (Cond.eq (ks_tm i) (ks_tm j)) ∈ lw_flat ∨ Cond.not (Cond.eq (ks_tm j) (ks_tm i)) ∈ lw_flat := by decide +kernel
  exact fun i j a b c => h1 i a j b c
set_option maxRecDepth 100000 in
theorem lw_f4 : ∀ q ∈ ks_msg, Cond.exactly (.string "BoxedCore" q.1) "java/lang/String" ∈ lw_flat := by decide +kernel
theorem lw_f5 : ∀ q ∈ ks_msg, Cond.stringRef "BoxedCore" q.1 q.2 ∈ tables_1 := List.forall_mem_cons.mpr ⟨pm_t6 212 rfl, List.forall_mem_cons.mpr ⟨pm_t6 232 rfl, List.forall_mem_cons.mpr ⟨pm_t7 17 rfl, List.forall_mem_cons.mpr ⟨pm_t7 31 rfl, List.forall_mem_cons.mpr ⟨pm_t7 39 rfl, List.forall_mem_cons.mpr ⟨pm_t8 31 rfl, List.forall_mem_nil _⟩⟩⟩⟩⟩⟩
theorem lw_exev {args : Array Value} {s : State} {t : Term} (h : (Cond.exactly t "java/lang/String").before args s = true) : ∃ a, t.eval args s none [] s = some (.ref a) := by
  obtain ⟨a, c, cA, kA, q1, -⟩ := Cond.exactly_spec (args := args) (first := s) (o := none) (s := s) (idx := []) (t := t) (cls := "java/lang/String") h
  exact ⟨a, q1⟩
set_option maxRecDepth 100000 in
set_option maxHeartbeats 1000000 in
theorem lw_KS {s : State} {b : Nat} (G : va_G) (hts : ∀ w ∈ lw_tbl, w.before #[Value.ref b] s = true) (hgv : (Jvm.Cond.and given_1 narrow_1).before #[Value.ref b] s = true) : ∃ adK adV : Nat → Nat, pm_KS s.heap.size (G, adK, adV) s := by
  have hs := flat_of_before _ hgv
  have ht : ∀ w ∈ tables_1, w.before #[Value.ref b] s = true := fun w hw => hts w (List.mem_append_right _ hw)
  have hA : ∀ a : Nat, a < s.heap.size → ¬ (s.heap.size ≤ a) := fun a h => by omega
  obtain ⟨adK, adV, h1, h2⟩ := vk_Sof (tm := ks_tm) (N := 2) (len := ks_len) (byt := ks_byt) (A := fun q => s.heap.size ≤ q) (by decide) (fun i hi => hs _ (lw_f1 i hi).1) (fun i hi => hs _ (lw_f1 i hi).2.1) (fun i hi => hs _ (lw_f1 i hi).2.2.1) (fun i hi => hs _ (lw_f1 i hi).2.2.2) (fun i hi j hj => hs _ (lw_f2 i hi j hj)) (fun i j hi hj hij => (lw_f3 i j hi hj hij).imp (hs _) (hs _)) hA
  refine ⟨adK, adV, ⟨h1, vk_R.of (ht _ (pm_t1 61 rfl)) (h2 0 (by decide)), vk_R.of (ht _ (pm_t3 152 rfl)) (h2 1 (by decide))⟩, fun q hq => ?_, ?_, ?_, ?_, ?_, ?_, ?_, ?_, ?_⟩
  · obtain ⟨a, ha⟩ := lw_exev (hs _ (lw_f4 q hq))
    exact ⟨a, vk_R.of (ht _ (lw_f5 q hq)) ha⟩
  · exact va_Zof (ht _ (pm_t1 71 rfl)) (ht _ (pm_t1 4 rfl)) (va_eqt (hs (Cond.eq (.static "java/lang/String" "COMPACT_STRINGS" "Z") (.int 1)) (by decide +kernel))) hA
  · exact va_Zqof (ht _ (pm_t1 87 rfl)) (ht _ (pm_t1 6 rfl)) (hs (Cond.isRef (.static "jdk/internal/util/Preconditions" "SIOOBE_FORMATTER" "Ljava/util/function/BiFunction;")) (by decide +kernel)) hA
  · exact va_Zqof (ht _ (pm_t4 122 rfl)) (ht _ (pm_t1 19 rfl)) (hs (Cond.isRef (.static "java/lang/Throwable" "UNASSIGNED_STACK" "[Ljava/lang/StackTraceElement;")) (by decide +kernel)) hA
  · exact va_Zqof (ht _ (pm_t4 124 rfl)) (ht _ (pm_t1 19 rfl)) (hs (Cond.isRef (.static "java/lang/Throwable" "SUPPRESSED_SENTINEL" "Ljava/util/List;")) (by decide +kernel)) hA
  · intro x hx
    have h9 : ∀ x ∈ kt_decl, Cond.declares x ∈ tables_1 := List.forall_mem_cons.mpr ⟨pm_t4 99 rfl, List.forall_mem_cons.mpr ⟨pm_t4 101 rfl, List.forall_mem_cons.mpr ⟨pm_t4 103 rfl, List.forall_mem_nil _⟩⟩⟩
    exact va_Nw.of rfl (ht _ (h9 x hx))
  · intro c hc
    have h9 : ∀ c ∈ [kx_ia, kx_io, kx_is], Cond.castable c c ∈ tables_1 := List.forall_mem_cons.mpr ⟨pm_t4 97 rfl, List.forall_mem_cons.mpr ⟨pm_t6 225 rfl, List.forall_mem_cons.mpr ⟨pm_t7 10 rfl, List.forall_mem_nil _⟩⟩⟩
    exact va_Nw.of rfl (ht _ (h9 c hc))
  · have h9 : ∀ c ∈ [kx_ia, kx_io, kx_is], Cond.castable c c ∈ tables_1 := List.forall_mem_cons.mpr ⟨pm_t4 97 rfl, List.forall_mem_cons.mpr ⟨pm_t6 225 rfl, List.forall_mem_cons.mpr ⟨pm_t7 10 rfl, List.forall_mem_nil _⟩⟩⟩
    obtain ⟨c1, c2, w1, w2, w3⟩ := Cond.castable_spec (ht _ (h9 kx_ia List.mem_cons_self))
    obtain ⟨d1, d2, v1, v2, v3⟩ := Cond.castable_spec (ht _ (h9 kx_io (List.mem_cons_of_mem _ List.mem_cons_self)))
    have hno := hs (Cond.not (Cond.castable "java/lang/IllegalArgumentException" "java/lang/IndexOutOfBoundsException")) (by decide +kernel)
    have hv := Cond.holds_not_iff.mp hno
    have w1' : s.vm.findClass "java/lang/IllegalArgumentException" = some c1 := w1
    have v1' : s.vm.findClass "java/lang/IndexOutOfBoundsException" = some d1 := v1
    simp only [Cond.value, w1', v1'] at hv
    exact ⟨c1, d1, w1, v1, Option.some.inj hv⟩
  · intro q hq
    have h9 : ∀ q ∈ kt_st, Cond.laysStatic "java/lang/Throwable" q.1 q.2 ∈ tables_1 := List.forall_mem_cons.mpr ⟨pm_t4 122 rfl, List.forall_mem_cons.mpr ⟨pm_t4 124 rfl, List.forall_mem_nil _⟩⟩
    obtain ⟨c, k, i, f, a, cell, g1, g2, g3, g4, g5, g6, g7, g8, g9⟩ := Cond.laysStatic_spec (ht _ (h9 q hq))
    exact ⟨c, k, i, f, a, cell, g1, g2, g3, g4, g5, g6, g7, g8, g9, hA a (Array.getElem?_eq_some_iff.mp g5).1⟩
theorem lw_K {s : State} {b : Nat} (hts : ∀ w ∈ lw_tbl, w.before #[Value.ref b] s = true) (hgv : (Jvm.Cond.and given_1 narrow_1).before #[Value.ref b] s = true) : ∃ D : pm_D, pm_K s.heap.size D s := by
  have hp : ∀ w ∈ pm_tbl, w.before #[Value.ref b] s = true := fun w hw => hts w (pm_lw hw)
  obtain ⟨G, hG⟩ := lw_know hp
  obtain ⟨adK, adV, hKS⟩ := lw_KS G hts hgv
  refine ⟨(G, adK, adV), hG, fun q hq => ?_, hKS⟩
  have h9 : ∀ q ∈ pm_nestM, Cond.methodLinkNest q.1 q.2.1 q.2.2.1 q.2.2.2 ∈ tables_1 := List.forall_mem_cons.mpr ⟨pm_t1 42 rfl, List.forall_mem_nil _⟩
  exact va_Nw.of rfl (hts _ (List.mem_append_right _ (h9 q hq)))
/-- THE PURE STATEMENT: on every script both answer alike, within the room -/
def lw_pure : Prop := ∀ (xs : Nat → Int32) (k : Nat), k ≤ 512 → ∃ (N : Nat) (uN : pm_J) (out : pm_s × pm_J), F_Md_noTypes N (0, 0, 0, 0) ua_54 = some uN ∧ (∀ i, uN.1 139 i = 0 ∧ uN.2 139 i = 0) ∧ lrun N xs k 0 (140, 1225794, 11, 2048) uN = some out ∧ out.1.1 ≤ 601024 ∧ out.1.2.1 ≤ 7293034
set_option maxHeartbeats 1000000 in
theorem whole_start (hP : lw_pure) {p : Program} {e : Env} {s : State} {m : MethodId} {below : List Frame} {meth : Method} {c : Code} {l : Launch} (hfl : l.flags = pinnedFlags ++ [noTraceFlag]) {b L : Nat} {xs : Nat → Int32} (hL : L ≤ 2048) (C0 : lw_At p s m meth c b L xs) : W p l e room_1 s m #[Value.ref b] below meth c s.heap [] 0 0 (lw_Z below #[Value.ref b] s) (entryFrame m ([Value.ref b] : List Value).toArray 7) := by
  obtain ⟨A1, A2, A3, A4, A5, A6, A7, A8, A9, A10, A11⟩ := C0
  obtain ⟨D, hK⟩ := lw_K A6 A10
  obtain ⟨N, uN, out, hN, hu, hrun, ho1, ho2⟩ := hP xs (L / 4) (by omega)
  have hlv := lv_entry ([Value.retAddr b].map (pm_cv s.heap.size)) (n := 7) (Nat.le_of_ble_eq_true rfl)
  rw [pm_args_map] at hlv
  have key : pm_V (p, l, e, room_1, s, m, #[Value.ref b], below, meth, c) m_Law_law s.heap.size D (0, 0, 601024, 7293034, 248) (lw_Z below #[Value.ref b] s) 0 (lv_args 0 [Value.retAddr b]) [] (cm 0 0 rf_0 ua_0) := by
    refine pm_new 0 (idx := 8) (q := ("BoxedCore", cl_BC, 14)) (by decide +kernel) rfl (by decide) (pm_c1 32 rfl rfl) (pm_c1 33 rfl rfl) (pm_c1 1 rfl rfl) (Nat.le_of_ble_eq_true rfl) (Nat.le_of_ble_eq_true rfl) (by decide +kernel) ?_
    refine pm_weak (M' := cm 1 14 rf_0 ua_0) rfl rfl (fun _ _ h => cm_na rfl (fun h => absurd h (by decide)) (fun _ => rfl) (fun _ => rfl) (fun _ => rfl) h) ?_
    refine pm_blk (pc' := 4) (L' := [(0, .retAddr b)]) (S' := [.ref 0, .ref 0]) (M' := cm 1 14 rf_0 ua_0) [pm_o .dup] (by decide +kernel) rfl ?_
    refine pm_cI (idx := 35) m_BC_init (ci_BC_init l s.heap.size D) (As := []) (S0 := [.ref 0]) rfl (by decide +kernel) rfl k_BC_init l_Law_35 (Nat.le_of_ble_eq_true rfl) (Nat.le_of_ble_eq_true rfl) (Nat.le_of_ble_eq_true rfl) (Nat.le_of_ble_eq_true rfl) ?_
    refine pm_blk (pc' := 8) (L' := [(1, .ref 0), (0, .retAddr b)]) (S' := []) (M' := cm 64 126250 rf_80 ua_40) [pm_o (.astore_n 1)] (by decide +kernel) rfl ?_
    refine pm_new 12 (idx := 36) (q := ("BoxedCoreModel", cl_Md, 119)) (by decide +kernel) rfl (by decide) (pm_c8 48 rfl rfl) (pm_c8 49 rfl rfl) (pm_c1 18 rfl rfl) (Nat.le_of_ble_eq_true rfl) (Nat.le_of_ble_eq_true rfl) (by decide +kernel) ?_
    refine pm_weak (M' := cm 65 126369 rf_80 ua_40) rfl rfl (fun _ _ h => cm_na rfl (fun h => absurd h (by decide)) (fun _ => rfl) (fun _ => rfl) (fun _ => rfl) h) ?_
    refine pm_blk (pc' := 12) (L' := [(1, .ref 0), (0, .retAddr b)]) (S' := [.ref 64, .ref 64]) (M' := cm 65 126369 rf_80 ua_40) [pm_o .dup] (by decide +kernel) rfl ?_
    refine pm_cI (idx := 38) m_Md_init (ci_Md_init l s.heap.size D hN) (As := []) (S0 := [.ref 64]) rfl (by decide +kernel) rfl k_Md_init l_Law_38 (Nat.le_of_ble_eq_true rfl) (Nat.le_of_ble_eq_true rfl) (show 139 ≤ 601024 from Nat.le_of_ble_eq_true rfl) (show 1225793 ≤ 7293034 from Nat.le_of_ble_eq_true rfl) ?_
    refine pm_blk (pc' := 17) (L' := [(2, .ref 64), (1, .ref 0), (0, .retAddr b)]) (S' := [.int 1]) (M' := cm 139 1225793 rf_154 uN) [pm_o (.astore_n 2), pm_oi (.iconst 1) 1] (by decide +kernel) rfl ?_
    refine pm_newj 1 (by decide +kernel) (pm_c1 54 rfl rfl) (by decide) (by decide) (Nat.le_of_ble_eq_true rfl) (show 140 ≤ 601024 from Nat.le_of_ble_eq_true rfl) (show 1225794 ≤ 7293034 from Nat.le_of_ble_eq_true rfl) ?_
    refine pm_weak (M' := cm 140 1225794 rf_154 uN) rfl rfl (fun _ _ h => cm_na rfl (fun _ => rfl) (fun _ => rfl) (fun k => (hu k).1) (fun k => (hu k).2) h) ?_
    refine pm_weak (M' := sm (140, 1225794, 11, 2048) uN) rfl rfl (fun _ _ h => cm_fin h) ?_
    refine pm_blk (pc' := 23) (L' := [(4, .int (nI (4 * 0))), (3, .ref 139), (2, .ref 64), (1, .ref 0), (0, .retAddr b)]) (S' := []) (M' := sm (140, 1225794, 11, 2048) uN) [pm_o (.astore_n 3), pm_oi (.iconst 0) 0, pm_o (.istore 4)] (by decide +kernel) rfl ?_
    exact lw_loop hfl rfl A7 A8 hL ho1 ho2 (L / 4) 0 _ _ (Or.inl ⟨rfl, rfl⟩) (by omega) hrun
  have h9 := key ⟨A1, A2, A4, A5, fun w hw => A6 w (pm_lw hw), hK, A9, A3, A11, rfl, rfl, by decide, by decide⟩ s.heap [] _ ⟨rfl, fun a ha => absurd ha (by show ¬ (999 < 999); decide), fun q c hq hc => absurd (Array.getElem?_eq_some_iff.mp hc).1 (by omega)⟩ (fun _ _ => rfl) (fun _ h => by cases h) hlv (Nat.le_refl _) (Nat.le_refl _)
  rw [lg_entry_eq]
  exact h9

set_option maxHeartbeats 4000000 in
theorem lw_walk (hP9 : lw_pure) {l : Launch} (hfl : l.flags = pinnedFlags ++ [noTraceFlag]) (b : Addr) (xs : List Int32) : MetFree l x (headSpec (Jvm.Cond.code x code maxLocals ret :: tables_1) room_1) (lw_P b xs) (fun _ _ _ _ _ => True) lw_Q := by
  refine MetFree.of_bodyS (code := code) (maxLocals := maxLocals) (ret := ret) (by decide) ?_ ?_
  · intro args s m h hn
    obtain ⟨meth, c, h1, h2, h3, h4, h5, h6, -, -⟩ := Cond.code_spec hn (atoms_spec (ws := Jvm.Cond.code x code maxLocals ret :: tables_1) h _ List.mem_cons_self)
    exact ⟨meth, c, h1, h2, h3, h4, h5, h6⟩
  · intro p e s m args below meth c s₁ B hml0 hP _
    obtain ⟨rfl, hx, hbd, hgv⟩ := hP
    obtain ⟨scr, harrAt, hlist, hof, hsmall⟩ := hx
    obtain ⟨hcb, hkn, -, -⟩ := State.arrayAt?_spec harrAt
    have hown : s.vm.findClass R_law = some m.cls := findClass_of_methodNamed B.named
    have hts0 : ∀ c ∈ (Jvm.Cond.code x code maxLocals ret :: tables_1), c.before #[Value.ref b] s = true := atoms_spec (ws := Jvm.Cond.code x code maxLocals ret :: tables_1) B.pre
    have hts : ∀ w ∈ lw_tbl, w.before #[Value.ref b] s = true := k2_hts_sels lw_privs (fun w hw => hts0 w (List.mem_cons_of_mem _ hw)) lw_privs_ok
    have hml : c.maxLocals = 7 := B.maxLocals_eq (hts0 _ List.mem_cons_self)
    have X₀ : Stand p l e room_1 s m #[Value.ref b] below meth c s₁ [] 0 0 := Stand.of_body B
    have hh0 : s₁.heap = s.heap := by rw [B.state]; rfl
    have hsz : scr.slots.size = xs.length := by rw [← Array.length_toList, hlist, List.length_map]
    have hval : ∀ j : Nat, j < xs.length → scr.slots[j]? = some (.int (xs.getD j 0)) := fun j hj => by
      rw [← Array.getElem?_toList, hlist]
      simp [hj]
    have hbl : b < s.heap.size := (Array.getElem?_eq_some_iff.mp hcb).1
    have hX : va_X b xs.length (fun j => xs.getD j 0) s s.heap := ⟨scr, hcb, hof, hkn, hsz, hval⟩
    have K : W p l e room_1 s m #[Value.ref b] below meth c s₁.heap [] 0 0 (lw_Z below #[Value.ref b] s) (entryFrame m ([Value.ref b] : List Value).toArray 7) := by
      rw [hh0]
      exact whole_start hP9 hfl hbd ⟨B.exec, B.bytes, B.returns, hml, hown, hts, hX, hbl, B.notSynchronized, hgv, (name_of_methodNamed B.named B.method).1⟩
    obtain ⟨t, a1, o, b1, b2, b3⟩ := K s₁ rfl X₀
    exact ⟨t, o, a1, b1, b2, b3⟩
theorem lw_pre_spec {args : Array Value} {s : State} (h : (Jvm.Cond.and given_1 narrow_1).before args s = true) (hr : rest_1_c.before args s = true) : ∃ (b : Addr) (xs : List Int32), lw_P b xs args s := by
  have hs := flat_of_before _ h
  have hq := flat_of_before _ hr
  have hc : (Cond.count 1).before args s = true := hs _ (by decide +kernel)
  have harr : (Cond.arrayOf (.arg 0) .int).before args s = true := hs _ (by decide +kernel)
  have hle : (Cond.le (.length (.arg 0)) (.int 2048)).before args s = true := hs _ (by decide +kernel)
  have hlen : (Cond.isInt (.length (.arg 0))).before args s = true := hq _ (by decide +kernel)
  have hall : (Cond.all (.arg 0) (.isInt (.elem (.arg 0) (.index 0)))).before args s = true := hq _ (by decide +kernel)
  obtain ⟨b, xs, hb, hx⟩ := State.ints_of_pre rfl harr hlen hall
  have hsm : xs.length < 2 ^ 31 := hx.choose_spec.2.2.2
  have hev : (Term.length (.arg 0)).eval args s none [] s = some (.int xs.length.toInt32) := hx.length_eval hb
  have hv := Cond.le_ints hev (show (Term.int 2048).eval args s none [] s = some (.int 2048) from rfl)
  have hd : xs.length.toInt32 ≤ 2048 := by
    simpa [Cond.before, Cond.holds, hv] using hle
  have hN : xs.length ≤ 2048 := (Int32.ofNat_le_ofNat hsm (by decide)).mp (show Int32.ofNat xs.length ≤ Int32.ofNat 2048 from hd)
  exact ⟨b, xs, Cond.one_arg hc (show args[0]? = some (.ref b) from hb), hx, hN, h⟩
theorem lw_comes (hP9 : lw_pure) {l : Launch} (hfl : l.flags = pinnedFlags ++ [noTraceFlag]) : Comes l x (Jvm.Cond.code x code maxLocals ret :: tables_1) room_1 (fun tb e args s => Calls_1 tb e args s ∧ rest_1 tb e args s ∧ Pre_1 tb e args s)
    (fun _ _ args s o t => lw_Q args s o t) := by
  intro p e ha hc hk s m args below hf hfit hheap happ hpre
  obtain ⟨b, xs, hP⟩ := lw_pre_spec hpre.2.2 hpre.2.1
  obtain ⟨k, o, h1, h2, h3, hQ⟩ := lw_walk hP9 hfl b xs p e ha hc hk s m args below hf ((Spec.applies_iff_loose hf).mp happ).1 hP trivial
  exact ⟨k, o, h1, h2, h3, hQ⟩
theorem lw_frame {s t : State} {o : Outcome} {args : Array Value} (h : Framed s o t [] 601024 7293034) :
    Framed s o t (fieldLocs frame_1_writes args s ++ arrayLocs frame_1_arrays args s ++ staticLocs frame_1_statics s) 601024 7293034 := h
theorem lw_limb (hP9 : lw_pure) (L : Cond) (hL : ∀ (args : Array Value) (s t : State), L.after args s (.returned (some (.int 1))) t = true) :
    ArmFor flags0 classFile x code maxLocals ret World_1 tables_1 room_1 Calls_1 rest_1 Pre_1
      (fun tb e a s o t => postC L tb e a s o t ∧ Framed s o t (fieldLocs frame_1_writes a s ++ arrayLocs frame_1_arrays a s ++ staticLocs frame_1_statics s) 601024 7293034) := by
  intro l hfl _ _ p e ha hc hk s m args below hf hfit hheap happ hpre
  obtain ⟨k, o, h1, h2, h3, rfl, hF⟩ := lw_comes hP9 hfl p e ha hc hk s m args below hf hfit hheap happ hpre
  exact ⟨k, _, h1, h2, h3, hL args s _, lw_frame hF⟩

theorem i_red (hP9 : lw_pure) : Claimed_1_1 ∧ Claimed_1_2 := ⟨lw_limb hP9 limb_1_1 (fun args s t => by simp [limb_1_1, Cond.after, Cond.holds, Cond.value]), lw_limb hP9 limb_1_2 (fun args s t => Cond.after_iff.mpr (by
  first | (rw [show limb_1_2 = Cond.eq .result (.int 1) from rfl, Cond.eq_ints (x := 1) (y := 1) rfl rfl]; simp; done) | (simp [limb_1_2, Cond.value, Term.eval]; done)))⟩

