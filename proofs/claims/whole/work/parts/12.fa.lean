def F_Adapter_addTask (a1 : Int32) (a2 : Int32) (a3 : Int64) (g : pm_s) (u : pm_J) : Option (pm_J) := if 1000 ≤ (u.1 52 6) then some u else if pm_ok (u.1 52 6) 1000 = true then if pm_ok (u.1 52 6) 1000 = true then if pm_ok (u.1 52 6) 1000 = true then some (wi (wj (wi (wi u 53 ((u.1 52 6).toNatClampNeg) a1) 54 ((u.1 52 6).toNatClampNeg) a2) 55 ((u.1 52 6).toNatClampNeg) a3) 52 6 ((u.1 52 6) + 1)) else none else none else none
set_option maxHeartbeats 4000000 in
set_option maxRecDepth 100000 in
theorem c_Adapter_addTask (l : Launch) (h0 : Nat) (D : pm_D) {g : pm_s} {u : pm_J} (hT : sh_T g) {a1 : Int32} {a2 : Int32} {a3 : Int64} {out : pm_J} (h : F_Adapter_addTask a1 a2 a3 g u = some out) : pm_C l h0 D m_Adapter_addTask (0) [.ref 52, .int a1, .int a2, .long a3] (sm g u) none (sm g out) := by
  unfold F_Adapter_addTask at h
  refine pm_met (by decide +kernel) (Nat.le_of_ble_eq_true rfl) (Nat.le_refl _) (Nat.le_refl _) ?_
  intro p e R s m args below meth c
  refine pm_blk (pc' := 7) (L' := [(0, .ref 52), (1, .int a1), (2, .int a2), (3, .long a3)]) (S' := [.int 1000, .int (u.1 52 6)]) (M' := sm g u) [pm_o (.aload_n 0), pm_of (.getfield 37) 1 6 0, pm_oi (.sipush 1000) 1000] (by decide +kernel) rfl ?_
  refine pm_ic_ge (off := 43) 50 (by decide +kernel) (by decide) (fun hc1 => ?_) (fun hc1 => ?_)
  · rw [if_pos hc1] at h
    have h9 := Option.some.inj h
    subst h9
    exact pm_retv rfl (by decide +kernel) rfl rfl
  · rw [if_neg hc1] at h
    refine pm_blk (pc' := 19) (L' := [(0, .ref 52), (1, .int a1), (2, .int a2), (3, .long a3)]) (S' := [.int a1, .int (u.1 52 6), .ref 53]) (M' := sm g u) [pm_o (.aload_n 0), pm_of (.getfield 23) 1 3 2, pm_o (.aload_n 0), pm_of (.getfield 37) 1 6 0, pm_o (.iload_n 1)] (by decide +kernel) rfl ?_
    obtain ⟨ho2, h⟩ := pm_ifs h
    refine pm_iast (by decide +kernel) rfl  (pm_ok_in ho2) ?_
    refine pm_blk (pc' := 29) (L' := [(0, .ref 52), (1, .int a1), (2, .int a2), (3, .long a3)]) (S' := [.int a2, .int (u.1 52 6), .ref 54]) (M' := sm g (wi u 53 ((u.1 52 6).toNatClampNeg) a1)) [pm_o (.aload_n 0), pm_of (.getfield 27) 1 4 2, pm_o (.aload_n 0), pm_of (.getfield 37) 1 6 0, pm_o (.iload_n 2)] (by decide +kernel) rfl ?_
    obtain ⟨ho3, h⟩ := pm_ifs h
    refine pm_iast (by decide +kernel) rfl  (pm_ok_in ho3) ?_
    refine pm_blk (pc' := 39) (L' := [(0, .ref 52), (1, .int a1), (2, .int a2), (3, .long a3)]) (S' := [.long a3, .int (u.1 52 6), .ref 55]) (M' := sm g (wi (wi u 53 ((u.1 52 6).toNatClampNeg) a1) 54 ((u.1 52 6).toNatClampNeg) a2)) [pm_o (.aload_n 0), pm_of (.getfield 30) 1 5 2, pm_o (.aload_n 0), pm_of (.getfield 37) 1 6 0, pm_o (.lload_n 3)] (by decide +kernel) rfl ?_
    obtain ⟨ho4, h⟩ := pm_ifs h
    refine pm_last (by decide +kernel) rfl  (pm_ok_in ho4) ?_
    refine pm_blk (pc' := 50) (L' := [(0, .ref 52), (1, .int a1), (2, .int a2), (3, .long a3)]) (S' := []) (M' := sm g (wi (wj (wi (wi u 53 ((u.1 52 6).toNatClampNeg) a1) 54 ((u.1 52 6).toNatClampNeg) a2) 55 ((u.1 52 6).toNatClampNeg) a3) 52 6 ((u.1 52 6) + 1))) [pm_o (.aload_n 0), pm_o .dup, pm_of (.getfield 37) 1 6 0, pm_oi (.iconst 1) 1, pm_o .iadd, pm_of (.putfield 37) 1 6 0] (by decide +kernel) rfl ?_
    have h9 := Option.some.inj h
    subst h9
    exact pm_retv rfl (by decide +kernel) rfl rfl
def F_Adapter_popResult (g : pm_s) (u : pm_J) : Option (Int64 × pm_J) := if 1 ≤ (u.1 52 8) then if pm_ok ((u.1 52 8) - 1) 1000 = true then some (u.2 56 (((u.1 52 8) - 1).toNatClampNeg), (wi u 52 8 ((u.1 52 8) - 1))) else none else some (0, u)
set_option maxHeartbeats 4000000 in
set_option maxRecDepth 100000 in
theorem c_Adapter_popResult (l : Launch) (h0 : Nat) (D : pm_D) {g : pm_s} {u : pm_J} (hT : sh_T g) {out : Int64 × pm_J} (h : F_Adapter_popResult g u = some out) : pm_C l h0 D m_Adapter_popResult (0) [.ref 52] (sm g u) (some (.long out.1)) (sm g out.2) := by
  unfold F_Adapter_popResult at h
  refine pm_met (by decide +kernel) (Nat.le_of_ble_eq_true rfl) (Nat.le_refl _) (Nat.le_refl _) ?_
  intro p e R s m args below meth c
  refine pm_blk (pc' := 5) (L' := [(0, .ref 52)]) (S' := [.int 1, .int (u.1 52 8)]) (M' := sm g u) [pm_o (.aload_n 0), pm_of (.getfield 41) 1 8 0, pm_oi (.iconst 1) 1] (by decide +kernel) rfl ?_
  refine pm_ic_ge (off := 5) 10 (by decide +kernel) (by decide) (fun hc1 => ?_) (fun hc1 => ?_)
  · rw [if_pos hc1] at h
    refine pm_blk (pc' := 28) (L' := [(0, .ref 52)]) (S' := [.int ((u.1 52 8) - 1), .ref 56]) (M' := sm g (wi u 52 8 ((u.1 52 8) - 1))) [pm_o (.aload_n 0), pm_o .dup, pm_of (.getfield 41) 1 8 0, pm_oi (.iconst 1) 1, pm_o .isub, pm_of (.putfield 41) 1 8 0, pm_o (.aload_n 0), pm_of (.getfield 34) 1 7 2, pm_o (.aload_n 0), pm_of (.getfield 41) 1 8 0] (by decide +kernel) rfl ?_
    obtain ⟨ho2, h⟩ := pm_ifs h
    refine pm_lald (by decide +kernel) rfl (pm_ok_in ho2) ?_
    refine pm_blk (pc' := 29) (L' := [(0, .ref 52)]) (S' := [.long (u.2 56 (((u.1 52 8) - 1).toNatClampNeg))]) (M' := sm g (wi u 52 8 ((u.1 52 8) - 1))) [] (by decide +kernel) rfl ?_
    have h9 := Option.some.inj h
    subst h9
    exact pm_retl rfl (by decide +kernel) rfl rfl rfl
  · rw [if_neg hc1] at h
    refine pm_blk (pc' := 9) (L' := [(0, .ref 52)]) (S' := [.long 0]) (M' := sm g u) [pm_ol (.lconst 0) 0] (by decide +kernel) rfl ?_
    have h9 := Option.some.inj h
    subst h9
    exact pm_retl rfl (by decide +kernel) rfl rfl rfl
def F_Adapter_addResult (a1 : Int64) (g : pm_s) (u : pm_J) : Option (pm_J) := if 1000 ≤ (u.1 52 8) then some u else if pm_ok (u.1 52 8) 1000 = true then some (wi (wj u 56 ((u.1 52 8).toNatClampNeg) a1) 52 8 ((u.1 52 8) + 1)) else none
set_option maxHeartbeats 4000000 in
set_option maxRecDepth 100000 in
theorem c_Adapter_addResult (l : Launch) (h0 : Nat) (D : pm_D) {g : pm_s} {u : pm_J} (hT : sh_T g) {a1 : Int64} {out : pm_J} (h : F_Adapter_addResult a1 g u = some out) : pm_C l h0 D m_Adapter_addResult (0) [.ref 52, .long a1] (sm g u) none (sm g out) := by
  unfold F_Adapter_addResult at h
  refine pm_met (by decide +kernel) (Nat.le_of_ble_eq_true rfl) (Nat.le_refl _) (Nat.le_refl _) ?_
  intro p e R s m args below meth c
  refine pm_blk (pc' := 7) (L' := [(0, .ref 52), (1, .long a1)]) (S' := [.int 1000, .int (u.1 52 8)]) (M' := sm g u) [pm_o (.aload_n 0), pm_of (.getfield 41) 1 8 0, pm_oi (.sipush 1000) 1000] (by decide +kernel) rfl ?_
  refine pm_ic_ge (off := 23) 30 (by decide +kernel) (by decide) (fun hc1 => ?_) (fun hc1 => ?_)
  · rw [if_pos hc1] at h
    have h9 := Option.some.inj h
    subst h9
    exact pm_retv rfl (by decide +kernel) rfl rfl
  · rw [if_neg hc1] at h
    refine pm_blk (pc' := 19) (L' := [(0, .ref 52), (1, .long a1)]) (S' := [.long a1, .int (u.1 52 8), .ref 56]) (M' := sm g u) [pm_o (.aload_n 0), pm_of (.getfield 34) 1 7 2, pm_o (.aload_n 0), pm_of (.getfield 41) 1 8 0, pm_o (.lload_n 1)] (by decide +kernel) rfl ?_
    obtain ⟨ho2, h⟩ := pm_ifs h
    refine pm_last (by decide +kernel) rfl  (pm_ok_in ho2) ?_
    refine pm_blk (pc' := 30) (L' := [(0, .ref 52), (1, .long a1)]) (S' := []) (M' := sm g (wi (wj u 56 ((u.1 52 8).toNatClampNeg) a1) 52 8 ((u.1 52 8) + 1))) [pm_o (.aload_n 0), pm_o .dup, pm_of (.getfield 41) 1 8 0, pm_oi (.iconst 1) 1, pm_o .iadd, pm_of (.putfield 41) 1 8 0] (by decide +kernel) rfl ?_
    have h9 := Option.some.inj h
    subst h9
    exact pm_retv rfl (by decide +kernel) rfl rfl
def K_Adapter_doTask_221 (N : Nat) (g : pm_s) (x1 : Int32) (x2 : Int32) (y3 : Int64) (t0 : Int32) (u : pm_J) : Option (pm_J) := (F_Heap_make t0 y3 x1.toInt64 x2 g u).bind fun q26 => (F_Adapter_addResult q26.1 g q26.2).bind fun q27 => some q27
set_option maxHeartbeats 4000000 in
set_option maxRecDepth 100000 in
theorem w_Adapter_doTask_221 (l : Launch) (h0 : Nat) (D : pm_D) {g : pm_s} (hT : sh_T g) {N : Nat} {u0 : pm_J} {out : pm_J} {p : Program} {e : Env} {R : Room} {s : State} {m : MethodId} {args : Array Value} {below : List Frame} {meth : Method} {c : Code} : ∀ (x1 : Int32) (x2 : Int32) (y3 : Int64) (t0 : Int32) (u : pm_J), K_Adapter_doTask_221 N g x1 x2 y3 t0 u = some out → pm_V (p, l, e, R, s, m, args, below, meth, c) m_Adapter_doTask h0 D (g.1, g.2.1, g.1, g.2.1, 3) (pm_E (p, l, e, R, s, m, args, below, meth, c) h0 D (sm g u0) none (sm g out)) 221 [(0, .ref 52), (1, .int x1), (2, .int x2), (3, .long y3)] [.int t0] (sm g u) := by
    intro x1 x2 y3 t0 u h
    unfold K_Adapter_doTask_221 at h
    refine pm_blk (pc' := 234) (L' := [(6, .int t0), (0, .ref 52), (1, .int x1), (2, .int x2), (3, .long y3)]) (S' := [.int x2, .long x1.toInt64, .long y3, .int t0, .ref 45, .ref 52]) (M' := sm g u) [pm_o (.istore 6), pm_o (.aload_n 0), pm_o (.aload_n 0), pm_of (.getfield 19) 1 2 2, pm_o (.iload 6), pm_o (.lload_n 3), pm_o (.iload_n 1), pm_o .i2l, pm_o (.iload_n 2)] (by decide +kernel) rfl ?_
    obtain ⟨q26, hq26, h⟩ := pm_bd h
    refine pm_cV (idx := 63) m_Heap_make (c_Heap_make l h0 D hT hq26) (As := [.int t0, .long y3, .long x1.toInt64, .int x2]) (S0 := [.ref 52]) rfl (by decide +kernel) k_Heap_make l_Adapter_63 (Nat.le_of_ble_eq_true rfl) (Nat.le_of_ble_eq_true rfl) (Nat.le_refl _) (Nat.le_refl _) ?_
    refine pm_blk (pc' := 237) (L' := [(6, .int t0), (0, .ref 52), (1, .int x1), (2, .int x2), (3, .long y3)]) (S' := [.long q26.1, .ref 52]) (M' := sm g q26.2) [] (by decide +kernel) rfl ?_
    obtain ⟨q27, hq27, h⟩ := pm_bd h
    refine pm_cV (idx := 67) m_Adapter_addResult (c_Adapter_addResult l h0 D hT hq27) (As := [.long q26.1]) (S0 := []) rfl (by decide +kernel) k_Adapter_addResult l_Adapter_67 (Nat.le_of_ble_eq_true rfl) (Nat.le_of_ble_eq_true rfl) (Nat.le_refl _) (Nat.le_refl _) ?_
    refine pm_blk (pc' := 240) (L' := [(6, .int t0), (0, .ref 52), (1, .int x1), (2, .int x2), (3, .long y3)]) (S' := []) (M' := sm g q27) [] (by decide +kernel) rfl ?_
    have h9 := Option.some.inj h
    subst h9
    exact pm_retv rfl (by decide +kernel) rfl rfl
def K_Adapter_doTask_241 (N : Nat) (g : pm_s) (x1 : Int32) (x2 : Int32) (y3 : Int64) (u : pm_J) : Option (pm_J) := (F_Types_letterNumber x1 g u).bind fun q28 => (F_Tree_fit x2 q28 g u).bind fun q29 => if q29 = (-1) then (F_Adapter_addResult y3 g u).bind fun q32 => some q32 else (F_Adapter_addTask q29 (-1) y3 g u).bind fun q31 => some q31
set_option maxHeartbeats 4000000 in
set_option maxRecDepth 100000 in
theorem w_Adapter_doTask_241 (l : Launch) (h0 : Nat) (D : pm_D) {g : pm_s} (hT : sh_T g) {N : Nat} {u0 : pm_J} {out : pm_J} {p : Program} {e : Env} {R : Room} {s : State} {m : MethodId} {args : Array Value} {below : List Frame} {meth : Method} {c : Code} : ∀ (x1 : Int32) (x2 : Int32) (y3 : Int64) (u : pm_J), K_Adapter_doTask_241 N g x1 x2 y3 u = some out → pm_V (p, l, e, R, s, m, args, below, meth, c) m_Adapter_doTask h0 D (g.1, g.2.1, g.1, g.2.1, 3) (pm_E (p, l, e, R, s, m, args, below, meth, c) h0 D (sm g u0) none (sm g out)) 241 [(0, .ref 52), (1, .int x1), (2, .int x2), (3, .long y3)] [] (sm g u) := by
    intro x1 x2 y3 u h
    unfold K_Adapter_doTask_241 at h
    refine pm_blk (pc' := 251) (L' := [(0, .ref 52), (1, .int x1), (2, .int x2), (3, .long y3)]) (S' := [.int x1, .ref 10, .int x2, .ref 18]) (M' := sm g u) [pm_o (.aload_n 0), pm_of (.getfield 15) 1 1 2, pm_o (.iload_n 2), pm_o (.aload_n 0), pm_of (.getfield 9) 1 0 2, pm_o (.iload_n 1)] (by decide +kernel) rfl ?_
    obtain ⟨q28, hq28, h⟩ := pm_bd h
    refine pm_cV (idx := 96) m_Types_letterNumber (c_Types_letterNumber l h0 D hT hq28) (As := [.int x1]) (S0 := [.int x2, .ref 18]) rfl (by decide +kernel) k_Types_letterNumber l_Adapter_96 (Nat.le_of_ble_eq_true rfl) (Nat.le_of_ble_eq_true rfl) (Nat.le_refl _) (Nat.le_refl _) ?_
    refine pm_blk (pc' := 254) (L' := [(0, .ref 52), (1, .int x1), (2, .int x2), (3, .long y3)]) (S' := [.int q28, .int x2, .ref 18]) (M' := sm g u) [] (by decide +kernel) rfl ?_
    obtain ⟨q29, hq29, h⟩ := pm_bd h
    refine pm_cV (idx := 99) m_Tree_fit (c_Tree_fit l h0 D hT hq29) (As := [.int x2, .int q28]) (S0 := []) rfl (by decide +kernel) k_Tree_fit l_Adapter_99 (Nat.le_of_ble_eq_true rfl) (Nat.le_of_ble_eq_true rfl) (Nat.le_refl _) (Nat.le_refl _) ?_
    refine pm_blk (pc' := 262) (L' := [(6, .int q29), (0, .ref 52), (1, .int x1), (2, .int x2), (3, .long y3)]) (S' := [.int (-1), .int q29]) (M' := sm g u) [pm_o (.istore 6), pm_o (.iload 6), pm_oi (.iconst (-1)) (-1)] (by decide +kernel) rfl ?_
    refine pm_ic_ne (off := 11) 273 (by decide +kernel) (by decide) (fun hc30 => ?_) (fun hc30 => ?_)
    · rw [if_neg hc30] at h
      refine pm_blk (pc' := 278) (L' := [(6, .int q29), (0, .ref 52), (1, .int x1), (2, .int x2), (3, .long y3)]) (S' := [.long y3, .int (-1), .int q29, .ref 52]) (M' := sm g u) [pm_o (.aload_n 0), pm_o (.iload 6), pm_oi (.iconst (-1)) (-1), pm_o (.lload_n 3)] (by decide +kernel) rfl ?_
      obtain ⟨q31, hq31, h⟩ := pm_bd h
      refine pm_cV (idx := 44) m_Adapter_addTask (c_Adapter_addTask l h0 D hT hq31) (As := [.int q29, .int (-1), .long y3]) (S0 := []) rfl (by decide +kernel) k_Adapter_addTask l_Adapter_44 (Nat.le_of_ble_eq_true rfl) (Nat.le_of_ble_eq_true rfl) (Nat.le_refl _) (Nat.le_refl _) ?_
      refine pm_blk (pc' := 281) (L' := [(6, .int q29), (0, .ref 52), (1, .int x1), (2, .int x2), (3, .long y3)]) (S' := []) (M' := sm g q31) [] (by decide +kernel) rfl ?_
      have h9 := Option.some.inj h
      subst h9
      exact pm_retv rfl (by decide +kernel) rfl rfl
    · rw [if_pos hc30] at h
      refine pm_blk (pc' := 267) (L' := [(6, .int q29), (0, .ref 52), (1, .int x1), (2, .int x2), (3, .long y3)]) (S' := [.long y3, .ref 52]) (M' := sm g u) [pm_o (.aload_n 0), pm_o (.lload_n 3)] (by decide +kernel) rfl ?_
      obtain ⟨q32, hq32, h⟩ := pm_bd h
      refine pm_cV (idx := 67) m_Adapter_addResult (c_Adapter_addResult l h0 D hT hq32) (As := [.long y3]) (S0 := []) rfl (by decide +kernel) k_Adapter_addResult l_Adapter_67 (Nat.le_of_ble_eq_true rfl) (Nat.le_of_ble_eq_true rfl) (Nat.le_refl _) (Nat.le_refl _) ?_
      refine pm_blk (pc' := 270) (L' := [(6, .int q29), (0, .ref 52), (1, .int x1), (2, .int x2), (3, .long y3)]) (S' := []) (M' := sm g q32) [] (by decide +kernel) rfl ?_
      refine pm_goto (off := 11) 281 (by decide +kernel) (by decide) ?_
      have h9 := Option.some.inj h
      subst h9
      exact pm_retv rfl (by decide +kernel) rfl rfl
def K_Adapter_doTask_54 (N : Nat) (g : pm_s) (x1 : Int32) (x2 : Int32) (y3 : Int64) (x5 : Int32) (u : pm_J) : Option (pm_J) := (F_Types_kind x1 g u).bind fun q3 => if q3 = 0 then if x5 = 0 then (F_Heap_openBox y3 g u).bind fun q6 => (F_Adapter_addResult q6.1 g q6.2).bind fun q7 => some q7 else (F_Heap_make 2 y3 0 (-1) g u).bind fun q8 => (F_Adapter_addResult q8.1 g q8.2).bind fun q9 => some q9 else if q3 = 1 then if x5 = 0 then (F_Heap_openBox y3 g u).bind fun q12 => (F_Adapter_addResult q12.1 g q12.2).bind fun q13 => some q13 else (F_Heap_make 3 y3 0 (-1) g u).bind fun q14 => (F_Adapter_addResult q14.1 g q14.2).bind fun q15 => some q15 else if q3 = 3 then (F_Adapter_addTask (-2) (-1) 0 g u).bind fun q17 => (F_Types_right x1 g q17).bind fun q18 => (F_Heap_second y3 g q17).bind fun q19 => (F_Adapter_addTask q18 x2 q19 g q17).bind fun q20 => (F_Types_left x1 g q20).bind fun q21 => (F_Heap_first y3 g q20).bind fun q22 => (F_Adapter_addTask q21 x2 q22 g q20).bind fun q23 => some q23 else if q3 = 4 then if x5 = 0 then K_Adapter_doTask_221 N g x1 x2 y3 5 u else K_Adapter_doTask_221 N g x1 x2 y3 4 u else K_Adapter_doTask_241 N g x1 x2 y3 u
set_option maxHeartbeats 4000000 in
set_option maxRecDepth 100000 in
theorem w_Adapter_doTask_54 (l : Launch) (h0 : Nat) (D : pm_D) {g : pm_s} (hT : sh_T g) {N : Nat} {u0 : pm_J} {out : pm_J} {p : Program} {e : Env} {R : Room} {s : State} {m : MethodId} {args : Array Value} {below : List Frame} {meth : Method} {c : Code} : ∀ (x1 : Int32) (x2 : Int32) (y3 : Int64) (x5 : Int32) (u : pm_J), K_Adapter_doTask_54 N g x1 x2 y3 x5 u = some out → pm_V (p, l, e, R, s, m, args, below, meth, c) m_Adapter_doTask h0 D (g.1, g.2.1, g.1, g.2.1, 3) (pm_E (p, l, e, R, s, m, args, below, meth, c) h0 D (sm g u0) none (sm g out)) 54 [(0, .ref 52), (1, .int x1), (2, .int x2), (3, .long y3), (5, .int x5)] [] (sm g u) := by
    intro x1 x2 y3 x5 u h
    unfold K_Adapter_doTask_54 at h
    refine pm_blk (pc' := 59) (L' := [(0, .ref 52), (1, .int x1), (2, .int x2), (3, .long y3), (5, .int x5)]) (S' := [.int x1, .ref 10]) (M' := sm g u) [pm_o (.aload_n 0), pm_of (.getfield 9) 1 0 2, pm_o (.iload_n 1)] (by decide +kernel) rfl ?_
    obtain ⟨q3, hq3, h⟩ := pm_bd h
    refine pm_cV (idx := 77) m_Types_kind (c_Types_kind l h0 D hT hq3) (As := [.int x1]) (S0 := []) rfl (by decide +kernel) k_Types_kind l_Adapter_77 (Nat.le_of_ble_eq_true rfl) (Nat.le_of_ble_eq_true rfl) (Nat.le_refl _) (Nat.le_refl _) ?_
    refine pm_blk (pc' := 62) (L' := [(0, .ref 52), (1, .int x1), (2, .int x2), (3, .long y3), (5, .int x5)]) (S' := [.int q3]) (M' := sm g u) [] (by decide +kernel) rfl ?_
    refine pm_tsw (dflt := 179) (lo := 0) (hi := 4) (offs := #[34, 66, 179, 98, 149]) (len := 34) [(0, 96), (1, 128), (3, 160), (4, 211)] 241 (by decide +kernel) (by decide +kernel) ?_
    by_cases hs4 : q3 = 0
    · rw [if_pos hs4] at h
      rw [pm_sw_pos hs4]
      refine pm_blk (pc' := 99) (L' := [(0, .ref 52), (1, .int x1), (2, .int x2), (3, .long y3), (5, .int x5)]) (S' := [.int x5, .ref 52]) (M' := sm g u) [pm_o (.aload_n 0), pm_o (.iload 5)] (by decide +kernel) rfl ?_
      refine pm_if_eq (off := 17) 116 (by decide +kernel) (by decide) (fun hc5 => ?_) (fun hc5 => ?_)
      · rw [if_pos hc5] at h
        refine pm_blk (pc' := 121) (L' := [(0, .ref 52), (1, .int x1), (2, .int x2), (3, .long y3), (5, .int x5)]) (S' := [.long y3, .ref 45, .ref 52]) (M' := sm g u) [pm_o (.aload_n 0), pm_of (.getfield 19) 1 2 2, pm_o (.lload_n 3)] (by decide +kernel) rfl ?_
        obtain ⟨q6, hq6, h⟩ := pm_bd h
        refine pm_cV (idx := 80) m_Heap_openBox (c_Heap_openBox l h0 D hT hq6) (As := [.long y3]) (S0 := [.ref 52]) rfl (by decide +kernel) k_Heap_openBox l_Adapter_80 (Nat.le_of_ble_eq_true rfl) (Nat.le_of_ble_eq_true rfl) (Nat.le_refl _) (Nat.le_refl _) ?_
        refine pm_blk (pc' := 124) (L' := [(0, .ref 52), (1, .int x1), (2, .int x2), (3, .long y3), (5, .int x5)]) (S' := [.long q6.1, .ref 52]) (M' := sm g q6.2) [] (by decide +kernel) rfl ?_
        obtain ⟨q7, hq7, h⟩ := pm_bd h
        refine pm_cV (idx := 67) m_Adapter_addResult (c_Adapter_addResult l h0 D hT hq7) (As := [.long q6.1]) (S0 := []) rfl (by decide +kernel) k_Adapter_addResult l_Adapter_67 (Nat.le_of_ble_eq_true rfl) (Nat.le_of_ble_eq_true rfl) (Nat.le_refl _) (Nat.le_refl _) ?_
        refine pm_blk (pc' := 127) (L' := [(0, .ref 52), (1, .int x1), (2, .int x2), (3, .long y3), (5, .int x5)]) (S' := []) (M' := sm g q7) [] (by decide +kernel) rfl ?_
        have h9 := Option.some.inj h
        subst h9
        exact pm_retv rfl (by decide +kernel) rfl rfl
      · rw [if_neg hc5] at h
        refine pm_blk (pc' := 110) (L' := [(0, .ref 52), (1, .int x1), (2, .int x2), (3, .long y3), (5, .int x5)]) (S' := [.int (-1), .long 0, .long y3, .int 2, .ref 45, .ref 52]) (M' := sm g u) [pm_o (.aload_n 0), pm_of (.getfield 19) 1 2 2, pm_oi (.iconst 2) 2, pm_o (.lload_n 3), pm_ol (.lconst 0) 0, pm_oi (.iconst (-1)) (-1)] (by decide +kernel) rfl ?_
        obtain ⟨q8, hq8, h⟩ := pm_bd h
        refine pm_cV (idx := 63) m_Heap_make (c_Heap_make l h0 D hT hq8) (As := [.int 2, .long y3, .long 0, .int (-1)]) (S0 := [.ref 52]) rfl (by decide +kernel) k_Heap_make l_Adapter_63 (Nat.le_of_ble_eq_true rfl) (Nat.le_of_ble_eq_true rfl) (Nat.le_refl _) (Nat.le_refl _) ?_
        refine pm_blk (pc' := 113) (L' := [(0, .ref 52), (1, .int x1), (2, .int x2), (3, .long y3), (5, .int x5)]) (S' := [.long q8.1, .ref 52]) (M' := sm g q8.2) [] (by decide +kernel) rfl ?_
        refine pm_goto (off := 11) 124 (by decide +kernel) (by decide) ?_
        obtain ⟨q9, hq9, h⟩ := pm_bd h
        refine pm_cV (idx := 67) m_Adapter_addResult (c_Adapter_addResult l h0 D hT hq9) (As := [.long q8.1]) (S0 := []) rfl (by decide +kernel) k_Adapter_addResult l_Adapter_67 (Nat.le_of_ble_eq_true rfl) (Nat.le_of_ble_eq_true rfl) (Nat.le_refl _) (Nat.le_refl _) ?_
        refine pm_blk (pc' := 127) (L' := [(0, .ref 52), (1, .int x1), (2, .int x2), (3, .long y3), (5, .int x5)]) (S' := []) (M' := sm g q9) [] (by decide +kernel) rfl ?_
        have h9 := Option.some.inj h
        subst h9
        exact pm_retv rfl (by decide +kernel) rfl rfl
    rw [if_neg hs4] at h
    rw [pm_sw_neg hs4]
    by_cases hs10 : q3 = 1
    · rw [if_pos hs10] at h
      rw [pm_sw_pos hs10]
      refine pm_blk (pc' := 131) (L' := [(0, .ref 52), (1, .int x1), (2, .int x2), (3, .long y3), (5, .int x5)]) (S' := [.int x5, .ref 52]) (M' := sm g u) [pm_o (.aload_n 0), pm_o (.iload 5)] (by decide +kernel) rfl ?_
      refine pm_if_eq (off := 17) 148 (by decide +kernel) (by decide) (fun hc11 => ?_) (fun hc11 => ?_)
      · rw [if_pos hc11] at h
        refine pm_blk (pc' := 153) (L' := [(0, .ref 52), (1, .int x1), (2, .int x2), (3, .long y3), (5, .int x5)]) (S' := [.long y3, .ref 45, .ref 52]) (M' := sm g u) [pm_o (.aload_n 0), pm_of (.getfield 19) 1 2 2, pm_o (.lload_n 3)] (by decide +kernel) rfl ?_
        obtain ⟨q12, hq12, h⟩ := pm_bd h
        refine pm_cV (idx := 80) m_Heap_openBox (c_Heap_openBox l h0 D hT hq12) (As := [.long y3]) (S0 := [.ref 52]) rfl (by decide +kernel) k_Heap_openBox l_Adapter_80 (Nat.le_of_ble_eq_true rfl) (Nat.le_of_ble_eq_true rfl) (Nat.le_refl _) (Nat.le_refl _) ?_
        refine pm_blk (pc' := 156) (L' := [(0, .ref 52), (1, .int x1), (2, .int x2), (3, .long y3), (5, .int x5)]) (S' := [.long q12.1, .ref 52]) (M' := sm g q12.2) [] (by decide +kernel) rfl ?_
        obtain ⟨q13, hq13, h⟩ := pm_bd h
        refine pm_cV (idx := 67) m_Adapter_addResult (c_Adapter_addResult l h0 D hT hq13) (As := [.long q12.1]) (S0 := []) rfl (by decide +kernel) k_Adapter_addResult l_Adapter_67 (Nat.le_of_ble_eq_true rfl) (Nat.le_of_ble_eq_true rfl) (Nat.le_refl _) (Nat.le_refl _) ?_
        refine pm_blk (pc' := 159) (L' := [(0, .ref 52), (1, .int x1), (2, .int x2), (3, .long y3), (5, .int x5)]) (S' := []) (M' := sm g q13) [] (by decide +kernel) rfl ?_
        have h9 := Option.some.inj h
        subst h9
        exact pm_retv rfl (by decide +kernel) rfl rfl
      · rw [if_neg hc11] at h
        refine pm_blk (pc' := 142) (L' := [(0, .ref 52), (1, .int x1), (2, .int x2), (3, .long y3), (5, .int x5)]) (S' := [.int (-1), .long 0, .long y3, .int 3, .ref 45, .ref 52]) (M' := sm g u) [pm_o (.aload_n 0), pm_of (.getfield 19) 1 2 2, pm_oi (.iconst 3) 3, pm_o (.lload_n 3), pm_ol (.lconst 0) 0, pm_oi (.iconst (-1)) (-1)] (by decide +kernel) rfl ?_
        obtain ⟨q14, hq14, h⟩ := pm_bd h
        refine pm_cV (idx := 63) m_Heap_make (c_Heap_make l h0 D hT hq14) (As := [.int 3, .long y3, .long 0, .int (-1)]) (S0 := [.ref 52]) rfl (by decide +kernel) k_Heap_make l_Adapter_63 (Nat.le_of_ble_eq_true rfl) (Nat.le_of_ble_eq_true rfl) (Nat.le_refl _) (Nat.le_refl _) ?_
        refine pm_blk (pc' := 145) (L' := [(0, .ref 52), (1, .int x1), (2, .int x2), (3, .long y3), (5, .int x5)]) (S' := [.long q14.1, .ref 52]) (M' := sm g q14.2) [] (by decide +kernel) rfl ?_
        refine pm_goto (off := 11) 156 (by decide +kernel) (by decide) ?_
        obtain ⟨q15, hq15, h⟩ := pm_bd h
        refine pm_cV (idx := 67) m_Adapter_addResult (c_Adapter_addResult l h0 D hT hq15) (As := [.long q14.1]) (S0 := []) rfl (by decide +kernel) k_Adapter_addResult l_Adapter_67 (Nat.le_of_ble_eq_true rfl) (Nat.le_of_ble_eq_true rfl) (Nat.le_refl _) (Nat.le_refl _) ?_
        refine pm_blk (pc' := 159) (L' := [(0, .ref 52), (1, .int x1), (2, .int x2), (3, .long y3), (5, .int x5)]) (S' := []) (M' := sm g q15) [] (by decide +kernel) rfl ?_
        have h9 := Option.some.inj h
        subst h9
        exact pm_retv rfl (by decide +kernel) rfl rfl
    rw [if_neg hs10] at h
    rw [pm_sw_neg hs10]
    by_cases hs16 : q3 = 3
    · rw [if_pos hs16] at h
      rw [pm_sw_pos hs16]
      refine pm_blk (pc' := 165) (L' := [(0, .ref 52), (1, .int x1), (2, .int x2), (3, .long y3), (5, .int x5)]) (S' := [.long 0, .int (-1), .int (-2), .ref 52]) (M' := sm g u) [pm_o (.aload_n 0), pm_oi (.bipush (-2)) (-2), pm_oi (.iconst (-1)) (-1), pm_ol (.lconst 0) 0] (by decide +kernel) rfl ?_
      obtain ⟨q17, hq17, h⟩ := pm_bd h
      refine pm_cV (idx := 44) m_Adapter_addTask (c_Adapter_addTask l h0 D hT hq17) (As := [.int (-2), .int (-1), .long 0]) (S0 := []) rfl (by decide +kernel) k_Adapter_addTask l_Adapter_44 (Nat.le_of_ble_eq_true rfl) (Nat.le_of_ble_eq_true rfl) (Nat.le_refl _) (Nat.le_refl _) ?_
      refine pm_blk (pc' := 174) (L' := [(0, .ref 52), (1, .int x1), (2, .int x2), (3, .long y3), (5, .int x5)]) (S' := [.int x1, .ref 10, .ref 52]) (M' := sm g q17) [pm_o (.aload_n 0), pm_o (.aload_n 0), pm_of (.getfield 9) 1 0 2, pm_o (.iload_n 1)] (by decide +kernel) rfl ?_
      obtain ⟨q18, hq18, h⟩ := pm_bd h
      refine pm_cV (idx := 84) m_Types_right (c_Types_right l h0 D hT hq18) (As := [.int x1]) (S0 := [.ref 52]) rfl (by decide +kernel) k_Types_right l_Adapter_84 (Nat.le_of_ble_eq_true rfl) (Nat.le_of_ble_eq_true rfl) (Nat.le_refl _) (Nat.le_refl _) ?_
      refine pm_blk (pc' := 183) (L' := [(0, .ref 52), (1, .int x1), (2, .int x2), (3, .long y3), (5, .int x5)]) (S' := [.long y3, .ref 45, .int x2, .int q18, .ref 52]) (M' := sm g q17) [pm_o (.iload_n 2), pm_o (.aload_n 0), pm_of (.getfield 19) 1 2 2, pm_o (.lload_n 3)] (by decide +kernel) rfl ?_
      obtain ⟨q19, hq19, h⟩ := pm_bd h
      refine pm_cV (idx := 87) m_Heap_second (c_Heap_second l h0 D hT hq19) (As := [.long y3]) (S0 := [.int x2, .int q18, .ref 52]) rfl (by decide +kernel) k_Heap_second l_Adapter_87 (Nat.le_of_ble_eq_true rfl) (Nat.le_of_ble_eq_true rfl) (Nat.le_refl _) (Nat.le_refl _) ?_
      refine pm_blk (pc' := 186) (L' := [(0, .ref 52), (1, .int x1), (2, .int x2), (3, .long y3), (5, .int x5)]) (S' := [.long q19, .int x2, .int q18, .ref 52]) (M' := sm g q17) [] (by decide +kernel) rfl ?_
      obtain ⟨q20, hq20, h⟩ := pm_bd h
      refine pm_cV (idx := 44) m_Adapter_addTask (c_Adapter_addTask l h0 D hT hq20) (As := [.int q18, .int x2, .long q19]) (S0 := []) rfl (by decide +kernel) k_Adapter_addTask l_Adapter_44 (Nat.le_of_ble_eq_true rfl) (Nat.le_of_ble_eq_true rfl) (Nat.le_refl _) (Nat.le_refl _) ?_
      refine pm_blk (pc' := 195) (L' := [(0, .ref 52), (1, .int x1), (2, .int x2), (3, .long y3), (5, .int x5)]) (S' := [.int x1, .ref 10, .ref 52]) (M' := sm g q20) [pm_o (.aload_n 0), pm_o (.aload_n 0), pm_of (.getfield 9) 1 0 2, pm_o (.iload_n 1)] (by decide +kernel) rfl ?_
      obtain ⟨q21, hq21, h⟩ := pm_bd h
      refine pm_cV (idx := 90) m_Types_left (c_Types_left l h0 D hT hq21) (As := [.int x1]) (S0 := [.ref 52]) rfl (by decide +kernel) k_Types_left l_Adapter_90 (Nat.le_of_ble_eq_true rfl) (Nat.le_of_ble_eq_true rfl) (Nat.le_refl _) (Nat.le_refl _) ?_
      refine pm_blk (pc' := 204) (L' := [(0, .ref 52), (1, .int x1), (2, .int x2), (3, .long y3), (5, .int x5)]) (S' := [.long y3, .ref 45, .int x2, .int q21, .ref 52]) (M' := sm g q20) [pm_o (.iload_n 2), pm_o (.aload_n 0), pm_of (.getfield 19) 1 2 2, pm_o (.lload_n 3)] (by decide +kernel) rfl ?_
      obtain ⟨q22, hq22, h⟩ := pm_bd h
      refine pm_cV (idx := 93) m_Heap_first (c_Heap_first l h0 D hT hq22) (As := [.long y3]) (S0 := [.int x2, .int q21, .ref 52]) rfl (by decide +kernel) k_Heap_first l_Adapter_93 (Nat.le_of_ble_eq_true rfl) (Nat.le_of_ble_eq_true rfl) (Nat.le_refl _) (Nat.le_refl _) ?_
      refine pm_blk (pc' := 207) (L' := [(0, .ref 52), (1, .int x1), (2, .int x2), (3, .long y3), (5, .int x5)]) (S' := [.long q22, .int x2, .int q21, .ref 52]) (M' := sm g q20) [] (by decide +kernel) rfl ?_
      obtain ⟨q23, hq23, h⟩ := pm_bd h
      refine pm_cV (idx := 44) m_Adapter_addTask (c_Adapter_addTask l h0 D hT hq23) (As := [.int q21, .int x2, .long q22]) (S0 := []) rfl (by decide +kernel) k_Adapter_addTask l_Adapter_44 (Nat.le_of_ble_eq_true rfl) (Nat.le_of_ble_eq_true rfl) (Nat.le_refl _) (Nat.le_refl _) ?_
      refine pm_blk (pc' := 210) (L' := [(0, .ref 52), (1, .int x1), (2, .int x2), (3, .long y3), (5, .int x5)]) (S' := []) (M' := sm g q23) [] (by decide +kernel) rfl ?_
      have h9 := Option.some.inj h
      subst h9
      exact pm_retv rfl (by decide +kernel) rfl rfl
    rw [if_neg hs16] at h
    rw [pm_sw_neg hs16]
    by_cases hs24 : q3 = 4
    · rw [if_pos hs24] at h
      rw [pm_sw_pos hs24]
      refine pm_blk (pc' := 213) (L' := [(0, .ref 52), (1, .int x1), (2, .int x2), (3, .long y3), (5, .int x5)]) (S' := [.int x5]) (M' := sm g u) [pm_o (.iload 5)] (by decide +kernel) rfl ?_
      refine pm_if_eq (off := 7) 220 (by decide +kernel) (by decide) (fun hc25 => ?_) (fun hc25 => ?_)
      · rw [if_pos hc25] at h
        refine pm_blk (pc' := 221) (L' := [(0, .ref 52), (1, .int x1), (2, .int x2), (3, .long y3), (5, .int x5)]) (S' := [.int 5]) (M' := sm g u) [pm_oi (.iconst 5) 5] (by decide +kernel) rfl ?_
        refine pm_loc [0, 1, 2, 3] rfl ?_
        exact w_Adapter_doTask_221 l h0 D hT x1 x2 y3 5 u h
      · rw [if_neg hc25] at h
        refine pm_blk (pc' := 217) (L' := [(0, .ref 52), (1, .int x1), (2, .int x2), (3, .long y3), (5, .int x5)]) (S' := [.int 4]) (M' := sm g u) [pm_oi (.iconst 4) 4] (by decide +kernel) rfl ?_
        refine pm_goto (off := 4) 221 (by decide +kernel) (by decide) ?_
        refine pm_loc [0, 1, 2, 3] rfl ?_
        exact w_Adapter_doTask_221 l h0 D hT x1 x2 y3 4 u h
    rw [if_neg hs24] at h
    rw [pm_sw_neg hs24]
    refine pm_pc (pc' := 241) rfl ?_
    refine pm_loc [0, 1, 2, 3] rfl ?_
    exact w_Adapter_doTask_241 l h0 D hT x1 x2 y3 u h
def F_Adapter_doTask (N : Nat) (a1 : Int32) (a2 : Int32) (a3 : Int64) (a4 : Int32) (g : pm_s) (u : pm_J) : Option (pm_J) := if a1 = (-2) then (F_Adapter_popResult g u).bind fun q36 => (F_Adapter_popResult g q36.2).bind fun q37 => (F_Heap_make 0 q37.1 q36.1 (-1) g q37.2).bind fun q38 => (F_Adapter_addResult q38.1 g q38.2).bind fun q39 => some q39 else if a2 = (-1) then K_Adapter_doTask_54 N g a1 a2 a3 a4 u else (F_Types_letters a1 g u).bind fun q33 => if q33 = 0 then (F_Adapter_addResult a3 g u).bind fun q35 => some q35 else K_Adapter_doTask_54 N g a1 a2 a3 a4 u
set_option maxHeartbeats 4000000 in
set_option maxRecDepth 100000 in
theorem c_Adapter_doTask (l : Launch) (h0 : Nat) (D : pm_D) {g : pm_s} {u : pm_J} (hT : sh_T g) {N : Nat} {a1 : Int32} {a2 : Int32} {a3 : Int64} {a4 : Int32} {out : pm_J} (h : F_Adapter_doTask N a1 a2 a3 a4 g u = some out) : pm_C l h0 D m_Adapter_doTask (3) [.ref 52, .int a1, .int a2, .long a3, .int a4] (sm g u) none (sm g out) := by
  unfold F_Adapter_doTask at h
  refine pm_met (by decide +kernel) (Nat.le_of_ble_eq_true rfl) (Nat.le_refl _) (Nat.le_refl _) ?_
  intro p e R s m args below meth c
  refine pm_blk (pc' := 3) (L' := [(0, .ref 52), (1, .int a1), (2, .int a2), (3, .long a3), (5, .int a4)]) (S' := [.int (-2), .int a1]) (M' := sm g u) [pm_o (.iload_n 1), pm_oi (.bipush (-2)) (-2)] (by decide +kernel) rfl ?_
  refine pm_ic_ne (off := 29) 32 (by decide +kernel) (by decide) (fun hc1 => ?_) (fun hc1 => ?_)
  · rw [if_neg hc1] at h
    refine pm_blk (pc' := 34) (L' := [(0, .ref 52), (1, .int a1), (2, .int a2), (3, .long a3), (5, .int a4)]) (S' := [.int (-1), .int a2]) (M' := sm g u) [pm_o (.iload_n 2), pm_oi (.iconst (-1)) (-1)] (by decide +kernel) rfl ?_
    refine pm_ic_eq (off := 20) 54 (by decide +kernel) (by decide) (fun hc2 => ?_) (fun hc2 => ?_)
    · rw [if_pos hc2] at h
      refine pm_loc [0, 1, 2, 3, 4] rfl ?_
      exact w_Adapter_doTask_54 l h0 D hT a1 a2 a3 a4 u h
    · rw [if_neg hc2] at h
      refine pm_blk (pc' := 42) (L' := [(0, .ref 52), (1, .int a1), (2, .int a2), (3, .long a3), (5, .int a4)]) (S' := [.int a1, .ref 10]) (M' := sm g u) [pm_o (.aload_n 0), pm_of (.getfield 9) 1 0 2, pm_o (.iload_n 1)] (by decide +kernel) rfl ?_
      obtain ⟨q33, hq33, h⟩ := pm_bd h
      refine pm_cV (idx := 71) m_Types_letters (c_Types_letters l h0 D hT hq33) (As := [.int a1]) (S0 := []) rfl (by decide +kernel) k_Types_letters l_Adapter_71 (Nat.le_of_ble_eq_true rfl) (Nat.le_of_ble_eq_true rfl) (Nat.le_refl _) (Nat.le_refl _) ?_
      refine pm_blk (pc' := 45) (L' := [(0, .ref 52), (1, .int a1), (2, .int a2), (3, .long a3), (5, .int a4)]) (S' := [.int q33]) (M' := sm g u) [] (by decide +kernel) rfl ?_
      refine pm_if_ne (off := 9) 54 (by decide +kernel) (by decide) (fun hc34 => ?_) (fun hc34 => ?_)
      · rw [if_neg hc34] at h
        refine pm_loc [0, 1, 2, 3, 4] rfl ?_
        exact w_Adapter_doTask_54 l h0 D hT a1 a2 a3 a4 u h
      · rw [if_pos hc34] at h
        refine pm_blk (pc' := 50) (L' := [(0, .ref 52), (1, .int a1), (2, .int a2), (3, .long a3), (5, .int a4)]) (S' := [.long a3, .ref 52]) (M' := sm g u) [pm_o (.aload_n 0), pm_o (.lload_n 3)] (by decide +kernel) rfl ?_
        obtain ⟨q35, hq35, h⟩ := pm_bd h
        refine pm_cV (idx := 67) m_Adapter_addResult (c_Adapter_addResult l h0 D hT hq35) (As := [.long a3]) (S0 := []) rfl (by decide +kernel) k_Adapter_addResult l_Adapter_67 (Nat.le_of_ble_eq_true rfl) (Nat.le_of_ble_eq_true rfl) (Nat.le_refl _) (Nat.le_refl _) ?_
        refine pm_blk (pc' := 53) (L' := [(0, .ref 52), (1, .int a1), (2, .int a2), (3, .long a3), (5, .int a4)]) (S' := []) (M' := sm g q35) [] (by decide +kernel) rfl ?_
        have h9 := Option.some.inj h
        subst h9
        exact pm_retv rfl (by decide +kernel) rfl rfl
  · rw [if_pos hc1] at h
    refine pm_blk (pc' := 7) (L' := [(0, .ref 52), (1, .int a1), (2, .int a2), (3, .long a3), (5, .int a4)]) (S' := [.ref 52]) (M' := sm g u) [pm_o (.aload_n 0)] (by decide +kernel) rfl ?_
    obtain ⟨q36, hq36, h⟩ := pm_bd h
    refine pm_cV (idx := 59) m_Adapter_popResult (c_Adapter_popResult l h0 D hT hq36) (As := []) (S0 := []) rfl (by decide +kernel) k_Adapter_popResult l_Adapter_59 (Nat.le_of_ble_eq_true rfl) (Nat.le_of_ble_eq_true rfl) (Nat.le_refl _) (Nat.le_refl _) ?_
    refine pm_blk (pc' := 19) (L' := [(6, .long q36.1), (0, .ref 52), (1, .int a1), (2, .int a2), (3, .long a3), (5, .int a4)]) (S' := [.ref 52, .int 0, .ref 45, .ref 52]) (M' := sm g q36.2) [pm_o (.lstore 6), pm_o (.aload_n 0), pm_o (.aload_n 0), pm_of (.getfield 19) 1 2 2, pm_oi (.iconst 0) 0, pm_o (.aload_n 0)] (by decide +kernel) rfl ?_
    obtain ⟨q37, hq37, h⟩ := pm_bd h
    refine pm_cV (idx := 59) m_Adapter_popResult (c_Adapter_popResult l h0 D hT hq37) (As := []) (S0 := [.int 0, .ref 45, .ref 52]) rfl (by decide +kernel) k_Adapter_popResult l_Adapter_59 (Nat.le_of_ble_eq_true rfl) (Nat.le_of_ble_eq_true rfl) (Nat.le_refl _) (Nat.le_refl _) ?_
    refine pm_blk (pc' := 25) (L' := [(6, .long q36.1), (0, .ref 52), (1, .int a1), (2, .int a2), (3, .long a3), (5, .int a4)]) (S' := [.int (-1), .long q36.1, .long q37.1, .int 0, .ref 45, .ref 52]) (M' := sm g q37.2) [pm_o (.lload 6), pm_oi (.iconst (-1)) (-1)] (by decide +kernel) rfl ?_
    obtain ⟨q38, hq38, h⟩ := pm_bd h
    refine pm_cV (idx := 63) m_Heap_make (c_Heap_make l h0 D hT hq38) (As := [.int 0, .long q37.1, .long q36.1, .int (-1)]) (S0 := [.ref 52]) rfl (by decide +kernel) k_Heap_make l_Adapter_63 (Nat.le_of_ble_eq_true rfl) (Nat.le_of_ble_eq_true rfl) (Nat.le_refl _) (Nat.le_refl _) ?_
    refine pm_blk (pc' := 28) (L' := [(6, .long q36.1), (0, .ref 52), (1, .int a1), (2, .int a2), (3, .long a3), (5, .int a4)]) (S' := [.long q38.1, .ref 52]) (M' := sm g q38.2) [] (by decide +kernel) rfl ?_
    obtain ⟨q39, hq39, h⟩ := pm_bd h
    refine pm_cV (idx := 67) m_Adapter_addResult (c_Adapter_addResult l h0 D hT hq39) (As := [.long q38.1]) (S0 := []) rfl (by decide +kernel) k_Adapter_addResult l_Adapter_67 (Nat.le_of_ble_eq_true rfl) (Nat.le_of_ble_eq_true rfl) (Nat.le_refl _) (Nat.le_refl _) ?_
    refine pm_blk (pc' := 31) (L' := [(6, .long q36.1), (0, .ref 52), (1, .int a1), (2, .int a2), (3, .long a3), (5, .int a4)]) (S' := []) (M' := sm g q39) [] (by decide +kernel) rfl ?_
    have h9 := Option.some.inj h
    subst h9
    exact pm_retv rfl (by decide +kernel) rfl rfl
def K_Adapter_adapt_21 (N : Nat) (g : pm_s) : Nat → Int32 → Int32 → pm_J → Option (Int64 × pm_J)
  | 0, _, _, _ => none
  | n + 1, x5, x6, u => if 1000000 ≤ x6 then (F_Adapter_popResult g u).bind fun q3 => some (q3.1, q3.2) else if (u.1 52 6) ≤ 0 then (F_Adapter_popResult g u).bind fun q5 => some (q5.1, q5.2) else (F_Heap_isOver g u).bind fun q6 => if q6 = 0 then if pm_ok ((u.1 52 6) - 1) 1000 = true then if pm_ok ((u.1 52 6) - 1) 1000 = true then if pm_ok ((u.1 52 6) - 1) 1000 = true then (F_Adapter_doTask N (u.1 53 (((u.1 52 6) - 1).toNatClampNeg)) (u.1 54 (((u.1 52 6) - 1).toNatClampNeg)) (u.2 55 (((u.1 52 6) - 1).toNatClampNeg)) x5 g (wi u 52 6 ((u.1 52 6) - 1))).bind fun q12 => K_Adapter_adapt_21 N g  n x5 (x6 + 1) q12 else none else none else none else (F_Adapter_popResult g u).bind fun q8 => some (q8.1, q8.2)
set_option maxHeartbeats 4000000 in
set_option maxRecDepth 100000 in
theorem w_Adapter_adapt_21 (l : Launch) (h0 : Nat) (D : pm_D) {g : pm_s} (hT : sh_T g) {N : Nat} {u0 : pm_J} {out : Int64 × pm_J} {p : Program} {e : Env} {R : Room} {s : State} {m : MethodId} {args : Array Value} {below : List Frame} {meth : Method} {c : Code} : ∀ (n : Nat) (x5 : Int32) (x6 : Int32) (u : pm_J), K_Adapter_adapt_21 N g n x5 x6 u = some out → pm_V (p, l, e, R, s, m, args, below, meth, c) m_Adapter_adapt h0 D (g.1, g.2.1, g.1, g.2.1, 4) (pm_E (p, l, e, R, s, m, args, below, meth, c) h0 D (sm g u0) (some (.long out.1)) (sm g out.2)) 21 [(0, .ref 52), (5, .int x5), (6, .int x6)] [] (sm g u) := by
  intro n
  induction n with
  | zero => intro x5 x6 u h; cases h
  | succ n ih =>
    intro x5 x6 u h
    rw [K_Adapter_adapt_21] at h
    refine pm_blk (pc' := 25) (L' := [(0, .ref 52), (5, .int x5), (6, .int x6)]) (S' := [.int 1000000, .int x6]) (M' := sm g u) [pm_o (.iload 6), pm_oi (.ldc 48) 1000000] (by decide +kernel) rfl ?_
    refine pm_ic_ge (off := 69) 94 (by decide +kernel) (by decide) (fun hc2 => ?_) (fun hc2 => ?_)
    · rw [if_pos hc2] at h
      refine pm_blk (pc' := 95) (L' := [(0, .ref 52), (5, .int x5), (6, .int x6)]) (S' := [.ref 52]) (M' := sm g u) [pm_o (.aload_n 0)] (by decide +kernel) rfl ?_
      obtain ⟨q3, hq3, h⟩ := pm_bd h
      refine pm_cV (idx := 59) m_Adapter_popResult (c_Adapter_popResult l h0 D hT hq3) (As := []) (S0 := []) rfl (by decide +kernel) k_Adapter_popResult l_Adapter_59 (Nat.le_of_ble_eq_true rfl) (Nat.le_of_ble_eq_true rfl) (Nat.le_refl _) (Nat.le_refl _) ?_
      refine pm_blk (pc' := 98) (L' := [(0, .ref 52), (5, .int x5), (6, .int x6)]) (S' := [.long q3.1]) (M' := sm g q3.2) [] (by decide +kernel) rfl ?_
      have h9 := Option.some.inj h
      subst h9
      exact pm_retl rfl (by decide +kernel) rfl rfl rfl
    · rw [if_neg hc2] at h
      refine pm_blk (pc' := 32) (L' := [(0, .ref 52), (5, .int x5), (6, .int x6)]) (S' := [.int (u.1 52 6)]) (M' := sm g u) [pm_o (.aload_n 0), pm_of (.getfield 37) 1 6 0] (by decide +kernel) rfl ?_
      refine pm_if_le (off := 62) 94 (by decide +kernel) (by decide) (fun hc4 => ?_) (fun hc4 => ?_)
      · rw [if_pos hc4] at h
        refine pm_blk (pc' := 95) (L' := [(0, .ref 52), (5, .int x5), (6, .int x6)]) (S' := [.ref 52]) (M' := sm g u) [pm_o (.aload_n 0)] (by decide +kernel) rfl ?_
        obtain ⟨q5, hq5, h⟩ := pm_bd h
        refine pm_cV (idx := 59) m_Adapter_popResult (c_Adapter_popResult l h0 D hT hq5) (As := []) (S0 := []) rfl (by decide +kernel) k_Adapter_popResult l_Adapter_59 (Nat.le_of_ble_eq_true rfl) (Nat.le_of_ble_eq_true rfl) (Nat.le_refl _) (Nat.le_refl _) ?_
        refine pm_blk (pc' := 98) (L' := [(0, .ref 52), (5, .int x5), (6, .int x6)]) (S' := [.long q5.1]) (M' := sm g q5.2) [] (by decide +kernel) rfl ?_
        have h9 := Option.some.inj h
        subst h9
        exact pm_retl rfl (by decide +kernel) rfl rfl rfl
      · rw [if_neg hc4] at h
        refine pm_blk (pc' := 39) (L' := [(0, .ref 52), (5, .int x5), (6, .int x6)]) (S' := [.ref 45]) (M' := sm g u) [pm_o (.aload_n 0), pm_of (.getfield 19) 1 2 2] (by decide +kernel) rfl ?_
        obtain ⟨q6, hq6, h⟩ := pm_bd h
        refine pm_cV (idx := 49) m_Heap_isOver (c_Heap_isOver l h0 D hT hq6) (As := []) (S0 := []) rfl (by decide +kernel) k_Heap_isOver l_Adapter_49 (Nat.le_of_ble_eq_true rfl) (Nat.le_of_ble_eq_true rfl) (Nat.le_refl _) (Nat.le_refl _) ?_
        refine pm_blk (pc' := 42) (L' := [(0, .ref 52), (5, .int x5), (6, .int x6)]) (S' := [.int q6]) (M' := sm g u) [] (by decide +kernel) rfl ?_
        refine pm_if_ne (off := 52) 94 (by decide +kernel) (by decide) (fun hc7 => ?_) (fun hc7 => ?_)
        · rw [if_neg hc7] at h
          refine pm_blk (pc' := 95) (L' := [(0, .ref 52), (5, .int x5), (6, .int x6)]) (S' := [.ref 52]) (M' := sm g u) [pm_o (.aload_n 0)] (by decide +kernel) rfl ?_
          obtain ⟨q8, hq8, h⟩ := pm_bd h
          refine pm_cV (idx := 59) m_Adapter_popResult (c_Adapter_popResult l h0 D hT hq8) (As := []) (S0 := []) rfl (by decide +kernel) k_Adapter_popResult l_Adapter_59 (Nat.le_of_ble_eq_true rfl) (Nat.le_of_ble_eq_true rfl) (Nat.le_refl _) (Nat.le_refl _) ?_
          refine pm_blk (pc' := 98) (L' := [(0, .ref 52), (5, .int x5), (6, .int x6)]) (S' := [.long q8.1]) (M' := sm g q8.2) [] (by decide +kernel) rfl ?_
          have h9 := Option.some.inj h
          subst h9
          exact pm_retl rfl (by decide +kernel) rfl rfl rfl
        · rw [if_pos hc7] at h
          refine pm_blk (pc' := 64) (L' := [(0, .ref 52), (5, .int x5), (6, .int x6)]) (S' := [.int ((u.1 52 6) - 1), .ref 53, .ref 52]) (M' := sm g (wi u 52 6 ((u.1 52 6) - 1))) [pm_o (.aload_n 0), pm_o .dup, pm_of (.getfield 37) 1 6 0, pm_oi (.iconst 1) 1, pm_o .isub, pm_of (.putfield 37) 1 6 0, pm_o (.aload_n 0), pm_o (.aload_n 0), pm_of (.getfield 23) 1 3 2, pm_o (.aload_n 0), pm_of (.getfield 37) 1 6 0] (by decide +kernel) rfl ?_
          obtain ⟨ho9, h⟩ := pm_ifs h
          refine pm_iald (by decide +kernel) rfl (pm_ok_in ho9) ?_
          refine pm_blk (pc' := 73) (L' := [(0, .ref 52), (5, .int x5), (6, .int x6)]) (S' := [.int ((u.1 52 6) - 1), .ref 54, .int (u.1 53 (((u.1 52 6) - 1).toNatClampNeg)), .ref 52]) (M' := sm g (wi u 52 6 ((u.1 52 6) - 1))) [pm_o (.aload_n 0), pm_of (.getfield 27) 1 4 2, pm_o (.aload_n 0), pm_of (.getfield 37) 1 6 0] (by decide +kernel) rfl ?_
          obtain ⟨ho10, h⟩ := pm_ifs h
          refine pm_iald (by decide +kernel) rfl (pm_ok_in ho10) ?_
          refine pm_blk (pc' := 82) (L' := [(0, .ref 52), (5, .int x5), (6, .int x6)]) (S' := [.int ((u.1 52 6) - 1), .ref 55, .int (u.1 54 (((u.1 52 6) - 1).toNatClampNeg)), .int (u.1 53 (((u.1 52 6) - 1).toNatClampNeg)), .ref 52]) (M' := sm g (wi u 52 6 ((u.1 52 6) - 1))) [pm_o (.aload_n 0), pm_of (.getfield 30) 1 5 2, pm_o (.aload_n 0), pm_of (.getfield 37) 1 6 0] (by decide +kernel) rfl ?_
          obtain ⟨ho11, h⟩ := pm_ifs h
          refine pm_lald (by decide +kernel) rfl (pm_ok_in ho11) ?_
          refine pm_blk (pc' := 85) (L' := [(0, .ref 52), (5, .int x5), (6, .int x6)]) (S' := [.int x5, .long (u.2 55 (((u.1 52 6) - 1).toNatClampNeg)), .int (u.1 54 (((u.1 52 6) - 1).toNatClampNeg)), .int (u.1 53 (((u.1 52 6) - 1).toNatClampNeg)), .ref 52]) (M' := sm g (wi u 52 6 ((u.1 52 6) - 1))) [pm_o (.iload 5)] (by decide +kernel) rfl ?_
          obtain ⟨q12, hq12, h⟩ := pm_bd h
          refine pm_cV (idx := 55) m_Adapter_doTask (c_Adapter_doTask l h0 D hT hq12) (As := [.int (u.1 53 (((u.1 52 6) - 1).toNatClampNeg)), .int (u.1 54 (((u.1 52 6) - 1).toNatClampNeg)), .long (u.2 55 (((u.1 52 6) - 1).toNatClampNeg)), .int x5]) (S0 := []) rfl (by decide +kernel) k_Adapter_doTask l_Adapter_55 (Nat.le_of_ble_eq_true rfl) (Nat.le_of_ble_eq_true rfl) (Nat.le_refl _) (Nat.le_refl _) ?_
          refine pm_blk (pc' := 91) (L' := [(6, .int (x6 + 1)), (0, .ref 52), (5, .int x5)]) (S' := []) (M' := sm g q12) [pm_oi (.iinc 6 1) 1] (by decide +kernel) rfl ?_
          refine pm_goto (off := -70) 21 (by decide +kernel) (by decide) ?_
          refine pm_loc [1, 2, 0] rfl ?_
          exact ih x5 (x6 + 1) q12 h
def F_Adapter_adapt (N : Nat) (a1 : Int64) (a2 : Int32) (a3 : Int32) (a4 : Int32) (g : pm_s) (u : pm_J) : Option (Int64 × pm_J) := (F_Adapter_addTask a2 a3 a1 g (wi (wi u 52 6 0) 52 8 0)).bind fun q1 => K_Adapter_adapt_21 N g N a4 0 q1
set_option maxHeartbeats 4000000 in
set_option maxRecDepth 100000 in
theorem c_Adapter_adapt (l : Launch) (h0 : Nat) (D : pm_D) {g : pm_s} {u : pm_J} (hT : sh_T g) {N : Nat} {a1 : Int64} {a2 : Int32} {a3 : Int32} {a4 : Int32} {out : Int64 × pm_J} (h : F_Adapter_adapt N a1 a2 a3 a4 g u = some out) : pm_C l h0 D m_Adapter_adapt (4) [.ref 52, .long a1, .int a2, .int a3, .int a4] (sm g u) (some (.long out.1)) (sm g out.2) := by
  unfold F_Adapter_adapt at h
  refine pm_met (by decide +kernel) (Nat.le_of_ble_eq_true rfl) (Nat.le_refl _) (Nat.le_refl _) ?_
  intro p e R s m args below meth c
  refine pm_blk (pc' := 15) (L' := [(0, .ref 52), (1, .long a1), (3, .int a2), (4, .int a3), (5, .int a4)]) (S' := [.long a1, .int a3, .int a2, .ref 52]) (M' := sm g (wi (wi u 52 6 0) 52 8 0)) [pm_o (.aload_n 0), pm_oi (.iconst 0) 0, pm_of (.putfield 37) 1 6 0, pm_o (.aload_n 0), pm_oi (.iconst 0) 0, pm_of (.putfield 41) 1 8 0, pm_o (.aload_n 0), pm_o (.iload_n 3), pm_o (.iload 4), pm_o (.lload_n 1)] (by decide +kernel) rfl ?_
  obtain ⟨q1, hq1, h⟩ := pm_bd h
  refine pm_cV (idx := 44) m_Adapter_addTask (c_Adapter_addTask l h0 D hT hq1) (As := [.int a2, .int a3, .long a1]) (S0 := []) rfl (by decide +kernel) k_Adapter_addTask l_Adapter_44 (Nat.le_of_ble_eq_true rfl) (Nat.le_of_ble_eq_true rfl) (Nat.le_refl _) (Nat.le_refl _) ?_
  refine pm_blk (pc' := 21) (L' := [(6, .int 0), (0, .ref 52), (1, .long a1), (3, .int a2), (4, .int a3), (5, .int a4)]) (S' := []) (M' := sm g q1) [pm_oi (.iconst 0) 0, pm_o (.istore 6)] (by decide +kernel) rfl ?_
  refine pm_loc [1, 5, 0] rfl ?_
  exact w_Adapter_adapt_21 l h0 D hT N a4 0 q1 h
def F_Machine_forget (N : Nat) (g : pm_s) (u : pm_J) : Option (pm_J) := (F_Heap_clear N g u).bind fun q1 => (F_Frames_clear g q1).bind fun q2 => some (wi (wj (wi (wi q2 44 8 0) 44 9 0) 44 15 0) 44 10 0)
set_option maxHeartbeats 4000000 in
set_option maxRecDepth 100000 in
theorem c_Machine_forget (l : Launch) (h0 : Nat) (D : pm_D) {g : pm_s} {u : pm_J} (hT : sh_T g) {N : Nat} {out : pm_J} (h : F_Machine_forget N g u = some out) : pm_C l h0 D m_Machine_forget (2) [.ref 44] (sm g u) none (sm g out) := by
  unfold F_Machine_forget at h
  refine pm_met (by decide +kernel) (Nat.le_of_ble_eq_true rfl) (Nat.le_refl _) (Nat.le_refl _) ?_
  intro p e R s m args below meth c
  refine pm_blk (pc' := 4) (L' := [(0, .ref 44)]) (S' := [.ref 45]) (M' := sm g u) [pm_o (.aload_n 0), pm_of (.getfield 26) 6 3 2] (by decide +kernel) rfl ?_
  obtain ⟨q1, hq1, h⟩ := pm_bd h
  refine pm_cV (idx := 46) m_Heap_clear (c_Heap_clear l h0 D hT hq1) (As := []) (S0 := []) rfl (by decide +kernel) k_Heap_clear l_Machine_46 (Nat.le_of_ble_eq_true rfl) (Nat.le_of_ble_eq_true rfl) (Nat.le_refl _) (Nat.le_refl _) ?_
  refine pm_blk (pc' := 11) (L' := [(0, .ref 44)]) (S' := [.ref 57]) (M' := sm g q1) [pm_o (.aload_n 0), pm_of (.getfield 42) 6 5 2] (by decide +kernel) rfl ?_
  obtain ⟨q2, hq2, h⟩ := pm_bd h
  refine pm_cV (idx := 49) m_Frames_clear (c_Frames_clear l h0 D hT hq2) (As := []) (S0 := []) rfl (by decide +kernel) k_Frames_clear l_Machine_49 (Nat.le_of_ble_eq_true rfl) (Nat.le_of_ble_eq_true rfl) (Nat.le_refl _) (Nat.le_refl _) ?_
  refine pm_blk (pc' := 34) (L' := [(0, .ref 44)]) (S' := []) (M' := sm g (wi (wj (wi (wi q2 44 8 0) 44 9 0) 44 15 0) 44 10 0)) [pm_o (.aload_n 0), pm_oi (.iconst 0) 0, pm_of (.putfield 50) 6 8 0, pm_o (.aload_n 0), pm_oi (.iconst 0) 0, pm_of (.putfield 54) 6 9 0, pm_o (.aload_n 0), pm_ol (.lconst 0) 0, pm_of (.putfield 57) 6 15 1, pm_o (.aload_n 0), pm_oi (.iconst 0) 0, pm_of (.putfield 61) 6 10 0] (by decide +kernel) rfl ?_
  have h9 := Option.some.inj h
  subst h9
  exact pm_retv rfl (by decide +kernel) rfl rfl
def F_Machine_countOf (a1 : Int32) (g : pm_s) (u : pm_J) : Option (Int32) := if a1 = 0 then some (u.1 44 8) else if a1 = 1 then (F_Heap_madeOf 2 g u).bind fun q3 => (F_Heap_madeOf 3 g u).bind fun q4 => some (q3 + q4) else if a1 = 2 then (F_Heap_openedBoxes g u).bind fun q6 => some q6 else if a1 = 3 then (F_Heap_madeOf 4 g u).bind fun q8 => (F_Heap_madeOf 5 g u).bind fun q9 => some (q8 + q9) else if a1 = 4 then (F_Heap_madeOf 0 g u).bind fun q11 => some q11 else if a1 = 5 then (F_Heap_madeOf 1 g u).bind fun q13 => some q13 else if a1 = 6 then (F_Frames_deepest g u).bind fun q15 => some q15 else some (u.1 44 9)
set_option maxHeartbeats 4000000 in
set_option maxRecDepth 100000 in
theorem c_Machine_countOf (l : Launch) (h0 : Nat) (D : pm_D) {g : pm_s} {u : pm_J} (hT : sh_T g) {a1 : Int32} {out : Int32} (h : F_Machine_countOf a1 g u = some out) : pm_C l h0 D m_Machine_countOf (1) [.ref 44, .int a1] (sm g u) (some (.int out)) (sm g u) := by
  unfold F_Machine_countOf at h
  refine pm_met (by decide +kernel) (Nat.le_of_ble_eq_true rfl) (Nat.le_refl _) (Nat.le_refl _) ?_
  intro p e R s m args below meth c
  refine pm_blk (pc' := 1) (L' := [(0, .ref 44), (1, .int a1)]) (S' := [.int a1]) (M' := sm g u) [pm_o (.iload_n 1)] (by decide +kernel) rfl ?_
  refine pm_tsw (dflt := 118) (lo := 0) (hi := 6) (offs := #[43, 48, 66, 74, 92, 101, 110]) (len := 43) [(0, 44), (1, 49), (2, 67), (3, 75), (4, 93), (5, 102), (6, 111)] 119 (by decide +kernel) (by decide +kernel) ?_
  by_cases hs1 : a1 = 0
  · rw [if_pos hs1] at h
    rw [pm_sw_pos hs1]
    refine pm_blk (pc' := 48) (L' := [(0, .ref 44), (1, .int a1)]) (S' := [.int (u.1 44 8)]) (M' := sm g u) [pm_o (.aload_n 0), pm_of (.getfield 50) 6 8 0] (by decide +kernel) rfl ?_
    have h9 := Option.some.inj h
    subst h9
    exact pm_reti rfl (by decide +kernel) rfl rfl rfl
  rw [if_neg hs1] at h
  rw [pm_sw_neg hs1]
  by_cases hs2 : a1 = 1
  · rw [if_pos hs2] at h
    rw [pm_sw_pos hs2]
    refine pm_blk (pc' := 54) (L' := [(0, .ref 44), (1, .int a1)]) (S' := [.int 2, .ref 45]) (M' := sm g u) [pm_o (.aload_n 0), pm_of (.getfield 26) 6 3 2, pm_oi (.iconst 2) 2] (by decide +kernel) rfl ?_
    obtain ⟨q3, hq3, h⟩ := pm_bd h
    refine pm_cV (idx := 126) m_Heap_madeOf (c_Heap_madeOf l h0 D hT hq3) (As := [.int 2]) (S0 := []) rfl (by decide +kernel) k_Heap_madeOf l_Machine_126 (Nat.le_of_ble_eq_true rfl) (Nat.le_of_ble_eq_true rfl) (Nat.le_refl _) (Nat.le_refl _) ?_
    refine pm_blk (pc' := 62) (L' := [(0, .ref 44), (1, .int a1)]) (S' := [.int 3, .ref 45, .int q3]) (M' := sm g u) [pm_o (.aload_n 0), pm_of (.getfield 26) 6 3 2, pm_oi (.iconst 3) 3] (by decide +kernel) rfl ?_
    obtain ⟨q4, hq4, h⟩ := pm_bd h
    refine pm_cV (idx := 126) m_Heap_madeOf (c_Heap_madeOf l h0 D hT hq4) (As := [.int 3]) (S0 := [.int q3]) rfl (by decide +kernel) k_Heap_madeOf l_Machine_126 (Nat.le_of_ble_eq_true rfl) (Nat.le_of_ble_eq_true rfl) (Nat.le_refl _) (Nat.le_refl _) ?_
    refine pm_blk (pc' := 66) (L' := [(0, .ref 44), (1, .int a1)]) (S' := [.int (q3 + q4)]) (M' := sm g u) [pm_o .iadd] (by decide +kernel) rfl ?_
    have h9 := Option.some.inj h
    subst h9
    exact pm_reti rfl (by decide +kernel) rfl rfl rfl
  rw [if_neg hs2] at h
  rw [pm_sw_neg hs2]
  by_cases hs5 : a1 = 2
  · rw [if_pos hs5] at h
    rw [pm_sw_pos hs5]
    refine pm_blk (pc' := 71) (L' := [(0, .ref 44), (1, .int a1)]) (S' := [.ref 45]) (M' := sm g u) [pm_o (.aload_n 0), pm_of (.getfield 26) 6 3 2] (by decide +kernel) rfl ?_
    obtain ⟨q6, hq6, h⟩ := pm_bd h
    refine pm_cV (idx := 129) m_Heap_openedBoxes (c_Heap_openedBoxes l h0 D hT hq6) (As := []) (S0 := []) rfl (by decide +kernel) k_Heap_openedBoxes l_Machine_129 (Nat.le_of_ble_eq_true rfl) (Nat.le_of_ble_eq_true rfl) (Nat.le_refl _) (Nat.le_refl _) ?_
    refine pm_blk (pc' := 74) (L' := [(0, .ref 44), (1, .int a1)]) (S' := [.int q6]) (M' := sm g u) [] (by decide +kernel) rfl ?_
    have h9 := Option.some.inj h
    subst h9
    exact pm_reti rfl (by decide +kernel) rfl rfl rfl
  rw [if_neg hs5] at h
  rw [pm_sw_neg hs5]
  by_cases hs7 : a1 = 3
  · rw [if_pos hs7] at h
    rw [pm_sw_pos hs7]
    refine pm_blk (pc' := 80) (L' := [(0, .ref 44), (1, .int a1)]) (S' := [.int 4, .ref 45]) (M' := sm g u) [pm_o (.aload_n 0), pm_of (.getfield 26) 6 3 2, pm_oi (.iconst 4) 4] (by decide +kernel) rfl ?_
    obtain ⟨q8, hq8, h⟩ := pm_bd h
    refine pm_cV (idx := 126) m_Heap_madeOf (c_Heap_madeOf l h0 D hT hq8) (As := [.int 4]) (S0 := []) rfl (by decide +kernel) k_Heap_madeOf l_Machine_126 (Nat.le_of_ble_eq_true rfl) (Nat.le_of_ble_eq_true rfl) (Nat.le_refl _) (Nat.le_refl _) ?_
    refine pm_blk (pc' := 88) (L' := [(0, .ref 44), (1, .int a1)]) (S' := [.int 5, .ref 45, .int q8]) (M' := sm g u) [pm_o (.aload_n 0), pm_of (.getfield 26) 6 3 2, pm_oi (.iconst 5) 5] (by decide +kernel) rfl ?_
    obtain ⟨q9, hq9, h⟩ := pm_bd h
    refine pm_cV (idx := 126) m_Heap_madeOf (c_Heap_madeOf l h0 D hT hq9) (As := [.int 5]) (S0 := [.int q8]) rfl (by decide +kernel) k_Heap_madeOf l_Machine_126 (Nat.le_of_ble_eq_true rfl) (Nat.le_of_ble_eq_true rfl) (Nat.le_refl _) (Nat.le_refl _) ?_
    refine pm_blk (pc' := 92) (L' := [(0, .ref 44), (1, .int a1)]) (S' := [.int (q8 + q9)]) (M' := sm g u) [pm_o .iadd] (by decide +kernel) rfl ?_
    have h9 := Option.some.inj h
    subst h9
    exact pm_reti rfl (by decide +kernel) rfl rfl rfl
  rw [if_neg hs7] at h
  rw [pm_sw_neg hs7]
  by_cases hs10 : a1 = 4
  · rw [if_pos hs10] at h
    rw [pm_sw_pos hs10]
    refine pm_blk (pc' := 98) (L' := [(0, .ref 44), (1, .int a1)]) (S' := [.int 0, .ref 45]) (M' := sm g u) [pm_o (.aload_n 0), pm_of (.getfield 26) 6 3 2, pm_oi (.iconst 0) 0] (by decide +kernel) rfl ?_
    obtain ⟨q11, hq11, h⟩ := pm_bd h
    refine pm_cV (idx := 126) m_Heap_madeOf (c_Heap_madeOf l h0 D hT hq11) (As := [.int 0]) (S0 := []) rfl (by decide +kernel) k_Heap_madeOf l_Machine_126 (Nat.le_of_ble_eq_true rfl) (Nat.le_of_ble_eq_true rfl) (Nat.le_refl _) (Nat.le_refl _) ?_
    refine pm_blk (pc' := 101) (L' := [(0, .ref 44), (1, .int a1)]) (S' := [.int q11]) (M' := sm g u) [] (by decide +kernel) rfl ?_
    have h9 := Option.some.inj h
    subst h9
    exact pm_reti rfl (by decide +kernel) rfl rfl rfl
  rw [if_neg hs10] at h
  rw [pm_sw_neg hs10]
  by_cases hs12 : a1 = 5
  · rw [if_pos hs12] at h
    rw [pm_sw_pos hs12]
    refine pm_blk (pc' := 107) (L' := [(0, .ref 44), (1, .int a1)]) (S' := [.int 1, .ref 45]) (M' := sm g u) [pm_o (.aload_n 0), pm_of (.getfield 26) 6 3 2, pm_oi (.iconst 1) 1] (by decide +kernel) rfl ?_
    obtain ⟨q13, hq13, h⟩ := pm_bd h
    refine pm_cV (idx := 126) m_Heap_madeOf (c_Heap_madeOf l h0 D hT hq13) (As := [.int 1]) (S0 := []) rfl (by decide +kernel) k_Heap_madeOf l_Machine_126 (Nat.le_of_ble_eq_true rfl) (Nat.le_of_ble_eq_true rfl) (Nat.le_refl _) (Nat.le_refl _) ?_
    refine pm_blk (pc' := 110) (L' := [(0, .ref 44), (1, .int a1)]) (S' := [.int q13]) (M' := sm g u) [] (by decide +kernel) rfl ?_
    have h9 := Option.some.inj h
    subst h9
    exact pm_reti rfl (by decide +kernel) rfl rfl rfl
  rw [if_neg hs12] at h
  rw [pm_sw_neg hs12]
  by_cases hs14 : a1 = 6
  · rw [if_pos hs14] at h
    rw [pm_sw_pos hs14]
    refine pm_blk (pc' := 115) (L' := [(0, .ref 44), (1, .int a1)]) (S' := [.ref 57]) (M' := sm g u) [pm_o (.aload_n 0), pm_of (.getfield 42) 6 5 2] (by decide +kernel) rfl ?_
    obtain ⟨q15, hq15, h⟩ := pm_bd h
    refine pm_cV (idx := 133) m_Frames_deepest (c_Frames_deepest l h0 D hT hq15) (As := []) (S0 := []) rfl (by decide +kernel) k_Frames_deepest l_Machine_133 (Nat.le_of_ble_eq_true rfl) (Nat.le_of_ble_eq_true rfl) (Nat.le_refl _) (Nat.le_refl _) ?_
    refine pm_blk (pc' := 118) (L' := [(0, .ref 44), (1, .int a1)]) (S' := [.int q15]) (M' := sm g u) [] (by decide +kernel) rfl ?_
    have h9 := Option.some.inj h
    subst h9
    exact pm_reti rfl (by decide +kernel) rfl rfl rfl
  rw [if_neg hs14] at h
  rw [pm_sw_neg hs14]
  refine pm_pc (pc' := 119) rfl ?_
  refine pm_blk (pc' := 123) (L' := [(0, .ref 44), (1, .int a1)]) (S' := [.int (u.1 44 9)]) (M' := sm g u) [pm_o (.aload_n 0), pm_of (.getfield 54) 6 9 0] (by decide +kernel) rfl ?_
  have h9 := Option.some.inj h
  subst h9
  exact pm_reti rfl (by decide +kernel) rfl rfl rfl
def K_Integer_numberOfLeadingZeros_61 (N : Nat) (g : pm_s) (u : pm_J) (x0 : Int32) (x1 : Int32) : Option (Int32) := if x0 < 4 then some (x1 - ((x0.toUInt32 >>> ((1 : Int32).toUInt32 &&& Int32.toUInt32 31)).toInt32)) else some ((x1 + (-2)) - ((((x0.toUInt32 >>> ((2 : Int32).toUInt32 &&& Int32.toUInt32 31)).toInt32).toUInt32 >>> ((1 : Int32).toUInt32 &&& Int32.toUInt32 31)).toInt32))
set_option maxHeartbeats 4000000 in
set_option maxRecDepth 100000 in
theorem w_Integer_numberOfLeadingZeros_61 (l : Launch) (h0 : Nat) (D : pm_D) {g : pm_s} (hT : sh_T g) {N : Nat} {u : pm_J} {out : Int32} {p : Program} {e : Env} {R : Room} {s : State} {m : MethodId} {args : Array Value} {below : List Frame} {meth : Method} {c : Code} : ∀ (x0 : Int32) (x1 : Int32), K_Integer_numberOfLeadingZeros_61 N g u x0 x1 = some out → pm_V (p, l, e, R, s, m, args, below, meth, c) m_Integer_numberOfLeadingZeros h0 D (g.1, g.2.1, g.1, g.2.1, 0) (pm_E (p, l, e, R, s, m, args, below, meth, c) h0 D (sm g u) (some (.int out)) (sm g u)) 61 [(0, .int x0), (1, .int x1)] [] (sm g u) := by
    intro x0 x1 h
    unfold K_Integer_numberOfLeadingZeros_61 at h
    refine pm_blk (pc' := 63) (L' := [(0, .int x0), (1, .int x1)]) (S' := [.int 4, .int x0]) (M' := sm g u) [pm_o (.iload_n 0), pm_oi (.iconst 4) 4] (by decide +kernel) rfl ?_
    refine pm_ic_lt (off := 10) 73 (by decide +kernel) (by decide) (fun hc5 => ?_) (fun hc5 => ?_)
    · rw [if_pos hc5] at h
      refine pm_blk (pc' := 78) (L' := [(0, .int x0), (1, .int x1)]) (S' := [.int (x1 - ((x0.toUInt32 >>> ((1 : Int32).toUInt32 &&& Int32.toUInt32 31)).toInt32))]) (M' := sm g u) [pm_o (.iload_n 1), pm_o (.iload_n 0), pm_oi (.iconst 1) 1, pm_o .iushr, pm_o .isub] (by decide +kernel) rfl ?_
      have h9 := Option.some.inj h
      subst h9
      exact pm_reti rfl (by decide +kernel) rfl rfl rfl
    · rw [if_neg hc5] at h
      refine pm_blk (pc' := 78) (L' := [(0, .int ((x0.toUInt32 >>> ((2 : Int32).toUInt32 &&& Int32.toUInt32 31)).toInt32)), (1, .int (x1 + (-2)))]) (S' := [.int ((x1 + (-2)) - ((((x0.toUInt32 >>> ((2 : Int32).toUInt32 &&& Int32.toUInt32 31)).toInt32).toUInt32 >>> ((1 : Int32).toUInt32 &&& Int32.toUInt32 31)).toInt32))]) (M' := sm g u) [pm_oi (.iinc 1 (-2)) (-2), pm_o (.iload_n 0), pm_oi (.iconst 2) 2, pm_o .iushr, pm_o (.istore_n 0), pm_o (.iload_n 1), pm_o (.iload_n 0), pm_oi (.iconst 1) 1, pm_o .iushr, pm_o .isub] (by decide +kernel) rfl ?_
      have h9 := Option.some.inj h
      subst h9
      exact pm_reti rfl (by decide +kernel) rfl rfl rfl
def K_Integer_numberOfLeadingZeros_33 (N : Nat) (g : pm_s) (u : pm_J) (x0 : Int32) (x1 : Int32) : Option (Int32) := if x0 < 256 then if x0 < 16 then K_Integer_numberOfLeadingZeros_61 N g u x0 x1 else K_Integer_numberOfLeadingZeros_61 N g u ((x0.toUInt32 >>> ((4 : Int32).toUInt32 &&& Int32.toUInt32 31)).toInt32) (x1 + (-4)) else if ((x0.toUInt32 >>> ((8 : Int32).toUInt32 &&& Int32.toUInt32 31)).toInt32) < 16 then K_Integer_numberOfLeadingZeros_61 N g u ((x0.toUInt32 >>> ((8 : Int32).toUInt32 &&& Int32.toUInt32 31)).toInt32) (x1 + (-8)) else K_Integer_numberOfLeadingZeros_61 N g u ((((x0.toUInt32 >>> ((8 : Int32).toUInt32 &&& Int32.toUInt32 31)).toInt32).toUInt32 >>> ((4 : Int32).toUInt32 &&& Int32.toUInt32 31)).toInt32) ((x1 + (-8)) + (-4))
set_option maxHeartbeats 4000000 in
set_option maxRecDepth 100000 in
theorem w_Integer_numberOfLeadingZeros_33 (l : Launch) (h0 : Nat) (D : pm_D) {g : pm_s} (hT : sh_T g) {N : Nat} {u : pm_J} {out : Int32} {p : Program} {e : Env} {R : Room} {s : State} {m : MethodId} {args : Array Value} {below : List Frame} {meth : Method} {c : Code} : ∀ (x0 : Int32) (x1 : Int32), K_Integer_numberOfLeadingZeros_33 N g u x0 x1 = some out → pm_V (p, l, e, R, s, m, args, below, meth, c) m_Integer_numberOfLeadingZeros h0 D (g.1, g.2.1, g.1, g.2.1, 0) (pm_E (p, l, e, R, s, m, args, below, meth, c) h0 D (sm g u) (some (.int out)) (sm g u)) 33 [(0, .int x0), (1, .int x1)] [] (sm g u) := by
    intro x0 x1 h
    unfold K_Integer_numberOfLeadingZeros_33 at h
    refine pm_blk (pc' := 37) (L' := [(0, .int x0), (1, .int x1)]) (S' := [.int 256, .int x0]) (M' := sm g u) [pm_o (.iload_n 0), pm_oi (.sipush 256) 256] (by decide +kernel) rfl ?_
    refine pm_ic_lt (off := 11) 48 (by decide +kernel) (by decide) (fun hc3 => ?_) (fun hc3 => ?_)
    · rw [if_pos hc3] at h
      refine pm_blk (pc' := 51) (L' := [(0, .int x0), (1, .int x1)]) (S' := [.int 16, .int x0]) (M' := sm g u) [pm_o (.iload_n 0), pm_oi (.bipush 16) 16] (by decide +kernel) rfl ?_
      refine pm_ic_lt (off := 10) 61 (by decide +kernel) (by decide) (fun hc4 => ?_) (fun hc4 => ?_)
      · rw [if_pos hc4] at h
        refine pm_loc [0, 1] rfl ?_
        exact w_Integer_numberOfLeadingZeros_61 l h0 D hT x0 x1 h
      · rw [if_neg hc4] at h
        refine pm_blk (pc' := 61) (L' := [(0, .int ((x0.toUInt32 >>> ((4 : Int32).toUInt32 &&& Int32.toUInt32 31)).toInt32)), (1, .int (x1 + (-4)))]) (S' := []) (M' := sm g u) [pm_oi (.iinc 1 (-4)) (-4), pm_o (.iload_n 0), pm_oi (.iconst 4) 4, pm_o .iushr, pm_o (.istore_n 0)] (by decide +kernel) rfl ?_
        refine pm_loc [0, 1] rfl ?_
        exact w_Integer_numberOfLeadingZeros_61 l h0 D hT ((x0.toUInt32 >>> ((4 : Int32).toUInt32 &&& Int32.toUInt32 31)).toInt32) (x1 + (-4)) h
    · rw [if_neg hc3] at h
      refine pm_blk (pc' := 51) (L' := [(0, .int ((x0.toUInt32 >>> ((8 : Int32).toUInt32 &&& Int32.toUInt32 31)).toInt32)), (1, .int (x1 + (-8)))]) (S' := [.int 16, .int ((x0.toUInt32 >>> ((8 : Int32).toUInt32 &&& Int32.toUInt32 31)).toInt32)]) (M' := sm g u) [pm_oi (.iinc 1 (-8)) (-8), pm_o (.iload_n 0), pm_oi (.bipush 8) 8, pm_o .iushr, pm_o (.istore_n 0), pm_o (.iload_n 0), pm_oi (.bipush 16) 16] (by decide +kernel) rfl ?_
      refine pm_ic_lt (off := 10) 61 (by decide +kernel) (by decide) (fun hc6 => ?_) (fun hc6 => ?_)
      · rw [if_pos hc6] at h
        refine pm_loc [0, 1] rfl ?_
        exact w_Integer_numberOfLeadingZeros_61 l h0 D hT ((x0.toUInt32 >>> ((8 : Int32).toUInt32 &&& Int32.toUInt32 31)).toInt32) (x1 + (-8)) h
      · rw [if_neg hc6] at h
        refine pm_blk (pc' := 61) (L' := [(0, .int ((((x0.toUInt32 >>> ((8 : Int32).toUInt32 &&& Int32.toUInt32 31)).toInt32).toUInt32 >>> ((4 : Int32).toUInt32 &&& Int32.toUInt32 31)).toInt32)), (1, .int ((x1 + (-8)) + (-4)))]) (S' := []) (M' := sm g u) [pm_oi (.iinc 1 (-4)) (-4), pm_o (.iload_n 0), pm_oi (.iconst 4) 4, pm_o .iushr, pm_o (.istore_n 0)] (by decide +kernel) rfl ?_
        refine pm_loc [0, 1] rfl ?_
        exact w_Integer_numberOfLeadingZeros_61 l h0 D hT ((((x0.toUInt32 >>> ((8 : Int32).toUInt32 &&& Int32.toUInt32 31)).toInt32).toUInt32 >>> ((4 : Int32).toUInt32 &&& Int32.toUInt32 31)).toInt32) ((x1 + (-8)) + (-4)) h
def F_Integer_numberOfLeadingZeros (N : Nat) (a1 : Int32) (g : pm_s) (u : pm_J) : Option (Int32) := if 0 < a1 then if a1 < 65536 then K_Integer_numberOfLeadingZeros_33 N g u a1 31 else K_Integer_numberOfLeadingZeros_33 N g u ((a1.toUInt32 >>> ((16 : Int32).toUInt32 &&& Int32.toUInt32 31)).toInt32) (31 + (-16)) else if a1 = 0 then some 32 else some 0
set_option maxHeartbeats 4000000 in
set_option maxRecDepth 100000 in
theorem c_Integer_numberOfLeadingZeros (l : Launch) (h0 : Nat) (D : pm_D) {g : pm_s} {u : pm_J} (hT : sh_T g) {N : Nat} {a1 : Int32} {out : Int32} (h : F_Integer_numberOfLeadingZeros N a1 g u = some out) : pm_C l h0 D m_Integer_numberOfLeadingZeros (0) [.int a1] (sm g u) (some (.int out)) (sm g u) := by
  unfold F_Integer_numberOfLeadingZeros at h
  refine pm_met (by decide +kernel) (Nat.le_of_ble_eq_true rfl) (Nat.le_refl _) (Nat.le_refl _) ?_
  intro p e R s m args below meth c
  refine pm_blk (pc' := 1) (L' := [(0, .int a1)]) (S' := [.int a1]) (M' := sm g u) [pm_o (.iload_n 0)] (by decide +kernel) rfl ?_
  refine pm_if_gt (off := 14) 15 (by decide +kernel) (by decide) (fun hc1 => ?_) (fun hc1 => ?_)
  · rw [if_pos hc1] at h
    refine pm_blk (pc' := 19) (L' := [(1, .int 31), (0, .int a1)]) (S' := [.int a1]) (M' := sm g u) [pm_oi (.bipush 31) 31, pm_o (.istore_n 1), pm_o (.iload_n 0)] (by decide +kernel) rfl ?_
    refine pm_ldcw (idx := 264) (v := 65536) (by decide +kernel) (by decide +kernel) ?_
    refine pm_blk (pc' := 22) (L' := [(1, .int 31), (0, .int a1)]) (S' := [.int 65536, .int a1]) (M' := sm g u) [] (by decide +kernel) rfl ?_
    refine pm_ic_lt (off := 11) 33 (by decide +kernel) (by decide) (fun hc2 => ?_) (fun hc2 => ?_)
    · rw [if_pos hc2] at h
      refine pm_loc [1, 0] rfl ?_
      exact w_Integer_numberOfLeadingZeros_33 l h0 D hT a1 31 h
    · rw [if_neg hc2] at h
      refine pm_blk (pc' := 33) (L' := [(0, .int ((a1.toUInt32 >>> ((16 : Int32).toUInt32 &&& Int32.toUInt32 31)).toInt32)), (1, .int (31 + (-16)))]) (S' := []) (M' := sm g u) [pm_oi (.iinc 1 (-16)) (-16), pm_o (.iload_n 0), pm_oi (.bipush 16) 16, pm_o .iushr, pm_o (.istore_n 0)] (by decide +kernel) rfl ?_
      refine pm_loc [0, 1] rfl ?_
      exact w_Integer_numberOfLeadingZeros_33 l h0 D hT ((a1.toUInt32 >>> ((16 : Int32).toUInt32 &&& Int32.toUInt32 31)).toInt32) (31 + (-16)) h
  · rw [if_neg hc1] at h
    refine pm_blk (pc' := 5) (L' := [(0, .int a1)]) (S' := [.int a1]) (M' := sm g u) [pm_o (.iload_n 0)] (by decide +kernel) rfl ?_
    refine pm_if_ne (off := 8) 13 (by decide +kernel) (by decide) (fun hc7 => ?_) (fun hc7 => ?_)
    · rw [if_neg hc7] at h
      refine pm_blk (pc' := 14) (L' := [(0, .int a1)]) (S' := [.int 0]) (M' := sm g u) [pm_oi (.iconst 0) 0] (by decide +kernel) rfl ?_
      have h9 := Option.some.inj h
      subst h9
      exact pm_reti rfl (by decide +kernel) rfl rfl rfl
    · rw [if_pos hc7] at h
      refine pm_blk (pc' := 10) (L' := [(0, .int a1)]) (S' := [.int 32]) (M' := sm g u) [pm_oi (.bipush 32) 32] (by decide +kernel) rfl ?_
      refine pm_goto (off := 4) 14 (by decide +kernel) (by decide) ?_
      have h9 := Option.some.inj h
      subst h9
      exact pm_reti rfl (by decide +kernel) rfl rfl rfl
def F_Machine_lengthOf (N : Nat) (a1 : Int32) (g : pm_s) (u : pm_J) : Option (Int32) := (F_Integer_numberOfLeadingZeros N a1 g u).bind fun q1 => some (31 - q1)
set_option maxHeartbeats 4000000 in
set_option maxRecDepth 100000 in
theorem c_Machine_lengthOf (l : Launch) (h0 : Nat) (D : pm_D) {g : pm_s} {u : pm_J} (hT : sh_T g) {N : Nat} {a1 : Int32} {out : Int32} (h : F_Machine_lengthOf N a1 g u = some out) : pm_C l h0 D m_Machine_lengthOf (1) [.int a1] (sm g u) (some (.int out)) (sm g u) := by
  unfold F_Machine_lengthOf at h
  refine pm_met (by decide +kernel) (Nat.le_of_ble_eq_true rfl) (Nat.le_refl _) (Nat.le_refl _) ?_
  intro p e R s m args below meth c
  refine pm_blk (pc' := 3) (L' := [(0, .int a1)]) (S' := [.int a1, .int 31]) (M' := sm g u) [pm_oi (.bipush 31) 31, pm_o (.iload_n 0)] (by decide +kernel) rfl ?_
  obtain ⟨q1, hq1, h⟩ := pm_bd h
  refine pm_cS (idx := 173) m_Integer_numberOfLeadingZeros (c_Integer_numberOfLeadingZeros l h0 D hT hq1) (As := [.int a1]) (S0 := [.int 31]) rfl (by decide +kernel) k_Integer_numberOfLeadingZeros l_Machine_173 (Nat.le_of_ble_eq_true rfl) (Nat.le_of_ble_eq_true rfl) (Nat.le_refl _) (Nat.le_refl _) ?_
  refine pm_blk (pc' := 7) (L' := [(0, .int a1)]) (S' := [.int (31 - q1)]) (M' := sm g u) [pm_o .isub] (by decide +kernel) rfl ?_
  have h9 := Option.some.inj h
  subst h9
  exact pm_reti rfl (by decide +kernel) rfl rfl rfl
def K_Machine_typeAt_27 (N : Nat) (g : pm_s) (u : pm_J) : Nat → Int32 → Int32 → Int32 → Option (Int32)
  | 0, _, _, _ => none
  | n + 1, x1, x2, x3 => if x3 < 0 then some x2 else (F_Types_kind x2 g u).bind fun q5 => if q5 = 3 then if (((x1.toUInt32 >>> (x3.toUInt32 &&& Int32.toUInt32 31)).toInt32) &&& 1) = 0 then (F_Types_left x2 g u).bind fun q9 => K_Machine_typeAt_27 N g u  n x1 q9 (x3 + (-1)) else (F_Types_right x2 g u).bind fun q8 => K_Machine_typeAt_27 N g u  n x1 q8 (x3 + (-1)) else some (-1)
set_option maxHeartbeats 4000000 in
set_option maxRecDepth 100000 in
theorem w_Machine_typeAt_27 (l : Launch) (h0 : Nat) (D : pm_D) {g : pm_s} (hT : sh_T g) {N : Nat} {u : pm_J} {out : Int32} {p : Program} {e : Env} {R : Room} {s : State} {m : MethodId} {args : Array Value} {below : List Frame} {meth : Method} {c : Code} : ∀ (n : Nat) (x1 : Int32) (x2 : Int32) (x3 : Int32), K_Machine_typeAt_27 N g u n x1 x2 x3 = some out → pm_V (p, l, e, R, s, m, args, below, meth, c) m_Machine_typeAt h0 D (g.1, g.2.1, g.1, g.2.1, 2) (pm_E (p, l, e, R, s, m, args, below, meth, c) h0 D (sm g u) (some (.int out)) (sm g u)) 27 [(0, .ref 44), (1, .int x1), (2, .int x2), (3, .int x3)] [] (sm g u) := by
  intro n
  induction n with
  | zero => intro x1 x2 x3 h; cases h
  | succ n ih =>
    intro x1 x2 x3 h
    rw [K_Machine_typeAt_27] at h
    refine pm_blk (pc' := 28) (L' := [(0, .ref 44), (1, .int x1), (2, .int x2), (3, .int x3)]) (S' := [.int x3]) (M' := sm g u) [pm_o (.iload_n 3)] (by decide +kernel) rfl ?_
    refine pm_if_lt (off := 51) 79 (by decide +kernel) (by decide) (fun hc4 => ?_) (fun hc4 => ?_)
    · rw [if_pos hc4] at h
      refine pm_blk (pc' := 80) (L' := [(0, .ref 44), (1, .int x1), (2, .int x2), (3, .int x3)]) (S' := [.int x2]) (M' := sm g u) [pm_o (.iload_n 2)] (by decide +kernel) rfl ?_
      have h9 := Option.some.inj h
      subst h9
      exact pm_reti rfl (by decide +kernel) rfl rfl rfl
    · rw [if_neg hc4] at h
      refine pm_blk (pc' := 36) (L' := [(0, .ref 44), (1, .int x1), (2, .int x2), (3, .int x3)]) (S' := [.int x2, .ref 10]) (M' := sm g u) [pm_o (.aload_n 0), pm_of (.getfield 9) 6 0 2, pm_o (.iload_n 2)] (by decide +kernel) rfl ?_
      obtain ⟨q5, hq5, h⟩ := pm_bd h
      refine pm_cV (idx := 139) m_Types_kind (c_Types_kind l h0 D hT hq5) (As := [.int x2]) (S0 := []) rfl (by decide +kernel) k_Types_kind l_Machine_139 (Nat.le_of_ble_eq_true rfl) (Nat.le_of_ble_eq_true rfl) (Nat.le_refl _) (Nat.le_refl _) ?_
      refine pm_blk (pc' := 40) (L' := [(0, .ref 44), (1, .int x1), (2, .int x2), (3, .int x3)]) (S' := [.int 3, .int q5]) (M' := sm g u) [pm_oi (.iconst 3) 3] (by decide +kernel) rfl ?_
      refine pm_ic_eq (off := 5) 45 (by decide +kernel) (by decide) (fun hc6 => ?_) (fun hc6 => ?_)
      · rw [if_pos hc6] at h
        refine pm_blk (pc' := 50) (L' := [(0, .ref 44), (1, .int x1), (2, .int x2), (3, .int x3)]) (S' := [.int (((x1.toUInt32 >>> (x3.toUInt32 &&& Int32.toUInt32 31)).toInt32) &&& 1)]) (M' := sm g u) [pm_o (.iload_n 1), pm_o (.iload_n 3), pm_o .iushr, pm_oi (.iconst 1) 1, pm_o .iand] (by decide +kernel) rfl ?_
        refine pm_if_ne (off := 14) 64 (by decide +kernel) (by decide) (fun hc7 => ?_) (fun hc7 => ?_)
        · rw [if_neg hc7] at h
          refine pm_blk (pc' := 69) (L' := [(0, .ref 44), (1, .int x1), (2, .int x2), (3, .int x3)]) (S' := [.int x2, .ref 10]) (M' := sm g u) [pm_o (.aload_n 0), pm_of (.getfield 9) 6 0 2, pm_o (.iload_n 2)] (by decide +kernel) rfl ?_
          obtain ⟨q8, hq8, h⟩ := pm_bd h
          refine pm_cV (idx := 167) m_Types_right (c_Types_right l h0 D hT hq8) (As := [.int x2]) (S0 := []) rfl (by decide +kernel) k_Types_right l_Machine_167 (Nat.le_of_ble_eq_true rfl) (Nat.le_of_ble_eq_true rfl) (Nat.le_refl _) (Nat.le_refl _) ?_
          refine pm_blk (pc' := 76) (L' := [(3, .int (x3 + (-1))), (2, .int q8), (0, .ref 44), (1, .int x1)]) (S' := []) (M' := sm g u) [pm_o (.istore_n 2), pm_oi (.iinc 3 (-1)) (-1)] (by decide +kernel) rfl ?_
          refine pm_goto (off := -49) 27 (by decide +kernel) (by decide) ?_
          refine pm_loc [2, 3, 1, 0] rfl ?_
          exact ih x1 q8 (x3 + (-1)) h
        · rw [if_pos hc7] at h
          refine pm_blk (pc' := 58) (L' := [(0, .ref 44), (1, .int x1), (2, .int x2), (3, .int x3)]) (S' := [.int x2, .ref 10]) (M' := sm g u) [pm_o (.aload_n 0), pm_of (.getfield 9) 6 0 2, pm_o (.iload_n 2)] (by decide +kernel) rfl ?_
          obtain ⟨q9, hq9, h⟩ := pm_bd h
          refine pm_cV (idx := 164) m_Types_left (c_Types_left l h0 D hT hq9) (As := [.int x2]) (S0 := []) rfl (by decide +kernel) k_Types_left l_Machine_164 (Nat.le_of_ble_eq_true rfl) (Nat.le_of_ble_eq_true rfl) (Nat.le_refl _) (Nat.le_refl _) ?_
          refine pm_blk (pc' := 61) (L' := [(0, .ref 44), (1, .int x1), (2, .int x2), (3, .int x3)]) (S' := [.int q9]) (M' := sm g u) [] (by decide +kernel) rfl ?_
          refine pm_goto (off := 11) 72 (by decide +kernel) (by decide) ?_
          refine pm_blk (pc' := 76) (L' := [(3, .int (x3 + (-1))), (2, .int q9), (0, .ref 44), (1, .int x1)]) (S' := []) (M' := sm g u) [pm_o (.istore_n 2), pm_oi (.iinc 3 (-1)) (-1)] (by decide +kernel) rfl ?_
          refine pm_goto (off := -49) 27 (by decide +kernel) (by decide) ?_
          refine pm_loc [2, 3, 1, 0] rfl ?_
          exact ih x1 q9 (x3 + (-1)) h
      · rw [if_neg hc6] at h
        refine pm_blk (pc' := 44) (L' := [(0, .ref 44), (1, .int x1), (2, .int x2), (3, .int x3)]) (S' := [.int (-1)]) (M' := sm g u) [pm_oi (.iconst (-1)) (-1)] (by decide +kernel) rfl ?_
        have h9 := Option.some.inj h
        subst h9
        exact pm_reti rfl (by decide +kernel) rfl rfl rfl
def F_Machine_typeAt (N : Nat) (a1 : Int32) (g : pm_s) (u : pm_J) : Option (Int32) := if (u.1 44 10) = 1 then if 1 ≤ a1 then (F_Machine_lengthOf N a1 g u).bind fun q3 => K_Machine_typeAt_27 N g u N a1 (u.1 44 16) (q3 - 1) else some (-1) else some (-1)
set_option maxHeartbeats 4000000 in
set_option maxRecDepth 100000 in
theorem c_Machine_typeAt (l : Launch) (h0 : Nat) (D : pm_D) {g : pm_s} {u : pm_J} (hT : sh_T g) {N : Nat} {a1 : Int32} {out : Int32} (h : F_Machine_typeAt N a1 g u = some out) : pm_C l h0 D m_Machine_typeAt (2) [.ref 44, .int a1] (sm g u) (some (.int out)) (sm g u) := by
  unfold F_Machine_typeAt at h
  refine pm_met (by decide +kernel) (Nat.le_of_ble_eq_true rfl) (Nat.le_refl _) (Nat.le_refl _) ?_
  intro p e R s m args below meth c
  refine pm_blk (pc' := 5) (L' := [(0, .ref 44), (1, .int a1)]) (S' := [.int 1, .int (u.1 44 10)]) (M' := sm g u) [pm_o (.aload_n 0), pm_of (.getfield 61) 6 10 0, pm_oi (.iconst 1) 1] (by decide +kernel) rfl ?_
  refine pm_ic_ne (off := 8) 13 (by decide +kernel) (by decide) (fun hc1 => ?_) (fun hc1 => ?_)
  · rw [if_neg hc1] at h
    refine pm_blk (pc' := 14) (L' := [(0, .ref 44), (1, .int a1)]) (S' := [.int (-1)]) (M' := sm g u) [pm_oi (.iconst (-1)) (-1)] (by decide +kernel) rfl ?_
    have h9 := Option.some.inj h
    subst h9
    exact pm_reti rfl (by decide +kernel) rfl rfl rfl
  · rw [if_pos hc1] at h
    refine pm_blk (pc' := 10) (L' := [(0, .ref 44), (1, .int a1)]) (S' := [.int 1, .int a1]) (M' := sm g u) [pm_o (.iload_n 1), pm_oi (.iconst 1) 1] (by decide +kernel) rfl ?_
    refine pm_ic_ge (off := 5) 15 (by decide +kernel) (by decide) (fun hc2 => ?_) (fun hc2 => ?_)
    · rw [if_pos hc2] at h
      refine pm_blk (pc' := 21) (L' := [(2, .int (u.1 44 16)), (0, .ref 44), (1, .int a1)]) (S' := [.int a1]) (M' := sm g u) [pm_o (.aload_n 0), pm_of (.getfield 80) 6 16 0, pm_o (.istore_n 2), pm_o (.iload_n 1)] (by decide +kernel) rfl ?_
      obtain ⟨q3, hq3, h⟩ := pm_bd h
      refine pm_cS (idx := 161) m_Machine_lengthOf (c_Machine_lengthOf l h0 D hT hq3) (As := [.int a1]) (S0 := []) rfl (by decide +kernel) k_Machine_lengthOf l_Machine_161 (Nat.le_of_ble_eq_true rfl) (Nat.le_of_ble_eq_true rfl) (Nat.le_refl _) (Nat.le_refl _) ?_
      refine pm_blk (pc' := 27) (L' := [(3, .int (q3 - 1)), (2, .int (u.1 44 16)), (0, .ref 44), (1, .int a1)]) (S' := []) (M' := sm g u) [pm_oi (.iconst 1) 1, pm_o .isub, pm_o (.istore_n 3)] (by decide +kernel) rfl ?_
      refine pm_loc [2, 3, 1, 0] rfl ?_
      exact w_Machine_typeAt_27 l h0 D hT N a1 (u.1 44 16) (q3 - 1) h
    · rw [if_neg hc2] at h
      refine pm_blk (pc' := 14) (L' := [(0, .ref 44), (1, .int a1)]) (S' := [.int (-1)]) (M' := sm g u) [pm_oi (.iconst (-1)) (-1)] (by decide +kernel) rfl ?_
      have h9 := Option.some.inj h
      subst h9
      exact pm_reti rfl (by decide +kernel) rfl rfl rfl
def K_Machine_valueAt_13 (N : Nat) (g : pm_s) (u : pm_J) : Nat → Int32 → Int64 → Int32 → Option (Int64)
  | 0, _, _, _ => none
  | n + 1, x1, y2, x4 => if x4 < 0 then some y2 else if (((x1.toUInt32 >>> (x4.toUInt32 &&& Int32.toUInt32 31)).toInt32) &&& 1) = 0 then (F_Heap_first y2 g u).bind fun q5 => K_Machine_valueAt_13 N g u  n x1 q5 (x4 + (-1)) else (F_Heap_second y2 g u).bind fun q4 => K_Machine_valueAt_13 N g u  n x1 q4 (x4 + (-1))
set_option maxHeartbeats 4000000 in
set_option maxRecDepth 100000 in
theorem w_Machine_valueAt_13 (l : Launch) (h0 : Nat) (D : pm_D) {g : pm_s} (hT : sh_T g) {N : Nat} {u : pm_J} {out : Int64} {p : Program} {e : Env} {R : Room} {s : State} {m : MethodId} {args : Array Value} {below : List Frame} {meth : Method} {c : Code} : ∀ (n : Nat) (x1 : Int32) (y2 : Int64) (x4 : Int32), K_Machine_valueAt_13 N g u n x1 y2 x4 = some out → pm_V (p, l, e, R, s, m, args, below, meth, c) m_Machine_valueAt h0 D (g.1, g.2.1, g.1, g.2.1, 2) (pm_E (p, l, e, R, s, m, args, below, meth, c) h0 D (sm g u) (some (.long out)) (sm g u)) 13 [(0, .ref 44), (1, .int x1), (2, .long y2), (4, .int x4)] [] (sm g u) := by
  intro n
  induction n with
  | zero => intro x1 y2 x4 h; cases h
  | succ n ih =>
    intro x1 y2 x4 h
    rw [K_Machine_valueAt_13] at h
    refine pm_blk (pc' := 15) (L' := [(0, .ref 44), (1, .int x1), (2, .long y2), (4, .int x4)]) (S' := [.int x4]) (M' := sm g u) [pm_o (.iload 4)] (by decide +kernel) rfl ?_
    refine pm_if_lt (off := 38) 53 (by decide +kernel) (by decide) (fun hc2 => ?_) (fun hc2 => ?_)
    · rw [if_pos hc2] at h
      refine pm_blk (pc' := 54) (L' := [(0, .ref 44), (1, .int x1), (2, .long y2), (4, .int x4)]) (S' := [.long y2]) (M' := sm g u) [pm_o (.lload_n 2)] (by decide +kernel) rfl ?_
      have h9 := Option.some.inj h
      subst h9
      exact pm_retl rfl (by decide +kernel) rfl rfl rfl
    · rw [if_neg hc2] at h
      refine pm_blk (pc' := 24) (L' := [(0, .ref 44), (1, .int x1), (2, .long y2), (4, .int x4)]) (S' := [.int (((x1.toUInt32 >>> (x4.toUInt32 &&& Int32.toUInt32 31)).toInt32) &&& 1)]) (M' := sm g u) [pm_o (.iload_n 1), pm_o (.iload 4), pm_o .iushr, pm_oi (.iconst 1) 1, pm_o .iand] (by decide +kernel) rfl ?_
      refine pm_if_ne (off := 14) 38 (by decide +kernel) (by decide) (fun hc3 => ?_) (fun hc3 => ?_)
      · rw [if_neg hc3] at h
        refine pm_blk (pc' := 43) (L' := [(0, .ref 44), (1, .int x1), (2, .long y2), (4, .int x4)]) (S' := [.long y2, .ref 45]) (M' := sm g u) [pm_o (.aload_n 0), pm_of (.getfield 26) 6 3 2, pm_o (.lload_n 2)] (by decide +kernel) rfl ?_
        obtain ⟨q4, hq4, h⟩ := pm_bd h
        refine pm_cV (idx := 170) m_Heap_second (c_Heap_second l h0 D hT hq4) (As := [.long y2]) (S0 := []) rfl (by decide +kernel) k_Heap_second l_Machine_170 (Nat.le_of_ble_eq_true rfl) (Nat.le_of_ble_eq_true rfl) (Nat.le_refl _) (Nat.le_refl _) ?_
        refine pm_blk (pc' := 50) (L' := [(4, .int (x4 + (-1))), (2, .long q4), (0, .ref 44), (1, .int x1)]) (S' := []) (M' := sm g u) [pm_o (.lstore_n 2), pm_oi (.iinc 4 (-1)) (-1)] (by decide +kernel) rfl ?_
        refine pm_goto (off := -37) 13 (by decide +kernel) (by decide) ?_
        refine pm_loc [2, 3, 1, 0] rfl ?_
        exact ih x1 q4 (x4 + (-1)) h
      · rw [if_pos hc3] at h
        refine pm_blk (pc' := 32) (L' := [(0, .ref 44), (1, .int x1), (2, .long y2), (4, .int x4)]) (S' := [.long y2, .ref 45]) (M' := sm g u) [pm_o (.aload_n 0), pm_of (.getfield 26) 6 3 2, pm_o (.lload_n 2)] (by decide +kernel) rfl ?_
        obtain ⟨q5, hq5, h⟩ := pm_bd h
        refine pm_cV (idx := 157) m_Heap_first (c_Heap_first l h0 D hT hq5) (As := [.long y2]) (S0 := []) rfl (by decide +kernel) k_Heap_first l_Machine_157 (Nat.le_of_ble_eq_true rfl) (Nat.le_of_ble_eq_true rfl) (Nat.le_refl _) (Nat.le_refl _) ?_
        refine pm_blk (pc' := 35) (L' := [(0, .ref 44), (1, .int x1), (2, .long y2), (4, .int x4)]) (S' := [.long q5]) (M' := sm g u) [] (by decide +kernel) rfl ?_
        refine pm_goto (off := 11) 46 (by decide +kernel) (by decide) ?_
        refine pm_blk (pc' := 50) (L' := [(4, .int (x4 + (-1))), (2, .long q5), (0, .ref 44), (1, .int x1)]) (S' := []) (M' := sm g u) [pm_o (.lstore_n 2), pm_oi (.iinc 4 (-1)) (-1)] (by decide +kernel) rfl ?_
        refine pm_goto (off := -37) 13 (by decide +kernel) (by decide) ?_
        refine pm_loc [2, 3, 1, 0] rfl ?_
        exact ih x1 q5 (x4 + (-1)) h
def F_Machine_valueAt (N : Nat) (a1 : Int32) (g : pm_s) (u : pm_J) : Option (Int64) := (F_Machine_lengthOf N a1 g u).bind fun q1 => K_Machine_valueAt_13 N g u N a1 (u.2 44 15) (q1 - 1)
set_option maxHeartbeats 4000000 in
set_option maxRecDepth 100000 in
theorem c_Machine_valueAt (l : Launch) (h0 : Nat) (D : pm_D) {g : pm_s} {u : pm_J} (hT : sh_T g) {N : Nat} {a1 : Int32} {out : Int64} (h : F_Machine_valueAt N a1 g u = some out) : pm_C l h0 D m_Machine_valueAt (2) [.ref 44, .int a1] (sm g u) (some (.long out)) (sm g u) := by
  unfold F_Machine_valueAt at h
  refine pm_met (by decide +kernel) (Nat.le_of_ble_eq_true rfl) (Nat.le_refl _) (Nat.le_refl _) ?_
  intro p e R s m args below meth c
  refine pm_blk (pc' := 6) (L' := [(2, .long (u.2 44 15)), (0, .ref 44), (1, .int a1)]) (S' := [.int a1]) (M' := sm g u) [pm_o (.aload_n 0), pm_of (.getfield 57) 6 15 1, pm_o (.lstore_n 2), pm_o (.iload_n 1)] (by decide +kernel) rfl ?_
  obtain ⟨q1, hq1, h⟩ := pm_bd h
  refine pm_cS (idx := 161) m_Machine_lengthOf (c_Machine_lengthOf l h0 D hT hq1) (As := [.int a1]) (S0 := []) rfl (by decide +kernel) k_Machine_lengthOf l_Machine_161 (Nat.le_of_ble_eq_true rfl) (Nat.le_of_ble_eq_true rfl) (Nat.le_refl _) (Nat.le_refl _) ?_
  refine pm_blk (pc' := 13) (L' := [(4, .int (q1 - 1)), (2, .long (u.2 44 15)), (0, .ref 44), (1, .int a1)]) (S' := []) (M' := sm g u) [pm_oi (.iconst 1) 1, pm_o .isub, pm_o (.istore 4)] (by decide +kernel) rfl ?_
  refine pm_loc [2, 3, 1, 0] rfl ?_
  exact w_Machine_valueAt_13 l h0 D hT N a1 (u.2 44 15) (q1 - 1) h
def F_Machine_sortOfBox (a1 : Int32) (g : pm_s) (u : pm_J) : Option (Int32) := if a1 = 2 then some 4 else if a1 = 3 then some 5 else some (-1)
set_option maxHeartbeats 4000000 in
set_option maxRecDepth 100000 in
theorem c_Machine_sortOfBox (l : Launch) (h0 : Nat) (D : pm_D) {g : pm_s} {u : pm_J} (hT : sh_T g) {a1 : Int32} {out : Int32} (h : F_Machine_sortOfBox a1 g u = some out) : pm_C l h0 D m_Machine_sortOfBox (0) [.int a1] (sm g u) (some (.int out)) (sm g u) := by
  unfold F_Machine_sortOfBox at h
  refine pm_met (by decide +kernel) (Nat.le_of_ble_eq_true rfl) (Nat.le_refl _) (Nat.le_refl _) ?_
  intro p e R s m args below meth c
  refine pm_blk (pc' := 2) (L' := [(0, .int a1)]) (S' := [.int 2, .int a1]) (M' := sm g u) [pm_o (.iload_n 0), pm_oi (.iconst 2) 2] (by decide +kernel) rfl ?_
  refine pm_ic_ne (off := 5) 7 (by decide +kernel) (by decide) (fun hc1 => ?_) (fun hc1 => ?_)
  · rw [if_neg hc1] at h
    refine pm_blk (pc' := 9) (L' := [(0, .int a1)]) (S' := [.int 3, .int a1]) (M' := sm g u) [pm_o (.iload_n 0), pm_oi (.iconst 3) 3] (by decide +kernel) rfl ?_
    refine pm_ic_ne (off := 7) 16 (by decide +kernel) (by decide) (fun hc2 => ?_) (fun hc2 => ?_)
    · rw [if_neg hc2] at h
      refine pm_blk (pc' := 17) (L' := [(0, .int a1)]) (S' := [.int (-1)]) (M' := sm g u) [pm_oi (.iconst (-1)) (-1)] (by decide +kernel) rfl ?_
      have h9 := Option.some.inj h
      subst h9
      exact pm_reti rfl (by decide +kernel) rfl rfl rfl
    · rw [if_pos hc2] at h
      refine pm_blk (pc' := 13) (L' := [(0, .int a1)]) (S' := [.int 5]) (M' := sm g u) [pm_oi (.iconst 5) 5] (by decide +kernel) rfl ?_
      refine pm_goto (off := 4) 17 (by decide +kernel) (by decide) ?_
      have h9 := Option.some.inj h
      subst h9
      exact pm_reti rfl (by decide +kernel) rfl rfl rfl
  · rw [if_pos hc1] at h
    refine pm_blk (pc' := 6) (L' := [(0, .int a1)]) (S' := [.int 4]) (M' := sm g u) [pm_oi (.iconst 4) 4] (by decide +kernel) rfl ?_
    have h9 := Option.some.inj h
    subst h9
    exact pm_reti rfl (by decide +kernel) rfl rfl rfl
def K_Machine_sortAt_56 (N : Nat) (g : pm_s) (u : pm_J) (x1 : Int32) (x2 : Int32) : Option (Int32) := if x2 = (-1) then (F_Machine_sortOfBox (-1) g u).bind fun q11 => some q11 else (F_Machine_valueAt N x1 g u).bind fun q8 => (F_Heap_kind q8 g u).bind fun q9 => (F_Machine_sortOfBox q9 g u).bind fun q10 => some q10
set_option maxHeartbeats 4000000 in
set_option maxRecDepth 100000 in
theorem w_Machine_sortAt_56 (l : Launch) (h0 : Nat) (D : pm_D) {g : pm_s} (hT : sh_T g) {N : Nat} {u : pm_J} {out : Int32} {p : Program} {e : Env} {R : Room} {s : State} {m : MethodId} {args : Array Value} {below : List Frame} {meth : Method} {c : Code} : ∀ (x1 : Int32) (x2 : Int32), K_Machine_sortAt_56 N g u x1 x2 = some out → pm_V (p, l, e, R, s, m, args, below, meth, c) m_Machine_sortAt h0 D (g.1, g.2.1, g.1, g.2.1, 3) (pm_E (p, l, e, R, s, m, args, below, meth, c) h0 D (sm g u) (some (.int out)) (sm g u)) 56 [(0, .ref 44), (1, .int x1), (2, .int x2)] [] (sm g u) := by
    intro x1 x2 h
    unfold K_Machine_sortAt_56 at h
    refine pm_blk (pc' := 58) (L' := [(0, .ref 44), (1, .int x1), (2, .int x2)]) (S' := [.int (-1), .int x2]) (M' := sm g u) [pm_o (.iload_n 2), pm_oi (.iconst (-1)) (-1)] (by decide +kernel) rfl ?_
    refine pm_ic_ne (off := 7) 65 (by decide +kernel) (by decide) (fun hc7 => ?_) (fun hc7 => ?_)
    · rw [if_neg hc7] at h
      refine pm_blk (pc' := 71) (L' := [(0, .ref 44), (1, .int x1), (2, .int x2)]) (S' := [.int x1, .ref 44, .ref 45]) (M' := sm g u) [pm_o (.aload_n 0), pm_of (.getfield 26) 6 3 2, pm_o (.aload_n 0), pm_o (.iload_n 1)] (by decide +kernel) rfl ?_
      obtain ⟨q8, hq8, h⟩ := pm_bd h
      refine pm_cV (idx := 144) m_Machine_valueAt (c_Machine_valueAt l h0 D hT hq8) (As := [.int x1]) (S0 := [.ref 45]) rfl (by decide +kernel) k_Machine_valueAt l_Machine_144 (Nat.le_of_ble_eq_true rfl) (Nat.le_of_ble_eq_true rfl) (Nat.le_refl _) (Nat.le_refl _) ?_
      refine pm_blk (pc' := 74) (L' := [(0, .ref 44), (1, .int x1), (2, .int x2)]) (S' := [.long q8, .ref 45]) (M' := sm g u) [] (by decide +kernel) rfl ?_
      obtain ⟨q9, hq9, h⟩ := pm_bd h
      refine pm_cV (idx := 148) m_Heap_kind (c_Heap_kind l h0 D hT hq9) (As := [.long q8]) (S0 := []) rfl (by decide +kernel) k_Heap_kind l_Machine_148 (Nat.le_of_ble_eq_true rfl) (Nat.le_of_ble_eq_true rfl) (Nat.le_refl _) (Nat.le_refl _) ?_
      refine pm_blk (pc' := 77) (L' := [(0, .ref 44), (1, .int x1), (2, .int x2)]) (S' := [.int q9]) (M' := sm g u) [] (by decide +kernel) rfl ?_
      obtain ⟨q10, hq10, h⟩ := pm_bd h
      refine pm_cS (idx := 151) m_Machine_sortOfBox (c_Machine_sortOfBox l h0 D hT hq10) (As := [.int q9]) (S0 := []) rfl (by decide +kernel) k_Machine_sortOfBox l_Machine_151 (Nat.le_of_ble_eq_true rfl) (Nat.le_of_ble_eq_true rfl) (Nat.le_refl _) (Nat.le_refl _) ?_
      refine pm_blk (pc' := 80) (L' := [(0, .ref 44), (1, .int x1), (2, .int x2)]) (S' := [.int q10]) (M' := sm g u) [] (by decide +kernel) rfl ?_
      have h9 := Option.some.inj h
      subst h9
      exact pm_reti rfl (by decide +kernel) rfl rfl rfl
    · rw [if_pos hc7] at h
      refine pm_blk (pc' := 62) (L' := [(0, .ref 44), (1, .int x1), (2, .int x2)]) (S' := [.int (-1)]) (M' := sm g u) [pm_oi (.iconst (-1)) (-1)] (by decide +kernel) rfl ?_
      refine pm_goto (off := 15) 77 (by decide +kernel) (by decide) ?_
      obtain ⟨q11, hq11, h⟩ := pm_bd h
      refine pm_cS (idx := 151) m_Machine_sortOfBox (c_Machine_sortOfBox l h0 D hT hq11) (As := [.int (-1)]) (S0 := []) rfl (by decide +kernel) k_Machine_sortOfBox l_Machine_151 (Nat.le_of_ble_eq_true rfl) (Nat.le_of_ble_eq_true rfl) (Nat.le_refl _) (Nat.le_refl _) ?_
      refine pm_blk (pc' := 80) (L' := [(0, .ref 44), (1, .int x1), (2, .int x2)]) (S' := [.int q11]) (M' := sm g u) [] (by decide +kernel) rfl ?_
      have h9 := Option.some.inj h
      subst h9
      exact pm_reti rfl (by decide +kernel) rfl rfl rfl
def F_Machine_sortAt (N : Nat) (a1 : Int32) (g : pm_s) (u : pm_J) : Option (Int32) := (F_Machine_typeAt N a1 g u).bind fun q1 => (F_Types_kind q1 g u).bind fun q2 => if q2 = 0 then some 0 else if q2 = 1 then some 1 else if q2 = 3 then some 2 else if q2 = 4 then some 3 else K_Machine_sortAt_56 N g u a1 q1
set_option maxHeartbeats 4000000 in
set_option maxRecDepth 100000 in
theorem c_Machine_sortAt (l : Launch) (h0 : Nat) (D : pm_D) {g : pm_s} {u : pm_J} (hT : sh_T g) {N : Nat} {a1 : Int32} {out : Int32} (h : F_Machine_sortAt N a1 g u = some out) : pm_C l h0 D m_Machine_sortAt (3) [.ref 44, .int a1] (sm g u) (some (.int out)) (sm g u) := by
  unfold F_Machine_sortAt at h
  refine pm_met (by decide +kernel) (Nat.le_of_ble_eq_true rfl) (Nat.le_refl _) (Nat.le_refl _) ?_
  intro p e R s m args below meth c
  refine pm_blk (pc' := 2) (L' := [(0, .ref 44), (1, .int a1)]) (S' := [.int a1, .ref 44]) (M' := sm g u) [pm_o (.aload_n 0), pm_o (.iload_n 1)] (by decide +kernel) rfl ?_
  obtain ⟨q1, hq1, h⟩ := pm_bd h
  refine pm_cV (idx := 136) m_Machine_typeAt (c_Machine_typeAt l h0 D hT hq1) (As := [.int a1]) (S0 := []) rfl (by decide +kernel) k_Machine_typeAt l_Machine_136 (Nat.le_of_ble_eq_true rfl) (Nat.le_of_ble_eq_true rfl) (Nat.le_refl _) (Nat.le_refl _) ?_
  refine pm_blk (pc' := 11) (L' := [(2, .int q1), (0, .ref 44), (1, .int a1)]) (S' := [.int q1, .ref 10]) (M' := sm g u) [pm_o (.istore_n 2), pm_o (.aload_n 0), pm_of (.getfield 9) 6 0 2, pm_o (.iload_n 2)] (by decide +kernel) rfl ?_
  obtain ⟨q2, hq2, h⟩ := pm_bd h
  refine pm_cV (idx := 139) m_Types_kind (c_Types_kind l h0 D hT hq2) (As := [.int q1]) (S0 := []) rfl (by decide +kernel) k_Types_kind l_Machine_139 (Nat.le_of_ble_eq_true rfl) (Nat.le_of_ble_eq_true rfl) (Nat.le_refl _) (Nat.le_refl _) ?_
  refine pm_blk (pc' := 14) (L' := [(2, .int q1), (0, .ref 44), (1, .int a1)]) (S' := [.int q2]) (M' := sm g u) [] (by decide +kernel) rfl ?_
  refine pm_tsw (dflt := 42) (lo := 0) (hi := 4) (offs := #[34, 36, 42, 38, 40]) (len := 34) [(0, 48), (1, 50), (3, 52), (4, 54)] 56 (by decide +kernel) (by decide +kernel) ?_
  by_cases hs3 : q2 = 0
  · rw [if_pos hs3] at h
    rw [pm_sw_pos hs3]
    refine pm_blk (pc' := 49) (L' := [(2, .int q1), (0, .ref 44), (1, .int a1)]) (S' := [.int 0]) (M' := sm g u) [pm_oi (.iconst 0) 0] (by decide +kernel) rfl ?_
    have h9 := Option.some.inj h
    subst h9
    exact pm_reti rfl (by decide +kernel) rfl rfl rfl
  rw [if_neg hs3] at h
  rw [pm_sw_neg hs3]
  by_cases hs4 : q2 = 1
  · rw [if_pos hs4] at h
    rw [pm_sw_pos hs4]
    refine pm_blk (pc' := 51) (L' := [(2, .int q1), (0, .ref 44), (1, .int a1)]) (S' := [.int 1]) (M' := sm g u) [pm_oi (.iconst 1) 1] (by decide +kernel) rfl ?_
    have h9 := Option.some.inj h
    subst h9
    exact pm_reti rfl (by decide +kernel) rfl rfl rfl
  rw [if_neg hs4] at h
  rw [pm_sw_neg hs4]
  by_cases hs5 : q2 = 3
  · rw [if_pos hs5] at h
    rw [pm_sw_pos hs5]
    refine pm_blk (pc' := 53) (L' := [(2, .int q1), (0, .ref 44), (1, .int a1)]) (S' := [.int 2]) (M' := sm g u) [pm_oi (.iconst 2) 2] (by decide +kernel) rfl ?_
    have h9 := Option.some.inj h
    subst h9
    exact pm_reti rfl (by decide +kernel) rfl rfl rfl
  rw [if_neg hs5] at h
  rw [pm_sw_neg hs5]
  by_cases hs6 : q2 = 4
  · rw [if_pos hs6] at h
    rw [pm_sw_pos hs6]
    refine pm_blk (pc' := 55) (L' := [(2, .int q1), (0, .ref 44), (1, .int a1)]) (S' := [.int 3]) (M' := sm g u) [pm_oi (.iconst 3) 3] (by decide +kernel) rfl ?_
    have h9 := Option.some.inj h
    subst h9
    exact pm_reti rfl (by decide +kernel) rfl rfl rfl
  rw [if_neg hs6] at h
  rw [pm_sw_neg hs6]
  refine pm_pc (pc' := 56) rfl ?_
  refine pm_loc [1, 2, 0] rfl ?_
  exact w_Machine_sortAt_56 l h0 D hT a1 q1 h
def F_Machine_wordAt (N : Nat) (a1 : Int32) (g : pm_s) (u : pm_J) : Option (Int64) := (F_Machine_sortAt N a1 g u).bind fun q1 => if q1 = 0 then (F_Machine_valueAt N a1 g u).bind fun q3 => some q3 else if q1 = 1 then (F_Machine_valueAt N a1 g u).bind fun q5 => some q5 else if q1 = 4 then (F_Machine_valueAt N a1 g u).bind fun q7 => (F_Heap_first q7 g u).bind fun q8 => some q8 else if q1 = 5 then (F_Machine_valueAt N a1 g u).bind fun q10 => (F_Heap_first q10 g u).bind fun q11 => some q11 else some 0
set_option maxHeartbeats 4000000 in
set_option maxRecDepth 100000 in
theorem c_Machine_wordAt (l : Launch) (h0 : Nat) (D : pm_D) {g : pm_s} {u : pm_J} (hT : sh_T g) {N : Nat} {a1 : Int32} {out : Int64} (h : F_Machine_wordAt N a1 g u = some out) : pm_C l h0 D m_Machine_wordAt (4) [.ref 44, .int a1] (sm g u) (some (.long out)) (sm g u) := by
  unfold F_Machine_wordAt at h
  refine pm_met (by decide +kernel) (Nat.le_of_ble_eq_true rfl) (Nat.le_refl _) (Nat.le_refl _) ?_
  intro p e R s m args below meth c
  refine pm_blk (pc' := 2) (L' := [(0, .ref 44), (1, .int a1)]) (S' := [.int a1, .ref 44]) (M' := sm g u) [pm_o (.aload_n 0), pm_o (.iload_n 1)] (by decide +kernel) rfl ?_
  obtain ⟨q1, hq1, h⟩ := pm_bd h
  refine pm_cV (idx := 154) m_Machine_sortAt (c_Machine_sortAt l h0 D hT hq1) (As := [.int a1]) (S0 := []) rfl (by decide +kernel) k_Machine_sortAt l_Machine_154 (Nat.le_of_ble_eq_true rfl) (Nat.le_of_ble_eq_true rfl) (Nat.le_refl _) (Nat.le_refl _) ?_
  refine pm_blk (pc' := 5) (L' := [(0, .ref 44), (1, .int a1)]) (S' := [.int q1]) (M' := sm g u) [] (by decide +kernel) rfl ?_
  refine pm_tsw (dflt := 58) (lo := 0) (hi := 5) (offs := #[39, 39, 58, 58, 45, 45]) (len := 39) [(0, 44), (1, 44), (4, 50), (5, 50)] 63 (by decide +kernel) (by decide +kernel) ?_
  by_cases hs2 : q1 = 0
  · rw [if_pos hs2] at h
    rw [pm_sw_pos hs2]
    refine pm_blk (pc' := 46) (L' := [(0, .ref 44), (1, .int a1)]) (S' := [.int a1, .ref 44]) (M' := sm g u) [pm_o (.aload_n 0), pm_o (.iload_n 1)] (by decide +kernel) rfl ?_
    obtain ⟨q3, hq3, h⟩ := pm_bd h
    refine pm_cV (idx := 144) m_Machine_valueAt (c_Machine_valueAt l h0 D hT hq3) (As := [.int a1]) (S0 := []) rfl (by decide +kernel) k_Machine_valueAt l_Machine_144 (Nat.le_of_ble_eq_true rfl) (Nat.le_of_ble_eq_true rfl) (Nat.le_refl _) (Nat.le_refl _) ?_
    refine pm_blk (pc' := 49) (L' := [(0, .ref 44), (1, .int a1)]) (S' := [.long q3]) (M' := sm g u) [] (by decide +kernel) rfl ?_
    have h9 := Option.some.inj h
    subst h9
    exact pm_retl rfl (by decide +kernel) rfl rfl rfl
  rw [if_neg hs2] at h
  rw [pm_sw_neg hs2]
  by_cases hs4 : q1 = 1
  · rw [if_pos hs4] at h
    rw [pm_sw_pos hs4]
    refine pm_blk (pc' := 46) (L' := [(0, .ref 44), (1, .int a1)]) (S' := [.int a1, .ref 44]) (M' := sm g u) [pm_o (.aload_n 0), pm_o (.iload_n 1)] (by decide +kernel) rfl ?_
    obtain ⟨q5, hq5, h⟩ := pm_bd h
    refine pm_cV (idx := 144) m_Machine_valueAt (c_Machine_valueAt l h0 D hT hq5) (As := [.int a1]) (S0 := []) rfl (by decide +kernel) k_Machine_valueAt l_Machine_144 (Nat.le_of_ble_eq_true rfl) (Nat.le_of_ble_eq_true rfl) (Nat.le_refl _) (Nat.le_refl _) ?_
    refine pm_blk (pc' := 49) (L' := [(0, .ref 44), (1, .int a1)]) (S' := [.long q5]) (M' := sm g u) [] (by decide +kernel) rfl ?_
    have h9 := Option.some.inj h
    subst h9
    exact pm_retl rfl (by decide +kernel) rfl rfl rfl
  rw [if_neg hs4] at h
  rw [pm_sw_neg hs4]
  by_cases hs6 : q1 = 4
  · rw [if_pos hs6] at h
    rw [pm_sw_pos hs6]
    refine pm_blk (pc' := 56) (L' := [(0, .ref 44), (1, .int a1)]) (S' := [.int a1, .ref 44, .ref 45]) (M' := sm g u) [pm_o (.aload_n 0), pm_of (.getfield 26) 6 3 2, pm_o (.aload_n 0), pm_o (.iload_n 1)] (by decide +kernel) rfl ?_
    obtain ⟨q7, hq7, h⟩ := pm_bd h
    refine pm_cV (idx := 144) m_Machine_valueAt (c_Machine_valueAt l h0 D hT hq7) (As := [.int a1]) (S0 := [.ref 45]) rfl (by decide +kernel) k_Machine_valueAt l_Machine_144 (Nat.le_of_ble_eq_true rfl) (Nat.le_of_ble_eq_true rfl) (Nat.le_refl _) (Nat.le_refl _) ?_
    refine pm_blk (pc' := 59) (L' := [(0, .ref 44), (1, .int a1)]) (S' := [.long q7, .ref 45]) (M' := sm g u) [] (by decide +kernel) rfl ?_
    obtain ⟨q8, hq8, h⟩ := pm_bd h
    refine pm_cV (idx := 157) m_Heap_first (c_Heap_first l h0 D hT hq8) (As := [.long q7]) (S0 := []) rfl (by decide +kernel) k_Heap_first l_Machine_157 (Nat.le_of_ble_eq_true rfl) (Nat.le_of_ble_eq_true rfl) (Nat.le_refl _) (Nat.le_refl _) ?_
    refine pm_blk (pc' := 62) (L' := [(0, .ref 44), (1, .int a1)]) (S' := [.long q8]) (M' := sm g u) [] (by decide +kernel) rfl ?_
    have h9 := Option.some.inj h
    subst h9
    exact pm_retl rfl (by decide +kernel) rfl rfl rfl
  rw [if_neg hs6] at h
  rw [pm_sw_neg hs6]
  by_cases hs9 : q1 = 5
  · rw [if_pos hs9] at h
    rw [pm_sw_pos hs9]
    refine pm_blk (pc' := 56) (L' := [(0, .ref 44), (1, .int a1)]) (S' := [.int a1, .ref 44, .ref 45]) (M' := sm g u) [pm_o (.aload_n 0), pm_of (.getfield 26) 6 3 2, pm_o (.aload_n 0), pm_o (.iload_n 1)] (by decide +kernel) rfl ?_
    obtain ⟨q10, hq10, h⟩ := pm_bd h
    refine pm_cV (idx := 144) m_Machine_valueAt (c_Machine_valueAt l h0 D hT hq10) (As := [.int a1]) (S0 := [.ref 45]) rfl (by decide +kernel) k_Machine_valueAt l_Machine_144 (Nat.le_of_ble_eq_true rfl) (Nat.le_of_ble_eq_true rfl) (Nat.le_refl _) (Nat.le_refl _) ?_
    refine pm_blk (pc' := 59) (L' := [(0, .ref 44), (1, .int a1)]) (S' := [.long q10, .ref 45]) (M' := sm g u) [] (by decide +kernel) rfl ?_
    obtain ⟨q11, hq11, h⟩ := pm_bd h
    refine pm_cV (idx := 157) m_Heap_first (c_Heap_first l h0 D hT hq11) (As := [.long q10]) (S0 := []) rfl (by decide +kernel) k_Heap_first l_Machine_157 (Nat.le_of_ble_eq_true rfl) (Nat.le_of_ble_eq_true rfl) (Nat.le_refl _) (Nat.le_refl _) ?_
    refine pm_blk (pc' := 62) (L' := [(0, .ref 44), (1, .int a1)]) (S' := [.long q11]) (M' := sm g u) [] (by decide +kernel) rfl ?_
    have h9 := Option.some.inj h
    subst h9
    exact pm_retl rfl (by decide +kernel) rfl rfl rfl
  rw [if_neg hs9] at h
  rw [pm_sw_neg hs9]
  refine pm_pc (pc' := 63) rfl ?_
  refine pm_blk (pc' := 64) (L' := [(0, .ref 44), (1, .int a1)]) (S' := [.long 0]) (M' := sm g u) [pm_ol (.lconst 0) 0] (by decide +kernel) rfl ?_
  have h9 := Option.some.inj h
  subst h9
  exact pm_retl rfl (by decide +kernel) rfl rfl rfl
def F_Machine_goInto (a1 : Int32) (a2 : Int32) (g : pm_s) (u : pm_J) : Option (pm_J) := some (wi (wi (wi u 44 12 a1) 44 13 a2) 44 11 0)
set_option maxHeartbeats 4000000 in
set_option maxRecDepth 100000 in
theorem c_Machine_goInto (l : Launch) (h0 : Nat) (D : pm_D) {g : pm_s} {u : pm_J} (hT : sh_T g) {a1 : Int32} {a2 : Int32} {out : pm_J} (h : F_Machine_goInto a1 a2 g u = some out) : pm_C l h0 D m_Machine_goInto (0) [.ref 44, .int a1, .int a2] (sm g u) none (sm g out) := by
  unfold F_Machine_goInto at h
  refine pm_met (by decide +kernel) (Nat.le_of_ble_eq_true rfl) (Nat.le_refl _) (Nat.le_refl _) ?_
  intro p e R s m args below meth c
  refine pm_blk (pc' := 15) (L' := [(0, .ref 44), (1, .int a1), (2, .int a2)]) (S' := []) (M' := sm g (wi (wi (wi u 44 12 a1) 44 13 a2) 44 11 0)) [pm_o (.aload_n 0), pm_o (.iload_n 1), pm_of (.putfield 178) 6 12 0, pm_o (.aload_n 0), pm_o (.iload_n 2), pm_of (.putfield 89) 6 13 0, pm_o (.aload_n 0), pm_oi (.iconst 0) 0, pm_of (.putfield 107) 6 11 0] (by decide +kernel) rfl ?_
  have h9 := Option.some.inj h
  subst h9
  exact pm_retv rfl (by decide +kernel) rfl rfl
def F_Machine_enter (g : pm_s) (u : pm_J) : Option (pm_J) := (F_Frames_isFull g u).bind fun q1 => if q1 = 0 then if (u.1 44 8) < (u.1 44 7) then (F_Frames_push (u.1 44 12) (u.1 44 13) g (wi u 44 8 ((u.1 44 8) + 1))).bind fun q4 => some (wi q4 44 11 2) else some (wi u 44 10 2) else some (wi u 44 10 3)
set_option maxHeartbeats 4000000 in
set_option maxRecDepth 100000 in
theorem c_Machine_enter (l : Launch) (h0 : Nat) (D : pm_D) {g : pm_s} {u : pm_J} (hT : sh_T g) {out : pm_J} (h : F_Machine_enter g u = some out) : pm_C l h0 D m_Machine_enter (2) [.ref 44] (sm g u) none (sm g out) := by
  unfold F_Machine_enter at h
  refine pm_met (by decide +kernel) (Nat.le_of_ble_eq_true rfl) (Nat.le_refl _) (Nat.le_refl _) ?_
  intro p e R s m args below meth c
  refine pm_blk (pc' := 4) (L' := [(0, .ref 44)]) (S' := [.ref 57]) (M' := sm g u) [pm_o (.aload_n 0), pm_of (.getfield 42) 6 5 2] (by decide +kernel) rfl ?_
  obtain ⟨q1, hq1, h⟩ := pm_bd h
  refine pm_cV (idx := 181) m_Frames_isFull (c_Frames_isFull l h0 D hT hq1) (As := []) (S0 := []) rfl (by decide +kernel) k_Frames_isFull l_Machine_181 (Nat.le_of_ble_eq_true rfl) (Nat.le_of_ble_eq_true rfl) (Nat.le_refl _) (Nat.le_refl _) ?_
  refine pm_blk (pc' := 7) (L' := [(0, .ref 44)]) (S' := [.int q1]) (M' := sm g u) [] (by decide +kernel) rfl ?_
  refine pm_if_eq (off := 11) 18 (by decide +kernel) (by decide) (fun hc2 => ?_) (fun hc2 => ?_)
  · rw [if_pos hc2] at h
    refine pm_blk (pc' := 26) (L' := [(0, .ref 44)]) (S' := [.int (u.1 44 7), .int (u.1 44 8)]) (M' := sm g u) [pm_o (.aload_n 0), pm_of (.getfield 50) 6 8 0, pm_o (.aload_n 0), pm_of (.getfield 71) 6 7 0] (by decide +kernel) rfl ?_
    refine pm_ic_lt (off := 11) 37 (by decide +kernel) (by decide) (fun hc3 => ?_) (fun hc3 => ?_)
    · rw [if_pos hc3] at h
      refine pm_blk (pc' := 59) (L' := [(0, .ref 44)]) (S' := [.int (u.1 44 13), .int (u.1 44 12), .ref 57]) (M' := sm g (wi u 44 8 ((u.1 44 8) + 1))) [pm_o (.aload_n 0), pm_o .dup, pm_of (.getfield 50) 6 8 0, pm_oi (.iconst 1) 1, pm_o .iadd, pm_of (.putfield 50) 6 8 0, pm_o (.aload_n 0), pm_of (.getfield 42) 6 5 2, pm_o (.aload_n 0), pm_of (.getfield 178) 6 12 0, pm_o (.aload_n 0), pm_of (.getfield 89) 6 13 0] (by decide +kernel) rfl ?_
      obtain ⟨q4, hq4, h⟩ := pm_bd h
      refine pm_cV (idx := 184) m_Frames_push (c_Frames_push l h0 D hT hq4) (As := [.int (u.1 44 12), .int (u.1 44 13)]) (S0 := []) rfl (by decide +kernel) k_Frames_push l_Machine_184 (Nat.le_of_ble_eq_true rfl) (Nat.le_of_ble_eq_true rfl) (Nat.le_refl _) (Nat.le_refl _) ?_
      refine pm_blk (pc' := 67) (L' := [(0, .ref 44)]) (S' := []) (M' := sm g (wi q4 44 11 2)) [pm_o (.aload_n 0), pm_oi (.iconst 2) 2, pm_of (.putfield 107) 6 11 0] (by decide +kernel) rfl ?_
      have h9 := Option.some.inj h
      subst h9
      exact pm_retv rfl (by decide +kernel) rfl rfl
    · rw [if_neg hc3] at h
      refine pm_blk (pc' := 34) (L' := [(0, .ref 44)]) (S' := []) (M' := sm g (wi u 44 10 2)) [pm_o (.aload_n 0), pm_oi (.iconst 2) 2, pm_of (.putfield 61) 6 10 0] (by decide +kernel) rfl ?_
      refine pm_goto (off := 33) 67 (by decide +kernel) (by decide) ?_
      have h9 := Option.some.inj h
      subst h9
      exact pm_retv rfl (by decide +kernel) rfl rfl
  · rw [if_neg hc2] at h
    refine pm_blk (pc' := 15) (L' := [(0, .ref 44)]) (S' := []) (M' := sm g (wi u 44 10 3)) [pm_o (.aload_n 0), pm_oi (.iconst 3) 3, pm_of (.putfield 61) 6 10 0] (by decide +kernel) rfl ?_
    refine pm_goto (off := 52) 67 (by decide +kernel) (by decide) ?_
    have h9 := Option.some.inj h
    subst h9
    exact pm_retv rfl (by decide +kernel) rfl rfl
def F_Machine_finish (a1 : Int64) (g : pm_s) (u : pm_J) : Option (pm_J) := (F_Frames_pop g (wj u 44 15 a1)).bind fun q1 => some (wi q1 44 11 2)
set_option maxHeartbeats 4000000 in
set_option maxRecDepth 100000 in
theorem c_Machine_finish (l : Launch) (h0 : Nat) (D : pm_D) {g : pm_s} {u : pm_J} (hT : sh_T g) {a1 : Int64} {out : pm_J} (h : F_Machine_finish a1 g u = some out) : pm_C l h0 D m_Machine_finish (2) [.ref 44, .long a1] (sm g u) none (sm g out) := by
  unfold F_Machine_finish at h
  refine pm_met (by decide +kernel) (Nat.le_of_ble_eq_true rfl) (Nat.le_refl _) (Nat.le_refl _) ?_
  intro p e R s m args below meth c
  refine pm_blk (pc' := 9) (L' := [(0, .ref 44), (1, .long a1)]) (S' := [.ref 57]) (M' := sm g (wj u 44 15 a1)) [pm_o (.aload_n 0), pm_o (.lload_n 1), pm_of (.putfield 57) 6 15 1, pm_o (.aload_n 0), pm_of (.getfield 42) 6 5 2] (by decide +kernel) rfl ?_
  obtain ⟨q1, hq1, h⟩ := pm_bd h
  refine pm_cV (idx := 187) m_Frames_pop (c_Frames_pop l h0 D hT hq1) (As := []) (S0 := []) rfl (by decide +kernel) k_Frames_pop l_Machine_187 (Nat.le_of_ble_eq_true rfl) (Nat.le_of_ble_eq_true rfl) (Nat.le_refl _) (Nat.le_refl _) ?_
  refine pm_blk (pc' := 17) (L' := [(0, .ref 44), (1, .long a1)]) (S' := []) (M' := sm g (wi q1 44 11 2)) [pm_o (.aload_n 0), pm_oi (.iconst 2) 2, pm_of (.putfield 107) 6 11 0] (by decide +kernel) rfl ?_
  have h9 := Option.some.inj h
  subst h9
  exact pm_retv rfl (by decide +kernel) rfl rfl
def F_Machine_workPart (a1 : Int32) (a2 : Int32) (g : pm_s) (u : pm_J) : Option (pm_J) := (F_Frames_setState a2 g u).bind fun q1 => (F_Frames_base g (wi q1 44 12 a1)).bind fun q2 => some (wi (wi (wi q1 44 12 a1) 44 13 q2) 44 11 0)
set_option maxHeartbeats 4000000 in
set_option maxRecDepth 100000 in
theorem c_Machine_workPart (l : Launch) (h0 : Nat) (D : pm_D) {g : pm_s} {u : pm_J} (hT : sh_T g) {a1 : Int32} {a2 : Int32} {out : pm_J} (h : F_Machine_workPart a1 a2 g u = some out) : pm_C l h0 D m_Machine_workPart (1) [.ref 44, .int a1, .int a2] (sm g u) none (sm g out) := by
  unfold F_Machine_workPart at h
  refine pm_met (by decide +kernel) (Nat.le_of_ble_eq_true rfl) (Nat.le_refl _) (Nat.le_refl _) ?_
  intro p e R s m args below meth c
  refine pm_blk (pc' := 5) (L' := [(0, .ref 44), (1, .int a1), (2, .int a2)]) (S' := [.int a2, .ref 57]) (M' := sm g u) [pm_o (.aload_n 0), pm_of (.getfield 42) 6 5 2, pm_o (.iload_n 2)] (by decide +kernel) rfl ?_
  obtain ⟨q1, hq1, h⟩ := pm_bd h
  refine pm_cV (idx := 190) m_Frames_setState (c_Frames_setState l h0 D hT hq1) (As := [.int a2]) (S0 := []) rfl (by decide +kernel) k_Frames_setState l_Machine_190 (Nat.le_of_ble_eq_true rfl) (Nat.le_of_ble_eq_true rfl) (Nat.le_refl _) (Nat.le_refl _) ?_
  refine pm_blk (pc' := 18) (L' := [(0, .ref 44), (1, .int a1), (2, .int a2)]) (S' := [.ref 57, .ref 44]) (M' := sm g (wi q1 44 12 a1)) [pm_o (.aload_n 0), pm_o (.iload_n 1), pm_of (.putfield 178) 6 12 0, pm_o (.aload_n 0), pm_o (.aload_n 0), pm_of (.getfield 42) 6 5 2] (by decide +kernel) rfl ?_
  obtain ⟨q2, hq2, h⟩ := pm_bd h
  refine pm_cV (idx := 194) m_Frames_base (c_Frames_base l h0 D hT hq2) (As := []) (S0 := [.ref 44]) rfl (by decide +kernel) k_Frames_base l_Machine_194 (Nat.le_of_ble_eq_true rfl) (Nat.le_of_ble_eq_true rfl) (Nat.le_refl _) (Nat.le_refl _) ?_
  refine pm_blk (pc' := 29) (L' := [(0, .ref 44), (1, .int a1), (2, .int a2)]) (S' := []) (M' := sm g (wi (wi (wi q1 44 12 a1) 44 13 q2) 44 11 0)) [pm_of (.putfield 89) 6 13 0, pm_o (.aload_n 0), pm_oi (.iconst 0) 0, pm_of (.putfield 107) 6 11 0] (by decide +kernel) rfl ?_
  have h9 := Option.some.inj h
  subst h9
  exact pm_retv rfl (by decide +kernel) rfl rfl
def K_Machine_leaveCover_43 (N : Nat) (g : pm_s) (y1 : Int64) (x3 : Int32) (t0 : Int32) (u : pm_J) : Option (pm_J) := (F_Heap_site y1 g u).bind fun q6 => (F_Adapter_adapt N (u.2 44 15) x3 q6 t0 g u).bind fun q7 => (F_Machine_finish q7.1 g q7.2).bind fun q8 => some q8
set_option maxHeartbeats 4000000 in
set_option maxRecDepth 100000 in
theorem w_Machine_leaveCover_43 (l : Launch) (h0 : Nat) (D : pm_D) {g : pm_s} (hT : sh_T g) {N : Nat} {u0 : pm_J} {out : pm_J} {p : Program} {e : Env} {R : Room} {s : State} {m : MethodId} {args : Array Value} {below : List Frame} {meth : Method} {c : Code} : ∀ (y1 : Int64) (x3 : Int32) (t0 : Int32) (u : pm_J), K_Machine_leaveCover_43 N g y1 x3 t0 u = some out → pm_V (p, l, e, R, s, m, args, below, meth, c) m_Machine_leaveCover h0 D (g.1, g.2.1, g.1, g.2.1, 5) (pm_E (p, l, e, R, s, m, args, below, meth, c) h0 D (sm g u0) none (sm g out)) 43 [(0, .ref 44), (1, .long y1), (3, .int x3)] [.int t0] (sm g u) := by
    intro y1 x3 t0 u h
    unfold K_Machine_leaveCover_43 at h
    refine pm_blk (pc' := 60) (L' := [(4, .int t0), (0, .ref 44), (1, .long y1), (3, .int x3)]) (S' := [.long y1, .ref 45, .int x3, .long (u.2 44 15), .ref 52, .ref 44]) (M' := sm g u) [pm_o (.istore 4), pm_o (.aload_n 0), pm_o (.aload_n 0), pm_of (.getfield 35) 6 4 2, pm_o (.aload_n 0), pm_of (.getfield 57) 6 15 1, pm_o (.iload_n 3), pm_o (.aload_n 0), pm_of (.getfield 26) 6 3 2, pm_o (.lload_n 1)] (by decide +kernel) rfl ?_
    obtain ⟨q6, hq6, h⟩ := pm_bd h
    refine pm_cV (idx := 312) m_Heap_site (c_Heap_site l h0 D hT hq6) (As := [.long y1]) (S0 := [.int x3, .long (u.2 44 15), .ref 52, .ref 44]) rfl (by decide +kernel) k_Heap_site l_Machine_312 (Nat.le_of_ble_eq_true rfl) (Nat.le_of_ble_eq_true rfl) (Nat.le_refl _) (Nat.le_refl _) ?_
    refine pm_blk (pc' := 65) (L' := [(4, .int t0), (0, .ref 44), (1, .long y1), (3, .int x3)]) (S' := [.int t0, .int q6, .int x3, .long (u.2 44 15), .ref 52, .ref 44]) (M' := sm g u) [pm_o (.iload 4)] (by decide +kernel) rfl ?_
    obtain ⟨q7, hq7, h⟩ := pm_bd h
    refine pm_cV (idx := 298) m_Adapter_adapt (c_Adapter_adapt l h0 D hT hq7) (As := [.long (u.2 44 15), .int x3, .int q6, .int t0]) (S0 := [.ref 44]) rfl (by decide +kernel) k_Adapter_adapt l_Machine_298 (Nat.le_of_ble_eq_true rfl) (Nat.le_of_ble_eq_true rfl) (Nat.le_refl _) (Nat.le_refl _) ?_
    refine pm_blk (pc' := 68) (L' := [(4, .int t0), (0, .ref 44), (1, .long y1), (3, .int x3)]) (S' := [.long q7.1, .ref 44]) (M' := sm g q7.2) [] (by decide +kernel) rfl ?_
    obtain ⟨q8, hq8, h⟩ := pm_bd h
    refine pm_cV (idx := 204) m_Machine_finish (c_Machine_finish l h0 D hT hq8) (As := [.long q7.1]) (S0 := []) rfl (by decide +kernel) k_Machine_finish l_Machine_204 (Nat.le_of_ble_eq_true rfl) (Nat.le_of_ble_eq_true rfl) (Nat.le_refl _) (Nat.le_refl _) ?_
    refine pm_blk (pc' := 71) (L' := [(4, .int t0), (0, .ref 44), (1, .long y1), (3, .int x3)]) (S' := []) (M' := sm g q8) [] (by decide +kernel) rfl ?_
    have h9 := Option.some.inj h
    subst h9
    exact pm_retv rfl (by decide +kernel) rfl rfl
def F_Machine_leaveCover (N : Nat) (g : pm_s) (u : pm_J) : Option (pm_J) := (F_Frames_held 0 g u).bind fun q1 => (F_Heap_second q1 g u).bind fun q2 => (F_Types_right q2.toInt32 g u).bind fun q3 => (F_Heap_kind q1 g u).bind fun q4 => if q4 = 4 then K_Machine_leaveCover_43 N g q1 q3 1 u else K_Machine_leaveCover_43 N g q1 q3 0 u
set_option maxHeartbeats 4000000 in
set_option maxRecDepth 100000 in
theorem c_Machine_leaveCover (l : Launch) (h0 : Nat) (D : pm_D) {g : pm_s} {u : pm_J} (hT : sh_T g) {N : Nat} {out : pm_J} (h : F_Machine_leaveCover N g u = some out) : pm_C l h0 D m_Machine_leaveCover (5) [.ref 44] (sm g u) none (sm g out) := by
  unfold F_Machine_leaveCover at h
  refine pm_met (by decide +kernel) (Nat.le_of_ble_eq_true rfl) (Nat.le_refl _) (Nat.le_refl _) ?_
  intro p e R s m args below meth c
  refine pm_blk (pc' := 5) (L' := [(0, .ref 44)]) (S' := [.int 0, .ref 57]) (M' := sm g u) [pm_o (.aload_n 0), pm_of (.getfield 42) 6 5 2, pm_oi (.iconst 0) 0] (by decide +kernel) rfl ?_
  obtain ⟨q1, hq1, h⟩ := pm_bd h
  refine pm_cV (idx := 250) m_Frames_held (c_Frames_held l h0 D hT hq1) (As := [.int 0]) (S0 := []) rfl (by decide +kernel) k_Frames_held l_Machine_250 (Nat.le_of_ble_eq_true rfl) (Nat.le_of_ble_eq_true rfl) (Nat.le_refl _) (Nat.le_refl _) ?_
  refine pm_blk (pc' := 18) (L' := [(1, .long q1), (0, .ref 44)]) (S' := [.long q1, .ref 45, .ref 10]) (M' := sm g u) [pm_o (.lstore_n 1), pm_o (.aload_n 0), pm_of (.getfield 9) 6 0 2, pm_o (.aload_n 0), pm_of (.getfield 26) 6 3 2, pm_o (.lload_n 1)] (by decide +kernel) rfl ?_
  obtain ⟨q2, hq2, h⟩ := pm_bd h
  refine pm_cV (idx := 170) m_Heap_second (c_Heap_second l h0 D hT hq2) (As := [.long q1]) (S0 := [.ref 10]) rfl (by decide +kernel) k_Heap_second l_Machine_170 (Nat.le_of_ble_eq_true rfl) (Nat.le_of_ble_eq_true rfl) (Nat.le_refl _) (Nat.le_refl _) ?_
  refine pm_blk (pc' := 22) (L' := [(1, .long q1), (0, .ref 44)]) (S' := [.int q2.toInt32, .ref 10]) (M' := sm g u) [pm_o .l2i] (by decide +kernel) rfl ?_
  obtain ⟨q3, hq3, h⟩ := pm_bd h
  refine pm_cV (idx := 167) m_Types_right (c_Types_right l h0 D hT hq3) (As := [.int q2.toInt32]) (S0 := []) rfl (by decide +kernel) k_Types_right l_Machine_167 (Nat.le_of_ble_eq_true rfl) (Nat.le_of_ble_eq_true rfl) (Nat.le_refl _) (Nat.le_refl _) ?_
  refine pm_blk (pc' := 31) (L' := [(3, .int q3), (1, .long q1), (0, .ref 44)]) (S' := [.long q1, .ref 45]) (M' := sm g u) [pm_o (.istore_n 3), pm_o (.aload_n 0), pm_of (.getfield 26) 6 3 2, pm_o (.lload_n 1)] (by decide +kernel) rfl ?_
  obtain ⟨q4, hq4, h⟩ := pm_bd h
  refine pm_cV (idx := 148) m_Heap_kind (c_Heap_kind l h0 D hT hq4) (As := [.long q1]) (S0 := []) rfl (by decide +kernel) k_Heap_kind l_Machine_148 (Nat.le_of_ble_eq_true rfl) (Nat.le_of_ble_eq_true rfl) (Nat.le_refl _) (Nat.le_refl _) ?_
  refine pm_blk (pc' := 35) (L' := [(3, .int q3), (1, .long q1), (0, .ref 44)]) (S' := [.int 4, .int q4]) (M' := sm g u) [pm_oi (.iconst 4) 4] (by decide +kernel) rfl ?_
  refine pm_ic_ne (off := 7) 42 (by decide +kernel) (by decide) (fun hc5 => ?_) (fun hc5 => ?_)
  · rw [if_neg hc5] at h
    refine pm_blk (pc' := 43) (L' := [(3, .int q3), (1, .long q1), (0, .ref 44)]) (S' := [.int 0]) (M' := sm g u) [pm_oi (.iconst 0) 0] (by decide +kernel) rfl ?_
    refine pm_loc [2, 1, 0] rfl ?_
    exact w_Machine_leaveCover_43 l h0 D hT q1 q3 0 u h
  · rw [if_pos hc5] at h
    refine pm_blk (pc' := 39) (L' := [(3, .int q3), (1, .long q1), (0, .ref 44)]) (S' := [.int 1]) (M' := sm g u) [pm_oi (.iconst 1) 1] (by decide +kernel) rfl ?_
    refine pm_goto (off := 4) 43 (by decide +kernel) (by decide) ?_
    refine pm_loc [2, 1, 0] rfl ?_
    exact w_Machine_leaveCover_43 l h0 D hT q1 q3 1 u h
def K_Machine_callDef_29 (N : Nat) (g : pm_s) : Nat → Int32 → Int32 → Int32 → pm_J → Option (pm_J)
  | 0, _, _, _, _ => none
  | n + 1, x2, x3, x4, u => (F_Frames_heldCount g u).bind fun q4 => if q4 ≤ x4 then (F_Frames_setState 4 g u).bind fun q6 => (F_Table_root x2 g q6).bind fun q7 => (F_Machine_goInto q7 x3 g q6).bind fun q8 => some q8 else (F_Frames_held x4 g u).bind fun q9 => (F_Heap_setLocal x3 x4 q9 g u).bind fun q10 => K_Machine_callDef_29 N g  n x2 x3 (x4 + 1) q10
set_option maxHeartbeats 4000000 in
set_option maxRecDepth 100000 in
theorem w_Machine_callDef_29 (l : Launch) (h0 : Nat) (D : pm_D) {g : pm_s} (hT : sh_T g) {N : Nat} {u0 : pm_J} {out : pm_J} {p : Program} {e : Env} {R : Room} {s : State} {m : MethodId} {args : Array Value} {below : List Frame} {meth : Method} {c : Code} : ∀ (n : Nat) (x2 : Int32) (x3 : Int32) (x4 : Int32) (u : pm_J), K_Machine_callDef_29 N g n x2 x3 x4 u = some out → pm_V (p, l, e, R, s, m, args, below, meth, c) m_Machine_callDef h0 D (g.1, g.2.1, g.1, g.2.1, 2) (pm_E (p, l, e, R, s, m, args, below, meth, c) h0 D (sm g u0) none (sm g out)) 29 [(0, .ref 44), (2, .int x2), (3, .int x3), (4, .int x4)] [] (sm g u) := by
  intro n
  induction n with
  | zero => intro x2 x3 x4 u h; cases h
  | succ n ih =>
    intro x2 x3 x4 u h
    rw [K_Machine_callDef_29] at h
    refine pm_blk (pc' := 35) (L' := [(0, .ref 44), (2, .int x2), (3, .int x3), (4, .int x4)]) (S' := [.ref 57, .int x4]) (M' := sm g u) [pm_o (.iload 4), pm_o (.aload_n 0), pm_of (.getfield 42) 6 5 2] (by decide +kernel) rfl ?_
    obtain ⟨q4, hq4, h⟩ := pm_bd h
    refine pm_cV (idx := 287) m_Frames_heldCount (c_Frames_heldCount l h0 D hT hq4) (As := []) (S0 := [.int x4]) rfl (by decide +kernel) k_Frames_heldCount l_Machine_287 (Nat.le_of_ble_eq_true rfl) (Nat.le_of_ble_eq_true rfl) (Nat.le_refl _) (Nat.le_refl _) ?_
    refine pm_blk (pc' := 38) (L' := [(0, .ref 44), (2, .int x2), (3, .int x3), (4, .int x4)]) (S' := [.int q4, .int x4]) (M' := sm g u) [] (by decide +kernel) rfl ?_
    refine pm_ic_ge (off := 28) 66 (by decide +kernel) (by decide) (fun hc5 => ?_) (fun hc5 => ?_)
    · rw [if_pos hc5] at h
      refine pm_blk (pc' := 71) (L' := [(0, .ref 44), (2, .int x2), (3, .int x3), (4, .int x4)]) (S' := [.int 4, .ref 57]) (M' := sm g u) [pm_o (.aload_n 0), pm_of (.getfield 42) 6 5 2, pm_oi (.iconst 4) 4] (by decide +kernel) rfl ?_
      obtain ⟨q6, hq6, h⟩ := pm_bd h
      refine pm_cV (idx := 190) m_Frames_setState (c_Frames_setState l h0 D hT hq6) (As := [.int 4]) (S0 := []) rfl (by decide +kernel) k_Frames_setState l_Machine_190 (Nat.le_of_ble_eq_true rfl) (Nat.le_of_ble_eq_true rfl) (Nat.le_refl _) (Nat.le_refl _) ?_
      refine pm_blk (pc' := 80) (L' := [(0, .ref 44), (2, .int x2), (3, .int x3), (4, .int x4)]) (S' := [.int x2, .ref 29, .ref 44]) (M' := sm g q6) [pm_o (.aload_n 0), pm_o (.aload_n 0), pm_of (.getfield 19) 6 2 2, pm_o (.iload_n 2)] (by decide +kernel) rfl ?_
      obtain ⟨q7, hq7, h⟩ := pm_bd h
      refine pm_cV (idx := 99) m_Table_root (c_Table_root l h0 D hT hq7) (As := [.int x2]) (S0 := [.ref 44]) rfl (by decide +kernel) k_Table_root l_Machine_99 (Nat.le_of_ble_eq_true rfl) (Nat.le_of_ble_eq_true rfl) (Nat.le_refl _) (Nat.le_refl _) ?_
      refine pm_blk (pc' := 84) (L' := [(0, .ref 44), (2, .int x2), (3, .int x3), (4, .int x4)]) (S' := [.int x3, .int q7, .ref 44]) (M' := sm g q6) [pm_o (.iload_n 3)] (by decide +kernel) rfl ?_
      obtain ⟨q8, hq8, h⟩ := pm_bd h
      refine pm_cV (idx := 102) m_Machine_goInto (c_Machine_goInto l h0 D hT hq8) (As := [.int q7, .int x3]) (S0 := []) rfl (by decide +kernel) k_Machine_goInto l_Machine_102 (Nat.le_of_ble_eq_true rfl) (Nat.le_of_ble_eq_true rfl) (Nat.le_refl _) (Nat.le_refl _) ?_
      refine pm_blk (pc' := 87) (L' := [(0, .ref 44), (2, .int x2), (3, .int x3), (4, .int x4)]) (S' := []) (M' := sm g q8) [] (by decide +kernel) rfl ?_
      have h9 := Option.some.inj h
      subst h9
      exact pm_retv rfl (by decide +kernel) rfl rfl
    · rw [if_neg hc5] at h
      refine pm_blk (pc' := 54) (L' := [(0, .ref 44), (2, .int x2), (3, .int x3), (4, .int x4)]) (S' := [.int x4, .ref 57, .int x4, .int x3, .ref 45]) (M' := sm g u) [pm_o (.aload_n 0), pm_of (.getfield 26) 6 3 2, pm_o (.iload_n 3), pm_o (.iload 4), pm_o (.aload_n 0), pm_of (.getfield 42) 6 5 2, pm_o (.iload 4)] (by decide +kernel) rfl ?_
      obtain ⟨q9, hq9, h⟩ := pm_bd h
      refine pm_cV (idx := 250) m_Frames_held (c_Frames_held l h0 D hT hq9) (As := [.int x4]) (S0 := [.int x4, .int x3, .ref 45]) rfl (by decide +kernel) k_Frames_held l_Machine_250 (Nat.le_of_ble_eq_true rfl) (Nat.le_of_ble_eq_true rfl) (Nat.le_refl _) (Nat.le_refl _) ?_
      refine pm_blk (pc' := 57) (L' := [(0, .ref 44), (2, .int x2), (3, .int x3), (4, .int x4)]) (S' := [.long q9, .int x4, .int x3, .ref 45]) (M' := sm g u) [] (by decide +kernel) rfl ?_
      obtain ⟨q10, hq10, h⟩ := pm_bd h
      refine pm_cV (idx := 95) m_Heap_setLocal (c_Heap_setLocal l h0 D hT hq10) (As := [.int x3, .int x4, .long q9]) (S0 := []) rfl (by decide +kernel) k_Heap_setLocal l_Machine_95 (Nat.le_of_ble_eq_true rfl) (Nat.le_of_ble_eq_true rfl) (Nat.le_refl _) (Nat.le_refl _) ?_
      refine pm_blk (pc' := 63) (L' := [(4, .int (x4 + 1)), (0, .ref 44), (2, .int x2), (3, .int x3)]) (S' := []) (M' := sm g q10) [pm_oi (.iinc 4 1) 1] (by decide +kernel) rfl ?_
      refine pm_goto (off := -34) 29 (by decide +kernel) (by decide) ?_
      refine pm_loc [1, 2, 3, 0] rfl ?_
      exact ih x2 x3 (x4 + 1) q10 h
def F_Machine_callDef (N : Nat) (a1 : Int32) (g : pm_s) (u : pm_J) : Option (pm_J) := (F_Tree_value a1 g u).bind fun q1 => (F_Table_locals q1.toInt32 g u).bind fun q2 => (F_Heap_claim q2 g u).bind fun q3 => K_Machine_callDef_29 N g N q1.toInt32 q3.1 0 q3.2
set_option maxHeartbeats 4000000 in
set_option maxRecDepth 100000 in
theorem c_Machine_callDef (l : Launch) (h0 : Nat) (D : pm_D) {g : pm_s} {u : pm_J} (hT : sh_T g) {N : Nat} {a1 : Int32} {out : pm_J} (h : F_Machine_callDef N a1 g u = some out) : pm_C l h0 D m_Machine_callDef (2) [.ref 44, .int a1] (sm g u) none (sm g out) := by
  unfold F_Machine_callDef at h
  refine pm_met (by decide +kernel) (Nat.le_of_ble_eq_true rfl) (Nat.le_refl _) (Nat.le_refl _) ?_
  intro p e R s m args below meth c
  refine pm_blk (pc' := 5) (L' := [(0, .ref 44), (1, .int a1)]) (S' := [.int a1, .ref 18]) (M' := sm g u) [pm_o (.aload_n 0), pm_of (.getfield 15) 6 1 2, pm_o (.iload_n 1)] (by decide +kernel) rfl ?_
  obtain ⟨q1, hq1, h⟩ := pm_bd h
  refine pm_cV (idx := 202) m_Tree_value (c_Tree_value l h0 D hT hq1) (As := [.int a1]) (S0 := []) rfl (by decide +kernel) k_Tree_value l_Machine_202 (Nat.le_of_ble_eq_true rfl) (Nat.le_of_ble_eq_true rfl) (Nat.le_refl _) (Nat.le_refl _) ?_
  refine pm_blk (pc' := 19) (L' := [(2, .int q1.toInt32), (0, .ref 44), (1, .int a1)]) (S' := [.int q1.toInt32, .ref 29, .ref 45]) (M' := sm g u) [pm_o .l2i, pm_o (.istore_n 2), pm_o (.aload_n 0), pm_of (.getfield 26) 6 3 2, pm_o (.aload_n 0), pm_of (.getfield 19) 6 2 2, pm_o (.iload_n 2)] (by decide +kernel) rfl ?_
  obtain ⟨q2, hq2, h⟩ := pm_bd h
  refine pm_cV (idx := 83) m_Table_locals (c_Table_locals l h0 D hT hq2) (As := [.int q1.toInt32]) (S0 := [.ref 45]) rfl (by decide +kernel) k_Table_locals l_Machine_83 (Nat.le_of_ble_eq_true rfl) (Nat.le_of_ble_eq_true rfl) (Nat.le_refl _) (Nat.le_refl _) ?_
  refine pm_blk (pc' := 22) (L' := [(2, .int q1.toInt32), (0, .ref 44), (1, .int a1)]) (S' := [.int q2, .ref 45]) (M' := sm g u) [] (by decide +kernel) rfl ?_
  obtain ⟨q3, hq3, h⟩ := pm_bd h
  refine pm_cV (idx := 86) m_Heap_claim (c_Heap_claim l h0 D hT hq3) (As := [.int q2]) (S0 := []) rfl (by decide +kernel) k_Heap_claim l_Machine_86 (Nat.le_of_ble_eq_true rfl) (Nat.le_of_ble_eq_true rfl) (Nat.le_refl _) (Nat.le_refl _) ?_
  refine pm_blk (pc' := 29) (L' := [(4, .int 0), (3, .int q3.1), (2, .int q1.toInt32), (0, .ref 44), (1, .int a1)]) (S' := []) (M' := sm g q3.2) [pm_o (.istore_n 3), pm_oi (.iconst 0) 0, pm_o (.istore 4)] (by decide +kernel) rfl ?_
  refine pm_loc [3, 2, 1, 0] rfl ?_
  exact w_Machine_callDef_29 l h0 D hT N q1.toInt32 q3.1 0 q3.2 h
def F_Machine_workAtom (a1 : Int32) (g : pm_s) (u : pm_J) : Option (pm_J) := (F_Frames_atom g u).bind fun q1 => (F_Tree_next q1 g u).bind fun q2 => (F_Frames_setAtom q2 g u).bind fun q3 => (F_Frames_atom g q3).bind fun q4 => (F_Machine_workPart q4 a1 g q3).bind fun q5 => some q5
set_option maxHeartbeats 4000000 in
set_option maxRecDepth 100000 in
theorem c_Machine_workAtom (l : Launch) (h0 : Nat) (D : pm_D) {g : pm_s} {u : pm_J} (hT : sh_T g) {a1 : Int32} {out : pm_J} (h : F_Machine_workAtom a1 g u = some out) : pm_C l h0 D m_Machine_workAtom (2) [.ref 44, .int a1] (sm g u) none (sm g out) := by
  unfold F_Machine_workAtom at h
  refine pm_met (by decide +kernel) (Nat.le_of_ble_eq_true rfl) (Nat.le_refl _) (Nat.le_refl _) ?_
  intro p e R s m args below meth c
  refine pm_blk (pc' := 12) (L' := [(0, .ref 44), (1, .int a1)]) (S' := [.ref 57, .ref 18, .ref 57]) (M' := sm g u) [pm_o (.aload_n 0), pm_of (.getfield 42) 6 5 2, pm_o (.aload_n 0), pm_of (.getfield 15) 6 1 2, pm_o (.aload_n 0), pm_of (.getfield 42) 6 5 2] (by decide +kernel) rfl ?_
  obtain ⟨q1, hq1, h⟩ := pm_bd h
  refine pm_cV (idx := 281) m_Frames_atom (c_Frames_atom l h0 D hT hq1) (As := []) (S0 := [.ref 18, .ref 57]) rfl (by decide +kernel) k_Frames_atom l_Machine_281 (Nat.le_of_ble_eq_true rfl) (Nat.le_of_ble_eq_true rfl) (Nat.le_refl _) (Nat.le_refl _) ?_
  refine pm_blk (pc' := 15) (L' := [(0, .ref 44), (1, .int a1)]) (S' := [.int q1, .ref 18, .ref 57]) (M' := sm g u) [] (by decide +kernel) rfl ?_
  obtain ⟨q2, hq2, h⟩ := pm_bd h
  refine pm_cV (idx := 284) m_Tree_next (c_Tree_next l h0 D hT hq2) (As := [.int q1]) (S0 := [.ref 57]) rfl (by decide +kernel) k_Tree_next l_Machine_284 (Nat.le_of_ble_eq_true rfl) (Nat.le_of_ble_eq_true rfl) (Nat.le_refl _) (Nat.le_refl _) ?_
  refine pm_blk (pc' := 18) (L' := [(0, .ref 44), (1, .int a1)]) (S' := [.int q2, .ref 57]) (M' := sm g u) [] (by decide +kernel) rfl ?_
  obtain ⟨q3, hq3, h⟩ := pm_bd h
  refine pm_cV (idx := 272) m_Frames_setAtom (c_Frames_setAtom l h0 D hT hq3) (As := [.int q2]) (S0 := []) rfl (by decide +kernel) k_Frames_setAtom l_Machine_272 (Nat.le_of_ble_eq_true rfl) (Nat.le_of_ble_eq_true rfl) (Nat.le_refl _) (Nat.le_refl _) ?_
  refine pm_blk (pc' := 26) (L' := [(0, .ref 44), (1, .int a1)]) (S' := [.ref 57, .ref 44]) (M' := sm g q3) [pm_o (.aload_n 0), pm_o (.aload_n 0), pm_of (.getfield 42) 6 5 2] (by decide +kernel) rfl ?_
  obtain ⟨q4, hq4, h⟩ := pm_bd h
  refine pm_cV (idx := 281) m_Frames_atom (c_Frames_atom l h0 D hT hq4) (As := []) (S0 := [.ref 44]) rfl (by decide +kernel) k_Frames_atom l_Machine_281 (Nat.le_of_ble_eq_true rfl) (Nat.le_of_ble_eq_true rfl) (Nat.le_refl _) (Nat.le_refl _) ?_
  refine pm_blk (pc' := 30) (L' := [(0, .ref 44), (1, .int a1)]) (S' := [.int a1, .int q4, .ref 44]) (M' := sm g q3) [pm_o (.iload_n 1)] (by decide +kernel) rfl ?_
  obtain ⟨q5, hq5, h⟩ := pm_bd h
  refine pm_cV (idx := 239) m_Machine_workPart (c_Machine_workPart l h0 D hT hq5) (As := [.int q4, .int a1]) (S0 := []) rfl (by decide +kernel) k_Machine_workPart l_Machine_239 (Nat.le_of_ble_eq_true rfl) (Nat.le_of_ble_eq_true rfl) (Nat.le_refl _) (Nat.le_refl _) ?_
  refine pm_blk (pc' := 33) (L' := [(0, .ref 44), (1, .int a1)]) (S' := []) (M' := sm g q5) [] (by decide +kernel) rfl ?_
  have h9 := Option.some.inj h
  subst h9
  exact pm_retv rfl (by decide +kernel) rfl rfl
def F_Machine_beginCall (N : Nat) (a1 : Int32) (g : pm_s) (u : pm_J) : Option (pm_J) := (F_Tree_first a1 g u).bind fun q1 => (F_Frames_setAtom q1 g u).bind fun q2 => (F_Tree_kind a1 g q2).bind fun q3 => if q3 = 16 then (F_Tree_first a1 g q2).bind fun q9 => (F_Machine_workPart q9 1 g q2).bind fun q10 => some q10 else (F_Tree_kind a1 g q2).bind fun q5 => if q5 = 17 then (F_Machine_workAtom 3 g q2).bind fun q8 => some q8 else (F_Machine_callDef N a1 g q2).bind fun q7 => some q7
set_option maxHeartbeats 4000000 in
set_option maxRecDepth 100000 in
theorem c_Machine_beginCall (l : Launch) (h0 : Nat) (D : pm_D) {g : pm_s} {u : pm_J} (hT : sh_T g) {N : Nat} {a1 : Int32} {out : pm_J} (h : F_Machine_beginCall N a1 g u = some out) : pm_C l h0 D m_Machine_beginCall (3) [.ref 44, .int a1] (sm g u) none (sm g out) := by
  unfold F_Machine_beginCall at h
  refine pm_met (by decide +kernel) (Nat.le_of_ble_eq_true rfl) (Nat.le_refl _) (Nat.le_refl _) ?_
  intro p e R s m args below meth c
  refine pm_blk (pc' := 9) (L' := [(0, .ref 44), (1, .int a1)]) (S' := [.int a1, .ref 18, .ref 57]) (M' := sm g u) [pm_o (.aload_n 0), pm_of (.getfield 42) 6 5 2, pm_o (.aload_n 0), pm_of (.getfield 15) 6 1 2, pm_o (.iload_n 1)] (by decide +kernel) rfl ?_
  obtain ⟨q1, hq1, h⟩ := pm_bd h
  refine pm_cV (idx := 208) m_Tree_first (c_Tree_first l h0 D hT hq1) (As := [.int a1]) (S0 := [.ref 57]) rfl (by decide +kernel) k_Tree_first l_Machine_208 (Nat.le_of_ble_eq_true rfl) (Nat.le_of_ble_eq_true rfl) (Nat.le_refl _) (Nat.le_refl _) ?_
  refine pm_blk (pc' := 12) (L' := [(0, .ref 44), (1, .int a1)]) (S' := [.int q1, .ref 57]) (M' := sm g u) [] (by decide +kernel) rfl ?_
  obtain ⟨q2, hq2, h⟩ := pm_bd h
  refine pm_cV (idx := 272) m_Frames_setAtom (c_Frames_setAtom l h0 D hT hq2) (As := [.int q1]) (S0 := []) rfl (by decide +kernel) k_Frames_setAtom l_Machine_272 (Nat.le_of_ble_eq_true rfl) (Nat.le_of_ble_eq_true rfl) (Nat.le_refl _) (Nat.le_refl _) ?_
  refine pm_blk (pc' := 20) (L' := [(0, .ref 44), (1, .int a1)]) (S' := [.int a1, .ref 18]) (M' := sm g q2) [pm_o (.aload_n 0), pm_of (.getfield 15) 6 1 2, pm_o (.iload_n 1)] (by decide +kernel) rfl ?_
  obtain ⟨q3, hq3, h⟩ := pm_bd h
  refine pm_cV (idx := 199) m_Tree_kind (c_Tree_kind l h0 D hT hq3) (As := [.int a1]) (S0 := []) rfl (by decide +kernel) k_Tree_kind l_Machine_199 (Nat.le_of_ble_eq_true rfl) (Nat.le_of_ble_eq_true rfl) (Nat.le_refl _) (Nat.le_refl _) ?_
  refine pm_blk (pc' := 25) (L' := [(0, .ref 44), (1, .int a1)]) (S' := [.int 16, .int q3]) (M' := sm g q2) [pm_oi (.bipush 16) 16] (by decide +kernel) rfl ?_
  refine pm_ic_ne (off := 19) 44 (by decide +kernel) (by decide) (fun hc4 => ?_) (fun hc4 => ?_)
  · rw [if_neg hc4] at h
    refine pm_blk (pc' := 49) (L' := [(0, .ref 44), (1, .int a1)]) (S' := [.int a1, .ref 18]) (M' := sm g q2) [pm_o (.aload_n 0), pm_of (.getfield 15) 6 1 2, pm_o (.iload_n 1)] (by decide +kernel) rfl ?_
    obtain ⟨q5, hq5, h⟩ := pm_bd h
    refine pm_cV (idx := 199) m_Tree_kind (c_Tree_kind l h0 D hT hq5) (As := [.int a1]) (S0 := []) rfl (by decide +kernel) k_Tree_kind l_Machine_199 (Nat.le_of_ble_eq_true rfl) (Nat.le_of_ble_eq_true rfl) (Nat.le_refl _) (Nat.le_refl _) ?_
    refine pm_blk (pc' := 54) (L' := [(0, .ref 44), (1, .int a1)]) (S' := [.int 17, .int q5]) (M' := sm g q2) [pm_oi (.bipush 17) 17] (by decide +kernel) rfl ?_
    refine pm_ic_ne (off := 11) 65 (by decide +kernel) (by decide) (fun hc6 => ?_) (fun hc6 => ?_)
    · rw [if_neg hc6] at h
      refine pm_blk (pc' := 67) (L' := [(0, .ref 44), (1, .int a1)]) (S' := [.int a1, .ref 44]) (M' := sm g q2) [pm_o (.aload_n 0), pm_o (.iload_n 1)] (by decide +kernel) rfl ?_
      obtain ⟨q7, hq7, h⟩ := pm_bd h
      refine pm_cV (idx := 278) m_Machine_callDef (c_Machine_callDef l h0 D hT hq7) (As := [.int a1]) (S0 := []) rfl (by decide +kernel) k_Machine_callDef l_Machine_278 (Nat.le_of_ble_eq_true rfl) (Nat.le_of_ble_eq_true rfl) (Nat.le_refl _) (Nat.le_refl _) ?_
      refine pm_blk (pc' := 70) (L' := [(0, .ref 44), (1, .int a1)]) (S' := []) (M' := sm g q7) [] (by decide +kernel) rfl ?_
      have h9 := Option.some.inj h
      subst h9
      exact pm_retv rfl (by decide +kernel) rfl rfl
    · rw [if_pos hc6] at h
      refine pm_blk (pc' := 59) (L' := [(0, .ref 44), (1, .int a1)]) (S' := [.int 3, .ref 44]) (M' := sm g q2) [pm_o (.aload_n 0), pm_oi (.iconst 3) 3] (by decide +kernel) rfl ?_
      obtain ⟨q8, hq8, h⟩ := pm_bd h
      refine pm_cV (idx := 275) m_Machine_workAtom (c_Machine_workAtom l h0 D hT hq8) (As := [.int 3]) (S0 := []) rfl (by decide +kernel) k_Machine_workAtom l_Machine_275 (Nat.le_of_ble_eq_true rfl) (Nat.le_of_ble_eq_true rfl) (Nat.le_refl _) (Nat.le_refl _) ?_
      refine pm_blk (pc' := 62) (L' := [(0, .ref 44), (1, .int a1)]) (S' := []) (M' := sm g q8) [] (by decide +kernel) rfl ?_
      refine pm_goto (off := 8) 70 (by decide +kernel) (by decide) ?_
      have h9 := Option.some.inj h
      subst h9
      exact pm_retv rfl (by decide +kernel) rfl rfl
  · rw [if_pos hc4] at h
    refine pm_blk (pc' := 34) (L' := [(0, .ref 44), (1, .int a1)]) (S' := [.int a1, .ref 18, .ref 44]) (M' := sm g q2) [pm_o (.aload_n 0), pm_o (.aload_n 0), pm_of (.getfield 15) 6 1 2, pm_o (.iload_n 1)] (by decide +kernel) rfl ?_
    obtain ⟨q9, hq9, h⟩ := pm_bd h
    refine pm_cV (idx := 208) m_Tree_first (c_Tree_first l h0 D hT hq9) (As := [.int a1]) (S0 := [.ref 44]) rfl (by decide +kernel) k_Tree_first l_Machine_208 (Nat.le_of_ble_eq_true rfl) (Nat.le_of_ble_eq_true rfl) (Nat.le_refl _) (Nat.le_refl _) ?_
    refine pm_blk (pc' := 38) (L' := [(0, .ref 44), (1, .int a1)]) (S' := [.int 1, .int q9, .ref 44]) (M' := sm g q2) [pm_oi (.iconst 1) 1] (by decide +kernel) rfl ?_
    obtain ⟨q10, hq10, h⟩ := pm_bd h
    refine pm_cV (idx := 239) m_Machine_workPart (c_Machine_workPart l h0 D hT hq10) (As := [.int q9, .int 1]) (S0 := []) rfl (by decide +kernel) k_Machine_workPart l_Machine_239 (Nat.le_of_ble_eq_true rfl) (Nat.le_of_ble_eq_true rfl) (Nat.le_refl _) (Nat.le_refl _) ?_
    refine pm_blk (pc' := 41) (L' := [(0, .ref 44), (1, .int a1)]) (S' := []) (M' := sm g q10) [] (by decide +kernel) rfl ?_
    refine pm_goto (off := 29) 70 (by decide +kernel) (by decide) ?_
    have h9 := Option.some.inj h
    subst h9
    exact pm_retv rfl (by decide +kernel) rfl rfl
def K_Machine_takeArgument_68 (N : Nat) (g : pm_s) (x1 : Int32) (x2 : Int32) (x3 : Int32) (u : pm_J) : Option (pm_J) := (F_Frames_hold (u.2 44 15) g u).bind fun q4 => (F_Table_parameters x2 g q4).bind fun q5 => if q5 ≤ (x3 + 1) then (F_Machine_callDef N x1 g q4).bind fun q7 => some q7 else (F_Machine_workAtom 3 g q4).bind fun q8 => some q8
set_option maxHeartbeats 4000000 in
set_option maxRecDepth 100000 in
theorem w_Machine_takeArgument_68 (l : Launch) (h0 : Nat) (D : pm_D) {g : pm_s} (hT : sh_T g) {N : Nat} {u0 : pm_J} {out : pm_J} {p : Program} {e : Env} {R : Room} {s : State} {m : MethodId} {args : Array Value} {below : List Frame} {meth : Method} {c : Code} : ∀ (x1 : Int32) (x2 : Int32) (x3 : Int32) (u : pm_J), K_Machine_takeArgument_68 N g x1 x2 x3 u = some out → pm_V (p, l, e, R, s, m, args, below, meth, c) m_Machine_takeArgument h0 D (g.1, g.2.1, g.1, g.2.1, 5) (pm_E (p, l, e, R, s, m, args, below, meth, c) h0 D (sm g u0) none (sm g out)) 68 [(0, .ref 44), (1, .int x1), (2, .int x2), (3, .int x3)] [] (sm g u) := by
    intro x1 x2 x3 u h
    unfold K_Machine_takeArgument_68 at h
    refine pm_blk (pc' := 76) (L' := [(0, .ref 44), (1, .int x1), (2, .int x2), (3, .int x3)]) (S' := [.long (u.2 44 15), .ref 57]) (M' := sm g u) [pm_o (.aload_n 0), pm_of (.getfield 42) 6 5 2, pm_o (.aload_n 0), pm_of (.getfield 57) 6 15 1] (by decide +kernel) rfl ?_
    obtain ⟨q4, hq4, h⟩ := pm_bd h
    refine pm_cV (idx := 247) m_Frames_hold (c_Frames_hold l h0 D hT hq4) (As := [.long (u.2 44 15)]) (S0 := []) rfl (by decide +kernel) k_Frames_hold l_Machine_247 (Nat.le_of_ble_eq_true rfl) (Nat.le_of_ble_eq_true rfl) (Nat.le_refl _) (Nat.le_refl _) ?_
    refine pm_blk (pc' := 87) (L' := [(0, .ref 44), (1, .int x1), (2, .int x2), (3, .int x3)]) (S' := [.int x2, .ref 29, .int (x3 + 1)]) (M' := sm g q4) [pm_o (.iload_n 3), pm_oi (.iconst 1) 1, pm_o .iadd, pm_o (.aload_n 0), pm_of (.getfield 19) 6 2 2, pm_o (.iload_n 2)] (by decide +kernel) rfl ?_
    obtain ⟨q5, hq5, h⟩ := pm_bd h
    refine pm_cV (idx := 92) m_Table_parameters (c_Table_parameters l h0 D hT hq5) (As := [.int x2]) (S0 := [.int (x3 + 1)]) rfl (by decide +kernel) k_Table_parameters l_Machine_92 (Nat.le_of_ble_eq_true rfl) (Nat.le_of_ble_eq_true rfl) (Nat.le_refl _) (Nat.le_refl _) ?_
    refine pm_blk (pc' := 90) (L' := [(0, .ref 44), (1, .int x1), (2, .int x2), (3, .int x3)]) (S' := [.int q5, .int (x3 + 1)]) (M' := sm g q4) [] (by decide +kernel) rfl ?_
    refine pm_ic_ge (off := 11) 101 (by decide +kernel) (by decide) (fun hc6 => ?_) (fun hc6 => ?_)
    · rw [if_pos hc6] at h
      refine pm_blk (pc' := 103) (L' := [(0, .ref 44), (1, .int x1), (2, .int x2), (3, .int x3)]) (S' := [.int x1, .ref 44]) (M' := sm g q4) [pm_o (.aload_n 0), pm_o (.iload_n 1)] (by decide +kernel) rfl ?_
      obtain ⟨q7, hq7, h⟩ := pm_bd h
      refine pm_cV (idx := 278) m_Machine_callDef (c_Machine_callDef l h0 D hT hq7) (As := [.int x1]) (S0 := []) rfl (by decide +kernel) k_Machine_callDef l_Machine_278 (Nat.le_of_ble_eq_true rfl) (Nat.le_of_ble_eq_true rfl) (Nat.le_refl _) (Nat.le_refl _) ?_
      refine pm_blk (pc' := 106) (L' := [(0, .ref 44), (1, .int x1), (2, .int x2), (3, .int x3)]) (S' := []) (M' := sm g q7) [] (by decide +kernel) rfl ?_
      have h9 := Option.some.inj h
      subst h9
      exact pm_retv rfl (by decide +kernel) rfl rfl
    · rw [if_neg hc6] at h
      refine pm_blk (pc' := 95) (L' := [(0, .ref 44), (1, .int x1), (2, .int x2), (3, .int x3)]) (S' := [.int 3, .ref 44]) (M' := sm g q4) [pm_o (.aload_n 0), pm_oi (.iconst 3) 3] (by decide +kernel) rfl ?_
      obtain ⟨q8, hq8, h⟩ := pm_bd h
      refine pm_cV (idx := 275) m_Machine_workAtom (c_Machine_workAtom l h0 D hT hq8) (As := [.int 3]) (S0 := []) rfl (by decide +kernel) k_Machine_workAtom l_Machine_275 (Nat.le_of_ble_eq_true rfl) (Nat.le_of_ble_eq_true rfl) (Nat.le_refl _) (Nat.le_refl _) ?_
      refine pm_blk (pc' := 98) (L' := [(0, .ref 44), (1, .int x1), (2, .int x2), (3, .int x3)]) (S' := []) (M' := sm g q8) [] (by decide +kernel) rfl ?_
      refine pm_goto (off := 8) 106 (by decide +kernel) (by decide) ?_
      have h9 := Option.some.inj h
      subst h9
      exact pm_retv rfl (by decide +kernel) rfl rfl
def F_Machine_takeArgument (N : Nat) (a1 : Int32) (g : pm_s) (u : pm_J) : Option (pm_J) := (F_Tree_value a1 g u).bind fun q1 => (F_Frames_heldCount g u).bind fun q2 => if (u.1 44 6) = 0 then K_Machine_takeArgument_68 N g a1 q1.toInt32 q2 u else (F_Frames_atom g u).bind fun q9 => (F_Tree_isShort q9 g u).bind fun q10 => if q10 = 0 then (F_Table_localType q1.toInt32 q2 g u).bind fun q12 => (F_Adapter_adapt N (u.2 44 15) q12 a1 1 g u).bind fun q13 => K_Machine_takeArgument_68 N g a1 q1.toInt32 q2 (wj q13.2 44 15 q13.1) else K_Machine_takeArgument_68 N g a1 q1.toInt32 q2 u
set_option maxHeartbeats 4000000 in
set_option maxRecDepth 100000 in
theorem c_Machine_takeArgument (l : Launch) (h0 : Nat) (D : pm_D) {g : pm_s} {u : pm_J} (hT : sh_T g) {N : Nat} {a1 : Int32} {out : pm_J} (h : F_Machine_takeArgument N a1 g u = some out) : pm_C l h0 D m_Machine_takeArgument (5) [.ref 44, .int a1] (sm g u) none (sm g out) := by
  unfold F_Machine_takeArgument at h
  refine pm_met (by decide +kernel) (Nat.le_of_ble_eq_true rfl) (Nat.le_refl _) (Nat.le_refl _) ?_
  intro p e R s m args below meth c
  refine pm_blk (pc' := 5) (L' := [(0, .ref 44), (1, .int a1)]) (S' := [.int a1, .ref 18]) (M' := sm g u) [pm_o (.aload_n 0), pm_of (.getfield 15) 6 1 2, pm_o (.iload_n 1)] (by decide +kernel) rfl ?_
  obtain ⟨q1, hq1, h⟩ := pm_bd h
  refine pm_cV (idx := 202) m_Tree_value (c_Tree_value l h0 D hT hq1) (As := [.int a1]) (S0 := []) rfl (by decide +kernel) k_Tree_value l_Machine_202 (Nat.le_of_ble_eq_true rfl) (Nat.le_of_ble_eq_true rfl) (Nat.le_refl _) (Nat.le_refl _) ?_
  refine pm_blk (pc' := 14) (L' := [(2, .int q1.toInt32), (0, .ref 44), (1, .int a1)]) (S' := [.ref 57]) (M' := sm g u) [pm_o .l2i, pm_o (.istore_n 2), pm_o (.aload_n 0), pm_of (.getfield 42) 6 5 2] (by decide +kernel) rfl ?_
  obtain ⟨q2, hq2, h⟩ := pm_bd h
  refine pm_cV (idx := 287) m_Frames_heldCount (c_Frames_heldCount l h0 D hT hq2) (As := []) (S0 := []) rfl (by decide +kernel) k_Frames_heldCount l_Machine_287 (Nat.le_of_ble_eq_true rfl) (Nat.le_of_ble_eq_true rfl) (Nat.le_refl _) (Nat.le_refl _) ?_
  refine pm_blk (pc' := 22) (L' := [(3, .int q2), (2, .int q1.toInt32), (0, .ref 44), (1, .int a1)]) (S' := [.int (u.1 44 6)]) (M' := sm g u) [pm_o (.istore_n 3), pm_o (.aload_n 0), pm_of (.getfield 67) 6 6 3] (by decide +kernel) rfl ?_
  refine pm_if_eq (off := 46) 68 (by decide +kernel) (by decide) (fun hc3 => ?_) (fun hc3 => ?_)
  · rw [if_pos hc3] at h
    refine pm_loc [2, 3, 1, 0] rfl ?_
    exact w_Machine_takeArgument_68 l h0 D hT a1 q1.toInt32 q2 u h
  · rw [if_neg hc3] at h
    refine pm_blk (pc' := 33) (L' := [(3, .int q2), (2, .int q1.toInt32), (0, .ref 44), (1, .int a1)]) (S' := [.ref 57, .ref 18]) (M' := sm g u) [pm_o (.aload_n 0), pm_of (.getfield 15) 6 1 2, pm_o (.aload_n 0), pm_of (.getfield 42) 6 5 2] (by decide +kernel) rfl ?_
    obtain ⟨q9, hq9, h⟩ := pm_bd h
    refine pm_cV (idx := 281) m_Frames_atom (c_Frames_atom l h0 D hT hq9) (As := []) (S0 := [.ref 18]) rfl (by decide +kernel) k_Frames_atom l_Machine_281 (Nat.le_of_ble_eq_true rfl) (Nat.le_of_ble_eq_true rfl) (Nat.le_refl _) (Nat.le_refl _) ?_
    refine pm_blk (pc' := 36) (L' := [(3, .int q2), (2, .int q1.toInt32), (0, .ref 44), (1, .int a1)]) (S' := [.int q9, .ref 18]) (M' := sm g u) [] (by decide +kernel) rfl ?_
    obtain ⟨q10, hq10, h⟩ := pm_bd h
    refine pm_cV (idx := 290) m_Tree_isShort (c_Tree_isShort l h0 D hT hq10) (As := [.int q9]) (S0 := []) rfl (by decide +kernel) k_Tree_isShort l_Machine_290 (Nat.le_of_ble_eq_true rfl) (Nat.le_of_ble_eq_true rfl) (Nat.le_refl _) (Nat.le_refl _) ?_
    refine pm_blk (pc' := 39) (L' := [(3, .int q2), (2, .int q1.toInt32), (0, .ref 44), (1, .int a1)]) (S' := [.int q10]) (M' := sm g u) [] (by decide +kernel) rfl ?_
    refine pm_if_ne (off := 29) 68 (by decide +kernel) (by decide) (fun hc11 => ?_) (fun hc11 => ?_)
    · rw [if_neg hc11] at h
      refine pm_loc [2, 3, 1, 0] rfl ?_
      exact w_Machine_takeArgument_68 l h0 D hT a1 q1.toInt32 q2 u h
    · rw [if_pos hc11] at h
      refine pm_blk (pc' := 57) (L' := [(3, .int q2), (2, .int q1.toInt32), (0, .ref 44), (1, .int a1)]) (S' := [.int q2, .int q1.toInt32, .ref 29, .long (u.2 44 15), .ref 52, .ref 44]) (M' := sm g u) [pm_o (.aload_n 0), pm_o (.aload_n 0), pm_of (.getfield 35) 6 4 2, pm_o (.aload_n 0), pm_of (.getfield 57) 6 15 1, pm_o (.aload_n 0), pm_of (.getfield 19) 6 2 2, pm_o (.iload_n 2), pm_o (.iload_n 3)] (by decide +kernel) rfl ?_
      obtain ⟨q12, hq12, h⟩ := pm_bd h
      refine pm_cV (idx := 294) m_Table_localType (c_Table_localType l h0 D hT hq12) (As := [.int q1.toInt32, .int q2]) (S0 := [.long (u.2 44 15), .ref 52, .ref 44]) rfl (by decide +kernel) k_Table_localType l_Machine_294 (Nat.le_of_ble_eq_true rfl) (Nat.le_of_ble_eq_true rfl) (Nat.le_refl _) (Nat.le_refl _) ?_
      refine pm_blk (pc' := 62) (L' := [(3, .int q2), (2, .int q1.toInt32), (0, .ref 44), (1, .int a1)]) (S' := [.int 1, .int a1, .int q12, .long (u.2 44 15), .ref 52, .ref 44]) (M' := sm g u) [pm_o (.iload_n 1), pm_oi (.iconst 1) 1] (by decide +kernel) rfl ?_
      obtain ⟨q13, hq13, h⟩ := pm_bd h
      refine pm_cV (idx := 298) m_Adapter_adapt (c_Adapter_adapt l h0 D hT hq13) (As := [.long (u.2 44 15), .int q12, .int a1, .int 1]) (S0 := [.ref 44]) rfl (by decide +kernel) k_Adapter_adapt l_Machine_298 (Nat.le_of_ble_eq_true rfl) (Nat.le_of_ble_eq_true rfl) (Nat.le_refl _) (Nat.le_refl _) ?_
      refine pm_blk (pc' := 68) (L' := [(3, .int q2), (2, .int q1.toInt32), (0, .ref 44), (1, .int a1)]) (S' := []) (M' := sm g (wj q13.2 44 15 q13.1)) [pm_of (.putfield 57) 6 15 1] (by decide +kernel) rfl ?_
      refine pm_loc [2, 3, 1, 0] rfl ?_
      exact w_Machine_takeArgument_68 l h0 D hT a1 q1.toInt32 q2 (wj q13.2 44 15 q13.1) h
def F_Machine_takeResult (N : Nat) (a1 : Int32) (g : pm_s) (u : pm_J) : Option (pm_J) := if (u.1 44 6) = 0 then (F_Frames_setState 1 g u).bind fun q2 => some q2 else (F_Tree_isShort a1 g u).bind fun q3 => if q3 = 0 then (F_Tree_value a1 g u).bind fun q6 => (F_Table_type q6.toInt32 g u).bind fun q7 => (F_Adapter_adapt N (u.2 44 15) q7 a1 0 g u).bind fun q8 => (F_Frames_setState 1 g (wj q8.2 44 15 q8.1)).bind fun q9 => some q9 else (F_Frames_setState 1 g u).bind fun q5 => some q5
set_option maxHeartbeats 4000000 in
set_option maxRecDepth 100000 in
theorem c_Machine_takeResult (l : Launch) (h0 : Nat) (D : pm_D) {g : pm_s} {u : pm_J} (hT : sh_T g) {N : Nat} {a1 : Int32} {out : pm_J} (h : F_Machine_takeResult N a1 g u = some out) : pm_C l h0 D m_Machine_takeResult (5) [.ref 44, .int a1] (sm g u) none (sm g out) := by
  unfold F_Machine_takeResult at h
  refine pm_met (by decide +kernel) (Nat.le_of_ble_eq_true rfl) (Nat.le_refl _) (Nat.le_refl _) ?_
  intro p e R s m args below meth c
  refine pm_blk (pc' := 4) (L' := [(0, .ref 44), (1, .int a1)]) (S' := [.int (u.1 44 6)]) (M' := sm g u) [pm_o (.aload_n 0), pm_of (.getfield 67) 6 6 3] (by decide +kernel) rfl ?_
  refine pm_if_eq (off := 47) 51 (by decide +kernel) (by decide) (fun hc1 => ?_) (fun hc1 => ?_)
  · rw [if_pos hc1] at h
    refine pm_blk (pc' := 56) (L' := [(0, .ref 44), (1, .int a1)]) (S' := [.int 1, .ref 57]) (M' := sm g u) [pm_o (.aload_n 0), pm_of (.getfield 42) 6 5 2, pm_oi (.iconst 1) 1] (by decide +kernel) rfl ?_
    obtain ⟨q2, hq2, h⟩ := pm_bd h
    refine pm_cV (idx := 190) m_Frames_setState (c_Frames_setState l h0 D hT hq2) (As := [.int 1]) (S0 := []) rfl (by decide +kernel) k_Frames_setState l_Machine_190 (Nat.le_of_ble_eq_true rfl) (Nat.le_of_ble_eq_true rfl) (Nat.le_refl _) (Nat.le_refl _) ?_
    refine pm_blk (pc' := 59) (L' := [(0, .ref 44), (1, .int a1)]) (S' := []) (M' := sm g q2) [] (by decide +kernel) rfl ?_
    have h9 := Option.some.inj h
    subst h9
    exact pm_retv rfl (by decide +kernel) rfl rfl
  · rw [if_neg hc1] at h
    refine pm_blk (pc' := 12) (L' := [(0, .ref 44), (1, .int a1)]) (S' := [.int a1, .ref 18]) (M' := sm g u) [pm_o (.aload_n 0), pm_of (.getfield 15) 6 1 2, pm_o (.iload_n 1)] (by decide +kernel) rfl ?_
    obtain ⟨q3, hq3, h⟩ := pm_bd h
    refine pm_cV (idx := 290) m_Tree_isShort (c_Tree_isShort l h0 D hT hq3) (As := [.int a1]) (S0 := []) rfl (by decide +kernel) k_Tree_isShort l_Machine_290 (Nat.le_of_ble_eq_true rfl) (Nat.le_of_ble_eq_true rfl) (Nat.le_refl _) (Nat.le_refl _) ?_
    refine pm_blk (pc' := 15) (L' := [(0, .ref 44), (1, .int a1)]) (S' := [.int q3]) (M' := sm g u) [] (by decide +kernel) rfl ?_
    refine pm_if_ne (off := 36) 51 (by decide +kernel) (by decide) (fun hc4 => ?_) (fun hc4 => ?_)
    · rw [if_neg hc4] at h
      refine pm_blk (pc' := 56) (L' := [(0, .ref 44), (1, .int a1)]) (S' := [.int 1, .ref 57]) (M' := sm g u) [pm_o (.aload_n 0), pm_of (.getfield 42) 6 5 2, pm_oi (.iconst 1) 1] (by decide +kernel) rfl ?_
      obtain ⟨q5, hq5, h⟩ := pm_bd h
      refine pm_cV (idx := 190) m_Frames_setState (c_Frames_setState l h0 D hT hq5) (As := [.int 1]) (S0 := []) rfl (by decide +kernel) k_Frames_setState l_Machine_190 (Nat.le_of_ble_eq_true rfl) (Nat.le_of_ble_eq_true rfl) (Nat.le_refl _) (Nat.le_refl _) ?_
      refine pm_blk (pc' := 59) (L' := [(0, .ref 44), (1, .int a1)]) (S' := []) (M' := sm g q5) [] (by decide +kernel) rfl ?_
      have h9 := Option.some.inj h
      subst h9
      exact pm_retv rfl (by decide +kernel) rfl rfl
    · rw [if_pos hc4] at h
      refine pm_blk (pc' := 36) (L' := [(0, .ref 44), (1, .int a1)]) (S' := [.int a1, .ref 18, .ref 29, .long (u.2 44 15), .ref 52, .ref 44]) (M' := sm g u) [pm_o (.aload_n 0), pm_o (.aload_n 0), pm_of (.getfield 35) 6 4 2, pm_o (.aload_n 0), pm_of (.getfield 57) 6 15 1, pm_o (.aload_n 0), pm_of (.getfield 19) 6 2 2, pm_o (.aload_n 0), pm_of (.getfield 15) 6 1 2, pm_o (.iload_n 1)] (by decide +kernel) rfl ?_
      obtain ⟨q6, hq6, h⟩ := pm_bd h
      refine pm_cV (idx := 202) m_Tree_value (c_Tree_value l h0 D hT hq6) (As := [.int a1]) (S0 := [.ref 29, .long (u.2 44 15), .ref 52, .ref 44]) rfl (by decide +kernel) k_Tree_value l_Machine_202 (Nat.le_of_ble_eq_true rfl) (Nat.le_of_ble_eq_true rfl) (Nat.le_refl _) (Nat.le_refl _) ?_
      refine pm_blk (pc' := 40) (L' := [(0, .ref 44), (1, .int a1)]) (S' := [.int q6.toInt32, .ref 29, .long (u.2 44 15), .ref 52, .ref 44]) (M' := sm g u) [pm_o .l2i] (by decide +kernel) rfl ?_
      obtain ⟨q7, hq7, h⟩ := pm_bd h
      refine pm_cV (idx := 74) m_Table_type (c_Table_type l h0 D hT hq7) (As := [.int q6.toInt32]) (S0 := [.long (u.2 44 15), .ref 52, .ref 44]) rfl (by decide +kernel) k_Table_type l_Machine_74 (Nat.le_of_ble_eq_true rfl) (Nat.le_of_ble_eq_true rfl) (Nat.le_refl _) (Nat.le_refl _) ?_
      refine pm_blk (pc' := 45) (L' := [(0, .ref 44), (1, .int a1)]) (S' := [.int 0, .int a1, .int q7, .long (u.2 44 15), .ref 52, .ref 44]) (M' := sm g u) [pm_o (.iload_n 1), pm_oi (.iconst 0) 0] (by decide +kernel) rfl ?_
      obtain ⟨q8, hq8, h⟩ := pm_bd h
      refine pm_cV (idx := 298) m_Adapter_adapt (c_Adapter_adapt l h0 D hT hq8) (As := [.long (u.2 44 15), .int q7, .int a1, .int 0]) (S0 := [.ref 44]) rfl (by decide +kernel) k_Adapter_adapt l_Machine_298 (Nat.le_of_ble_eq_true rfl) (Nat.le_of_ble_eq_true rfl) (Nat.le_refl _) (Nat.le_refl _) ?_
      refine pm_blk (pc' := 56) (L' := [(0, .ref 44), (1, .int a1)]) (S' := [.int 1, .ref 57]) (M' := sm g (wj q8.2 44 15 q8.1)) [pm_of (.putfield 57) 6 15 1, pm_o (.aload_n 0), pm_of (.getfield 42) 6 5 2, pm_oi (.iconst 1) 1] (by decide +kernel) rfl ?_
      obtain ⟨q9, hq9, h⟩ := pm_bd h
      refine pm_cV (idx := 190) m_Frames_setState (c_Frames_setState l h0 D hT hq9) (As := [.int 1]) (S0 := []) rfl (by decide +kernel) k_Frames_setState l_Machine_190 (Nat.le_of_ble_eq_true rfl) (Nat.le_of_ble_eq_true rfl) (Nat.le_refl _) (Nat.le_refl _) ?_
      refine pm_blk (pc' := 59) (L' := [(0, .ref 44), (1, .int a1)]) (S' := []) (M' := sm g q9) [] (by decide +kernel) rfl ?_
      have h9 := Option.some.inj h
      subst h9
      exact pm_retv rfl (by decide +kernel) rfl rfl
def F_Machine_goOnCalling (g : pm_s) (u : pm_J) : Option (pm_J) := (F_Frames_atom g u).bind fun q1 => (F_Tree_next q1 g u).bind fun q2 => if q2 = (-1) then (F_Machine_finish (u.2 44 15) g u).bind fun q7 => some q7 else (F_Frames_dropHeld g u).bind fun q4 => (F_Frames_hold (q4.2 44 15) g q4).bind fun q5 => (F_Machine_workAtom 2 g q5).bind fun q6 => some q6
set_option maxHeartbeats 4000000 in
set_option maxRecDepth 100000 in
theorem c_Machine_goOnCalling (l : Launch) (h0 : Nat) (D : pm_D) {g : pm_s} {u : pm_J} (hT : sh_T g) {out : pm_J} (h : F_Machine_goOnCalling g u = some out) : pm_C l h0 D m_Machine_goOnCalling (3) [.ref 44] (sm g u) none (sm g out) := by
  unfold F_Machine_goOnCalling at h
  refine pm_met (by decide +kernel) (Nat.le_of_ble_eq_true rfl) (Nat.le_refl _) (Nat.le_refl _) ?_
  intro p e R s m args below meth c
  refine pm_blk (pc' := 8) (L' := [(0, .ref 44)]) (S' := [.ref 57, .ref 18]) (M' := sm g u) [pm_o (.aload_n 0), pm_of (.getfield 15) 6 1 2, pm_o (.aload_n 0), pm_of (.getfield 42) 6 5 2] (by decide +kernel) rfl ?_
  obtain ⟨q1, hq1, h⟩ := pm_bd h
  refine pm_cV (idx := 281) m_Frames_atom (c_Frames_atom l h0 D hT hq1) (As := []) (S0 := [.ref 18]) rfl (by decide +kernel) k_Frames_atom l_Machine_281 (Nat.le_of_ble_eq_true rfl) (Nat.le_of_ble_eq_true rfl) (Nat.le_refl _) (Nat.le_refl _) ?_
  refine pm_blk (pc' := 11) (L' := [(0, .ref 44)]) (S' := [.int q1, .ref 18]) (M' := sm g u) [] (by decide +kernel) rfl ?_
  obtain ⟨q2, hq2, h⟩ := pm_bd h
  refine pm_cV (idx := 284) m_Tree_next (c_Tree_next l h0 D hT hq2) (As := [.int q1]) (S0 := []) rfl (by decide +kernel) k_Tree_next l_Machine_284 (Nat.le_of_ble_eq_true rfl) (Nat.le_of_ble_eq_true rfl) (Nat.le_refl _) (Nat.le_refl _) ?_
  refine pm_blk (pc' := 15) (L' := [(0, .ref 44)]) (S' := [.int (-1), .int q2]) (M' := sm g u) [pm_oi (.iconst (-1)) (-1)] (by decide +kernel) rfl ?_
  refine pm_ic_ne (off := 14) 29 (by decide +kernel) (by decide) (fun hc3 => ?_) (fun hc3 => ?_)
  · rw [if_neg hc3] at h
    refine pm_blk (pc' := 33) (L' := [(0, .ref 44)]) (S' := [.ref 57]) (M' := sm g u) [pm_o (.aload_n 0), pm_of (.getfield 42) 6 5 2] (by decide +kernel) rfl ?_
    obtain ⟨q4, hq4, h⟩ := pm_bd h
    refine pm_cV (idx := 302) m_Frames_dropHeld (c_Frames_dropHeld l h0 D hT hq4) (As := []) (S0 := []) rfl (by decide +kernel) k_Frames_dropHeld l_Machine_302 (Nat.le_of_ble_eq_true rfl) (Nat.le_of_ble_eq_true rfl) (Nat.le_refl _) (Nat.le_refl _) ?_
    refine pm_blk (pc' := 44) (L' := [(0, .ref 44)]) (S' := [.long (q4.2 44 15), .ref 57]) (M' := sm g q4) [pm_o (.aload_n 0), pm_of (.getfield 42) 6 5 2, pm_o (.aload_n 0), pm_of (.getfield 57) 6 15 1] (by decide +kernel) rfl ?_
    obtain ⟨q5, hq5, h⟩ := pm_bd h
    refine pm_cV (idx := 247) m_Frames_hold (c_Frames_hold l h0 D hT hq5) (As := [.long (q4.2 44 15)]) (S0 := []) rfl (by decide +kernel) k_Frames_hold l_Machine_247 (Nat.le_of_ble_eq_true rfl) (Nat.le_of_ble_eq_true rfl) (Nat.le_refl _) (Nat.le_refl _) ?_
    refine pm_blk (pc' := 49) (L' := [(0, .ref 44)]) (S' := [.int 2, .ref 44]) (M' := sm g q5) [pm_o (.aload_n 0), pm_oi (.iconst 2) 2] (by decide +kernel) rfl ?_
    obtain ⟨q6, hq6, h⟩ := pm_bd h
    refine pm_cV (idx := 275) m_Machine_workAtom (c_Machine_workAtom l h0 D hT hq6) (As := [.int 2]) (S0 := []) rfl (by decide +kernel) k_Machine_workAtom l_Machine_275 (Nat.le_of_ble_eq_true rfl) (Nat.le_of_ble_eq_true rfl) (Nat.le_refl _) (Nat.le_refl _) ?_
    refine pm_blk (pc' := 52) (L' := [(0, .ref 44)]) (S' := []) (M' := sm g q6) [] (by decide +kernel) rfl ?_
    have h9 := Option.some.inj h
    subst h9
    exact pm_retv rfl (by decide +kernel) rfl rfl
  · rw [if_pos hc3] at h
    refine pm_blk (pc' := 23) (L' := [(0, .ref 44)]) (S' := [.long (u.2 44 15), .ref 44]) (M' := sm g u) [pm_o (.aload_n 0), pm_o (.aload_n 0), pm_of (.getfield 57) 6 15 1] (by decide +kernel) rfl ?_
    obtain ⟨q7, hq7, h⟩ := pm_bd h
    refine pm_cV (idx := 204) m_Machine_finish (c_Machine_finish l h0 D hT hq7) (As := [.long (u.2 44 15)]) (S0 := []) rfl (by decide +kernel) k_Machine_finish l_Machine_204 (Nat.le_of_ble_eq_true rfl) (Nat.le_of_ble_eq_true rfl) (Nat.le_refl _) (Nat.le_refl _) ?_
    refine pm_blk (pc' := 26) (L' := [(0, .ref 44)]) (S' := []) (M' := sm g q7) [] (by decide +kernel) rfl ?_
    refine pm_goto (off := 26) 52 (by decide +kernel) (by decide) ?_
    have h9 := Option.some.inj h
    subst h9
    exact pm_retv rfl (by decide +kernel) rfl rfl
def F_Machine_workCall (N : Nat) (a1 : Int32) (g : pm_s) (u : pm_J) : Option (pm_J) := (F_Frames_state g u).bind fun q1 => if q1 = 0 then (F_Machine_beginCall N a1 g u).bind fun q3 => some q3 else if q1 = 2 then (F_Frames_held 0 g u).bind fun q5 => (F_Frames_setState 1 g (wj u 44 14 q5)).bind fun q6 => some (wi q6 44 11 1) else if q1 = 3 then (F_Machine_takeArgument N a1 g u).bind fun q8 => some q8 else if q1 = 4 then (F_Machine_takeResult N a1 g u).bind fun q10 => some q10 else (F_Machine_goOnCalling g u).bind fun q11 => some q11
set_option maxHeartbeats 4000000 in
set_option maxRecDepth 100000 in
theorem c_Machine_workCall (l : Launch) (h0 : Nat) (D : pm_D) {g : pm_s} {u : pm_J} (hT : sh_T g) {N : Nat} {a1 : Int32} {out : pm_J} (h : F_Machine_workCall N a1 g u = some out) : pm_C l h0 D m_Machine_workCall (6) [.ref 44, .int a1] (sm g u) none (sm g out) := by
  unfold F_Machine_workCall at h
  refine pm_met (by decide +kernel) (Nat.le_of_ble_eq_true rfl) (Nat.le_refl _) (Nat.le_refl _) ?_
  intro p e R s m args below meth c
  refine pm_blk (pc' := 4) (L' := [(0, .ref 44), (1, .int a1)]) (S' := [.ref 57]) (M' := sm g u) [pm_o (.aload_n 0), pm_of (.getfield 42) 6 5 2] (by decide +kernel) rfl ?_
  obtain ⟨q1, hq1, h⟩ := pm_bd h
  refine pm_cV (idx := 236) m_Frames_state (c_Frames_state l h0 D hT hq1) (As := []) (S0 := []) rfl (by decide +kernel) k_Frames_state l_Machine_236 (Nat.le_of_ble_eq_true rfl) (Nat.le_of_ble_eq_true rfl) (Nat.le_refl _) (Nat.le_refl _) ?_
  refine pm_blk (pc' := 7) (L' := [(0, .ref 44), (1, .int a1)]) (S' := [.int q1]) (M' := sm g u) [] (by decide +kernel) rfl ?_
  refine pm_tsw (dflt := 77) (lo := 0) (hi := 4) (offs := #[33, 77, 51, 39, 45]) (len := 33) [(0, 40), (2, 58), (3, 46), (4, 52)] 84 (by decide +kernel) (by decide +kernel) ?_
  by_cases hs2 : q1 = 0
  · rw [if_pos hs2] at h
    rw [pm_sw_pos hs2]
    refine pm_blk (pc' := 42) (L' := [(0, .ref 44), (1, .int a1)]) (S' := [.int a1, .ref 44]) (M' := sm g u) [pm_o (.aload_n 0), pm_o (.iload_n 1)] (by decide +kernel) rfl ?_
    obtain ⟨q3, hq3, h⟩ := pm_bd h
    refine pm_cV (idx := 257) m_Machine_beginCall (c_Machine_beginCall l h0 D hT hq3) (As := [.int a1]) (S0 := []) rfl (by decide +kernel) k_Machine_beginCall l_Machine_257 (Nat.le_of_ble_eq_true rfl) (Nat.le_of_ble_eq_true rfl) (Nat.le_refl _) (Nat.le_refl _) ?_
    refine pm_blk (pc' := 45) (L' := [(0, .ref 44), (1, .int a1)]) (S' := []) (M' := sm g q3) [] (by decide +kernel) rfl ?_
    have h9 := Option.some.inj h
    subst h9
    exact pm_retv rfl (by decide +kernel) rfl rfl
  rw [if_neg hs2] at h
  rw [pm_sw_neg hs2]
  by_cases hs4 : q1 = 2
  · rw [if_pos hs4] at h
    rw [pm_sw_pos hs4]
    refine pm_blk (pc' := 64) (L' := [(0, .ref 44), (1, .int a1)]) (S' := [.int 0, .ref 57, .ref 44]) (M' := sm g u) [pm_o (.aload_n 0), pm_o (.aload_n 0), pm_of (.getfield 42) 6 5 2, pm_oi (.iconst 0) 0] (by decide +kernel) rfl ?_
    obtain ⟨q5, hq5, h⟩ := pm_bd h
    refine pm_cV (idx := 250) m_Frames_held (c_Frames_held l h0 D hT hq5) (As := [.int 0]) (S0 := [.ref 44]) rfl (by decide +kernel) k_Frames_held l_Machine_250 (Nat.le_of_ble_eq_true rfl) (Nat.le_of_ble_eq_true rfl) (Nat.le_refl _) (Nat.le_refl _) ?_
    refine pm_blk (pc' := 75) (L' := [(0, .ref 44), (1, .int a1)]) (S' := [.int 1, .ref 57]) (M' := sm g (wj u 44 14 q5)) [pm_of (.putfield 266) 6 14 1, pm_o (.aload_n 0), pm_of (.getfield 42) 6 5 2, pm_oi (.iconst 1) 1] (by decide +kernel) rfl ?_
    obtain ⟨q6, hq6, h⟩ := pm_bd h
    refine pm_cV (idx := 190) m_Frames_setState (c_Frames_setState l h0 D hT hq6) (As := [.int 1]) (S0 := []) rfl (by decide +kernel) k_Frames_setState l_Machine_190 (Nat.le_of_ble_eq_true rfl) (Nat.le_of_ble_eq_true rfl) (Nat.le_refl _) (Nat.le_refl _) ?_
    refine pm_blk (pc' := 83) (L' := [(0, .ref 44), (1, .int a1)]) (S' := []) (M' := sm g (wi q6 44 11 1)) [pm_o (.aload_n 0), pm_oi (.iconst 1) 1, pm_of (.putfield 107) 6 11 0] (by decide +kernel) rfl ?_
    have h9 := Option.some.inj h
    subst h9
    exact pm_retv rfl (by decide +kernel) rfl rfl
  rw [if_neg hs4] at h
  rw [pm_sw_neg hs4]
  by_cases hs7 : q1 = 3
  · rw [if_pos hs7] at h
    rw [pm_sw_pos hs7]
    refine pm_blk (pc' := 48) (L' := [(0, .ref 44), (1, .int a1)]) (S' := [.int a1, .ref 44]) (M' := sm g u) [pm_o (.aload_n 0), pm_o (.iload_n 1)] (by decide +kernel) rfl ?_
    obtain ⟨q8, hq8, h⟩ := pm_bd h
    refine pm_cV (idx := 260) m_Machine_takeArgument (c_Machine_takeArgument l h0 D hT hq8) (As := [.int a1]) (S0 := []) rfl (by decide +kernel) k_Machine_takeArgument l_Machine_260 (Nat.le_of_ble_eq_true rfl) (Nat.le_of_ble_eq_true rfl) (Nat.le_refl _) (Nat.le_refl _) ?_
    refine pm_blk (pc' := 51) (L' := [(0, .ref 44), (1, .int a1)]) (S' := []) (M' := sm g q8) [] (by decide +kernel) rfl ?_
    have h9 := Option.some.inj h
    subst h9
    exact pm_retv rfl (by decide +kernel) rfl rfl
  rw [if_neg hs7] at h
  rw [pm_sw_neg hs7]
  by_cases hs9 : q1 = 4
  · rw [if_pos hs9] at h
    rw [pm_sw_pos hs9]
    refine pm_blk (pc' := 54) (L' := [(0, .ref 44), (1, .int a1)]) (S' := [.int a1, .ref 44]) (M' := sm g u) [pm_o (.aload_n 0), pm_o (.iload_n 1)] (by decide +kernel) rfl ?_
    obtain ⟨q10, hq10, h⟩ := pm_bd h
    refine pm_cV (idx := 263) m_Machine_takeResult (c_Machine_takeResult l h0 D hT hq10) (As := [.int a1]) (S0 := []) rfl (by decide +kernel) k_Machine_takeResult l_Machine_263 (Nat.le_of_ble_eq_true rfl) (Nat.le_of_ble_eq_true rfl) (Nat.le_refl _) (Nat.le_refl _) ?_
    refine pm_blk (pc' := 57) (L' := [(0, .ref 44), (1, .int a1)]) (S' := []) (M' := sm g q10) [] (by decide +kernel) rfl ?_
    have h9 := Option.some.inj h
    subst h9
    exact pm_retv rfl (by decide +kernel) rfl rfl
  rw [if_neg hs9] at h
  rw [pm_sw_neg hs9]
  refine pm_pc (pc' := 84) rfl ?_
  refine pm_blk (pc' := 85) (L' := [(0, .ref 44), (1, .int a1)]) (S' := [.ref 44]) (M' := sm g u) [pm_o (.aload_n 0)] (by decide +kernel) rfl ?_
  obtain ⟨q11, hq11, h⟩ := pm_bd h
  refine pm_cV (idx := 269) m_Machine_goOnCalling (c_Machine_goOnCalling l h0 D hT hq11) (As := []) (S0 := []) rfl (by decide +kernel) k_Machine_goOnCalling l_Machine_269 (Nat.le_of_ble_eq_true rfl) (Nat.le_of_ble_eq_true rfl) (Nat.le_refl _) (Nat.le_refl _) ?_
  refine pm_blk (pc' := 88) (L' := [(0, .ref 44), (1, .int a1)]) (S' := []) (M' := sm g q11) [] (by decide +kernel) rfl ?_
  have h9 := Option.some.inj h
  subst h9
  exact pm_retv rfl (by decide +kernel) rfl rfl
def F_Machine_workLet (a1 : Int32) (g : pm_s) (u : pm_J) : Option (pm_J) := (F_Frames_state g u).bind fun q1 => if q1 = 0 then (F_Tree_first a1 g u).bind fun q11 => (F_Machine_workPart q11 1 g u).bind fun q12 => some q12 else (F_Frames_state g u).bind fun q3 => if q3 = 1 then (F_Frames_base g u).bind fun q6 => (F_Tree_third a1 g u).bind fun q7 => (F_Heap_setLocal q6 q7 (u.2 44 15) g u).bind fun q8 => (F_Tree_second a1 g q8).bind fun q9 => (F_Machine_workPart q9 2 g q8).bind fun q10 => some q10 else (F_Machine_finish (u.2 44 15) g u).bind fun q5 => some q5
set_option maxHeartbeats 4000000 in
set_option maxRecDepth 100000 in
theorem c_Machine_workLet (l : Launch) (h0 : Nat) (D : pm_D) {g : pm_s} {u : pm_J} (hT : sh_T g) {a1 : Int32} {out : pm_J} (h : F_Machine_workLet a1 g u = some out) : pm_C l h0 D m_Machine_workLet (3) [.ref 44, .int a1] (sm g u) none (sm g out) := by
  unfold F_Machine_workLet at h
  refine pm_met (by decide +kernel) (Nat.le_of_ble_eq_true rfl) (Nat.le_refl _) (Nat.le_refl _) ?_
  intro p e R s m args below meth c
  refine pm_blk (pc' := 4) (L' := [(0, .ref 44), (1, .int a1)]) (S' := [.ref 57]) (M' := sm g u) [pm_o (.aload_n 0), pm_of (.getfield 42) 6 5 2] (by decide +kernel) rfl ?_
  obtain ⟨q1, hq1, h⟩ := pm_bd h
  refine pm_cV (idx := 236) m_Frames_state (c_Frames_state l h0 D hT hq1) (As := []) (S0 := []) rfl (by decide +kernel) k_Frames_state l_Machine_236 (Nat.le_of_ble_eq_true rfl) (Nat.le_of_ble_eq_true rfl) (Nat.le_refl _) (Nat.le_refl _) ?_
  refine pm_blk (pc' := 7) (L' := [(0, .ref 44), (1, .int a1)]) (S' := [.int q1]) (M' := sm g u) [] (by decide +kernel) rfl ?_
  refine pm_if_ne (off := 19) 26 (by decide +kernel) (by decide) (fun hc2 => ?_) (fun hc2 => ?_)
  · rw [if_neg hc2] at h
    refine pm_blk (pc' := 30) (L' := [(0, .ref 44), (1, .int a1)]) (S' := [.ref 57]) (M' := sm g u) [pm_o (.aload_n 0), pm_of (.getfield 42) 6 5 2] (by decide +kernel) rfl ?_
    obtain ⟨q3, hq3, h⟩ := pm_bd h
    refine pm_cV (idx := 236) m_Frames_state (c_Frames_state l h0 D hT hq3) (As := []) (S0 := []) rfl (by decide +kernel) k_Frames_state l_Machine_236 (Nat.le_of_ble_eq_true rfl) (Nat.le_of_ble_eq_true rfl) (Nat.le_refl _) (Nat.le_refl _) ?_
    refine pm_blk (pc' := 34) (L' := [(0, .ref 44), (1, .int a1)]) (S' := [.int 1, .int q3]) (M' := sm g u) [pm_oi (.iconst 1) 1] (by decide +kernel) rfl ?_
    refine pm_ic_ne (off := 45) 79 (by decide +kernel) (by decide) (fun hc4 => ?_) (fun hc4 => ?_)
    · rw [if_neg hc4] at h
      refine pm_blk (pc' := 84) (L' := [(0, .ref 44), (1, .int a1)]) (S' := [.long (u.2 44 15), .ref 44]) (M' := sm g u) [pm_o (.aload_n 0), pm_o (.aload_n 0), pm_of (.getfield 57) 6 15 1] (by decide +kernel) rfl ?_
      obtain ⟨q5, hq5, h⟩ := pm_bd h
      refine pm_cV (idx := 204) m_Machine_finish (c_Machine_finish l h0 D hT hq5) (As := [.long (u.2 44 15)]) (S0 := []) rfl (by decide +kernel) k_Machine_finish l_Machine_204 (Nat.le_of_ble_eq_true rfl) (Nat.le_of_ble_eq_true rfl) (Nat.le_refl _) (Nat.le_refl _) ?_
      refine pm_blk (pc' := 87) (L' := [(0, .ref 44), (1, .int a1)]) (S' := []) (M' := sm g q5) [] (by decide +kernel) rfl ?_
      have h9 := Option.some.inj h
      subst h9
      exact pm_retv rfl (by decide +kernel) rfl rfl
    · rw [if_pos hc4] at h
      refine pm_blk (pc' := 45) (L' := [(0, .ref 44), (1, .int a1)]) (S' := [.ref 57, .ref 45]) (M' := sm g u) [pm_o (.aload_n 0), pm_of (.getfield 26) 6 3 2, pm_o (.aload_n 0), pm_of (.getfield 42) 6 5 2] (by decide +kernel) rfl ?_
      obtain ⟨q6, hq6, h⟩ := pm_bd h
      refine pm_cV (idx := 194) m_Frames_base (c_Frames_base l h0 D hT hq6) (As := []) (S0 := [.ref 45]) rfl (by decide +kernel) k_Frames_base l_Machine_194 (Nat.le_of_ble_eq_true rfl) (Nat.le_of_ble_eq_true rfl) (Nat.le_refl _) (Nat.le_refl _) ?_
      refine pm_blk (pc' := 53) (L' := [(0, .ref 44), (1, .int a1)]) (S' := [.int a1, .ref 18, .int q6, .ref 45]) (M' := sm g u) [pm_o (.aload_n 0), pm_of (.getfield 15) 6 1 2, pm_o (.iload_n 1)] (by decide +kernel) rfl ?_
      obtain ⟨q7, hq7, h⟩ := pm_bd h
      refine pm_cV (idx := 242) m_Tree_third (c_Tree_third l h0 D hT hq7) (As := [.int a1]) (S0 := [.int q6, .ref 45]) rfl (by decide +kernel) k_Tree_third l_Machine_242 (Nat.le_of_ble_eq_true rfl) (Nat.le_of_ble_eq_true rfl) (Nat.le_refl _) (Nat.le_refl _) ?_
      refine pm_blk (pc' := 60) (L' := [(0, .ref 44), (1, .int a1)]) (S' := [.long (u.2 44 15), .int q7, .int q6, .ref 45]) (M' := sm g u) [pm_o (.aload_n 0), pm_of (.getfield 57) 6 15 1] (by decide +kernel) rfl ?_
      obtain ⟨q8, hq8, h⟩ := pm_bd h
      refine pm_cV (idx := 95) m_Heap_setLocal (c_Heap_setLocal l h0 D hT hq8) (As := [.int q6, .int q7, .long (u.2 44 15)]) (S0 := []) rfl (by decide +kernel) k_Heap_setLocal l_Machine_95 (Nat.le_of_ble_eq_true rfl) (Nat.le_of_ble_eq_true rfl) (Nat.le_refl _) (Nat.le_refl _) ?_
      refine pm_blk (pc' := 69) (L' := [(0, .ref 44), (1, .int a1)]) (S' := [.int a1, .ref 18, .ref 44]) (M' := sm g q8) [pm_o (.aload_n 0), pm_o (.aload_n 0), pm_of (.getfield 15) 6 1 2, pm_o (.iload_n 1)] (by decide +kernel) rfl ?_
      obtain ⟨q9, hq9, h⟩ := pm_bd h
      refine pm_cV (idx := 245) m_Tree_second (c_Tree_second l h0 D hT hq9) (As := [.int a1]) (S0 := [.ref 44]) rfl (by decide +kernel) k_Tree_second l_Machine_245 (Nat.le_of_ble_eq_true rfl) (Nat.le_of_ble_eq_true rfl) (Nat.le_refl _) (Nat.le_refl _) ?_
      refine pm_blk (pc' := 73) (L' := [(0, .ref 44), (1, .int a1)]) (S' := [.int 2, .int q9, .ref 44]) (M' := sm g q8) [pm_oi (.iconst 2) 2] (by decide +kernel) rfl ?_
      obtain ⟨q10, hq10, h⟩ := pm_bd h
      refine pm_cV (idx := 239) m_Machine_workPart (c_Machine_workPart l h0 D hT hq10) (As := [.int q9, .int 2]) (S0 := []) rfl (by decide +kernel) k_Machine_workPart l_Machine_239 (Nat.le_of_ble_eq_true rfl) (Nat.le_of_ble_eq_true rfl) (Nat.le_refl _) (Nat.le_refl _) ?_
      refine pm_blk (pc' := 76) (L' := [(0, .ref 44), (1, .int a1)]) (S' := []) (M' := sm g q10) [] (by decide +kernel) rfl ?_
      refine pm_goto (off := 11) 87 (by decide +kernel) (by decide) ?_
      have h9 := Option.some.inj h
      subst h9
      exact pm_retv rfl (by decide +kernel) rfl rfl
  · rw [if_pos hc2] at h
    refine pm_blk (pc' := 16) (L' := [(0, .ref 44), (1, .int a1)]) (S' := [.int a1, .ref 18, .ref 44]) (M' := sm g u) [pm_o (.aload_n 0), pm_o (.aload_n 0), pm_of (.getfield 15) 6 1 2, pm_o (.iload_n 1)] (by decide +kernel) rfl ?_
    obtain ⟨q11, hq11, h⟩ := pm_bd h
    refine pm_cV (idx := 208) m_Tree_first (c_Tree_first l h0 D hT hq11) (As := [.int a1]) (S0 := [.ref 44]) rfl (by decide +kernel) k_Tree_first l_Machine_208 (Nat.le_of_ble_eq_true rfl) (Nat.le_of_ble_eq_true rfl) (Nat.le_refl _) (Nat.le_refl _) ?_
    refine pm_blk (pc' := 20) (L' := [(0, .ref 44), (1, .int a1)]) (S' := [.int 1, .int q11, .ref 44]) (M' := sm g u) [pm_oi (.iconst 1) 1] (by decide +kernel) rfl ?_
    obtain ⟨q12, hq12, h⟩ := pm_bd h
    refine pm_cV (idx := 239) m_Machine_workPart (c_Machine_workPart l h0 D hT hq12) (As := [.int q11, .int 1]) (S0 := []) rfl (by decide +kernel) k_Machine_workPart l_Machine_239 (Nat.le_of_ble_eq_true rfl) (Nat.le_of_ble_eq_true rfl) (Nat.le_refl _) (Nat.le_refl _) ?_
    refine pm_blk (pc' := 23) (L' := [(0, .ref 44), (1, .int a1)]) (S' := []) (M' := sm g q12) [] (by decide +kernel) rfl ?_
    refine pm_goto (off := 64) 87 (by decide +kernel) (by decide) ?_
    have h9 := Option.some.inj h
    subst h9
    exact pm_retv rfl (by decide +kernel) rfl rfl
def F_Machine_workIf (a1 : Int32) (g : pm_s) (u : pm_J) : Option (pm_J) := (F_Frames_state g u).bind fun q1 => if q1 = 0 then (F_Tree_first a1 g u).bind fun q11 => (F_Machine_workPart q11 1 g u).bind fun q12 => some q12 else (F_Frames_state g u).bind fun q3 => if q3 = 1 then if (lg_cmp (u.2 44 15) 0) = 0 then (F_Tree_third a1 g u).bind fun q7 => (F_Machine_workPart q7 2 g u).bind fun q8 => some q8 else (F_Tree_second a1 g u).bind fun q9 => (F_Machine_workPart q9 2 g u).bind fun q10 => some q10 else (F_Machine_finish (u.2 44 15) g u).bind fun q5 => some q5
set_option maxHeartbeats 4000000 in
set_option maxRecDepth 100000 in
theorem c_Machine_workIf (l : Launch) (h0 : Nat) (D : pm_D) {g : pm_s} {u : pm_J} (hT : sh_T g) {a1 : Int32} {out : pm_J} (h : F_Machine_workIf a1 g u = some out) : pm_C l h0 D m_Machine_workIf (3) [.ref 44, .int a1] (sm g u) none (sm g out) := by
  unfold F_Machine_workIf at h
  refine pm_met (by decide +kernel) (Nat.le_of_ble_eq_true rfl) (Nat.le_refl _) (Nat.le_refl _) ?_
  intro p e R s m args below meth c
  refine pm_blk (pc' := 4) (L' := [(0, .ref 44), (1, .int a1)]) (S' := [.ref 57]) (M' := sm g u) [pm_o (.aload_n 0), pm_of (.getfield 42) 6 5 2] (by decide +kernel) rfl ?_
  obtain ⟨q1, hq1, h⟩ := pm_bd h
  refine pm_cV (idx := 236) m_Frames_state (c_Frames_state l h0 D hT hq1) (As := []) (S0 := []) rfl (by decide +kernel) k_Frames_state l_Machine_236 (Nat.le_of_ble_eq_true rfl) (Nat.le_of_ble_eq_true rfl) (Nat.le_refl _) (Nat.le_refl _) ?_
  refine pm_blk (pc' := 7) (L' := [(0, .ref 44), (1, .int a1)]) (S' := [.int q1]) (M' := sm g u) [] (by decide +kernel) rfl ?_
  refine pm_if_ne (off := 19) 26 (by decide +kernel) (by decide) (fun hc2 => ?_) (fun hc2 => ?_)
  · rw [if_neg hc2] at h
    refine pm_blk (pc' := 30) (L' := [(0, .ref 44), (1, .int a1)]) (S' := [.ref 57]) (M' := sm g u) [pm_o (.aload_n 0), pm_of (.getfield 42) 6 5 2] (by decide +kernel) rfl ?_
    obtain ⟨q3, hq3, h⟩ := pm_bd h
    refine pm_cV (idx := 236) m_Frames_state (c_Frames_state l h0 D hT hq3) (As := []) (S0 := []) rfl (by decide +kernel) k_Frames_state l_Machine_236 (Nat.le_of_ble_eq_true rfl) (Nat.le_of_ble_eq_true rfl) (Nat.le_refl _) (Nat.le_refl _) ?_
    refine pm_blk (pc' := 34) (L' := [(0, .ref 44), (1, .int a1)]) (S' := [.int 1, .int q3]) (M' := sm g u) [pm_oi (.iconst 1) 1] (by decide +kernel) rfl ?_
    refine pm_ic_ne (off := 39) 73 (by decide +kernel) (by decide) (fun hc4 => ?_) (fun hc4 => ?_)
    · rw [if_neg hc4] at h
      refine pm_blk (pc' := 78) (L' := [(0, .ref 44), (1, .int a1)]) (S' := [.long (u.2 44 15), .ref 44]) (M' := sm g u) [pm_o (.aload_n 0), pm_o (.aload_n 0), pm_of (.getfield 57) 6 15 1] (by decide +kernel) rfl ?_
      obtain ⟨q5, hq5, h⟩ := pm_bd h
      refine pm_cV (idx := 204) m_Machine_finish (c_Machine_finish l h0 D hT hq5) (As := [.long (u.2 44 15)]) (S0 := []) rfl (by decide +kernel) k_Machine_finish l_Machine_204 (Nat.le_of_ble_eq_true rfl) (Nat.le_of_ble_eq_true rfl) (Nat.le_refl _) (Nat.le_refl _) ?_
      refine pm_blk (pc' := 81) (L' := [(0, .ref 44), (1, .int a1)]) (S' := []) (M' := sm g q5) [] (by decide +kernel) rfl ?_
      have h9 := Option.some.inj h
      subst h9
      exact pm_retv rfl (by decide +kernel) rfl rfl
    · rw [if_pos hc4] at h
      refine pm_blk (pc' := 44) (L' := [(0, .ref 44), (1, .int a1)]) (S' := [.int (lg_cmp (u.2 44 15) 0), .ref 44]) (M' := sm g u) [pm_o (.aload_n 0), pm_o (.aload_n 0), pm_of (.getfield 57) 6 15 1, pm_ol (.lconst 0) 0, pm_o .lcmp] (by decide +kernel) rfl ?_
      refine pm_if_eq (off := 14) 58 (by decide +kernel) (by decide) (fun hc6 => ?_) (fun hc6 => ?_)
      · rw [if_pos hc6] at h
        refine pm_blk (pc' := 63) (L' := [(0, .ref 44), (1, .int a1)]) (S' := [.int a1, .ref 18, .ref 44]) (M' := sm g u) [pm_o (.aload_n 0), pm_of (.getfield 15) 6 1 2, pm_o (.iload_n 1)] (by decide +kernel) rfl ?_
        obtain ⟨q7, hq7, h⟩ := pm_bd h
        refine pm_cV (idx := 242) m_Tree_third (c_Tree_third l h0 D hT hq7) (As := [.int a1]) (S0 := [.ref 44]) rfl (by decide +kernel) k_Tree_third l_Machine_242 (Nat.le_of_ble_eq_true rfl) (Nat.le_of_ble_eq_true rfl) (Nat.le_refl _) (Nat.le_refl _) ?_
        refine pm_blk (pc' := 67) (L' := [(0, .ref 44), (1, .int a1)]) (S' := [.int 2, .int q7, .ref 44]) (M' := sm g u) [pm_oi (.iconst 2) 2] (by decide +kernel) rfl ?_
        obtain ⟨q8, hq8, h⟩ := pm_bd h
        refine pm_cV (idx := 239) m_Machine_workPart (c_Machine_workPart l h0 D hT hq8) (As := [.int q7, .int 2]) (S0 := []) rfl (by decide +kernel) k_Machine_workPart l_Machine_239 (Nat.le_of_ble_eq_true rfl) (Nat.le_of_ble_eq_true rfl) (Nat.le_refl _) (Nat.le_refl _) ?_
        refine pm_blk (pc' := 70) (L' := [(0, .ref 44), (1, .int a1)]) (S' := []) (M' := sm g q8) [] (by decide +kernel) rfl ?_
        refine pm_goto (off := 11) 81 (by decide +kernel) (by decide) ?_
        have h9 := Option.some.inj h
        subst h9
        exact pm_retv rfl (by decide +kernel) rfl rfl
      · rw [if_neg hc6] at h
        refine pm_blk (pc' := 52) (L' := [(0, .ref 44), (1, .int a1)]) (S' := [.int a1, .ref 18, .ref 44]) (M' := sm g u) [pm_o (.aload_n 0), pm_of (.getfield 15) 6 1 2, pm_o (.iload_n 1)] (by decide +kernel) rfl ?_
        obtain ⟨q9, hq9, h⟩ := pm_bd h
        refine pm_cV (idx := 245) m_Tree_second (c_Tree_second l h0 D hT hq9) (As := [.int a1]) (S0 := [.ref 44]) rfl (by decide +kernel) k_Tree_second l_Machine_245 (Nat.le_of_ble_eq_true rfl) (Nat.le_of_ble_eq_true rfl) (Nat.le_refl _) (Nat.le_refl _) ?_
        refine pm_blk (pc' := 55) (L' := [(0, .ref 44), (1, .int a1)]) (S' := [.int q9, .ref 44]) (M' := sm g u) [] (by decide +kernel) rfl ?_
        refine pm_goto (off := 11) 66 (by decide +kernel) (by decide) ?_
        refine pm_blk (pc' := 67) (L' := [(0, .ref 44), (1, .int a1)]) (S' := [.int 2, .int q9, .ref 44]) (M' := sm g u) [pm_oi (.iconst 2) 2] (by decide +kernel) rfl ?_
        obtain ⟨q10, hq10, h⟩ := pm_bd h
        refine pm_cV (idx := 239) m_Machine_workPart (c_Machine_workPart l h0 D hT hq10) (As := [.int q9, .int 2]) (S0 := []) rfl (by decide +kernel) k_Machine_workPart l_Machine_239 (Nat.le_of_ble_eq_true rfl) (Nat.le_of_ble_eq_true rfl) (Nat.le_refl _) (Nat.le_refl _) ?_
        refine pm_blk (pc' := 70) (L' := [(0, .ref 44), (1, .int a1)]) (S' := []) (M' := sm g q10) [] (by decide +kernel) rfl ?_
        refine pm_goto (off := 11) 81 (by decide +kernel) (by decide) ?_
        have h9 := Option.some.inj h
        subst h9
        exact pm_retv rfl (by decide +kernel) rfl rfl
  · rw [if_pos hc2] at h
    refine pm_blk (pc' := 16) (L' := [(0, .ref 44), (1, .int a1)]) (S' := [.int a1, .ref 18, .ref 44]) (M' := sm g u) [pm_o (.aload_n 0), pm_o (.aload_n 0), pm_of (.getfield 15) 6 1 2, pm_o (.iload_n 1)] (by decide +kernel) rfl ?_
    obtain ⟨q11, hq11, h⟩ := pm_bd h
    refine pm_cV (idx := 208) m_Tree_first (c_Tree_first l h0 D hT hq11) (As := [.int a1]) (S0 := [.ref 44]) rfl (by decide +kernel) k_Tree_first l_Machine_208 (Nat.le_of_ble_eq_true rfl) (Nat.le_of_ble_eq_true rfl) (Nat.le_refl _) (Nat.le_refl _) ?_
    refine pm_blk (pc' := 20) (L' := [(0, .ref 44), (1, .int a1)]) (S' := [.int 1, .int q11, .ref 44]) (M' := sm g u) [pm_oi (.iconst 1) 1] (by decide +kernel) rfl ?_
    obtain ⟨q12, hq12, h⟩ := pm_bd h
    refine pm_cV (idx := 239) m_Machine_workPart (c_Machine_workPart l h0 D hT hq12) (As := [.int q11, .int 1]) (S0 := []) rfl (by decide +kernel) k_Machine_workPart l_Machine_239 (Nat.le_of_ble_eq_true rfl) (Nat.le_of_ble_eq_true rfl) (Nat.le_refl _) (Nat.le_refl _) ?_
    refine pm_blk (pc' := 23) (L' := [(0, .ref 44), (1, .int a1)]) (S' := []) (M' := sm g q12) [] (by decide +kernel) rfl ?_
    refine pm_goto (off := 58) 81 (by decide +kernel) (by decide) ?_
    have h9 := Option.some.inj h
    subst h9
    exact pm_retv rfl (by decide +kernel) rfl rfl
def F_Machine_workHalf (a1 : Int32) (g : pm_s) (u : pm_J) : Option (pm_J) := (F_Frames_state g u).bind fun q1 => if q1 = 0 then (F_Tree_first a1 g u).bind fun q9 => (F_Machine_workPart q9 1 g u).bind fun q10 => some q10 else (F_Tree_kind a1 g u).bind fun q3 => if q3 = 14 then (F_Heap_first (u.2 44 15) g u).bind fun q7 => (F_Machine_finish q7 g u).bind fun q8 => some q8 else (F_Heap_second (u.2 44 15) g u).bind fun q5 => (F_Machine_finish q5 g u).bind fun q6 => some q6
set_option maxHeartbeats 4000000 in
set_option maxRecDepth 100000 in
theorem c_Machine_workHalf (l : Launch) (h0 : Nat) (D : pm_D) {g : pm_s} {u : pm_J} (hT : sh_T g) {a1 : Int32} {out : pm_J} (h : F_Machine_workHalf a1 g u = some out) : pm_C l h0 D m_Machine_workHalf (3) [.ref 44, .int a1] (sm g u) none (sm g out) := by
  unfold F_Machine_workHalf at h
  refine pm_met (by decide +kernel) (Nat.le_of_ble_eq_true rfl) (Nat.le_refl _) (Nat.le_refl _) ?_
  intro p e R s m args below meth c
  refine pm_blk (pc' := 4) (L' := [(0, .ref 44), (1, .int a1)]) (S' := [.ref 57]) (M' := sm g u) [pm_o (.aload_n 0), pm_of (.getfield 42) 6 5 2] (by decide +kernel) rfl ?_
  obtain ⟨q1, hq1, h⟩ := pm_bd h
  refine pm_cV (idx := 236) m_Frames_state (c_Frames_state l h0 D hT hq1) (As := []) (S0 := []) rfl (by decide +kernel) k_Frames_state l_Machine_236 (Nat.le_of_ble_eq_true rfl) (Nat.le_of_ble_eq_true rfl) (Nat.le_refl _) (Nat.le_refl _) ?_
  refine pm_blk (pc' := 7) (L' := [(0, .ref 44), (1, .int a1)]) (S' := [.int q1]) (M' := sm g u) [] (by decide +kernel) rfl ?_
  refine pm_if_ne (off := 19) 26 (by decide +kernel) (by decide) (fun hc2 => ?_) (fun hc2 => ?_)
  · rw [if_neg hc2] at h
    refine pm_blk (pc' := 32) (L' := [(0, .ref 44), (1, .int a1)]) (S' := [.int a1, .ref 18, .ref 44]) (M' := sm g u) [pm_o (.aload_n 0), pm_o (.aload_n 0), pm_of (.getfield 15) 6 1 2, pm_o (.iload_n 1)] (by decide +kernel) rfl ?_
    obtain ⟨q3, hq3, h⟩ := pm_bd h
    refine pm_cV (idx := 199) m_Tree_kind (c_Tree_kind l h0 D hT hq3) (As := [.int a1]) (S0 := [.ref 44]) rfl (by decide +kernel) k_Tree_kind l_Machine_199 (Nat.le_of_ble_eq_true rfl) (Nat.le_of_ble_eq_true rfl) (Nat.le_refl _) (Nat.le_refl _) ?_
    refine pm_blk (pc' := 37) (L' := [(0, .ref 44), (1, .int a1)]) (S' := [.int 14, .int q3, .ref 44]) (M' := sm g u) [pm_oi (.bipush 14) 14] (by decide +kernel) rfl ?_
    refine pm_ic_ne (off := 17) 54 (by decide +kernel) (by decide) (fun hc4 => ?_) (fun hc4 => ?_)
    · rw [if_neg hc4] at h
      refine pm_blk (pc' := 62) (L' := [(0, .ref 44), (1, .int a1)]) (S' := [.long (u.2 44 15), .ref 45, .ref 44]) (M' := sm g u) [pm_o (.aload_n 0), pm_of (.getfield 26) 6 3 2, pm_o (.aload_n 0), pm_of (.getfield 57) 6 15 1] (by decide +kernel) rfl ?_
      obtain ⟨q5, hq5, h⟩ := pm_bd h
      refine pm_cV (idx := 170) m_Heap_second (c_Heap_second l h0 D hT hq5) (As := [.long (u.2 44 15)]) (S0 := [.ref 44]) rfl (by decide +kernel) k_Heap_second l_Machine_170 (Nat.le_of_ble_eq_true rfl) (Nat.le_of_ble_eq_true rfl) (Nat.le_refl _) (Nat.le_refl _) ?_
      refine pm_blk (pc' := 65) (L' := [(0, .ref 44), (1, .int a1)]) (S' := [.long q5, .ref 44]) (M' := sm g u) [] (by decide +kernel) rfl ?_
      obtain ⟨q6, hq6, h⟩ := pm_bd h
      refine pm_cV (idx := 204) m_Machine_finish (c_Machine_finish l h0 D hT hq6) (As := [.long q5]) (S0 := []) rfl (by decide +kernel) k_Machine_finish l_Machine_204 (Nat.le_of_ble_eq_true rfl) (Nat.le_of_ble_eq_true rfl) (Nat.le_refl _) (Nat.le_refl _) ?_
      refine pm_blk (pc' := 68) (L' := [(0, .ref 44), (1, .int a1)]) (S' := []) (M' := sm g q6) [] (by decide +kernel) rfl ?_
      have h9 := Option.some.inj h
      subst h9
      exact pm_retv rfl (by decide +kernel) rfl rfl
    · rw [if_pos hc4] at h
      refine pm_blk (pc' := 48) (L' := [(0, .ref 44), (1, .int a1)]) (S' := [.long (u.2 44 15), .ref 45, .ref 44]) (M' := sm g u) [pm_o (.aload_n 0), pm_of (.getfield 26) 6 3 2, pm_o (.aload_n 0), pm_of (.getfield 57) 6 15 1] (by decide +kernel) rfl ?_
      obtain ⟨q7, hq7, h⟩ := pm_bd h
      refine pm_cV (idx := 157) m_Heap_first (c_Heap_first l h0 D hT hq7) (As := [.long (u.2 44 15)]) (S0 := [.ref 44]) rfl (by decide +kernel) k_Heap_first l_Machine_157 (Nat.le_of_ble_eq_true rfl) (Nat.le_of_ble_eq_true rfl) (Nat.le_refl _) (Nat.le_refl _) ?_
      refine pm_blk (pc' := 51) (L' := [(0, .ref 44), (1, .int a1)]) (S' := [.long q7, .ref 44]) (M' := sm g u) [] (by decide +kernel) rfl ?_
      refine pm_goto (off := 14) 65 (by decide +kernel) (by decide) ?_
      obtain ⟨q8, hq8, h⟩ := pm_bd h
      refine pm_cV (idx := 204) m_Machine_finish (c_Machine_finish l h0 D hT hq8) (As := [.long q7]) (S0 := []) rfl (by decide +kernel) k_Machine_finish l_Machine_204 (Nat.le_of_ble_eq_true rfl) (Nat.le_of_ble_eq_true rfl) (Nat.le_refl _) (Nat.le_refl _) ?_
      refine pm_blk (pc' := 68) (L' := [(0, .ref 44), (1, .int a1)]) (S' := []) (M' := sm g q8) [] (by decide +kernel) rfl ?_
      have h9 := Option.some.inj h
      subst h9
      exact pm_retv rfl (by decide +kernel) rfl rfl
  · rw [if_pos hc2] at h
    refine pm_blk (pc' := 16) (L' := [(0, .ref 44), (1, .int a1)]) (S' := [.int a1, .ref 18, .ref 44]) (M' := sm g u) [pm_o (.aload_n 0), pm_o (.aload_n 0), pm_of (.getfield 15) 6 1 2, pm_o (.iload_n 1)] (by decide +kernel) rfl ?_
    obtain ⟨q9, hq9, h⟩ := pm_bd h
    refine pm_cV (idx := 208) m_Tree_first (c_Tree_first l h0 D hT hq9) (As := [.int a1]) (S0 := [.ref 44]) rfl (by decide +kernel) k_Tree_first l_Machine_208 (Nat.le_of_ble_eq_true rfl) (Nat.le_of_ble_eq_true rfl) (Nat.le_refl _) (Nat.le_refl _) ?_
    refine pm_blk (pc' := 20) (L' := [(0, .ref 44), (1, .int a1)]) (S' := [.int 1, .int q9, .ref 44]) (M' := sm g u) [pm_oi (.iconst 1) 1] (by decide +kernel) rfl ?_
    obtain ⟨q10, hq10, h⟩ := pm_bd h
    refine pm_cV (idx := 239) m_Machine_workPart (c_Machine_workPart l h0 D hT hq10) (As := [.int q9, .int 1]) (S0 := []) rfl (by decide +kernel) k_Machine_workPart l_Machine_239 (Nat.le_of_ble_eq_true rfl) (Nat.le_of_ble_eq_true rfl) (Nat.le_refl _) (Nat.le_refl _) ?_
    refine pm_blk (pc' := 23) (L' := [(0, .ref 44), (1, .int a1)]) (S' := []) (M' := sm g q10) [] (by decide +kernel) rfl ?_
    refine pm_goto (off := 45) 68 (by decide +kernel) (by decide) ?_
    have h9 := Option.some.inj h
    subst h9
    exact pm_retv rfl (by decide +kernel) rfl rfl
def F_Machine_join (a1 : Int32) (a2 : Int64) (a3 : Int64) (g : pm_s) (u : pm_J) : Option (Int64 × pm_J) := if a1 = 10 then some (a2 + a3, u) else if a1 = 11 then some (a2 - a3, u) else if a1 = 12 then if 0 ≤ (lg_cmp a2 a3) then some (0, u) else some (1, u) else (F_Heap_make 0 a2 a3 (-1) g u).bind fun q5 => some (q5.1, q5.2)
set_option maxHeartbeats 4000000 in
set_option maxRecDepth 100000 in
theorem c_Machine_join (l : Launch) (h0 : Nat) (D : pm_D) {g : pm_s} {u : pm_J} (hT : sh_T g) {a1 : Int32} {a2 : Int64} {a3 : Int64} {out : Int64 × pm_J} (h : F_Machine_join a1 a2 a3 g u = some out) : pm_C l h0 D m_Machine_join (3) [.ref 44, .int a1, .long a2, .long a3] (sm g u) (some (.long out.1)) (sm g out.2) := by
  unfold F_Machine_join at h
  refine pm_met (by decide +kernel) (Nat.le_of_ble_eq_true rfl) (Nat.le_refl _) (Nat.le_refl _) ?_
  intro p e R s m args below meth c
  refine pm_blk (pc' := 1) (L' := [(0, .ref 44), (1, .int a1), (2, .long a2), (4, .long a3)]) (S' := [.int a1]) (M' := sm g u) [pm_o (.iload_n 1)] (by decide +kernel) rfl ?_
  refine pm_tsw (dflt := 50) (lo := 10) (hi := 12) (offs := #[27, 32, 37]) (len := 27) [(10, 28), (11, 33), (12, 38)] 51 (by decide +kernel) (by decide +kernel) ?_
  by_cases hs1 : a1 = 10
  · rw [if_pos hs1] at h
    rw [pm_sw_pos hs1]
    refine pm_blk (pc' := 32) (L' := [(0, .ref 44), (1, .int a1), (2, .long a2), (4, .long a3)]) (S' := [.long (a2 + a3)]) (M' := sm g u) [pm_o (.lload_n 2), pm_o (.lload 4), pm_o .ladd] (by decide +kernel) rfl ?_
    have h9 := Option.some.inj h
    subst h9
    exact pm_retl rfl (by decide +kernel) rfl rfl rfl
  rw [if_neg hs1] at h
  rw [pm_sw_neg hs1]
  by_cases hs2 : a1 = 11
  · rw [if_pos hs2] at h
    rw [pm_sw_pos hs2]
    refine pm_blk (pc' := 37) (L' := [(0, .ref 44), (1, .int a1), (2, .long a2), (4, .long a3)]) (S' := [.long (a2 - a3)]) (M' := sm g u) [pm_o (.lload_n 2), pm_o (.lload 4), pm_o .lsub] (by decide +kernel) rfl ?_
    have h9 := Option.some.inj h
    subst h9
    exact pm_retl rfl (by decide +kernel) rfl rfl rfl
  rw [if_neg hs2] at h
  rw [pm_sw_neg hs2]
  by_cases hs3 : a1 = 12
  · rw [if_pos hs3] at h
    rw [pm_sw_pos hs3]
    refine pm_blk (pc' := 42) (L' := [(0, .ref 44), (1, .int a1), (2, .long a2), (4, .long a3)]) (S' := [.int (lg_cmp a2 a3)]) (M' := sm g u) [pm_o (.lload_n 2), pm_o (.lload 4), pm_o .lcmp] (by decide +kernel) rfl ?_
    refine pm_if_ge (off := 7) 49 (by decide +kernel) (by decide) (fun hc4 => ?_) (fun hc4 => ?_)
    · rw [if_pos hc4] at h
      refine pm_blk (pc' := 50) (L' := [(0, .ref 44), (1, .int a1), (2, .long a2), (4, .long a3)]) (S' := [.long 0]) (M' := sm g u) [pm_ol (.lconst 0) 0] (by decide +kernel) rfl ?_
      have h9 := Option.some.inj h
      subst h9
      exact pm_retl rfl (by decide +kernel) rfl rfl rfl
    · rw [if_neg hc4] at h
      refine pm_blk (pc' := 46) (L' := [(0, .ref 44), (1, .int a1), (2, .long a2), (4, .long a3)]) (S' := [.long 1]) (M' := sm g u) [pm_ol (.lconst 1) 1] (by decide +kernel) rfl ?_
      refine pm_goto (off := 4) 50 (by decide +kernel) (by decide) ?_
      have h9 := Option.some.inj h
      subst h9
      exact pm_retl rfl (by decide +kernel) rfl rfl rfl
  rw [if_neg hs3] at h
  rw [pm_sw_neg hs3]
  refine pm_pc (pc' := 51) rfl ?_
  refine pm_blk (pc' := 60) (L' := [(0, .ref 44), (1, .int a1), (2, .long a2), (4, .long a3)]) (S' := [.int (-1), .long a3, .long a2, .int 0, .ref 45]) (M' := sm g u) [pm_o (.aload_n 0), pm_of (.getfield 26) 6 3 2, pm_oi (.iconst 0) 0, pm_o (.lload_n 2), pm_o (.lload 4), pm_oi (.iconst (-1)) (-1)] (by decide +kernel) rfl ?_
  obtain ⟨q5, hq5, h⟩ := pm_bd h
  refine pm_cV (idx := 214) m_Heap_make (c_Heap_make l h0 D hT hq5) (As := [.int 0, .long a2, .long a3, .int (-1)]) (S0 := []) rfl (by decide +kernel) k_Heap_make l_Machine_214 (Nat.le_of_ble_eq_true rfl) (Nat.le_of_ble_eq_true rfl) (Nat.le_refl _) (Nat.le_refl _) ?_
  refine pm_blk (pc' := 63) (L' := [(0, .ref 44), (1, .int a1), (2, .long a2), (4, .long a3)]) (S' := [.long q5.1]) (M' := sm g q5.2) [] (by decide +kernel) rfl ?_
  have h9 := Option.some.inj h
  subst h9
  exact pm_retl rfl (by decide +kernel) rfl rfl rfl
def F_Machine_workBoth (a1 : Int32) (g : pm_s) (u : pm_J) : Option (pm_J) := (F_Frames_state g u).bind fun q1 => if q1 = 0 then (F_Tree_first a1 g u).bind fun q12 => (F_Machine_workPart q12 1 g u).bind fun q13 => some q13 else (F_Frames_state g u).bind fun q3 => if q3 = 1 then (F_Frames_hold (u.2 44 15) g u).bind fun q9 => (F_Tree_second a1 g q9).bind fun q10 => (F_Machine_workPart q10 2 g q9).bind fun q11 => some q11 else (F_Tree_kind a1 g u).bind fun q5 => (F_Frames_held 0 g u).bind fun q6 => (F_Machine_join q5 q6 (u.2 44 15) g u).bind fun q7 => (F_Machine_finish q7.1 g q7.2).bind fun q8 => some q8
set_option maxHeartbeats 4000000 in
set_option maxRecDepth 100000 in
theorem c_Machine_workBoth (l : Launch) (h0 : Nat) (D : pm_D) {g : pm_s} {u : pm_J} (hT : sh_T g) {a1 : Int32} {out : pm_J} (h : F_Machine_workBoth a1 g u = some out) : pm_C l h0 D m_Machine_workBoth (4) [.ref 44, .int a1] (sm g u) none (sm g out) := by
  unfold F_Machine_workBoth at h
  refine pm_met (by decide +kernel) (Nat.le_of_ble_eq_true rfl) (Nat.le_refl _) (Nat.le_refl _) ?_
  intro p e R s m args below meth c
  refine pm_blk (pc' := 4) (L' := [(0, .ref 44), (1, .int a1)]) (S' := [.ref 57]) (M' := sm g u) [pm_o (.aload_n 0), pm_of (.getfield 42) 6 5 2] (by decide +kernel) rfl ?_
  obtain ⟨q1, hq1, h⟩ := pm_bd h
  refine pm_cV (idx := 236) m_Frames_state (c_Frames_state l h0 D hT hq1) (As := []) (S0 := []) rfl (by decide +kernel) k_Frames_state l_Machine_236 (Nat.le_of_ble_eq_true rfl) (Nat.le_of_ble_eq_true rfl) (Nat.le_refl _) (Nat.le_refl _) ?_
  refine pm_blk (pc' := 7) (L' := [(0, .ref 44), (1, .int a1)]) (S' := [.int q1]) (M' := sm g u) [] (by decide +kernel) rfl ?_
  refine pm_if_ne (off := 19) 26 (by decide +kernel) (by decide) (fun hc2 => ?_) (fun hc2 => ?_)
  · rw [if_neg hc2] at h
    refine pm_blk (pc' := 30) (L' := [(0, .ref 44), (1, .int a1)]) (S' := [.ref 57]) (M' := sm g u) [pm_o (.aload_n 0), pm_of (.getfield 42) 6 5 2] (by decide +kernel) rfl ?_
    obtain ⟨q3, hq3, h⟩ := pm_bd h
    refine pm_cV (idx := 236) m_Frames_state (c_Frames_state l h0 D hT hq3) (As := []) (S0 := []) rfl (by decide +kernel) k_Frames_state l_Machine_236 (Nat.le_of_ble_eq_true rfl) (Nat.le_of_ble_eq_true rfl) (Nat.le_refl _) (Nat.le_refl _) ?_
    refine pm_blk (pc' := 34) (L' := [(0, .ref 44), (1, .int a1)]) (S' := [.int 1, .int q3]) (M' := sm g u) [pm_oi (.iconst 1) 1] (by decide +kernel) rfl ?_
    refine pm_ic_ne (off := 30) 64 (by decide +kernel) (by decide) (fun hc4 => ?_) (fun hc4 => ?_)
    · rw [if_neg hc4] at h
      refine pm_blk (pc' := 71) (L' := [(0, .ref 44), (1, .int a1)]) (S' := [.int a1, .ref 18, .ref 44, .ref 44]) (M' := sm g u) [pm_o (.aload_n 0), pm_o (.aload_n 0), pm_o (.aload_n 0), pm_of (.getfield 15) 6 1 2, pm_o (.iload_n 1)] (by decide +kernel) rfl ?_
      obtain ⟨q5, hq5, h⟩ := pm_bd h
      refine pm_cV (idx := 199) m_Tree_kind (c_Tree_kind l h0 D hT hq5) (As := [.int a1]) (S0 := [.ref 44, .ref 44]) rfl (by decide +kernel) k_Tree_kind l_Machine_199 (Nat.le_of_ble_eq_true rfl) (Nat.le_of_ble_eq_true rfl) (Nat.le_refl _) (Nat.le_refl _) ?_
      refine pm_blk (pc' := 79) (L' := [(0, .ref 44), (1, .int a1)]) (S' := [.int 0, .ref 57, .int q5, .ref 44, .ref 44]) (M' := sm g u) [pm_o (.aload_n 0), pm_of (.getfield 42) 6 5 2, pm_oi (.iconst 0) 0] (by decide +kernel) rfl ?_
      obtain ⟨q6, hq6, h⟩ := pm_bd h
      refine pm_cV (idx := 250) m_Frames_held (c_Frames_held l h0 D hT hq6) (As := [.int 0]) (S0 := [.int q5, .ref 44, .ref 44]) rfl (by decide +kernel) k_Frames_held l_Machine_250 (Nat.le_of_ble_eq_true rfl) (Nat.le_of_ble_eq_true rfl) (Nat.le_refl _) (Nat.le_refl _) ?_
      refine pm_blk (pc' := 86) (L' := [(0, .ref 44), (1, .int a1)]) (S' := [.long (u.2 44 15), .long q6, .int q5, .ref 44, .ref 44]) (M' := sm g u) [pm_o (.aload_n 0), pm_of (.getfield 57) 6 15 1] (by decide +kernel) rfl ?_
      obtain ⟨q7, hq7, h⟩ := pm_bd h
      refine pm_cV (idx := 253) m_Machine_join (c_Machine_join l h0 D hT hq7) (As := [.int q5, .long q6, .long (u.2 44 15)]) (S0 := [.ref 44]) rfl (by decide +kernel) k_Machine_join l_Machine_253 (Nat.le_of_ble_eq_true rfl) (Nat.le_of_ble_eq_true rfl) (Nat.le_refl _) (Nat.le_refl _) ?_
      refine pm_blk (pc' := 89) (L' := [(0, .ref 44), (1, .int a1)]) (S' := [.long q7.1, .ref 44]) (M' := sm g q7.2) [] (by decide +kernel) rfl ?_
      obtain ⟨q8, hq8, h⟩ := pm_bd h
      refine pm_cV (idx := 204) m_Machine_finish (c_Machine_finish l h0 D hT hq8) (As := [.long q7.1]) (S0 := []) rfl (by decide +kernel) k_Machine_finish l_Machine_204 (Nat.le_of_ble_eq_true rfl) (Nat.le_of_ble_eq_true rfl) (Nat.le_refl _) (Nat.le_refl _) ?_
      refine pm_blk (pc' := 92) (L' := [(0, .ref 44), (1, .int a1)]) (S' := []) (M' := sm g q8) [] (by decide +kernel) rfl ?_
      have h9 := Option.some.inj h
      subst h9
      exact pm_retv rfl (by decide +kernel) rfl rfl
    · rw [if_pos hc4] at h
      refine pm_blk (pc' := 45) (L' := [(0, .ref 44), (1, .int a1)]) (S' := [.long (u.2 44 15), .ref 57]) (M' := sm g u) [pm_o (.aload_n 0), pm_of (.getfield 42) 6 5 2, pm_o (.aload_n 0), pm_of (.getfield 57) 6 15 1] (by decide +kernel) rfl ?_
      obtain ⟨q9, hq9, h⟩ := pm_bd h
      refine pm_cV (idx := 247) m_Frames_hold (c_Frames_hold l h0 D hT hq9) (As := [.long (u.2 44 15)]) (S0 := []) rfl (by decide +kernel) k_Frames_hold l_Machine_247 (Nat.le_of_ble_eq_true rfl) (Nat.le_of_ble_eq_true rfl) (Nat.le_refl _) (Nat.le_refl _) ?_
      refine pm_blk (pc' := 54) (L' := [(0, .ref 44), (1, .int a1)]) (S' := [.int a1, .ref 18, .ref 44]) (M' := sm g q9) [pm_o (.aload_n 0), pm_o (.aload_n 0), pm_of (.getfield 15) 6 1 2, pm_o (.iload_n 1)] (by decide +kernel) rfl ?_
      obtain ⟨q10, hq10, h⟩ := pm_bd h
      refine pm_cV (idx := 245) m_Tree_second (c_Tree_second l h0 D hT hq10) (As := [.int a1]) (S0 := [.ref 44]) rfl (by decide +kernel) k_Tree_second l_Machine_245 (Nat.le_of_ble_eq_true rfl) (Nat.le_of_ble_eq_true rfl) (Nat.le_refl _) (Nat.le_refl _) ?_
      refine pm_blk (pc' := 58) (L' := [(0, .ref 44), (1, .int a1)]) (S' := [.int 2, .int q10, .ref 44]) (M' := sm g q9) [pm_oi (.iconst 2) 2] (by decide +kernel) rfl ?_
      obtain ⟨q11, hq11, h⟩ := pm_bd h
      refine pm_cV (idx := 239) m_Machine_workPart (c_Machine_workPart l h0 D hT hq11) (As := [.int q10, .int 2]) (S0 := []) rfl (by decide +kernel) k_Machine_workPart l_Machine_239 (Nat.le_of_ble_eq_true rfl) (Nat.le_of_ble_eq_true rfl) (Nat.le_refl _) (Nat.le_refl _) ?_
      refine pm_blk (pc' := 61) (L' := [(0, .ref 44), (1, .int a1)]) (S' := []) (M' := sm g q11) [] (by decide +kernel) rfl ?_
      refine pm_goto (off := 31) 92 (by decide +kernel) (by decide) ?_
      have h9 := Option.some.inj h
      subst h9
      exact pm_retv rfl (by decide +kernel) rfl rfl
  · rw [if_pos hc2] at h
    refine pm_blk (pc' := 16) (L' := [(0, .ref 44), (1, .int a1)]) (S' := [.int a1, .ref 18, .ref 44]) (M' := sm g u) [pm_o (.aload_n 0), pm_o (.aload_n 0), pm_of (.getfield 15) 6 1 2, pm_o (.iload_n 1)] (by decide +kernel) rfl ?_
    obtain ⟨q12, hq12, h⟩ := pm_bd h
    refine pm_cV (idx := 208) m_Tree_first (c_Tree_first l h0 D hT hq12) (As := [.int a1]) (S0 := [.ref 44]) rfl (by decide +kernel) k_Tree_first l_Machine_208 (Nat.le_of_ble_eq_true rfl) (Nat.le_of_ble_eq_true rfl) (Nat.le_refl _) (Nat.le_refl _) ?_
    refine pm_blk (pc' := 20) (L' := [(0, .ref 44), (1, .int a1)]) (S' := [.int 1, .int q12, .ref 44]) (M' := sm g u) [pm_oi (.iconst 1) 1] (by decide +kernel) rfl ?_
    obtain ⟨q13, hq13, h⟩ := pm_bd h
    refine pm_cV (idx := 239) m_Machine_workPart (c_Machine_workPart l h0 D hT hq13) (As := [.int q12, .int 1]) (S0 := []) rfl (by decide +kernel) k_Machine_workPart l_Machine_239 (Nat.le_of_ble_eq_true rfl) (Nat.le_of_ble_eq_true rfl) (Nat.le_refl _) (Nat.le_refl _) ?_
    refine pm_blk (pc' := 23) (L' := [(0, .ref 44), (1, .int a1)]) (S' := []) (M' := sm g q13) [] (by decide +kernel) rfl ?_
    refine pm_goto (off := 69) 92 (by decide +kernel) (by decide) ?_
    have h9 := Option.some.inj h
    subst h9
    exact pm_retv rfl (by decide +kernel) rfl rfl
