/-! THE PURE MACHINE: cells by small numbers (real address = h0 + number), ints, longs and references apart; one judgement pm_V over the kit's W -/
/-- the machine's value: a cell of ours by its number; .retAddr q stands for a reference to the cell q below h0 -/
def pm_cv (h0 : Nat) (v : Value) : Value := match v with
  | .ref a => .ref (h0 + a)
  | .retAddr q => .ref q
  | w => w
theorem pm_cv_cat (h0 : Nat) (v : Value) : (pm_cv h0 v).category = v.category := by cases v <;> rfl
def pm_cp (h0 : Nat) (q : Nat × Value) : Nat × Value := (q.1, pm_cv h0 q.2)
/-- next cell, slots so far, kind of a cell (999: none), its length, its references -/
abbrev pm_Z : Type := Nat × Nat × (Nat → Nat) × (Nat → Nat) × (Nat → Nat → Option Nat)
abbrev pm_M : Type := pm_Z × (Nat → Nat → Int32) × (Nat → Nat → Int64)
def pm_wi (M : pm_M) (a k : Nat) (v : Int32) : pm_M := (M.1, fun x y => if x = a ∧ y = k then v else M.2.1 x y, M.2.2)
def pm_wj (M : pm_M) (a k : Nat) (v : Int64) : pm_M := (M.1, M.2.1, fun x y => if x = a ∧ y = k then v else M.2.2 x y)
def pm_wr (M : pm_M) (a k : Nat) (v : Option Nat) : pm_M := ((M.1.1, M.1.2.1, M.1.2.2.1, M.1.2.2.2.1, fun x y => if x = a ∧ y = k then v else M.1.2.2.2.2 x y), M.2)
/-- type codes: 0 int, 1 long, 2 a reference, 3 boolean -/
def pm_tc (t : FieldType) : Nat := match t with
  | .int => 0
  | .long => 1
  | .boolean => 3
  | .object _ => 2
  | .array _ => 2
  | _ => 9
def pm_ft (ci k : Nat) : Nat := match pm_cl[ci]? with
  | some q => (match parseFieldDescriptor (q.2.1 k).2.2.1 with | some ty => pm_tc ty | none => 9)
  | none => 9
def pm_fv (h0 : Nat) (M : pm_M) (t a k : Nat) : Value := if t = 1 then .long (M.2.2 a k) else if t = 2 then pm_cv h0 (va_rf (M.1.2.2.2.2 a k)) else .int (M.2.1 a k)
/-- arrays: kind 100 int, 101 long, 102 boolean -/
def pm_et (k : Nat) : FieldType := if k = 101 then .long else if k = 102 then .boolean else .int
def pm_ev (M : pm_M) (k a j : Nat) : Value := if k = 101 then .long (M.2.2 a j) else .int (M.2.1 a j)
/-- classes and slots; where the two texts and their octets lie -/
abbrev pm_D : Type := va_G × (Nat → Nat) × (Nat → Nat)
def pm_at (U : State) (h0 : Nat) (D : pm_D) (M : pm_M) (H : Heap) (a : Nat) : Prop :=
  (M.1.2.2.1 a < 100 → ∃ r : vw_C, pm_cl[M.1.2.2.1 a]? = some r ∧ t_OB (h0 + a) (D.1.1 (M.1.2.2.1 a)) r.2.2 (D.1.2 (M.1.2.2.1 a)) H (fun k => pm_fv h0 M (pm_ft (M.1.2.2.1 a) k) a k)) ∧
  (100 ≤ M.1.2.2.1 a → ∃ cA : ClassId, ArrOfT U cA (pm_et (M.1.2.2.1 a)) ∧ H[h0 + a]? = some (arrV cA (M.1.2.2.2.1 a) (pm_ev M (M.1.2.2.1 a) a)))
/-- no cell of ours holds statics -/
def pm_ns (h0 : Nat) (H : Heap) : Prop := ∀ (q : Nat) (c : Cell), h0 ≤ q → H[q]? = some c → c.vm.isStatics = false
theorem pm_at.ns {U : State} {h0 : Nat} {D : pm_D} {M : pm_M} {H : Heap} {a : Nat} (h : pm_at U h0 D M H a) {c : Cell} (hc : H[h0 + a]? = some c) : c.vm.isStatics = false := by
  by_cases h1 : M.1.2.2.1 a < 100
  · obtain ⟨r, -, cell, g1, -, g3, -⟩ := h.1 h1
    cases hc.symm.trans g1
    rw [g3]; rfl
  · obtain ⟨cA, -, g1⟩ := h.2 (by omega)
    cases hc.symm.trans g1
    rfl
def pm_R (U : State) (h0 : Nat) (D : pm_D) (M : pm_M) (H : Heap) : Prop := H.size = h0 + M.1.1 ∧ (∀ a, M.1.2.2.1 a < 999 → a < M.1.1 ∧ pm_at U h0 D M H a) ∧ pm_ns h0 H
theorem pm_R.moved {u U : State} {h0 : Nat} {D : pm_D} {M : pm_M} {H : Heap} (hvm : u.vm.Alike U.vm) (h : pm_R u h0 D M H) : pm_R U h0 D M H := by
  refine ⟨h.1, fun a ha => ⟨(h.2.1 a ha).1, (h.2.1 a ha).2.1, fun hk => ?_⟩, h.2.2⟩
  obtain ⟨cA, h1, h2⟩ := (h.2.1 a ha).2.2 hk
  exact ⟨cA, arrOfT_moved hvm h1, h2⟩
def ks_len : List Nat := [43, 10]
def ks_byt : List (List Int32) := [[108, 111, 110, 103, 32, 100, 111, 117, 98, 108, 101, 32, 108, 101, 116, 32, 105, 110, 32, 105, 102, 32, 116, 104, 101, 110, 32, 101, 108, 115, 101, 32, 102, 110, 32, 102, 115, 116, 32, 115, 110, 100, 32], [40, 41, 58, 61, 59, 44, 42, 43, 45, 60]]
def ks_msg : List (Nat × String) := [(90, "n is not 1 .. 8, or the text would be too long"), (140, "no such DEF, or nothing to tell of it"), (152, "there are six arguments"), (155, "no such DEF"), (161, "steps, or the arguments, do not fit"), (167, "nothing is told of that")]
def kx_ia : String := "java/lang/IllegalArgumentException"
def kx_io : String := "java/lang/IndexOutOfBoundsException"
def kx_is : String := "java/lang/IllegalStateException"
def kt_decl : List MethodName := [⟨"java/lang/RuntimeException", "<init>", "(Ljava/lang/String;)V"⟩, ⟨"java/lang/Exception", "<init>", "(Ljava/lang/String;)V"⟩, ⟨"java/lang/Throwable", "<init>", "(Ljava/lang/String;)V"⟩]
def pm_Zs (C n d : String) (A : Nat → Prop) (U : State) (H : Heap) : Prop := ∃ (c : ClassId) (k : Class) (i : Nat) (f : Field) (a : Nat) (cell : Cell), U.vm.findClass C = some c ∧ U.fieldFound? C n d = some (c, k, i, f) ∧ f.isStatic = true ∧ k.statics = some a ∧ H[a]? = some cell ∧ cell.vm.isStatics = true ∧ cell.cls = c ∧ f.slot < cell.slots.size ∧ k.staticTypes[f.slot]? = some f.type ∧ ¬ A a
theorem pm_Zs.moved {C n d : String} {A : Nat → Prop} {u U : State} {H : Heap} (hvm : u.vm.Alike U.vm) (h : pm_Zs C n d A u H) : pm_Zs C n d A U H := by
  obtain ⟨c, k, i, f, a, cell, h0, h1, h2, h3, h4, h5, h6, h7, h8, h9⟩ := h
  obtain ⟨k', hi', he⟩ := State.fieldFound?_setVm hvm h1
  exact ⟨c, k', i, f, a, cell, by rw [hvm.findClass]; exact h0, hi', h2, by rw [he]; exact h3, h4, h5, h6, h7, by rw [he]; exact h8, h9⟩
theorem pm_Zs.kept {C n d : String} {A : Nat → Prop} {U : State} {H H1 : Heap} (h : pm_Zs C n d A U H) (hq : ∀ a : Nat, a < H.size → ¬ A a → H1[a]? = H[a]?) : pm_Zs C n d A U H1 := by
  obtain ⟨c, k, i, f, a, cell, h0, h1, h2, h3, h4, h5, h6, h7, h8, h9⟩ := h
  exact ⟨c, k, i, f, a, cell, h0, h1, h2, h3, by rw [hq a (Array.getElem?_eq_some_iff.mp h4).1 h9]; exact h4, h5, h6, h7, h8, h9⟩
def kt_st : List (String × String) := [("UNASSIGNED_STACK", "[Ljava/lang/StackTraceElement;"), ("SUPPRESSED_SENTINEL", "Ljava/util/List;")]
/-- of the three classes of what is thrown -/
def pm_KT (h0 : Nat) (U : State) : Prop := (∀ x ∈ kt_decl, va_Nw (.declares x) U) ∧ (∀ c ∈ [kx_ia, kx_io, kx_is], va_Nw (.castable c c) U) ∧ (∃ a b : ClassId, U.vm.findClass kx_ia = some a ∧ U.vm.findClass kx_io = some b ∧ U.vm.assignable a b = false) ∧ ∀ q ∈ kt_st, pm_Zs "java/lang/Throwable" q.1 q.2 (fun q => h0 ≤ q) U U.heap
theorem pm_KT.warm {h0 : Nat} {s U : State} (hW : s.WarmedH U.vm) (hq : ∀ a : Nat, a < s.heap.size → ¬ (h0 ≤ a) → U.heap[a]? = s.heap[a]?) (h : pm_KT h0 s) : pm_KT h0 U := by
  obtain ⟨h1, h2, ⟨a, b, h3, h4, h5⟩, h6⟩ := h
  exact ⟨fun x hx => va_Nw.warmD hW (h1 x hx), fun c hc => va_Nw.warmC hW (h2 c hc), ⟨a, b, by rw [hW.alike.findClass]; exact h3, by rw [hW.alike.findClass]; exact h4, by rw [hW.alike.assignable]; exact h5⟩, fun q hm => pm_Zs.moved hW.alike ((h6 q hm).kept hq)⟩
theorem pm_KT.same {h0 : Nat} {s U : State} (hv : U.vm = s.vm) (hH : U.heap = s.heap) (h : pm_KT h0 s) : pm_KT h0 U := by
  obtain ⟨h1, h2, h3, h4⟩ := h
  have ha : s.vm.Alike U.vm := by rw [hv]; exact Vm.Alike.refl s.vm
  exact ⟨fun x hx => va_Nw.same rfl hv.symm (h1 x hx), fun c hc => va_Nw.same rfl hv.symm (h2 c hc), by rw [hv]; exact h3, fun q hm => by rw [hH]; exact pm_Zs.moved ha (h4 q hm)⟩
/-- what lies below h0 and is used: two texts by their octets, messages, four statics -/
def pm_KS (h0 : Nat) (D : pm_D) (U : State) : Prop :=
  (vk_S 2 ks_len ks_byt D.2.1 D.2.2 (fun q => h0 ≤ q) U U.heap ∧ vk_R "BoxedCore$Tokens" 29 "long double let in if then else fn fst snd " (D.2.1 0) U ∧ vk_R "BoxedCore$Tokens" 117 "():=;,*+-<" (D.2.1 1) U) ∧ (∀ q ∈ ks_msg, ∃ a, vk_R "BoxedCore" q.1 q.2 a U) ∧
  va_Z "java/lang/String" "COMPACT_STRINGS" "Z" (.int 1) (fun q => h0 ≤ q) U U.heap ∧ va_Zq "jdk/internal/util/Preconditions" "SIOOBE_FORMATTER" "Ljava/util/function/BiFunction;" (fun q => h0 ≤ q) U U.heap ∧
  va_Zq "java/lang/Throwable" "UNASSIGNED_STACK" "[Ljava/lang/StackTraceElement;" (fun q => h0 ≤ q) U U.heap ∧ va_Zq "java/lang/Throwable" "SUPPRESSED_SENTINEL" "Ljava/util/List;" (fun q => h0 ≤ q) U U.heap ∧ pm_KT h0 U
theorem pm_KS.warm {h0 : Nat} {D : pm_D} {s U : State} (hW : s.WarmedH U.vm) (hF : ∀ q, q < h0 → U.heap[q]? = s.heap[q]?) (h : pm_KS h0 D s) : pm_KS h0 D U := by
  have hq : ∀ a : Nat, a < s.heap.size → ¬ (h0 ≤ a) → U.heap[a]? = s.heap[a]? := fun a _ h9 => hF a (by omega)
  obtain ⟨⟨h1, h2, h3⟩, h4, h5, h6, h7, h8, h9⟩ := h
  exact ⟨⟨vk_S.moved hW.alike (h1.kept hq), h2.warm hW, h3.warm hW⟩, fun q hm => (h4 q hm).imp fun a ha => ha.warm hW, va_Z.moved hW.alike (h5.kept hq), va_Zq.moved hW.alike (h6.kept hq), va_Zq.moved hW.alike (h7.kept hq), va_Zq.moved hW.alike (h8.kept hq), h9.warm hW hq⟩
theorem pm_KS.same {h0 : Nat} {D : pm_D} {s U : State} (hv : U.vm = s.vm) (hH : U.heap = s.heap) (h : pm_KS h0 D s) : pm_KS h0 D U := by
  have ha : s.vm.Alike U.vm := by rw [hv]; exact Vm.Alike.refl s.vm
  obtain ⟨⟨h1, h2, h3⟩, h4, h5, h6, h7, h8, h9⟩ := h
  exact ⟨⟨by rw [hH]; exact vk_S.moved ha h1, h2.same hv, h3.same hv⟩, fun q hm => (h4 q hm).imp fun a hz => hz.same hv, by rw [hH]; exact va_Z.moved ha h5, by rw [hH]; exact va_Zq.moved ha h6, by rw [hH]; exact va_Zq.moved ha h7, by rw [hH]; exact va_Zq.moved ha h8, h9.same hv hH⟩
def pm_K (h0 : Nat) (D : pm_D) (U : State) : Prop := va_K D.1 pm_cl [] U ∧ (∀ q ∈ pm_nestM, va_Nw (.methodLinkNest q.1 q.2.1 q.2.2.1 q.2.2.2) U) ∧ pm_KS h0 D U
theorem pm_K.warm {h0 : Nat} {D : pm_D} {s U : State} (hW : s.WarmedH U.vm) (hF : ∀ q, q < h0 → U.heap[q]? = s.heap[q]?) (h : pm_K h0 D s) : pm_K h0 D U := ⟨h.1.moved hW.alike, fun q hq => va_Nw.warmM hW (h.2.1 q hq), h.2.2.warm hW hF⟩
abbrev pm_c : Type := Program × Launch × Env × Room × State × MethodId × Array Value × List Frame × Method × Code
/-- a method: name, code, locals, what it returns -/
abbrev pm_m : Type := MethodName × ByteArray × Nat × Option FieldType
/-- cells and slots at the entry, at the end; the depth of calls -/
abbrev pm_b : Type := Nat × Nat × Nat × Nat × Nat
def pm_X (x : pm_c) (y : pm_m) (h0 : Nat) (D : pm_D) (b : pm_b) : Prop := match x with
  | (p, _, _, R, s, m, args, _, meth, c) => p.tables.exec = Jvm.exec ∧ c.code = y.2.1 ∧ c.maxLocals = y.2.2.1 ∧ s.vm.findClass y.1.cls = some m.cls ∧ (∀ w ∈ pm_tbl, w.before args s = true) ∧ pm_K h0 D s ∧ meth.locks = false ∧ meth.sig.returnType = y.2.2.2 ∧ meth.name = y.1.name ∧ R.cells = b.2.2.1 - b.1 ∧ R.slots = b.2.2.2.1 - b.2.1 ∧ b.2.2.2.2 ≤ R.frames ∧ 64 * b.2.2.2.2 ≤ R.locals
/-- the judgement: at pc, with locals L, stack S, memory M, the machine comes to Q -/
def pm_V (x : pm_c) (y : pm_m) (h0 : Nat) (D : pm_D) (b : pm_b) (Q : State → Prop) (pc : Nat) (L : List (Nat × Value)) (S : List Value) (M : pm_M) : Prop := match x with
  | (p, l, e, R, s, m, args, below, meth, c) => pm_X (p, l, e, R, s, m, args, below, meth, c) y h0 D b → ∀ (H : Heap) (locs : List Loc) (ls : Array Slot), pm_R s h0 D M H → (∀ q, q < h0 → H[q]? = s.heap[q]?) → (∀ z ∈ locs, h0 ≤ z.base) → lv_has ls y.2.2.1 (L.map (pm_cp h0)) → b.1 ≤ M.1.1 → b.2.1 ≤ M.1.2.1 →
      W p l e R s m args below meth c H locs (M.1.1 - b.1) (M.1.2.1 - b.2.1) Q (F0 m pc ls (S.map (pm_cv h0)))
/-! one instruction that neither branches nor calls nor makes -/
def pm_ln (i : Instr) : Nat := match i with
  | .bipush _ => 2
  | .sipush _ => 3
  | .iload _ => 2
  | .lload _ => 2
  | .aload _ => 2
  | .istore _ => 2
  | .lstore _ => 2
  | .astore _ => 2
  | .iinc _ _ => 3
  | .getfield _ => 3
  | .putfield _ => 3
  | .ldc _ => 2
  | .ldc2_w _ => 3
  | _ => 1
/-- an instruction with what is known of it: an int, a long, a class, a field, a type code -/
abbrev pm_I : Type := Instr × Int32 × Int64 × Nat × Nat × Nat
def pm_o (i : Instr) : pm_I := (i, 0, 0, 0, 0, 0)
def pm_oi (i : Instr) (v : Int32) : pm_I := (i, v, 0, 0, 0, 0)
def pm_ol (i : Instr) (v : Int64) : pm_I := (i, 0, v, 0, 0, 0)
def pm_of (i : Instr) (ci k t : Nat) : pm_I := (i, 0, 0, ci, k, t)
noncomputable def pm_lk (L : List (Nat × Value)) (i : Nat) : Option Value := List.rec (motive := fun _ => Option Value) none (fun q _ ih => cond (Nat.beq q.1 i) (some q.2) ih) L
def pm_s1 (L : List (Nat × Value)) (i : Nat) (v : Value) : List (Nat × Value) := (i, v) :: L.filter (fun q => !(q.1 == i) && !(q.1 + 1 == i && q.2.category == 2))
def pm_s2 (L : List (Nat × Value)) (i : Nat) (v : Value) : List (Nat × Value) := (i, v) :: L.filter (fun q => !(q.1 == i) && (!(q.1 == i + 1) && !(q.1 + 1 == i && q.2.category == 2)))
abbrev pm_O : Type := Option (List (Nat × Value) × List Value × pm_M)
def pm_ii (f : Int32 → Int32 → Int32) (L : List (Nat × Value)) (S : List Value) (M : pm_M) : pm_O := match S with
  | .int y :: .int x :: S => some (L, .int (f x y) :: S, M)
  | _ => none
def pm_jj (f : Int64 → Int64 → Int64) (L : List (Nat × Value)) (S : List Value) (M : pm_M) : pm_O := match S with
  | .long y :: .long x :: S => some (L, .long (f x y) :: S, M)
  | _ => none
def pm_ji (f : Int64 → Int32 → Int64) (L : List (Nat × Value)) (S : List Value) (M : pm_M) : pm_O := match S with
  | .int y :: .long x :: S => some (L, .long (f x y) :: S, M)
  | _ => none
noncomputable def pm_ldi (i : Nat) (L : List (Nat × Value)) (S : List Value) (M : pm_M) : pm_O := match pm_lk L i with
  | some (.int v) => some (L, .int v :: S, M)
  | _ => none
noncomputable def pm_ldj (i : Nat) (L : List (Nat × Value)) (S : List Value) (M : pm_M) : pm_O := match pm_lk L i with
  | some (.long v) => some (L, .long v :: S, M)
  | _ => none
noncomputable def pm_lda (i : Nat) (L : List (Nat × Value)) (S : List Value) (M : pm_M) : pm_O := match pm_lk L i with
  | some (.ref v) => some (L, .ref v :: S, M)
  | _ => none
def pm_sti (n i : Nat) (L : List (Nat × Value)) (S : List Value) (M : pm_M) : pm_O := match S with
  | .int v :: S => cond (Nat.blt i n) (some (pm_s1 L i (.int v), S, M)) none
  | _ => none
def pm_stj (n i : Nat) (L : List (Nat × Value)) (S : List Value) (M : pm_M) : pm_O := match S with
  | .long v :: S => cond (Nat.blt (i + 1) n) (some (pm_s2 L i (.long v), S, M)) none
  | _ => none
def pm_sta (n i : Nat) (L : List (Nat × Value)) (S : List Value) (M : pm_M) : pm_O := match S with
  | .ref v :: S => cond (Nat.blt i n) (some (pm_s1 L i (.ref v), S, M)) none
  | _ => none
def pm_gf (ci k t : Nat) (L : List (Nat × Value)) (S : List Value) (M : pm_M) : pm_O := match S with
  | .ref a :: S => cond (Nat.beq (M.1.2.2.1 a) ci) (cond (Nat.beq t 1) (some (L, .long (M.2.2 a k) :: S, M)) (cond (Nat.beq t 2) (some (L, va_rf (M.1.2.2.2.2 a k) :: S, M)) (some (L, .int (M.2.1 a k) :: S, M)))) none
  | _ => none
def pm_pf (ci k t : Nat) (L : List (Nat × Value)) (S : List Value) (M : pm_M) : pm_O := match S with
  | .int v :: .ref a :: S => cond (Nat.beq (M.1.2.2.1 a) ci) (cond (Nat.beq t 0) (some (L, S, pm_wi M a k v)) (cond (Nat.beq t 3) (cond (v == 0 || v == 1) (some (L, S, pm_wi M a k v)) none) none)) none
  | .long v :: .ref a :: S => cond (Nat.beq (M.1.2.2.1 a) ci) (cond (Nat.beq t 1) (some (L, S, pm_wj M a k v)) none) none
  | .ref v :: .ref a :: S => cond (Nat.beq (M.1.2.2.1 a) ci) (cond (Nat.beq t 2) (some (L, S, pm_wr M a k (some v))) none) none
  | _ => none
noncomputable def pm_st (n : Nat) (o : pm_I) (L : List (Nat × Value)) (S : List Value) (M : pm_M) : pm_O := match o.1 with
  | .iconst _ => some (L, .int o.2.1 :: S, M)
  | .bipush _ => some (L, .int o.2.1 :: S, M)
  | .sipush _ => some (L, .int o.2.1 :: S, M)
  | .ldc _ => some (L, .int o.2.1 :: S, M)
  | .lconst _ => some (L, .long o.2.2.1 :: S, M)
  | .ldc2_w _ => some (L, .long o.2.2.1 :: S, M)
  | .iload_n k => pm_ldi k.val L S M
  | .iload k => pm_ldi k L S M
  | .lload_n k => pm_ldj k.val L S M
  | .lload k => pm_ldj k L S M
  | .aload_n k => pm_lda k.val L S M
  | .aload k => pm_lda k L S M
  | .istore_n k => pm_sti n k.val L S M
  | .istore k => pm_sti n k L S M
  | .lstore_n k => pm_stj n k.val L S M
  | .lstore k => pm_stj n k L S M
  | .astore_n k => pm_sta n k.val L S M
  | .astore k => pm_sta n k L S M
  | .iinc k _ => (match pm_lk L k with | some (.int v) => cond (Nat.blt k n) (some (pm_s1 L k (.int (v + o.2.1)), S, M)) none | _ => none)
  | .iadd => pm_ii (fun x y => x + y) L S M
  | .isub => pm_ii (fun x y => x - y) L S M
  | .imul => pm_ii (fun x y => x * y) L S M
  | .iand => pm_ii (fun x y => x &&& y) L S M
  | .ior => pm_ii (fun x y => x ||| y) L S M
  | .ixor => pm_ii (fun x y => x ^^^ y) L S M
  | .ishl => pm_ii (fun x y => x <<< (y &&& 31)) L S M
  | .ishr => pm_ii (fun x y => x >>> (y &&& 31)) L S M
  | .iushr => pm_ii (fun x y => (x.toUInt32 >>> (y.toUInt32 &&& Int32.toUInt32 31)).toInt32) L S M
  | .ladd => pm_jj (fun x y => x + y) L S M
  | .lsub => pm_jj (fun x y => x - y) L S M
  | .lmul => pm_jj (fun x y => x * y) L S M
  | .land => pm_jj (fun x y => x &&& y) L S M
  | .lor => pm_jj (fun x y => x ||| y) L S M
  | .lxor => pm_jj (fun x y => x ^^^ y) L S M
  | .lshl => pm_ji (fun x y => x <<< (y.toInt64 &&& 63)) L S M
  | .lshr => pm_ji (fun x y => x >>> (y.toInt64 &&& 63)) L S M
  | .lushr => pm_ji (fun x y => (x.toUInt64 >>> (y.toInt64.toUInt64 &&& Int64.toUInt64 63)).toInt64) L S M
  | .ineg => (match S with | .int x :: S => some (L, .int (-x) :: S, M) | _ => none)
  | .i2l => (match S with | .int x :: S => some (L, .long x.toInt64 :: S, M) | _ => none)
  | .l2i => (match S with | .long x :: S => some (L, .int x.toInt32 :: S, M) | _ => none)
  | .lcmp => (match S with | .long y :: .long x :: S => some (L, .int (lg_cmp x y) :: S, M) | _ => none)
  | .dup => (match S with | .int x :: S => some (L, .int x :: .int x :: S, M) | .ref x :: S => some (L, .ref x :: .ref x :: S, M) | _ => none)
  | .pop => (match S with | .int _ :: S => some (L, S, M) | .ref _ :: S => some (L, S, M) | _ => none)
  | .dup2 => (match S with | .int x :: .ref a :: S => some (L, .int x :: .ref a :: .int x :: .ref a :: S, M) | _ => none)
  | .dup_x1 => (match S with | .int x :: .ref a :: S => some (L, .int x :: .ref a :: .int x :: S, M) | _ => none)
  | .arraylength => (match S with | .ref a :: S => cond (Nat.ble 100 (M.1.2.2.1 a)) (cond (Nat.blt (M.1.2.2.1 a) 999) (some (L, .int (M.1.2.2.2.1 a).toInt32 :: S, M)) none) none | _ => none)
  | .getfield _ => pm_gf o.2.2.2.1 o.2.2.2.2.1 o.2.2.2.2.2 L S M
  | .putfield _ => pm_pf o.2.2.2.1 o.2.2.2.2.1 o.2.2.2.2.2 L S M
  | _ => none
