set_option maxRecDepth 100000
def tyQ : Ty → Ty → Bool
  | .num k, .num l => Nat.beq k l
  | .var _, .var _ => false
  | .add a b, .add c d => tyQ a c && tyQ b d
  | .mul a b, .mul c d => tyQ a c && tyQ b d
  | _, _ => false
def tyG : Ty → Prop
  | .num k => k < 6
  | .var _ => False
  | .add a b => tyG a ∧ tyG b
  | .mul a b => tyG a ∧ tyG b
theorem tyQ_eq {a : Ty} : ∀ {b : Ty}, tyG a → (tyQ a b = true ↔ a = b) := by
  induction a with
  | num k => intro b _; cases b with
    | num l => show Nat.beq k l = true ↔ _; rw [Nat.beq_eq]; constructor
               · intro h; rw [h]
               · intro h; injection h
    | var l => exact ⟨fun h => (by cases h), fun h => (by cases h)⟩
    | add c d => exact ⟨fun h => (by cases h), fun h => (by cases h)⟩
    | mul c d => exact ⟨fun h => (by cases h), fun h => (by cases h)⟩
  | var k => intro b h; exact h.elim
  | add a b iha ihb => intro x hg; cases x with
    | num l => exact ⟨fun h => (by cases h), fun h => (by cases h)⟩
    | var l => exact ⟨fun h => (by cases h), fun h => (by cases h)⟩
    | add c d => show (tyQ a c && tyQ b d) = true ↔ _; rw [Bool.and_eq_true, iha hg.1, ihb hg.2]; constructor
                 · rintro ⟨rfl, rfl⟩; rfl
                 · intro h; injection h with h1 h2; exact ⟨h1, h2⟩
    | mul c d => exact ⟨fun h => (by cases h), fun h => (by cases h)⟩
  | mul a b iha ihb => intro x hg; cases x with
    | num l => exact ⟨fun h => (by cases h), fun h => (by cases h)⟩
    | var l => exact ⟨fun h => (by cases h), fun h => (by cases h)⟩
    | add c d => exact ⟨fun h => (by cases h), fun h => (by cases h)⟩
    | mul c d => show (tyQ a c && tyQ b d) = true ↔ _; rw [Bool.and_eq_true, iha hg.1, ihb hg.2]; constructor
                 · rintro ⟨rfl, rfl⟩; rfl
                 · intro h; injection h with h1 h2; exact ⟨h1, h2⟩
def isL : Ty → Bool
  | .num k => Nat.ble 2 k
  | _ => false
abbrev Fi : Type := Nat → Option Ty
def fit : Ty → Ty → Fi → Option Fi
  | .num k, s, f => if k < 2 then (if tyQ (.num k) s = true then some f else none) else match f (k - 2) with
    | none => some (pu_upd f (k - 2) (some s))
    | some r => if tyQ r s = true then some f else none
  | .var _, _, _ => none
  | .add a b, s, f => if tyM (.add a b) = 0 then (if tyQ (.add a b) s = true then some f else none) else match s with
    | .add c d => (fit a c f).bind fun f' => fit b d f'
    | _ => none
  | .mul a b, s, f => if tyM (.mul a b) = 0 then (if tyQ (.mul a b) s = true then some f else none) else match s with
    | .mul c d => (fit a c f).bind fun f' => fit b d f'
    | _ => none
def sbt (f : Fi) : Ty → Option Ty
  | .num k => if k < 2 then some (.num k) else f (k - 2)
  | .var _ => none
  | .add a b => (sbt f a).bind fun x => (sbt f b).bind fun y => some (.add x y)
  | .mul a b => (sbt f a).bind fun x => (sbt f b).bind fun y => some (.mul x y)
def apF (ty : Nat → Option Ty) : Ty → List Nat → Option Ty
  | s, [] => some s
  | .mul a b, x :: l => match ty x with
    | some s => if tyQ a s = true then apF ty b l else none
    | none => none
  | _, _ :: _ => none
def fits (ty : Nat → Option Ty) : List Ty → List Nat → Fi → Option Fi
  | [], _, f => some f
  | _ :: _, [], _ => none
  | p :: ps, a :: l, f => match ty a with
    | none => none
    | some s => (fit p s f).bind fun f' => fits ty ps l f'
abbrev CS : Type := (Nat → Option Ty) × (Nat → Option Nat) × (Nat → Fi) × (Nat → Bool)
def dTy (D : List Df) (d : Nat) : Ty := match D[d]? with
  | some x => x.2.2.1
  | none => .num 0
def dPs (D : List Df) (d : Nat) : List Ty := match D[d]? with
  | some x => x.2.1.reverse.map Prod.snd
  | none => []
def lTy (lc : Lc) (ty : Nat → Option Ty) (l : Nat) : Option Ty := if lc.2.2 l < 0 then lc.2.1 l else ty (lc.2.2 l).toNat
def calD (D : List Df) (t : Tr) (c : CS) (h : Nat) : Option Nat := if (t.2.1 h).1 = 4 then (match c.2.1 h with
  | some d => if (dPs D d).length = 0 then none else some d
  | none => none) else none
def aLt (D : List Df) (t : Tr) (c : CS) (a : Nat) : Bool := if (t.2.1 a).1 = 16 then (match c.2.1 a with
  | some d => Nat.beq (t.2.1 a).2.2.2.2.2.2.length (dPs D d).length && isL (dTy D d)
  | none => false) else false
def shs (D : List Df) (t : Tr) (c : CS) : List Ty → List Nat → (Nat → Bool) → (Nat → Bool)
  | p :: ps, a :: l, s => shs D t c ps l (if (isL p && aLt D t c a) = true then pu_upd s a true else s)
  | [], _, s => s
  | _ :: _, [], s => s
def ckC (D : List Df) (t : Tr) (c : CS) (e : Nat) (x : Nd) : Option (Ty × CS) := match calD D t c x.2.2.1.toNat with
  | none => (match c.1 x.2.2.1.toNat with
    | none => none
    | some s => (apF c.1 s x.2.2.2.2.2.2).map fun r => (r, c))
  | some d => if x.2.2.2.2.2.2.length < (dPs D d).length then none else (fits c.1 (dPs D d) x.2.2.2.2.2.2 (fun _ => none)).bind fun f => (sbt f (dTy D d)).bind fun s => (apF c.1 s (x.2.2.2.2.2.2.drop (dPs D d).length)).map fun r => (r, (c.1, pu_upd c.2.1 e (some d), pu_upd c.2.2.1 e f, shs D t c (dPs D d) x.2.2.2.2.2.2 c.2.2.2))
def nty (lc : Lc) (ty : Nat → Option Ty) (x : Nd) : Option Ty :=
  if x.1 = 0 then some (.num 0) else if x.1 = 1 then some (.num 1) else if x.1 = 2 then lTy lc ty x.2.2.1.toNat
  else if x.1 = 7 then ty x.2.2.2.1.toNat
  else match ty x.2.2.1.toNat with
    | none => none
    | some a =>
      if x.1 = 9 then (match lTy lc ty x.2.2.2.2.1.toNat with
        | some l => some (.mul l a)
        | none => none)
      else if x.1 = 14 then (match a with
        | .add l _ => some l
        | _ => none)
      else if x.1 = 15 then (match a with
        | .add _ r => some r
        | _ => none)
      else match ty x.2.2.2.1.toNat with
        | none => none
        | some b =>
          if x.1 = 8 then (match ty x.2.2.2.2.1.toNat with
            | none => none
            | some r => if tyQ (.num 0) a = true ∧ tyQ b r = true then some b else none)
          else if x.1 = 13 then some (.add a b)
          else if tyQ (.num 0) a = true ∧ tyQ (.num 0) b = true then some (.num 0) else none
def sTy (c : CS) (e : Nat) (s : Ty) : CS := (pu_upd c.1 e (some s), c.2)
def sDf (c : CS) (e d : Nat) : CS := (c.1, pu_upd c.2.1 e (some d), c.2.2)
def ckL (x : Nd) (e : Nat) (q : Option (Ty × CS)) : PE CS := match q with
  | none => .error (7, x.2.1)
  | some p => if 200 < tyL p.1 then .error (7, x.2.1) else .ok (sTy p.2 e p.1)
def ck (T : List Tok) (D : List Df) (t : Tr) (lc : Lc) (c : CS) (e : Nat) : PE CS :=
  if (t.2.1 e).1 = 3 ∨ (t.2.1 e).1 = 4 then
    (if fDef T (t.2.1 e).2.2.2.2.2.1 D 0 = -1 then .error (6, (t.2.1 e).2.1)
    else if (dPs D (fDef T (t.2.1 e).2.2.2.2.2.1 D 0).toNat).length = 0 then .ok (sTy (sDf c e (fDef T (t.2.1 e).2.2.2.2.2.1 D 0).toNat) e (dTy D (fDef T (t.2.1 e).2.2.2.2.2.1 D 0).toNat))
    else if (t.2.1 e).1 = 4 then .ok (sDf c e (fDef T (t.2.1 e).2.2.2.2.2.1 D 0).toNat)
    else .error (7, (t.2.1 e).2.1))
  else ckL (t.2.1 e) e (if (t.2.1 e).1 = 16 then ckC D t c e (t.2.1 e) else (nty lc c.1 (t.2.1 e)).map fun s => (s, c))
def ckN (T : List Tok) (D : List Df) (t : Tr) (lc : Lc) : Nat → Nat → CS → PE CS
  | 0, _, c => .ok c
  | n + 1, e, c => pB (ck T D t lc c e) fun c' => ckN T D t lc n (e + 1) c'
def ckD (T : List Tok) (D : List Df) (t : Tr) (x : Df) (c : CS) : PE CS := pB (ckN T D t x.2.2.2.2.2.2 (x.2.2.2.1 + 1 - x.2.2.2.2.1) x.2.2.2.2.1 c) fun c' => match c'.1 x.2.2.2.1 with
  | some s => if tyQ x.2.2.1 s = true then .ok c' else .error (7, x.1)
  | none => .error (7, x.1)
def ckA (T : List Tok) (D : List Df) (t : Tr) : List Df → CS → PE CS
  | [], c => .ok c
  | x :: R, c => pB (ckD T D t x c) fun c' => ckA T D t R c'
def cs0 : CS := (fun _ => none, fun _ => none, fun _ _ => none, fun _ => false)
def tyN (Y : List Ty) (v : Int32) (o : Option Ty) : Prop := match o with
  | none => v = ie (-1)
  | some s => ∃ k : Nat, v = ie k ∧ Y[k]? = some s
theorem tyN_app {Y : List Ty} {v : Int32} {o : Option Ty} (h : tyN Y v o) (Z : List Ty) : tyN (Y ++ Z) v o := by
  cases o with
  | none => exact h
  | some s => obtain ⟨k, k1, k2⟩ := h; exact ⟨k, k1, gapp k2 Z⟩
theorem tyC_g {g : pm_s} {u : pm_J} {Y : List Ty} (h : tyC g u Y) : ∀ (i : Nat) (s : Ty), Y[i]? = some s → tyG s := by
  intro i
  induction i using Nat.strongRecOn with
  | ind i ih =>
    intro s hs
    have hr := (h.2.2.2.1 i s hs).2.2.2
    cases s with
    | num k => have : i = k ∧ k < 6 := hr; exact this.2
    | var k => exact hr.elim
    | add A B => obtain ⟨l, r, l1, r1, l2, r2, _⟩ := hr; exact ⟨ih l l1 A l2, ih r r1 B r2⟩
    | mul A B => obtain ⟨l, r, l1, r1, l2, r2, _⟩ := hr; exact ⟨ih l l1 A l2, ih r r1 B r2⟩
theorem tyR_g {u : pm_J} {Y : List Ty} (h : tyR u Y) : ∀ (i : Nat) (s : Ty), Y[i]? = some s → tyG s := by
  intro i
  induction i using Nat.strongRecOn with
  | ind i ih =>
    intro s hs
    have hr := (h.2.2.1 i s hs).2.2.2
    cases s with
    | num k => have : i = k ∧ k < 6 := hr; exact this.2
    | var k => exact hr.elim
    | add A B => obtain ⟨l, r, l1, r1, l2, r2, _⟩ := hr; exact ⟨ih l l1 A l2, ih r r1 B r2⟩
    | mul A B => obtain ⟨l, r, l1, r1, l2, r2, _⟩ := hr; exact ⟨ih l l1 A l2, ih r r1 B r2⟩
