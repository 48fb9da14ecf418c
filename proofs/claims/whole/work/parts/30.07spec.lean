set_option maxRecDepth 100000
def tkK (T : List Tok) (i : Nat) : Nat := match T[i]? with
  | some t => t.1
  | none => 0
def tkP (T : List Tok) (n : Nat) (i : Nat) : Nat := match T[i]? with
  | some t => t.2.1
  | none => n
def tkV (T : List Tok) (i : Nat) : Int64 := match T[i]? with
  | some t => t.2.2.2
  | none => 0
abbrev PE (α : Type) : Type := Except (Nat × Nat) α
def pB {α β : Type} (x : PE α) (f : α → PE β) : PE β := match x with
  | .error q => .error q
  | .ok a => f a
abbrev PT : Type := Ty × Nat × Nat
def pBase (r : Nat → Nat → PE PT) (T : List Tok) (a c : Nat) : PE PT :=
  if tkK T a = 5 ∨ tkK T a = 6 ∨ tkK T a = 4 then (if c = 100 then .error (4, a) else .ok (.num (if tkK T a = 5 then 0 else if tkK T a = 6 then 1 else 2 + (tkV T a).toInt.toNat), a + 1, c + 1))
  else if tkK T a = 15 then pB (r (a + 1) c) fun q => if tkK T q.2.1 = 16 then .ok (q.1, q.2.1 + 1, q.2.2) else .error (2, q.2.1)
  else .error (2, a)
def pPart (r : Nat → Nat → PE PT) (T : List Tok) : Nat → Nat → Nat → PE PT
  | 0, a, c => pB (pBase r T a c) fun q => if tkK T q.2.1 = 21 then .error (3, q.2.1) else .ok q
  | j + 1, a, c => pB (pBase r T a c) fun q => if tkK T q.2.1 = 21 then pB (pPart r T j (q.2.1 + 1) q.2.2) (fun p => .ok (.add q.1 p.1, p.2)) else .ok q
def pTy (T : List Tok) : Nat → Nat → Nat → PE PT
  | 0, a, _ => .error (3, a)
  | r + 1, a, c => pB (pPart (pTy T r) T 8 a c) fun q => if tkK T q.2.1 = 25 then pB (pTy T r (q.2.1 + 1) q.2.2) (fun p => .ok (.mul q.1 p.1, p.2)) else .ok q
def badL (T : List Tok) (m a : Nat) : Nat → Option Nat
  | 0 => none
  | k + 1 => match badL T m a k with
    | some x => some x
    | none => if tkK T (a + k) = 4 ∧ Nat.testBit m (tkV T (a + k)).toInt.toNat = false then some (a + k) else none
def oE {α : Type} (x y : Option α) : Option α := match x with
  | some a => some a
  | none => y
abbrev Nd : Type := Nat × Nat × Int × Int × Int × Int64 × List Nat
abbrev Tr : Type := Nat × (Nat → Nd) × (Nat → Int) × (Nat → Int) × (Nat → Bool) × (Nat → Int)
def tAdd (t : Tr) (x : Nd) : Tr := (t.1 + 1, pu_upd t.2.1 t.1 x, pu_upd t.2.2.1 t.1 (-1), pu_upd t.2.2.2.1 t.1 (-1), pu_upd t.2.2.2.2.1 t.1 false, pu_upd t.2.2.2.2.2 t.1 (-1))
def tNx (t : Tr) (i : Nat) (v : Int) : Tr := (t.1, t.2.1, pu_upd t.2.2.1 i v, t.2.2.2)
def tBd (t : Tr) (i : Nat) (v : Int) : Tr := (t.1, t.2.1, t.2.2.1, pu_upd t.2.2.2.1 i v, t.2.2.2.2)
def tHr (t : Tr) (i : Nat) (v : Bool) : Tr := (t.1, t.2.1, t.2.2.1, t.2.2.2.1, pu_upd t.2.2.2.2.1 i v, t.2.2.2.2.2)
def lkN (f : Nat → Int) : List Nat → (Nat → Int)
  | [] => f
  | [_] => f
  | i :: j :: l => lkN (pu_upd f i j) (j :: l)
def tNr (t : Tr) (l : List Nat) : Tr := (t.1, t.2.1, t.2.2.1, t.2.2.2.1, t.2.2.2.2.1, lkN t.2.2.2.2.2 l)
abbrev Lc : Type := Nat × (Nat → Option Ty) × (Nat → Int)
abbrev PS : Type := Nat × Option Nat × Lc × Tr
def sAt (s : PS) (a : Nat) : PS := (a, s.2)
def sNode (s : PS) (x : Nd) : PS := (s.1, s.2.1, s.2.2.1, tAdd s.2.2.2 x)
def sTr (s : PS) (t : Tr) : PS := (s.1, s.2.1, s.2.2.1, t)
def sLc (s : PS) (l : Lc) : PS := (s.1, s.2.1, l, s.2.2.2)
def sWr (s : PS) (w : Option Nat) : PS := (s.1, w, s.2.2)
abbrev Sc : Type := List (Int64 × Nat)
def fnd : Sc → Int64 → Option Nat
  | [], _ => none
  | x :: s, v => if x.1 = v then some x.2 else fnd s v
def bgA (k : Nat) : Bool := k == 2 || k == 3 || k == 1 || k == 15
def pX (T : List Tok) (k : Nat) (s : PS) : PE PS := if tkK T s.1 = k then .ok (sAt s (s.1 + 1)) else .error (2, s.1)
def pDecl (T : List Tok) (s : PS) : PE (Nat × PS) :=
  if tkK T s.1 = 1 then (if s.2.2.1.1 = 24 then .error (4, s.1) else .ok (s.2.2.1.1, sAt (sLc s (s.2.2.1.1 + 1, pu_upd s.2.2.1.2.1 s.2.2.1.1 none, pu_upd s.2.2.1.2.2 s.2.2.1.1 (-1))) (s.1 + 1)))
  else .error (2, s.1)
abbrev PR : Type := Sc → PS → PE (Nat × PS)
def pLeaf (T : List Tok) (k : Nat) (l : Int) (s : PS) : Nat × PS := (s.2.2.2.1, sAt (sNode s (k, s.1, l, -1, -1, tkV T s.1, [])) (s.1 + 1))
def pAtom (r : PR) (T : List Tok) (sc : Sc) (hd : Bool) (s : PS) : PE (Nat × PS) :=
  if tkK T s.1 = 2 then .ok (pLeaf T 0 (-1) s)
  else if tkK T s.1 = 3 then .ok (pLeaf T 1 (-1) s)
  else if tkK T s.1 = 1 then (match fnd sc (tkV T s.1) with
    | some l => .ok (pLeaf T 2 l s)
    | none => .ok (pLeaf T (if hd = true ∧ bgA (tkK T (s.1 + 1)) = true then 4 else 3) (-1) s))
  else if tkK T s.1 = 15 then pB (r sc (sAt s (s.1 + 1))) fun q =>
    if tkK T q.2.1 = 20 then pB (r sc (sAt q.2 (q.2.1 + 1))) fun p => pB (pX T 16 p.2) fun z => .ok (z.2.2.2.1, sNode z (13, q.2.1, q.1, p.1, -1, 0, []))
    else pB (pX T 16 q.2) fun z => .ok (q.1, z)
  else .error (2, s.1)
def pAtoms (r : PR) (T : List Tok) (sc : Sc) (h : Nat) (nm : Bool) : Nat → Nat → List Nat → PS → PE (Nat × PS)
  | j, last, acc, s => if bgA (tkK T s.1) = true then (match j with
      | 0 => .error (3, s.1)
      | j + 1 => pB (pAtom r T sc false s) fun q => pAtoms r T sc h nm j q.1 (acc ++ [q.1]) (sTr q.2 (tNx q.2.2.2.2 last q.1)))
    else .ok (s.2.2.2.1, sTr s (tAdd (tNr (tHr s.2.2.2 h nm) acc) (16, (s.2.2.2.2.1 h).2.1, h, -1, acc.length, 0, acc)))
def pCall (r : PR) (T : List Tok) (sc : Sc) (s : PS) : PE (Nat × PS) :=
  if tkK T s.1 = 13 ∨ tkK T s.1 = 14 then pB (pAtom r T sc false (sAt s (s.1 + 1))) fun q => .ok (q.2.2.2.2.1, sNode q.2 (tkK T s.1 + 1, s.1, q.1, -1, -1, 0, []))
  else pB (pAtom r T sc true s) fun q => if bgA (tkK T q.2.1) = true then pAtoms r T sc q.1 (tkK T s.1 == 1) 8 q.1 [] q.2 else .ok q
def pSums (r : PR) (T : List Tok) (sc : Sc) : Nat → Nat → PS → PE (Nat × PS)
  | j, e, s => if tkK T s.1 = 22 ∨ tkK T s.1 = 23 then (match j with
      | 0 => .error (3, s.1)
      | j + 1 => pB (pCall r T sc (sAt s (s.1 + 1))) fun q => pSums r T sc j q.2.2.2.2.1 (sNode q.2 (tkK T s.1 - 12, s.1, e, q.1, -1, 0, [])))
    else .ok (e, s)
def pSum (r : PR) (T : List Tok) (sc : Sc) (s : PS) : PE (Nat × PS) := pB (pCall r T sc s) fun q => pSums r T sc 8 q.1 q.2
def pCmp (r : PR) (T : List Tok) (sc : Sc) (s : PS) : PE (Nat × PS) := pB (pSum r T sc s) fun q =>
  if tkK T q.2.1 = 24 then pB (pSum r T sc (sAt q.2 (q.2.1 + 1))) fun p => .ok (p.2.2.2.2.1, sNode p.2 (12, q.2.1, q.1, p.1, -1, 0, []))
  else .ok q
def pLet (r : PR) (T : List Tok) (sc : Sc) (s : PS) : PE (Nat × PS) := pB (pDecl T (sAt s (s.1 + 1))) fun d => pB (pX T 18 d.2) fun x => pB (r sc x) fun q =>
  pB (pX T 8 (sLc q.2 (q.2.2.2.1.1, q.2.2.2.1.2.1, pu_upd q.2.2.2.1.2.2 d.1 q.1))) fun y => pB (r ((tkV T (s.1 + 1), d.1) :: sc) y) fun p =>
  .ok (p.2.2.2.2.1, sTr p.2 (tBd (tAdd p.2.2.2.2 (7, s.1, q.1, p.1, d.1, 0, [])) q.1 d.1))
def pIf (r : PR) (T : List Tok) (sc : Sc) (s : PS) : PE (Nat × PS) := pB (r sc (sAt s (s.1 + 1))) fun c => pB (pX T 10 c.2) fun x => pB (r sc x) fun y => pB (pX T 11 y.2) fun z => pB (r sc z) fun w =>
  .ok (w.2.2.2.2.1, sNode w.2 (8, s.1, c.1, y.1, w.1, 0, []))
def pFn (r : PR) (T : List Tok) (d m : Nat) (sc : Sc) (s : PS) : PE (Nat × PS) := pB (pX T 15 (sAt s (s.1 + 1))) fun o => pB (pDecl T o) fun l => pB (pX T 17 l.2) fun x => pB (pTy T 20 x.1 0) fun t =>
  pB (pX T 16 (sAt (sWr (sLc x (x.2.2.1.1, pu_upd x.2.2.1.2.1 l.1 (some t.1), x.2.2.1.2.2)) (oE x.2.1 (badL T m x.1 (t.2.1 - x.1)))) t.2.1)) fun y => pB (pX T 25 y) fun z =>
  pB (r ((tkV T (s.1 + 2), l.1) :: sc) z) fun p => .ok (p.2.2.2.2.1, sNode p.2 (9, s.1, p.1, -1, l.1, je d, []))
def pE (T : List Tok) (d m : Nat) : Nat → PR
  | 0, _, s => .error (3, s.1)
  | r + 1, sc, s => if tkK T s.1 = 7 then pLet (pE T d m r) T sc s else if tkK T s.1 = 9 then pIf (pE T d m r) T sc s else if tkK T s.1 = 12 then pFn (pE T d m r) T d m sc s else pCmp (pE T d m r) T sc s
abbrev PM : Type := List (Nat × Ty)
def pmM : PM → Nat
  | [] => 0
  | x :: l => pmM l ||| tyM x.2
def pPar (T : List Tok) : Nat → Sc → PM → PS → PE (Sc × PM × PS)
  | j, sc, ps, s => if tkK T s.1 = 15 then (match j with
      | 0 => if tkK T (s.1 + 1) = 1 then .error (4, s.1 + 1) else .error (2, s.1 + 1)
      | j + 1 => pB (pDecl T (sAt s (s.1 + 1))) fun l => pB (pX T 17 l.2) fun x => pB (pTy T 20 x.1 0) fun t =>
        pB (pX T 16 (sAt (sWr (sLc x (x.2.2.1.1, pu_upd x.2.2.1.2.1 l.1 (some t.1), x.2.2.1.2.2)) (oE x.2.1 (if (fnd sc (tkV T (s.1 + 1))).isSome = true then some (s.1 + 1) else none))) t.2.1)) fun y =>
        pPar T j ((tkV T (s.1 + 1), l.1) :: sc) ((s.1 + 1, t.1) :: ps) y)
    else .ok (sc, ps, s)
abbrev Df : Type := Nat × PM × Ty × Nat × Nat × Option Nat × Lc
def lc0 : Lc := (0, fun _ => none, fun _ => -1)
def pDef (T : List Tok) (d : Nat) (a : Nat) (t : Tr) : PE (Df × Nat × Tr) :=
  if tkK T a = 1 then (if d = 30 then .error (4, a) else
    pB (pPar T 6 [] [] (a + 1, none, lc0, t)) fun p => pB (pX T 17 p.2.2) fun x => pB (pTy T 20 x.1 0) fun y =>
    pB (pX T 18 (sAt (sWr x (oE x.2.1 (badL T (pmM p.2.1) x.1 (y.2.1 - x.1)))) y.2.1)) fun z => pB (pE T d (pmM p.2.1) 20 p.1 z) fun q => pB (pX T 19 q.2) fun w =>
    .ok ((a, p.2.1, y.1, q.1, t.1, w.2.1, w.2.2.1), w.1, w.2.2.2))
  else .error (2, a)
def tr0 : Tr := (0, fun _ => (0, 0, -1, -1, -1, 0, []), fun _ => -1, fun _ => -1, fun _ => false, fun _ => -1)
def pProg (T : List Tok) : Nat → List Df → Nat → Tr → PE (List Df × Tr)
  | 0, _, a, _ => .error (4, a)
  | f + 1, D, a, t => if tkK T a = 0 then .ok (D, t) else pB (pDef T D.length a t) fun q => pProg T f (D ++ [q.1]) q.2.1 q.2.2
def clash (T : List Tok) : List Df → List Df → Option Nat
  | _, [] => none
  | P, x :: D => if (P.any fun y => tkV T y.1 == tkV T x.1) = true then some x.1 else match x.2.2.2.2.2.1 with
    | some w => some w
    | none => clash T (P ++ [x]) D
