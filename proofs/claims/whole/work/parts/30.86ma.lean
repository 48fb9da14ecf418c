set_option maxRecDepth 100000
abbrev Va : Type := Nat × Int64
abbrev It : Type := Nat × Va × Va × Ty × Int
abbrev Hp : Type := List It × Nat
def hAt (H : List It) (v : Va) : Option It := if 0 ≤ v.2.toInt then H[v.2.toInt.toNat]? else none
def mkI (h : Hp) (tag : Nat) (x : It) : Option Va × Hp := if h.1.length < 4000 then (some (tag, je (h.1.length : Nat)), (h.1 ++ [x], h.2)) else (none, h)
def oB (x : Option (Option Va × Hp)) (f : Va → Hp → Option (Option Va × Hp)) : Option (Option Va × Hp) := match x with
  | none => none
  | some (none, h) => some (none, h)
  | some (some v, h) => f v h
def v0 : Va := (0, 0)
def bxA (bo : Bool) : Ty → Va → Hp → Option (Option Va × Hp)
  | .num k, v, h => if 2 ≤ k then some (some v, h) else if bo = true then some (mkI h 4 (2 + k, v, v0, .num 0, -1)) else match hAt h.1 v with
    | some it => if it.1 = 2 ∨ it.1 = 3 then some (some it.2.1, (h.1, h.2 + 1)) else none
    | none => none
  | .var _, _, _ => none
  | .add a b, v, h => match hAt h.1 v with
    | some it => if it.1 = 0 then oB (bxA bo a it.2.1 h) fun x h1 => oB (bxA bo b it.2.2.1 h1) fun y h2 => some (mkI h2 2 (0, x, y, .num 0, -1)) else none
    | none => none
  | .mul a b, v, h => some (mkI h 3 (if bo = true then 4 else 5, v, v0, .mul a b, -1))
def adA (bo : Bool) (f : Fi) (site : Nat) : Ty → Va → Hp → Option (Option Va × Hp)
  | .num k, v, h => if k < 2 then some (some v, h) else match f (k - 2) with
    | some s => bxA bo s v h
    | none => none
  | .var _, _, _ => none
  | .add a b, v, h => if tyM (.add a b) = 0 then some (some v, h) else match hAt h.1 v with
    | some it => if it.1 = 0 then oB (adA bo f site a it.2.1 h) fun x h1 => oB (adA bo f site b it.2.2.1 h1) fun y h2 => some (mkI h2 2 (0, x, y, .num 0, -1)) else none
    | none => none
  | .mul a b, v, h => if tyM (.mul a b) = 0 then some (some v, h) else some (mkI h 3 (if bo = true then 4 else 5, v, v0, .mul a b, site))
def adp (c : CS) (bo : Bool) (site : Int) (t : Ty) (v : Va) (h : Hp) : Option (Option Va × Hp) := if site = -1 then bxA bo t v h else adA bo (c.2.2.1 site.toNat) site.toNat t v h
abbrev Fr : Type := Int × Nat × Nat × Nat × List Va
abbrev Mo : Type := Nat × Nat × Nat × Va
abbrev Ms : Type := Hp × (Nat → Va) × Nat × List Fr × Va × Nat × Nat × Nat × Mo
def rM : Mo := (2, 0, 0, v0)
def dWd (D : List Df) (d : Nat) : Nat := match D[d]? with
  | some x => x.2.2.2.2.2.2.1
  | none => 0
def dRt (D : List Df) (d : Nat) : Nat := match D[d]? with
  | some x => x.2.2.2.1
  | none => 0
def mCD (D : List Df) (hp : Hp) (L : Nat → Va) (lc : Nat) (n : Int) (b j : Nat) (hd : List Va) (F : List Fr) (v : Va) (st cc dp d : Nat) : Nat × Ms :=
  if lc + dWd D d ≤ 60000 then (0, hp, (fun i => if lc ≤ i then (match hd[i - lc]? with | some x => x | none => L i) else L i), lc + dWd D d, (n, b, 4, j, hd) :: F, v, st, cc, dp, (0, dRt D d, lc, v0))
  else (4, hp, L, lc, (n, b, 4, j, hd) :: F, v, st, cc, dp, rM)
def mGo (hp : Hp) (L : Nat → Va) (lc : Nat) (n : Int) (b j : Nat) (ats : List Nat) (F : List Fr) (v : Va) (st cc dp : Nat) : Nat × Ms := match ats[j]? with
  | none => (0, hp, L, lc, F, v, st, cc, dp, rM)
  | some a => (0, hp, L, lc, (n, b, 2, j + 1, [v]) :: F, v, st, cc, dp, (0, a, b, v0))
def mAd (x : Option (Option Va × Hp)) (s : Ms) (f : Va → Hp → Option (Nat × Ms)) : Option (Nat × Ms) := match x with
  | none => none
  | some (none, h) => some (4, h, s.2)
  | some (some v, h) => f v h
def mPart (hp : Hp) (L : Nat → Va) (lc : Nat) (n : Int) (b q j : Nat) (hd : List Va) (F : List Fr) (v : Va) (st cc dp a : Nat) : Option (Nat × Ms) := some (0, hp, L, lc, (n, b, q, j, hd) :: F, v, st, cc, dp, (0, a, b, v0))
def mFin (hp : Hp) (L : Nat → Va) (lc : Nat) (F : List Fr) (v : Va) (st cc dp : Nat) : Option (Nat × Ms) := some (0, hp, L, lc, F, v, st, cc, dp, rM)
def mCall (D : List Df) (t : Tr) (c : CS) (bx : Bool) (hp : Hp) (L : Nat → Va) (lc : Nat) (n : Int) (e b q j : Nat) (hd : List Va) (F : List Fr) (v : Va) (st cc dp : Nat) : Option (Nat × Ms) :=
  if q = 0 then (match c.2.1 e with
    | none => mPart hp L lc n b 1 0 hd F v st cc dp (t.2.1 e).2.2.1.toNat
    | some _ => (match (t.2.1 e).2.2.2.2.2.2[0]? with
      | some a => mPart hp L lc n b 3 1 hd F v st cc dp a
      | none => none))
  else if q = 1 then some (mGo hp L lc n b j (t.2.1 e).2.2.2.2.2.2 F v st cc dp)
  else if q = 2 then (match hd with
    | [f] => some (0, hp, L, lc, (n, b, 1, j, hd) :: F, v, st, cc, dp, (1, 0, 0, f))
    | _ => none)
  else match c.2.1 e with
    | none => none
    | some d => if q = 3 then (match (t.2.1 e).2.2.2.2.2.2[hd.length]?, (dPs D d)[hd.length]? with
        | some a, some p => if j = hd.length + 1 then mAd (if bx = true ∧ c.2.2.2 a = false then adA true (c.2.2.1 e) e p v hp else some (some v, hp)) (hp, L, lc, (n, b, q, j, hd) :: F, v, st, cc, dp, rM) (fun y h =>
            if hd.length + 1 < (dPs D d).length then (match (t.2.1 e).2.2.2.2.2.2[hd.length + 1]? with
              | some a' => mPart h L lc n b 3 (j + 1) (hd ++ [y]) F y st cc dp a'
              | none => none)
            else some (mCD D h L lc n b j (hd ++ [y]) F y st cc dp d)) else none
        | _, _ => none)
      else if q = 4 then mAd (if bx = true ∧ c.2.2.2 e = false then adA false (c.2.2.1 e) e (dTy D d) v hp else some (some v, hp)) (hp, L, lc, (n, b, q, j, hd) :: F, v, st, cc, dp, rM) (fun y h => some (0, h, L, lc, (n, b, 1, j, hd) :: F, y, st, cc, dp, rM))
      else none
def mBoth (k : Nat) (hp : Hp) (L : Nat → Va) (lc : Nat) (a : Va) (fr : Fr) (F : List Fr) (v : Va) (st cc dp : Nat) : Option (Nat × Ms) :=
  if k = 10 then mFin hp L lc F (0, a.2 + v.2) st cc dp
  else if k = 11 then mFin hp L lc F (0, a.2 - v.2) st cc dp
  else if k = 12 then mFin hp L lc F (0, if a.2 < v.2 then 1 else 0) st cc dp
  else mAd (some (mkI hp 2 (0, a, v, .num 0, -1))) (hp, L, lc, fr :: F, v, st, cc, dp, rM) (fun y h => mFin h L lc F y st cc dp)
def mRes (D : List Df) (t : Tr) (c : CS) (bx : Bool) (hp : Hp) (L : Nat → Va) (lc : Nat) (n : Int) (e b q j : Nat) (hd : List Va) (F : List Fr) (v : Va) (st cc dp : Nat) : Option (Nat × Ms) :=
  if kk D c (t.2.1 e) e = 0 then mFin hp L lc F (0, (t.2.1 e).2.2.2.2.2.1) st cc dp
  else if kk D c (t.2.1 e) e = 1 then mFin hp L lc F (1, (t.2.1 e).2.2.2.2.2.1) st cc dp
  else if kk D c (t.2.1 e) e = 2 then (if b + (t.2.1 e).2.2.1.toNat < lc then mFin hp L lc F (L (b + (t.2.1 e).2.2.1.toNat)) st cc dp else none)
  else if kk D c (t.2.1 e) e = 6 then (match c.2.1 e with
    | none => none
    | some d => if q = 0 then (if hd = [] then some (mCD D hp L lc n b j hd F v st cc dp d) else none) else if q = 4 then some (0, hp, L, lc, (n, b, 1, j, hd) :: F, v, st, cc, dp, rM) else mFin hp L lc F v st cc dp)
  else if kk D c (t.2.1 e) e = 7 then (if q = 0 then mPart hp L lc n b 1 j hd F v st cc dp (t.2.1 e).2.2.1.toNat
    else if q = 1 then (if b + (t.2.1 e).2.2.2.2.1.toNat < lc then mPart hp (pu_upd L (b + (t.2.1 e).2.2.2.2.1.toNat) v) lc n b 2 j hd F v st cc dp (t.2.1 e).2.2.2.1.toNat else none)
    else if q = 2 then mFin hp L lc F v st cc dp else none)
  else if kk D c (t.2.1 e) e = 8 then (if q = 0 then mPart hp L lc n b 1 j hd F v st cc dp (t.2.1 e).2.2.1.toNat
    else if q = 1 then mPart hp L lc n b 2 j hd F v st cc dp (if v.2 = 0 then (t.2.1 e).2.2.2.2.1.toNat else (t.2.1 e).2.2.2.1.toNat)
    else if q = 2 then mFin hp L lc F v st cc dp else none)
  else if kk D c (t.2.1 e) e = 9 then mAd (some (mkI hp 3 (1, (0, je (e : Nat)), (0, je (b : Nat)), .num 0, -1))) (hp, L, lc, (n, b, q, j, hd) :: F, v, st, cc, dp, rM) (fun y h => mFin h L lc F y st cc dp)
  else if kk D c (t.2.1 e) e = 14 ∨ kk D c (t.2.1 e) e = 15 then (if q = 0 then mPart hp L lc n b 1 j hd F v st cc dp (t.2.1 e).2.2.1.toNat
    else if q = 1 then (match hAt hp.1 v with
      | some it => if it.1 = 0 then mFin hp L lc F (if kk D c (t.2.1 e) e = 14 then it.2.1 else it.2.2.1) st cc dp else none
      | none => none) else none)
  else if 10 ≤ kk D c (t.2.1 e) e ∧ kk D c (t.2.1 e) e ≤ 13 then (if q = 0 then mPart hp L lc n b 1 j hd F v st cc dp (t.2.1 e).2.2.1.toNat
    else if q = 1 then (if hd = [] then mPart hp L lc n b 2 j [v] F v st cc dp (t.2.1 e).2.2.2.1.toNat else none)
    else if q = 2 then (match hd with
      | [a] => mBoth (kk D c (t.2.1 e) e) hp L lc a (n, b, q, j, hd) F v st cc dp
      | _ => none) else none)
  else if kk D c (t.2.1 e) e = 16 ∨ kk D c (t.2.1 e) e = 17 then mCall D t c bx hp L lc n e b q j hd F v st cc dp
  else none
def mCov (c : CS) (arg : Bool) (hp : Hp) (f : Va) (v : Va) : Option (It × Option (Option Va × Hp)) := match hAt hp.1 f with
  | none => none
  | some it => if it.1 = 4 ∨ it.1 = 5 then (match it.2.2.2.1 with
    | .mul a r => some (it, adp c (if arg = true then Nat.beq it.1 5 else Nat.beq it.1 4) it.2.2.2.2 (if arg = true then a else r) v hp)
    | _ => none) else none
def mApp (D : List Df) (t : Tr) (hp : Hp) (L : Nat → Va) (lc : Nat) (F : List Fr) (v : Va) (st cc dp : Nat) (f : Va) : Option (Nat × Ms) := match hAt hp.1 f with
  | none => none
  | some it => if it.1 = 1 then
      (if (t.2.1 it.2.1.2.toInt.toNat).1 = 9 ∧ it.2.1.2.toInt.toNat < t.1 ∧ 0 ≤ it.2.1.2.toInt ∧ 0 ≤ it.2.2.1.2.toInt ∧ it.2.2.1.2.toInt.toNat + dWd D (t.2.1 it.2.1.2.toInt.toNat).2.2.2.2.2.1.toInt.toNat ≤ lc ∧ (t.2.1 it.2.1.2.toInt.toNat).2.2.2.2.1.toNat < dWd D (t.2.1 it.2.1.2.toInt.toNat).2.2.2.2.2.1.toInt.toNat then
        (if lc + dWd D (t.2.1 it.2.1.2.toInt.toNat).2.2.2.2.2.1.toInt.toNat ≤ 60000 then
          some (0, hp, (fun i => if lc ≤ i ∧ i < lc + dWd D (t.2.1 it.2.1.2.toInt.toNat).2.2.2.2.2.1.toInt.toNat then (if i = lc + (t.2.1 it.2.1.2.toInt.toNat).2.2.2.2.1.toNat then v else L (it.2.2.1.2.toInt.toNat + (i - lc))) else L i), lc + dWd D (t.2.1 it.2.1.2.toInt.toNat).2.2.2.2.2.1.toInt.toNat, F, v, st, cc, dp, (0, (t.2.1 it.2.1.2.toInt.toNat).2.2.1.toNat, lc, v0))
        else some (4, hp, L, lc, F, v, st, cc, dp, rM)) else none)
    else if it.1 = 4 ∨ it.1 = 5 then
      (if F.length < 150 then some (0, hp, L, lc, (-1, 0, 0, 0, [f]) :: F, v, st, cc + 1, max dp (F.length + 1), (3, 0, 0, f)) else some (3, hp, L, lc, F, v, st, cc, dp, rM))
    else none
def ms (D : List Df) (t : Tr) (c : CS) (bx : Bool) (lim : Nat) (s : Ms) : Option (Nat × Ms) := match s with
  | (hp, L, lc, F, v, st, cc, dp, m) =>
    if m.1 = 0 then (if F.length < 150 then (if st < lim then some (0, hp, L, lc, ((m.2.1 : Nat), m.2.2.1, 0, 0, []) :: F, v, st + 1, cc, max dp (F.length + 1), rM) else some (2, hp, L, lc, F, v, st, cc, dp, m)) else some (3, hp, L, lc, F, v, st, cc, dp, m))
    else if m.1 = 1 then mApp D t hp L lc F v st cc dp m.2.2.2
    else if m.1 = 2 then (match F with
      | [] => some (1, s)
      | fr :: F' => if fr.1 = -1 then (match fr.2.2.2.2 with
          | [f] => (match mCov c false hp f v with
            | none => none
            | some q => mAd q.2 (hp, L, lc, F, v, st, cc, dp, rM) (fun y h => mFin h L lc F' y st cc dp))
          | _ => none)
        else if fr.1 < 0 ∨ t.1 ≤ fr.1.toNat then none
        else mRes D t c bx hp L lc fr.1 fr.1.toNat fr.2.1 fr.2.2.1 fr.2.2.2.1 fr.2.2.2.2 F' v st cc dp)
    else match F with
      | [] => none
      | fr :: F' => if fr.1 = -1 ∧ fr.2.2.2.2 = [m.2.2.2] then (match mCov c true hp m.2.2.2 v with
          | none => none
          | some q => mAd q.2 (hp, L, lc, F, v, st, cc, dp, rM) (fun y h => some (0, h, L, lc, (fr.1, fr.2.1, 1, fr.2.2.2.1, fr.2.2.2.2) :: F', y, st, cc, dp, (1, 0, 0, q.1.2.1)))) else none
