set_option maxRecDepth 100000
abbrev Va : Type := Nat × Int64
abbrev It : Type := Nat × Va × Va × Ty × Int
abbrev Hp : Type := List It × Nat
abbrev Lo : Type := Nat → Option Va
def v0 : Va := (0, 0)
def hAt (H : List It) (v : Va) : Option It := if 0 ≤ v.2.toInt then H[v.2.toInt.toNat]? else none
def mkI (h : Hp) (tag : Nat) (x : It) : Option Va × Hp := if h.1.length < 4000 then (some (tag, je (h.1.length : Nat)), (h.1 ++ [x], h.2)) else (none, h)
def oB (x : Option (Option Va × Hp)) (f : Va → Hp → Option (Option Va × Hp)) : Option (Option Va × Hp) := match x with
  | none => none
  | some (none, h) => some (none, h)
  | some (some v, h) => f v h
def bxA (bo : Bool) : Ty → Va → Hp → Option (Option Va × Hp)
  | .num k, v, h => if 2 ≤ k then some (some v, h) else if bo = true then some (mkI h 4 (2 + k, v, v0, .num 0, -1)) else match hAt h.1 v with
    | some it => if it.1 = 2 ∨ it.1 = 3 then some (some it.2.1, (h.1, h.2 + 1)) else none
    | none => none
  | .var _, _, _ => none
  | .add a b, v, h => match hAt h.1 v with
    | some it => if it.1 = 0 then oB (bxA bo a it.2.1 h) fun x h1 => oB (bxA bo b it.2.2.1 h1) fun y h2 => some (mkI h2 2 (0, x, y, .num 0, -1)) else none
    | none => none
  | .mul a b, v, h => some (mkI h 3 (if bo = true then 4 else 5, v, v0, .mul a b, -1))
def adA (bo : Bool) (f : Fi) (site : Nat) : Ty → Va → Hp → Option (Option Va × Hp)
  | .num k, v, h => if k < 2 then some (some v, h) else match f (k - 2) with
    | some s => bxA bo s v h
    | none => none
  | .var _, _, _ => none
  | .add a b, v, h => if tyM (.add a b) = 0 then some (some v, h) else match hAt h.1 v with
    | some it => if it.1 = 0 then oB (adA bo f site a it.2.1 h) fun x h1 => oB (adA bo f site b it.2.2.1 h1) fun y h2 => some (mkI h2 2 (0, x, y, .num 0, -1)) else none
    | none => none
  | .mul a b, v, h => if tyM (.mul a b) = 0 then some (some v, h) else some (mkI h 3 (if bo = true then 4 else 5, v, v0, .mul a b, site))
def adp (c : CS) (bo : Bool) (site : Int) (s : Ty) (v : Va) (h : Hp) : Option (Option Va × Hp) := if site = -1 then bxA bo s v h else adA bo (c.2.2.1 site.toNat) site.toNat s v h
def aOK (t : Tr) (c : CS) (site : Int) (s : Ty) : Prop := tyG s ∧ ((site = -1 ∧ tyL s ≤ 200) ∨ ∃ e : Nat, site = (e : Int) ∧ e < t.1 ∧ tyL s ≤ 100 ∧ (∀ k r, c.2.2.1 e k = some r → tyL r ≤ 200 ∧ tyG r) ∧ ∃ r, sbt (c.2.2.1 e) s = some r)
abbrev Fr : Type := Option Nat × Nat × Nat × Nat × List Va
abbrev Mo : Type := Nat × Nat × Nat × Va
abbrev Ms : Type := Hp × Lo × Nat × List Fr × Va × Nat × Nat × Nat × Mo
def rM : Mo := (2, 0, 0, v0)
def dWd (D : List Df) (d : Nat) : Nat := match D[d]? with
  | some x => x.2.2.2.2.2.2.1
  | none => 0
def dRt (D : List Df) (d : Nat) : Nat := match D[d]? with
  | some x => x.2.2.2.1
  | none => 0
def lDef (L : Lo) (lc w : Nat) (hd : List Va) : Lo := fun i => if lc ≤ i ∧ i < lc + w then hd[i - lc]? else L i
def lFn (L : Lo) (lc w b l : Nat) (v : Va) : Lo := fun i => if lc ≤ i ∧ i < lc + w then (if i = lc + l then some v else L (b + (i - lc))) else L i
def oDf (D : List Df) (hp : Hp) (L : Lo) (lc e b j : Nat) (hd : List Va) (F : List Fr) (v : Va) (st cc dp d r : Nat) (s' : Ms) : Prop :=
  d < D.length ∧ ((lc + dWd D d ≤ 60000 ∧ r = 0 ∧ s' = (hp, lDef L lc (dWd D d) hd, lc + dWd D d, (some e, b, 4, j, hd) :: F, v, st, cc, dp, (0, dRt D d, lc, v0))) ∨
  (60000 < lc + dWd D d ∧ r = 4 ∧ s' = (hp, L, lc, (some e, b, 4, j, hd) :: F, v, st, cc, dp, rM)))
def oFin (hp : Hp) (L : Lo) (lc : Nat) (F : List Fr) (v : Va) (st cc dp r : Nat) (s' : Ms) : Prop := r = 0 ∧ s' = (hp, L, lc, F, v, st, cc, dp, rM)
def oPt (t : Tr) (hp : Hp) (L : Lo) (lc e b q j : Nat) (hd : List Va) (F : List Fr) (v : Va) (st cc dp : Nat) (x : Int) (r : Nat) (s' : Ms) : Prop := ∃ a : Nat, x = (a : Int) ∧ a < t.1 ∧ r = 0 ∧ s' = (hp, L, lc, (some e, b, q, j, hd) :: F, v, st, cc, dp, (0, a, b, v0))
def oMk (hp : Hp) (L : Lo) (lc : Nat) (F F' : List Fr) (tag : Nat) (it : It) (v : Va) (st cc dp r : Nat) (s' : Ms) : Prop :=
  (hp.1.length < 4000 ∧ r = 0 ∧ s' = ((hp.1 ++ [it], hp.2), L, lc, F, (tag, je (hp.1.length : Nat)), st, cc, dp, rM)) ∨
  (4000 ≤ hp.1.length ∧ r = 4 ∧ s' = (hp, L, lc, F', v, st, cc, dp, rM))
def adX (bx : Bool) (sh : Bool) (bo : Bool) (f : Fi) (e : Nat) (p : Ty) (v : Va) (h : Hp) : Option (Option Va × Hp) := if bx = true ∧ sh = false then adA bo f e p v h else some (some v, h)
def oCall (D : List Df) (t : Tr) (c : CS) (bx : Bool) (hp : Hp) (L : Lo) (lc e b q j : Nat) (hd : List Va) (F : List Fr) (v : Va) (st cc dp r : Nat) (s' : Ms) : Prop :=
  (q = 0 ∧ hd = [] ∧ j = 0 ∧ c.2.1 e = none ∧ oPt t hp L lc e b 1 0 [] F v st cc dp (t.2.1 e).2.2.1 r s') ∨
  (q = 0 ∧ hd = [] ∧ j = 0 ∧ (∃ d, c.2.1 e = some d ∧ d < D.length ∧ 0 < (dPs D d).length) ∧ ∃ a : Nat, (t.2.1 e).2.2.2.2.2.2[0]? = some a ∧ oPt t hp L lc e b 3 1 [] F v st cc dp a r s') ∨
  (q = 1 ∧ (t.2.1 e).2.2.2.2.2.2.length = j ∧ oFin hp L lc F v st cc dp r s') ∨
  (q = 1 ∧ ∃ a : Nat, (t.2.1 e).2.2.2.2.2.2[j]? = some a ∧ oPt t hp L lc e b 2 (j + 1) [v] F v st cc dp a r s') ∨
  (q = 2 ∧ 1 ≤ j ∧ j ≤ (t.2.1 e).2.2.2.2.2.2.length ∧ ∃ f, hd = [f] ∧ r = 0 ∧ s' = (hp, L, lc, (some e, b, 1, j, hd) :: F, v, st, cc, dp, (1, 0, 0, f))) ∨
  (q = 3 ∧ j = hd.length + 1 ∧ ∃ (d a : Nat) (p : Ty) (y : Option Va) (h : Hp), c.2.1 e = some d ∧ d < D.length ∧ (t.2.1 e).2.2.2.2.2.2[hd.length]? = some a ∧ a < t.1 ∧ (dPs D d)[hd.length]? = some p ∧ aOK t c e p ∧ adX bx (c.2.2.2 a) true (c.2.2.1 e) e p v hp = some (y, h) ∧
    ((y = none ∧ r = 4 ∧ s' = (h, L, lc, (some e, b, q, j, hd) :: F, v, st, cc, dp, rM)) ∨
    (∃ x, y = some x ∧ hd.length + 1 < (dPs D d).length ∧ ∃ a' : Nat, (t.2.1 e).2.2.2.2.2.2[hd.length + 1]? = some a' ∧ oPt t h L lc e b 3 (j + 1) (hd ++ [x]) F x st cc dp a' r s') ∨
    (∃ x, y = some x ∧ hd.length + 1 = (dPs D d).length ∧ oDf D h L lc e b j (hd ++ [x]) F x st cc dp d r s'))) ∨
  (q = 4 ∧ ∃ (d : Nat) (y : Option Va) (h : Hp), c.2.1 e = some d ∧ d < D.length ∧ j = (dPs D d).length ∧ j ≤ (t.2.1 e).2.2.2.2.2.2.length ∧ aOK t c e (dTy D d) ∧ adX bx (c.2.2.2 e) false (c.2.2.1 e) e (dTy D d) v hp = some (y, h) ∧
    ((y = none ∧ r = 4 ∧ s' = (h, L, lc, (some e, b, q, j, hd) :: F, v, st, cc, dp, rM)) ∨
    (∃ x, y = some x ∧ r = 0 ∧ s' = (h, L, lc, (some e, b, 1, j, hd) :: F, x, st, cc, dp, rM))))
def oNd (D : List Df) (t : Tr) (c : CS) (bx : Bool) (hp : Hp) (L : Lo) (lc e b q j : Nat) (hd : List Va) (F : List Fr) (v : Va) (st cc dp r : Nat) (s' : Ms) : Prop :=
  ((t.2.1 e).1 ≤ 1 ∧ kk D c (t.2.1 e) e = (t.2.1 e).1 ∧ oFin hp L lc F ((t.2.1 e).1, (t.2.1 e).2.2.2.2.2.1) st cc dp r s') ∨
  ((t.2.1 e).1 = 2 ∧ kk D c (t.2.1 e) e = 2 ∧ ∃ (l : Nat) (y : Va), (t.2.1 e).2.2.1 = (l : Int) ∧ L (b + l) = some y ∧ b + l < lc ∧ oFin hp L lc F y st cc dp r s') ∨
  ((t.2.1 e).1 = 9 ∧ kk D c (t.2.1 e) e = 9 ∧ oMk hp L lc F ((some e, b, q, j, hd) :: F) 3 (1, (0, je (e : Nat)), (0, je (b : Nat)), .num 0, -1) v st cc dp r s') ∨
  ((t.2.1 e).1 = 7 ∧ kk D c (t.2.1 e) e = 7 ∧ ((q = 0 ∧ oPt t hp L lc e b 1 j hd F v st cc dp (t.2.1 e).2.2.1 r s') ∨
    (q = 1 ∧ ∃ l : Nat, (t.2.1 e).2.2.2.2.1 = (l : Int) ∧ b + l < lc ∧ oPt t hp (pu_upd L (b + l) (some v)) lc e b 2 j hd F v st cc dp (t.2.1 e).2.2.2.1 r s') ∨
    (q = 2 ∧ oFin hp L lc F v st cc dp r s'))) ∨
  ((t.2.1 e).1 = 8 ∧ kk D c (t.2.1 e) e = 8 ∧ ((q = 0 ∧ oPt t hp L lc e b 1 j hd F v st cc dp (t.2.1 e).2.2.1 r s') ∨
    (q = 1 ∧ oPt t hp L lc e b 2 j hd F v st cc dp (if v.2 = 0 then (t.2.1 e).2.2.2.2.1 else (t.2.1 e).2.2.2.1) r s') ∨
    (q = 2 ∧ oFin hp L lc F v st cc dp r s'))) ∨
  (((t.2.1 e).1 = 14 ∨ (t.2.1 e).1 = 15) ∧ kk D c (t.2.1 e) e = (t.2.1 e).1 ∧ ((q = 0 ∧ oPt t hp L lc e b 1 j hd F v st cc dp (t.2.1 e).2.2.1 r s') ∨
    (q = 1 ∧ ∃ (i : Nat) (it : It), v.2 = je (i : Nat) ∧ hp.1[i]? = some it ∧ it.1 = 0 ∧ oFin hp L lc F (if (t.2.1 e).1 = 14 then it.2.1 else it.2.2.1) st cc dp r s'))) ∨
  ((10 ≤ (t.2.1 e).1 ∧ (t.2.1 e).1 ≤ 13) ∧ kk D c (t.2.1 e) e = (t.2.1 e).1 ∧ ((q = 0 ∧ oPt t hp L lc e b 1 j hd F v st cc dp (t.2.1 e).2.2.1 r s') ∨
    (q = 1 ∧ hd = [] ∧ oPt t hp L lc e b 2 j [v] F v st cc dp (t.2.1 e).2.2.2.1 r s') ∨
    (q = 2 ∧ ∃ a, hd = [a] ∧ (((t.2.1 e).1 = 10 ∧ oFin hp L lc F (0, a.2 + v.2) st cc dp r s') ∨ ((t.2.1 e).1 = 11 ∧ oFin hp L lc F (0, a.2 - v.2) st cc dp r s') ∨
      ((t.2.1 e).1 = 12 ∧ oFin hp L lc F (0, if a.2 < v.2 then 1 else 0) st cc dp r s') ∨ ((t.2.1 e).1 = 13 ∧ oMk hp L lc F ((some e, b, q, j, hd) :: F) 2 (0, a, v, .num 0, -1) v st cc dp r s'))))) ∨
  (((t.2.1 e).1 = 3 ∨ (t.2.1 e).1 = 4) ∧ kk D c (t.2.1 e) e = 6 ∧ (t.2.1 e).2.2.1 = -1 ∧ ∃ d, c.2.1 e = some d ∧ d < D.length ∧ (dPs D d).length = 0 ∧ tyM (dTy D d) = 0 ∧ ((q = 0 ∧ hd = [] ∧ oDf D hp L lc e b j [] F v st cc dp d r s') ∨
    (q = 4 ∧ r = 0 ∧ s' = (hp, L, lc, (some e, b, 1, j, hd) :: F, v, st, cc, dp, rM)) ∨ (q = 1 ∧ oFin hp L lc F v st cc dp r s'))) ∨
  ((t.2.1 e).1 = 16 ∧ kk D c (t.2.1 e) e = (if c.2.1 e = none then 16 else 17) ∧ oCall D t c bx hp L lc e b q j hd F v st cc dp r s')
def oCov (t : Tr) (c : CS) (arg : Bool) (hp : Hp) (f : Va) (v : Va) (it : It) (x : Option Va × Hp) : Prop := ∃ (i : Nat) (A B : Ty), f.2 = je (i : Nat) ∧ hp.1[i]? = some it ∧ (it.1 = 4 ∨ it.1 = 5) ∧ it.2.2.2.1 = .mul A B ∧ aOK t c it.2.2.2.2 (.mul A B) ∧ adp c (if arg = true then Nat.beq it.1 5 else Nat.beq it.1 4) it.2.2.2.2 (if arg = true then A else B) v hp = some x
def oApp (D : List Df) (t : Tr) (hp : Hp) (L : Lo) (lc : Nat) (F : List Fr) (v : Va) (st cc dp : Nat) (f : Va) (r : Nat) (s' : Ms) : Prop := ∃ (i : Nat) (it : It), f.2 = je (i : Nat) ∧ hp.1[i]? = some it ∧
  ((it.1 = 1 ∧ ∃ (e b d l a : Nat), it.2.1.2 = je (e : Nat) ∧ it.2.2.1.2 = je (b : Nat) ∧ e < t.1 ∧ (t.2.1 e).1 = 9 ∧ (t.2.1 e).2.2.2.2.2.1 = je (d : Nat) ∧ d < D.length ∧ dF D d ≤ e ∧ e ≤ dRt D d ∧ (t.2.1 e).2.2.2.2.1 = (l : Int) ∧ l < dWd D d ∧ b + dWd D d ≤ lc ∧ (t.2.1 e).2.2.1 = (a : Int) ∧ a < t.1 ∧ (∃ s, hp.1[i]? = some s) ∧
    ((lc + dWd D d ≤ 60000 ∧ r = 0 ∧ s' = (hp, lFn L lc (dWd D d) b l v, lc + dWd D d, F, v, st, cc, dp, (0, a, lc, v0))) ∨ (60000 < lc + dWd D d ∧ r = 4 ∧ s' = (hp, L, lc, F, v, st, cc, dp, rM)))) ∨
  ((it.1 = 4 ∨ it.1 = 5) ∧ ((F.length < 150 ∧ r = 0 ∧ s' = (hp, L, lc, (none, 0, 0, 0, [f]) :: F, v, st, cc + 1, max dp (F.length + 1), (3, 0, 0, f))) ∨ (150 ≤ F.length ∧ r = 3 ∧ s' = (hp, L, lc, F, v, st, cc, dp, rM)))))
def stp (D : List Df) (t : Tr) (c : CS) (bx : Bool) (lim : Nat) (hp : Hp) (L : Lo) (lc : Nat) (F : List Fr) (v : Va) (st cc dp : Nat) (m : Mo) (r : Nat) (s' : Ms) : Prop :=
  (∃ a b, m = (0, a, b, v0) ∧ a < t.1 ∧ ((150 ≤ F.length ∧ r = 3 ∧ s' = (hp, L, lc, F, v, st, cc, dp, m)) ∨ (F.length < 150 ∧ lim ≤ st ∧ r = 2 ∧ s' = (hp, L, lc, F, v, st, cc, dp, m)) ∨
    (F.length < 150 ∧ st < lim ∧ r = 0 ∧ s' = (hp, L, lc, (some a, b, 0, 0, []) :: F, v, st + 1, cc, max dp (F.length + 1), rM)))) ∨
  (∃ f, m = (1, 0, 0, f) ∧ oApp D t hp L lc F v st cc dp f r s') ∨
  (∃ f F' it x, m = (3, 0, 0, f) ∧ F = (none, 0, 0, 0, [f]) :: F' ∧ oCov t c true hp f v it x ∧ ((∃ y, x.1 = some y ∧ r = 0 ∧ s' = (x.2, L, lc, (none, 0, 1, 0, [f]) :: F', y, st, cc, dp, (1, 0, 0, it.2.1))) ∨ (x.1 = none ∧ r = 4 ∧ s' = (x.2, L, lc, F, v, st, cc, dp, rM)))) ∨
  (m = rM ∧ F = [] ∧ r = 1 ∧ s' = (hp, L, lc, F, v, st, cc, dp, m)) ∨
  (∃ f F' it x, m = rM ∧ F = (none, 0, 1, 0, [f]) :: F' ∧ oCov t c false hp f v it x ∧ ((∃ y, x.1 = some y ∧ r = 0 ∧ s' = (x.2, L, lc, F', y, st, cc, dp, rM)) ∨ (x.1 = none ∧ r = 4 ∧ s' = (x.2, L, lc, F, v, st, cc, dp, rM)))) ∨
  (∃ e b q j hd F', m = rM ∧ F = (some e, b, q, j, hd) :: F' ∧ e < t.1 ∧ oNd D t c bx hp L lc e b q j hd F' v st cc dp r s')
