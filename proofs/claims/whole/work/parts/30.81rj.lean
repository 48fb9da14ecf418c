set_option maxRecDepth 100000
theorem rC_sh {T : List Tok} {n : Nat} {D : List Df} {t : Tr} {c : CS} {w : Nat → Option Ty} {u : pm_J} {Y : List Ty} {e : Nat} (H : rC T n D t c w u Y) (he : e < t.1) (b : Bool) : rC T n D t (c.1, c.2.1, c.2.2.1, pu_upd c.2.2.2 e b) w (wi u 89 e (ib b)) Y := by
  obtain ⟨a1, a2, a3, a4, a5, a6, a7, a8, a9, a10, a11, a12, a13, a14⟩ := H.2.2.2.2.2.2 e he
  refine rC_at e H he (fun a k' h1 h2 => wi_ne _ _ _ _ _ _ (by omega)) rfl (fun i hi => ⟨rfl, rfl, rfl, upd_ne _ _ _ _ hi⟩) ⟨(wi_ne _ _ _ _ _ _ (by omega)).trans a1, (wi_ne _ _ _ _ _ _ (by omega)).trans a2, (wi_ne _ _ _ _ _ _ (by omega)).trans a3, (wi_ne _ _ _ _ _ _ (by omega)).trans a4, (wi_ne _ _ _ _ _ _ (by omega)).trans a5, (wi_ne _ _ _ _ _ _ (by omega)).trans a6, (wi_ne _ _ _ _ _ _ (by omega)).trans a7, (wi_ne _ _ _ _ _ _ (by omega)).trans a8, (wi_ne _ _ _ _ _ _ (by omega)).trans a9, (wi_ne _ _ _ _ _ _ (by omega)).trans a10, ?_, (wi_ne _ _ _ _ _ _ (by omega)).trans a12, ?_, fun l' hl' => ?_⟩
  · rw [wi_ne _ _ _ _ _ _ (by omega)]; exact a11
  · rw [wi_at]; show _ = ib (pu_upd c.2.2.2 e b e); rw [upd_same]
  · rw [wi_ne _ _ _ _ _ _ (by omega)]; exact a14 l' hl'
theorem r_lty {u : pm_J} {Y : List Ty} (g : pm_s) (w : pm_J) (hR : tyR u Y) {k : Nat} {s : Ty} (hk : Y[k]? = some s) : F_Md_isLetterType (ie (k : Nat)) g w = some (ib (isL s)) := by
  have hkl := (List.getElem?_eq_some_iff.mp hk).1
  have hYb := hR.2.1
  unfold F_Md_isLetterType
  by_cases h6 : 6 ≤ k
  · obtain ⟨f, A, B, rfl⟩ := (ty_6 hR k s hk).mp h6
    have : isL (tyP f A B) = false := by cases f <;> rfl
    rw [if_neg (show ¬ (ie (k : Nat) < 2) from fun hh => by have := (inlt k 2 (by omega) (by omega)).mp hh; omega), if_pos (show (6 : Int32) ≤ ie (k : Nat) from (inle 6 k (by omega) (by omega)).mpr h6), this]; rfl
  · have hsn : s = .num k := by
      have := hR.2.2.2.2.1 k (by omega)
      rw [hk] at this; exact Option.some.inj this
    subst hsn
    by_cases h2 : k < 2
    · have : isL (.num k) = false := by
        show Nat.ble 2 k = false
        cases hb : Nat.ble 2 k with
        | false => rfl
        | true => have := Nat.ble_eq.mp hb; omega
      rw [if_pos (show ie (k : Nat) < 2 from (inlt k 2 (by omega) (by omega)).mpr h2), this]; rfl
    · have : isL (.num k) = true := Nat.ble_eq.mpr (by omega)
      rw [if_neg (show ¬ (ie (k : Nat) < 2) from fun hh => by have := (inlt k 2 (by omega) (by omega)).mp hh; omega), if_neg (show ¬ ((6 : Int32) ≤ ie (k : Nat)) from fun hh => by have := (inle 6 k (by omega) (by omega)).mp hh; omega), this]; rfl
theorem isL_M {s : Ty} (h : isL s = true) : tyM s ≠ 0 := by
  cases s with
  | num k =>
    have hk : 2 ≤ k := Nat.ble_eq.mp h
    show (if k < 2 then 0 else 2 ^ (k - 2)) ≠ 0
    rw [if_neg (by omega)]; have := Nat.two_pow_pos (k - 2); omega
  | var k => cases h
  | add a b => cases h
  | mul a b => cases h
theorem nz_bit {m : Nat} (h : m ≠ 0) : ∃ b, Nat.testBit m b = true := by
  obtain ⟨b, hb⟩ := Nat.exists_testBit_of_ne_zero h
  exact ⟨b, hb⟩
def shB (D : List Df) (t : Tr) (c : CS) (p : Ty) (a : Nat) : Bool := isL p && aLt D t c a
theorem r_sh1 {T : List Tok} {n : Nat} {D : List Df} {t : Tr} {c : CS} {w : Nat → Option Ty} {u : pm_J} {Y : List Ty} {a kp : Nat} {p : Ty} (g : pm_s) (H : rC T n D t c w u Y) (ha : a < t.1) (hkp : Y[kp]? = some p) (hI : kI0 D t t.1 c) (hpar : parI D) (hlet : ltI D) (hk : (t.2.1 a).1 ≤ 16 ∧ (t.2.1 a).1 ≠ 5 ∧ (t.2.1 a).1 ≠ 6 ∧ (t.2.1 a).1 ≠ 4) (hw : (t.2.1 a).1 = 16 → (t.2.1 a).2.2.2.2.1 = ((t.2.1 a).2.2.2.2.2.2.length : Nat) ∧ (t.2.1 a).2.2.2.2.2.2.length ≤ 8) (k39 : Int32 → Int32 → Int32 → pm_J → Option pm_J) (N : Nat) (x1 x3 : Int32) :
    ((F_Md_isLetterType (ie (kp : Nat)) g u).bind fun q12 => if q12 = 0 then K_Md_shorten_110 N g k39 x1 (ie (a : Nat)) x3 (ie (a : Nat)) u else (F_Md_isCall (ie (a : Nat)) g u).bind fun q16 => if q16 = 0 then K_Md_shorten_110 N g k39 x1 (ie (a : Nat)) x3 (ie (a : Nat)) u else if pm_ok (ie (a : Nat)) 2400 = true then if pm_ok (u.1 88 (ie (a : Nat)).toNatClampNeg) 30 = true then (F_Md_isLetterType (u.1 93 ((u.1 88 (ie (a : Nat)).toNatClampNeg).toNatClampNeg)) g u).bind fun q20 => if q20 = 0 then K_Md_shorten_110 N g k39 x1 (ie (a : Nat)) x3 (ie (a : Nat)) u else if pm_ok (ie (a : Nat)) 2400 = true then if pm_ok (ie (a : Nat)) 2400 = true then k39 x1 (u.1 83 (ie (a : Nat)).toNatClampNeg) (x3 + 1) (wi u 89 (ie (a : Nat)).toNatClampNeg 1) else none else none else none else none) = k39 x1 (ie (t.2.2.2.2.2 a)) (x3 + 1) (wi u 89 a (ib (shB D t c p a))) := by
  have h18 := H.2.2.2.1.2
  have h30 := H.2.2.1.2
  have hR := H.2.2.2.2.1
  obtain ⟨k77, _, _, _, _, _, k83, k84, _, k112, _, k88, _⟩ := H.2.2.2.2.2.2 a ha
  have ok := okn a 2400 (by omega) (by omega)
  have nt := ntn a (by omega)
  have k110 : K_Md_shorten_110 N g k39 x1 (ie (a : Nat)) x3 (ie (a : Nat)) u = k39 x1 (ie (t.2.2.2.2.2 a)) (x3 + 1) (wi u 89 a (ib false)) := by
    unfold K_Md_shorten_110
    rw [if_pos ok, if_pos ok, nt, k83]; rfl
  rw [r_lty g u hR hkp, Option.bind_some]
  unfold shB
  cases hp : isL p with
  | false => rw [if_pos (show ib false = 0 from rfl), k110, Bool.false_and]
  | true =>
    rw [if_neg (show ¬ (ib true = 0) by decide), Bool.true_and]
    have rop16 : ∀ k, k ≤ 16 → k ≠ 5 → k ≠ 6 → (rop k = 30 ↔ k = 16) ∧ (rop k = 1 ↔ k = 2 ∨ k = 3 ∨ k = 4) ∧ rop k < 100 := by decide
    obtain ⟨r1, r2, r3⟩ := rop16 _ hk.1 hk.2.1 hk.2.2.1
    unfold F_Md_isCall aLt
    simp only [if_pos ok, nt]
    rw [k77]
    by_cases e16 : (t.2.1 a).1 = 16
    · obtain ⟨w1, w2⟩ := hw e16
      rw [e16, if_neg (show ¬ (ie ((rop 16 : Nat) : Int) = 1) by decide), if_pos (show ie ((rop 16 : Nat) : Int) = 30 from rfl), k88, if_pos rfl]
      cases hdf : c.2.1 a with
      | none =>
        show ((if ie (-1) < 0 then some 0 else _).bind fun q16 => _) = _
        rw [if_pos (show ie (-1) < 0 by decide), Option.bind_some, if_pos rfl, k110]
      | some d =>
        have hdl := hI.1 a d hdf
        obtain ⟨x, hx⟩ : ∃ x, D[d]? = some x := ⟨D[d], List.getElem?_eq_getElem hdl⟩
        obtain ⟨p1, p2, p3⟩ := dPs_some hx
        have hp6 := (hpar d x hx).1
        have hcd := (H.2.2.2.2.2.1 d x hx).1
        have h92 : u.1 92 d = ie (x.2.1.length : Nat) := hcd.2.1.1
        obtain ⟨kt, kt1, kt2⟩ := hcd.2.2.1
        have hsome : ((if ie (oI (some d)) < 0 then some (0 : Int32) else if pm_ok (ie (oI (some d))) 30 = true then if u.1 84 a = u.1 92 (ie (oI (some d))).toNatClampNeg then some 1 else some 0 else none)) = some (ib (Nat.beq (t.2.1 a).2.2.2.2.2.2.length (dPs D d).length)) := by
          show ((if ie (d : Nat) < 0 then some (0 : Int32) else if pm_ok (ie (d : Nat)) 30 = true then if u.1 84 a = u.1 92 (ie (d : Nat)).toNatClampNeg then some 1 else some 0 else none)) = _
          rw [if_neg (show ¬ (ie (d : Nat) < 0) from fun hh => by have := (inlt d 0 (by omega) (by omega)).mp hh; omega), if_pos (okn d 30 (by omega) (by omega)), ntn d (by omega), k84, rvn_c e16, w1, h92, p3]
          by_cases el : (t.2.1 a).2.2.2.2.2.2.length = x.2.1.length
          · rw [if_pos (by rw [el]), el, show Nat.beq x.2.1.length x.2.1.length = true from Nat.beq_eq.mpr rfl]; rfl
          · rw [if_neg (fun hh => el ((ineq _ _ (by omega) (by omega)).mp hh)), nbf el]; rfl
        rw [hsome, Option.bind_some]
        show (if ib (Nat.beq _ _) = 0 then _ else if pm_ok (ie (d : Nat)) 30 = true then _ else none) = k39 x1 _ _ (wi u 89 a (ib (Nat.beq (t.2.1 a).2.2.2.2.2.2.length (dPs D d).length && isL (dTy D d))))
        cases hb : Nat.beq (t.2.1 a).2.2.2.2.2.2.length (dPs D d).length with
        | false => rw [if_pos (show ib false = 0 from rfl), k110, Bool.false_and]
        | true =>
          rw [if_neg (show ¬ (ib true = 0) by decide), if_pos (okn d 30 (by omega) (by omega)), Bool.true_and, p2]
          show ((F_Md_isLetterType (u.1 93 ((ie (d : Nat)).toNatClampNeg)) g u).bind fun q20 => _) = _
          rw [ntn d (by omega), kt1, r_lty g u hR kt2, Option.bind_some]
          cases hl : isL x.2.2.1 with
          | false => rw [if_pos (show ib false = 0 from rfl), k110]
          | true => rw [if_neg (show ¬ (ib true = 0) by decide), k83]; rfl
    · rw [if_neg e16]
      by_cases e1 : rop (t.2.1 a).1 = 1
      · rw [e1, if_pos (show ie ((1 : Nat) : Int) = 1 from rfl), k88, k112]
        cases hdf : c.2.1 a with
        | none =>
          show ((if ie (-1) < 0 then some 0 else _).bind fun q16 => _) = _
          rw [if_pos (show ie (-1) < 0 by decide), Option.bind_some, if_pos rfl, k110]
        | some d =>
          have hdl := hI.1 a d hdf
          obtain ⟨x, hx⟩ : ∃ x, D[d]? = some x := ⟨D[d], List.getElem?_eq_getElem hdl⟩
          obtain ⟨p1, p2, p3⟩ := dPs_some hx
          have hcd := (H.2.2.2.2.2.1 d x hx).1
          obtain ⟨kt, kt1, kt2⟩ := hcd.2.2.1
          have h0 : (dPs D d).length = 0 := by
            rcases hI.2.1 a d hdf with ⟨_, q⟩ | q | ⟨q, _⟩
            · exact q
            · exact absurd q hk.2.2.2
            · exact absurd q e16
          have hnl : isL x.2.2.1 = false := by
            cases hb : isL x.2.2.1 with
            | false => rfl
            | true =>
              obtain ⟨b, hbb⟩ := nz_bit (isL_M hb)
              obtain ⟨pp, q1, _⟩ := pmM_mem _ b (hlet d x hx b hbb)
              have : x.2.1 = [] := List.eq_nil_of_length_eq_zero (by omega)
              rw [this] at q1; cases q1
          show ((if ie (d : Nat) < 0 then some (0 : Int32) else if ib (t.2.2.2.2.1 a) = 0 then some 1 else some 0).bind fun q16 => if q16 = 0 then _ else if pm_ok (ie (d : Nat)) 30 = true then ((F_Md_isLetterType (u.1 93 ((ie (d : Nat)).toNatClampNeg)) g u).bind fun q20 => _) else none) = _
          rw [if_neg (show ¬ (ie (d : Nat) < 0) from fun hh => by have := (inlt d 0 (by omega) (by omega)).mp hh; omega)]
          cases hh : t.2.2.2.2.1 a with
          | true => rw [if_neg (show ¬ (ib true = 0) by decide), Option.bind_some, if_pos rfl, k110]
          | false => rw [if_pos (show ib false = 0 from rfl), Option.bind_some, if_neg (show ¬ ((1 : Int32) = 0) by decide), if_pos (okn d 30 (by omega) (by omega)), ntn d (by omega), kt1, r_lty g u hR kt2, Option.bind_some, hnl, if_pos (show ib false = 0 from rfl), k110]
      · rw [if_neg (show ¬ (ie (rop (t.2.1 a).1 : Nat) = 1) from fun hh => e1 ((ineq _ 1 (by omega) (by omega)).mp hh)), if_neg (show ¬ (ie (rop (t.2.1 a).1 : Nat) = 30) from fun hh => e16 (r1.mp ((ineq _ 30 (by omega) (by omega)).mp hh))), Option.bind_some, if_pos rfl, k110]
def shL (D : List Df) (t : Tr) (c : CS) : List Ty → List Nat → (Nat → Bool) → (Nat → Bool)
  | p :: ps, a :: l, s => shL D t c ps l (pu_upd s a (shB D t c p a))
  | [], _, s => s
  | _ :: _, [], s => s
theorem r_shL {T : List Tok} {n : Nat} {D : List Df} {t : Tr} {w : Nat → Option Ty} {Y : List Ty} {e d : Nat} {x : Df} (g : pm_s) (c : CS) (he : e < t.1) (hx : D[d]? = some x) (hdf : c.2.1 e = some d) (hI : kI0 D t t.1 c) (hpar : parI D) (hlet : ltI D) (j : Nat) : ∀ (i : Nat) (l : List Nat) (s : Nat → Bool) (u : pm_J), i + j = (dPs D d).length → j ≤ l.length → cn t.2.2.2.2.2 l → (∀ a ∈ l, a < t.1 ∧ ((t.2.1 a).1 ≤ 16 ∧ (t.2.1 a).1 ≠ 5 ∧ (t.2.1 a).1 ≠ 6 ∧ (t.2.1 a).1 ≠ 4) ∧ ((t.2.1 a).1 = 16 → (t.2.1 a).2.2.2.2.1 = ((t.2.1 a).2.2.2.2.2.2.length : Nat) ∧ (t.2.1 a).2.2.2.2.2.2.length ≤ 8)) → rC T n D t (c.1, c.2.1, c.2.2.1, s) w u Y → ∃ v, (∀ N k2 fuel, j + 1 ≤ fuel → K_Md_shorten_39 N g k2 fuel (ie (e : Nat)) (hdI l) (ie (i : Nat)) u = k2 (ie ((e + 1 : Nat) : Int)) v) ∧ rC T n D t (c.1, c.2.1, c.2.2.1, shL D t c ((dPs D d).drop i) l s) w v Y ∧ frP u v := by
  have hd := (List.getElem?_eq_some_iff.mp hx).1
  obtain ⟨p1, p2, p3⟩ := dPs_some hx
  have hp6 := (hpar d x hx).1
  induction j with
  | zero =>
    intro i l s u hi hl hcn hat H
    have h18 := H.2.2.2.1.2
    have h30 := H.2.2.1.2
    have k88 : u.1 88 e = ie (d : Nat) := by
      have := (H.2.2.2.2.2.2 e he).2.2.2.2.2.2.2.2.2.2.2.1
      have h2 : u.1 88 e = ie (oI (c.2.1 e)) := this
      rw [hdf] at h2; exact h2
    have h92 : u.1 92 d = ie (x.2.1.length : Nat) := ((H.2.2.2.2.2.1 d x hx).1).2.1.1
    refine ⟨u, fun N k2 fuel hf => ?_, ?_, frP_r _⟩
    · obtain ⟨fuel, rfl⟩ : ∃ f', fuel = f' + 1 := ⟨fuel - 1, by omega⟩
      rw [K_Md_shorten_39, if_pos (okn e 2400 (by omega) (by omega)), ntn e (by omega), k88, if_pos (okn d 30 (by omega) (by omega)), ntn d (by omega), h92, if_pos ((inle _ _ (by omega) (by omega)).mpr (by omega)), iadd1]
    · rw [List.drop_eq_nil_of_le (by omega)]
      have : shL D t c [] l s = s := by unfold shL; rfl
      rw [this]; exact H
  | succ j ih =>
    intro i l s u hi hl hcn hat H
    have h18 := H.2.2.2.1.2
    have h30 := H.2.2.1.2
    cases l with
    | nil => exact absurd hl (by show ¬ (j + 1 ≤ 0); omega)
    | cons a l =>
      have k88 : u.1 88 e = ie (d : Nat) := by
        have := (H.2.2.2.2.2.2 e he).2.2.2.2.2.2.2.2.2.2.2.1
        have h2 : u.1 88 e = ie (oI (c.2.1 e)) := this
        rw [hdf] at h2; exact h2
      have h92 : u.1 92 d = ie (x.2.1.length : Nat) := ((H.2.2.2.2.2.1 d x hx).1).2.1.1
      have hil : i < (dPs D d).length := by omega
      have hpi : (dPs D d)[i]? = some (dPs D d)[i] := List.getElem?_eq_getElem hil
      have hdr : (dPs D d).drop i = (dPs D d)[i] :: (dPs D d).drop (i + 1) := List.drop_eq_getElem_cons hil
      generalize (dPs D d)[i] = p at hpi hdr
      obtain ⟨pp, q1, q2⟩ := dPs_i hx hpi
      obtain ⟨_, kp, kp1, kp2⟩ := ((H.2.2.2.2.2.1 d x hx).1.2.1).2.2 i pp q1
      rw [q2] at kp2
      obtain ⟨ha1, ha2, ha3⟩ := hat a List.mem_cons_self
      obtain ⟨hh1, hh2⟩ := cn_hd hcn
      have e6 : 6 * ie (d : Nat) + ie (i : Nat) = ie ((6 * d + i : Nat) : Int) := by rw [show (6 : Int32) = ie 6 from rfl, ie_mul, ie_add]; rfl
      have hsB : shB D t (c.1, c.2.1, c.2.2.1, s) p a = shB D t c p a := by unfold shB; rw [aLt_cg (c := c) (c' := (c.1, c.2.1, c.2.2.1, s)) rfl]
      have hI' : kI0 D t t.1 (c.1, c.2.1, c.2.2.1, s) := hI
      have H2 : rC T n D t (c.1, c.2.1, c.2.2.1, pu_upd s a (shB D t c p a)) w (wi u 89 a (ib (shB D t c p a))) Y := rC_sh H ha1 (shB D t c p a)
      obtain ⟨v, v1, v2, v3⟩ := ih (i + 1) l _ _ (by omega) (by have : j + 1 ≤ l.length + 1 := hl; omega) hh2 (fun b hb => hat b (List.mem_cons_of_mem _ hb)) H2
      refine ⟨v, fun N k2 fuel hf => ?_, by rw [hdr, shL]; exact v2, frP_t (frP_wi (frP_r u) _ _ _ (by unfold rSTp; omega)) v3⟩
      obtain ⟨fuel, rfl⟩ : ∃ f', fuel = f' + 1 := ⟨fuel - 1, by omega⟩
      have hs1 := r_sh1 g H ha1 kp2 hI' hpar hlet ha2 ha3 (K_Md_shorten_39 N g k2 fuel) N (ie (e : Nat)) (ie (i : Nat))
      rw [hsB, hh1, iadd1] at hs1
      show K_Md_shorten_39 N g k2 (fuel + 1) (ie (e : Nat)) (ie (a : Nat)) (ie (i : Nat)) u = _
      rw [K_Md_shorten_39, if_pos (okn e 2400 (by omega) (by omega)), ntn e (by omega), k88, if_pos (okn d 30 (by omega) (by omega)), ntn d (by omega), h92, if_neg (fun hh => by have := (inle _ _ (by omega) (by omega)).mp hh; omega), if_pos (okn e 2400 (by omega) (by omega)), e6, if_pos (okn _ 180 (by omega) (by omega)), ntn _ (by omega), kp1, iadd1]
      rw [hs1]
      exact v1 N k2 fuel (by omega)
theorem shL_at (D : List Df) (t : Tr) (c : CS) : ∀ (ps : List Ty) (l : List Nat) (s : Nat → Bool) (a : Nat), l.Pairwise (· < ·) → (∀ (i : Nat) (p : Ty), ps[i]? = some p → l[i]? = some a → shL D t c ps l s a = shB D t c p a) ∧ ((∀ (i : Nat) (p : Ty), ps[i]? = some p → l[i]? ≠ some a) → shL D t c ps l s a = s a)
  | [], l, s, a, _ => ⟨fun i p h => (by cases h), fun _ => by unfold shL; rfl⟩
  | p :: ps, [], s, a, _ => ⟨fun i q _ h => (by cases h), fun _ => by unfold shL; rfl⟩
  | p :: ps, b :: l, s, a, hp => by
    obtain ⟨hp1, hp2⟩ := List.pairwise_cons.mp hp
    obtain ⟨i1, i2⟩ := shL_at D t c ps l (pu_upd s b (shB D t c p b)) a hp2
    rw [shL]
    refine ⟨fun i q h1 h2 => ?_, fun h => ?_⟩
    · cases i with
      | zero =>
        have e1 : p = q := Option.some.inj h1
        have e2 : b = a := Option.some.inj h2
        subst e1; subst e2
        rw [i2 (fun i p' _ hh => by have := hp1 b (List.mem_of_getElem? hh); omega), upd_same]
      | succ i => exact i1 i q h1 h2
    · rw [i2 (fun i p' h1 h2 => h (i + 1) p' h1 h2), upd_ne _ _ _ _ (fun hh => h 0 p rfl (by rw [hh]; rfl))]
