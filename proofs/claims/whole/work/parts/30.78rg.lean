set_option maxRecDepth 100000
def ck1 (T : List Tok) (D : List Df) (t : Tr) (lc : Lc) (c : CS) (e : Nat) : PE CS :=
  if (t.2.1 e).1 = 3 ∨ (t.2.1 e).1 = 4 then
    (if fDef T (t.2.1 e).2.2.2.2.2.1 D 0 = -1 then .error (6, (t.2.1 e).2.1)
    else if (dPs D (fDef T (t.2.1 e).2.2.2.2.2.1 D 0).toNat).length = 0 then .ok (sTy (sDf c e (fDef T (t.2.1 e).2.2.2.2.2.1 D 0).toNat) e (dTy D (fDef T (t.2.1 e).2.2.2.2.2.1 D 0).toNat))
    else if (t.2.1 e).1 = 4 then .ok (sDf c e (fDef T (t.2.1 e).2.2.2.2.2.1 D 0).toNat)
    else .error (7, (t.2.1 e).2.1))
  else match (if (t.2.1 e).1 = 16 then ckC D t c e (t.2.1 e) else (nty lc c.1 (t.2.1 e)).map fun s => (s, c)) with
    | none => .error (7, (t.2.1 e).2.1)
    | some p => .ok (sTy p.2 e p.1)
def r1O (T : List Tok) (n : Nat) (D : List Df) (t : Tr) (w : Nat → Option Ty) (m : Nat) (x : PE CS) (q : Int32) (v : pm_J) (Y : List Ty) : Prop := match x with
  | .error f => q = 0 ∧ rEr T n f v
  | .ok c => q = 1 ∧ ∃ Z : List Ty, rC T n D t (cz c) w v (Y ++ Z) ∧ Z.length ≤ m
theorem r_nameT {T : List Tok} {n : Nat} {D : List Df} {t : Tr} {c : CS} {u : pm_J} {Y : List Ty} {e f0 di : Nat} {x : Df} (g : pm_s) (H : rC T n D t (cz c) c.1 u Y) (h69 : u.1 64 69 = ie (di : Nat)) (he : e < t.1) (hx : D[di]? = some x) (hW : nW T di f0 f0 (x.2.2.2.2.2.2, t) e) (hl24 : x.2.2.2.2.2.2.1 ≤ 24) (h4 : (t.2.1 e).1 = 4 → t.2.2.2.2.1 e = true) (hD : ∀ (i : Nat) (x : Df), D[i]? = some x → tkK T x.1 = 1) (hI : kI D t f0 e c) (hpar : parI D) (hk : (t.2.1 e).1 = 2 ∨ (t.2.1 e).1 = 3 ∨ (t.2.1 e).1 = 4) :
    ∃ (v : pm_J) (q : Int32), (∀ N, 200000 ≤ N → F_Md_typeName N (ie (e : Nat)) g u = some (q, v)) ∧ frP u v ∧ r1O T n D t c.1 1 (ck1 T D t x.2.2.2.2.2.2 c e) q v Y := by
  have h18 := H.2.2.2.1.2
  have h30 := H.2.2.1.2
  have hdi := (List.getElem?_eq_some_iff.mp hx).1
  unfold nW at hW
  dsimp only at hW
  obtain ⟨ht, _, w3, w4, w5, _⟩ := hW
  obtain ⟨_, k78, _, _, _, k82, _, _, _, k112, _⟩ := H.2.2.2.2.2.2 e he
  have ok := okn e 2400 (by omega) (by omega)
  have nt := ntn e (by omega)
  unfold ck1
  by_cases k2 : (t.2.1 e).1 = 2
  · obtain ⟨l, l1, l2⟩ := w3 k2
    have hvl : rvl (t.2.1 e) = (l : Nat) := by unfold rvl; rw [if_pos k2]; exact l1
    rw [hvl] at k82
    have hl24' : l < 24 := by
      have : l < x.2.2.2.2.2.2.1 := l2.1
      omega
    have hlT : ∃ s, lTy x.2.2.2.2.2.2 c.1 l = some s ∧ tyN Y (u.1 100 (24 * di + l)) (some s) := by
      have hcl := (H.2.2.2.2.2.1 di x hx).2 l l2.1
      unfold lTy
      rcases l2.2 with ⟨q1, s, q2⟩ | ⟨b, q1, q2, q3, q4⟩
      · have q1' : x.2.2.2.2.2.2.2.2 l = -1 := q1
        rw [q1', if_pos (by omega)]
        exact ⟨s, q2, hcl.1 q1' s q2⟩
      · have q1' : x.2.2.2.2.2.2.2.2 l = (b : Nat) := q1
        obtain ⟨s, hs⟩ := hI.2.2.1 b q2 q3 q4
        rw [q1', if_neg (by omega), show ((b : Nat) : Int).toNat = b by omega]
        exact ⟨s, hs, hcl.2 b q1' s hs⟩
    obtain ⟨s, s1, s2⟩ := hlT
    have hnt : nty x.2.2.2.2.2.2 c.1 (t.2.1 e) = some s := by
      unfold nty
      rw [if_neg (show ¬ ((t.2.1 e).1 = 0) by omega), if_neg (show ¬ ((t.2.1 e).1 = 1) by omega), if_pos k2, l1, show ((l : Nat) : Int).toNat = l by omega, s1]
    have e24 : 24 * ie (di : Nat) + ie (l : Nat) = ie ((24 * di + l : Nat) : Int) := by rw [show (24 : Int32) = ie 24 from rfl, ie_mul, ie_add]; rfl
    refine ⟨wi u 87 e (u.1 100 (24 * di + l)), 1, fun N _ => ?_, frP_wi (frP_r u) _ _ _ (by unfold rSTp; omega), ?_⟩
    · unfold F_Md_typeName
      rw [if_pos ok, nt, k82, if_neg (show ¬ (ie (l : Nat) < 0) from fun hh => by have := (inlt l 0 (by omega) (by omega)).mp hh; omega), if_pos ok, h69, e24, if_pos (okn _ 720 (by omega) (by omega)), if_pos ok, ntn _ (by omega)]
    · rw [if_neg (show ¬ ((t.2.1 e).1 = 3 ∨ (t.2.1 e).1 = 4) by omega), if_neg (show ¬ ((t.2.1 e).1 = 16) by omega), hnt]
      exact ⟨rfl, [], by rw [List.append_nil]; exact rC_ty H he _ (some s) s2, Nat.zero_le _⟩
  · have h34 : (t.2.1 e).1 = 3 ∨ (t.2.1 e).1 = 4 := by rcases hk with hh | hh | hh; exact absurd hh k2; exact Or.inl hh; exact Or.inr hh
    clear w3
    obtain ⟨tk1, tv⟩ := w4 h34
    have hvl : rvl (t.2.1 e) = -1 := by unfold rvl; rw [if_neg k2, if_neg (by omega)]
    rw [hvl] at k82
    rw [if_pos h34, tv]
    have hdn := r_defNamed g H hD (t.2.1 e).2.1 tk1
    have st : ∀ N, 200000 ≤ N → F_Md_typeName N (ie (e : Nat)) g u = if 0 ≤ ie (fDef T (tkV T (t.2.1 e).2.1) D 0) then if pm_ok (ie (fDef T (tkV T (t.2.1 e).2.1) D 0)) 30 = true then if (u.1 92 (ie (fDef T (tkV T (t.2.1 e).2.1) D 0)).toNatClampNeg) ≤ 0 then some (1, (wi (wi u 88 e (ie (fDef T (tkV T (t.2.1 e).2.1) D 0))) 87 e (u.1 93 (ie (fDef T (tkV T (t.2.1 e).2.1) D 0)).toNatClampNeg))) else if ib (t.2.2.2.2.1 e) = 0 then (F_Md_untyped (ie (e : Nat)) g (wi u 88 e (ie (fDef T (tkV T (t.2.1 e).2.1) D 0)))).bind fun q13 => if q13.1 = 0 then some (0, q13.2) else some (1, q13.2) else some (1, (wi u 88 e (ie (fDef T (tkV T (t.2.1 e).2.1) D 0)))) else none else (F_Md_fails 6 (ie (tkP T n (t.2.1 e).2.1 : Nat)) g u).bind fun q17 => if (q17.1 == 0 || q17.1 == 1) = true then some (q17.1, q17.2) else none := by
      intro N hN
      have h9 := H.2.1.1.1.2.1
      unfold F_Md_typeName
      simp only [if_pos ok, nt]
      rw [k82, if_pos (show ie (-1) < 0 by decide), k78, hdn N (by omega), Option.bind_some, if_pos (okn _ 902 (by omega) (by omega)), ntn _ (by omega), r_plc H.2.1.1 _ (by omega), k112]
      by_cases h1 : 0 ≤ ie (fDef T (tkV T (t.2.1 e).2.1) D 0)
      · rw [if_pos h1, if_pos h1]
        by_cases h2 : pm_ok (ie (fDef T (tkV T (t.2.1 e).2.1) D 0)) 30 = true
        · simp only [if_pos h2]
        · simp only [if_neg h2]
      · rw [if_neg h1, if_neg h1]
    by_cases hm : fDef T (tkV T (t.2.1 e).2.1) D 0 = -1
    · rw [if_pos hm]
      refine ⟨rFail u 6 (tkP T n (t.2.1 e).2.1), 0, fun N hN => ?_, ?_, rfl, ?_⟩
      · rw [st N hN, hm, if_neg (show ¬ ((0 : Int32) ≤ ie (-1)) by decide), show (6 : Int32) = ie 6 from rfl, r_fails u g 6 _ H.1, Option.bind_some]; rfl
      · unfold rFail
        exact frP_wi (frP_wi (frP_r u) _ _ _ (by unfold rSTp; omega)) _ _ _ (by unfold rSTp; omega)
      · unfold rFail
        refine ⟨?_, by show 1 ≤ 6; omega, wi_at _ _ _ _, Y, tyR_w H.2.2.2.2.1 ?_ (fun a i h1 h2 => ?_)⟩
        · rw [wi_ne _ _ _ _ _ _ (by omega), wi_at]; rfl
        · rw [wi_ne _ _ _ _ _ _ (by omega), wi_ne _ _ _ _ _ _ (by omega)]
        · rw [wi_ne _ _ _ _ _ _ (by omega), wi_ne _ _ _ _ _ _ (by omega)]
    · rw [if_neg hm]
      obtain ⟨d, d1, d2⟩ := fDef_n hm
      rw [d1, show ((d : Nat) : Int).toNat = d by omega]
      rw [d1] at st
      obtain ⟨y, hy⟩ : ∃ y, D[d]? = some y := ⟨D[d], List.getElem?_eq_getElem d2⟩
      obtain ⟨p1, p2, p3⟩ := dPs_some hy
      have hp6 := (hpar d y hy).1
      have hcd := (H.2.2.2.2.2.1 d y hy).1
      have h92 : u.1 92 d = ie (y.2.1.length : Nat) := hcd.2.1.1
      obtain ⟨kt, kt1, kt2⟩ := hcd.2.2.1
      have st2 : ∀ N, 200000 ≤ N → F_Md_typeName N (ie (e : Nat)) g u = if ie ((dPs D d).length : Nat) ≤ 0 then some (1, (wi (wi u 88 e (ie (d : Nat))) 87 e (ie (kt : Nat)))) else if ib (t.2.2.2.2.1 e) = 0 then (F_Md_untyped (ie (e : Nat)) g (wi u 88 e (ie (d : Nat)))).bind fun q13 => if q13.1 = 0 then some (0, q13.2) else some (1, q13.2) else some (1, (wi u 88 e (ie (d : Nat)))) := by
        intro N hN
        rw [st N hN, if_pos (show (0 : Int32) ≤ ie (d : Nat) from (inle 0 d (by omega) (by omega)).mpr (by omega)), if_pos (okn d 30 (by omega) (by omega)), ntn d (by omega), h92, kt1, p3]
      have H1 : rC T n D t (cz (sDf c e d)) c.1 (wi u 88 e (ie (d : Nat))) Y := rC_df H he (some d)
      have hfr1 : frP u (wi u 88 e (ie (d : Nat))) := frP_wi (frP_r u) _ _ _ (by unfold rSTp; omega)
      by_cases h0 : (dPs D d).length = 0
      · rw [if_pos h0]
        refine ⟨_, 1, fun N hN => by rw [st2 N hN, h0, if_pos (show ie ((0 : Nat) : Int) ≤ 0 by decide)], frP_wi hfr1 _ _ _ (by unfold rSTp; omega), rfl, [], ?_, Nat.zero_le _⟩
        rw [List.append_nil, p2]
        exact rC_ty H1 he _ (some y.2.2.1) ⟨kt, rfl, kt2⟩
      · rw [if_neg h0]
        have n0 : ¬ (ie ((dPs D d).length : Nat) ≤ 0) := fun hh => by have := (inle _ 0 (by omega) (by omega)).mp hh; omega
        by_cases e4 : (t.2.1 e).1 = 4
        · rw [if_pos e4]
          refine ⟨_, 1, fun N hN => by rw [st2 N hN, if_neg n0, h4 e4, if_neg (show ¬ (ib true = 0) by decide)], hfr1, rfl, [], ?_, Nat.zero_le _⟩
          rw [List.append_nil]; exact H1
        · rw [if_neg e4]
          obtain ⟨vu, vu1, vu2, vu3⟩ := r_untyped g H1 he ht
          have hh := w5 (by omega)
          refine ⟨vu, 0, fun N hN => ?_, frP_t hfr1 vu3, rfl, vu2⟩
          rw [st2 N hN, if_neg n0, hh, if_pos (show ib false = 0 from rfl), vu1, Option.bind_some, if_pos rfl]
theorem r_one {T : List Tok} {n : Nat} {D : List Df} {t : Tr} {c : CS} {u : pm_J} {Y : List Ty} {e f0 di : Nat} {x : Df} (g : pm_s) (H : rC T n D t (cz c) c.1 u Y) (h69 : u.1 64 69 = ie (di : Nat)) (he : e < t.1) (hx : D[di]? = some x) (hW : nW T di f0 f0 (x.2.2.2.2.2.2, t) e) (hl24 : x.2.2.2.2.2.2.1 ≤ 24) (h4 : (t.2.1 e).1 = 4 → t.2.2.2.2.1 e = true) (hD : ∀ (i : Nat) (x : Df), D[i]? = some x → tkK T x.1 = 1) (hI : kI D t f0 e c) (hpar : parI D) (hlet : ltI D) (hY : Y.length ≤ 60000) :
    ∃ (v : pm_J) (q : Int32), (∀ N, 200000 ≤ N → F_Md_typeOne N (ie (e : Nat)) g u = some (q, v)) ∧ frP u v ∧ r1O T n D t c.1 (if (t.2.1 e).1 = 16 then 99 else 1) (ck1 T D t x.2.2.2.2.2.2 c e) q v Y := by
  have h18 := H.2.2.2.1.2
  have h30 := H.2.2.1.2
  have hR := H.2.2.2.2.1
  have hYb := hR.2.1
  have hdi := (List.getElem?_eq_some_iff.mp hx).1
  have hWe := hW
  unfold nW at hWe
  dsimp only at hWe
  obtain ⟨w1, w2, w3, w4, w5, w6, w7, w8, w9, w10, w11⟩ := hWe
  obtain ⟨k77, k78, k79, k80, k81, k82, _, k84, _, k112, _⟩ := H.2.2.2.2.2.2 e he
  have ok := okn e 2400 (by omega) (by omega)
  have nt := ntn e (by omega)
  have chld : ∀ z : Int, cO (x.2.2.2.2.2.2, t) f0 e z → ∃ (j : Nat) (s : Ty), z = j ∧ j < e ∧ z.toNat = j ∧ c.1 j = some s ∧ (∃ k : Nat, u.1 87 j = ie (k : Nat) ∧ Y[k]? = some s) := by
    rintro z ⟨j, j1, j2, j3, j4⟩
    obtain ⟨s, hs⟩ := hI.2.2.1 j j2 j3 j4
    have q7 := (H.2.2.2.2.2.2 j (by omega)).2.2.2.2.2.2.2.2.2.2.1
    rw [show (cz c).1 j = c.1 j from rfl, hs] at q7
    exact ⟨j, s, j1, j3, by omega, hs, q7⟩
  have hz : ∀ s : Ty, tyQ (.num 0) s = true ↔ s = .num 0 := fun s => by rw [tyQ_eq (show tyG (.num 0) by show 0 < 6; omega)]; exact eq_comm
  have h0 : ∀ (k : Nat) (s : Ty), Y[k]? = some s → (ie (k : Nat) = 0 ↔ s = .num 0) := fun k s hk => r_same hR k 0 s (.num 0) hk (hR.2.2.2.2.1 0 (by omega))
  have kc := w2
  by_cases hn : (t.2.1 e).1 = 2 ∨ (t.2.1 e).1 = 3 ∨ (t.2.1 e).1 = 4
  · obtain ⟨v, q, v1, v2, v3⟩ := r_nameT g H h69 he hx hW hl24 h4 hD hI hpar hn
    rw [if_neg (show ¬ ((t.2.1 e).1 = 16) by omega)]
    refine ⟨v, q, fun N hN => ?_, v2, v3⟩
    have hr1 : rop (t.2.1 e).1 = 1 := by rcases hn with hh | hh | hh <;> rw [hh] <;> rfl
    have hq : (q == 0 || q == 1) = true := by
      cases hck : ck1 T D t x.2.2.2.2.2.2 c e with
      | error f => rw [hck] at v3; rw [v3.1]; rfl
      | ok c' => rw [hck] at v3; rw [v3.1]; rfl
    unfold F_Md_typeOne
    rw [if_pos ok, nt, k77, hr1, if_pos (show ie ((1 : Nat) : Int) = 1 from rfl), v1 N hN, Option.bind_some, if_pos hq]
  · have h34 : ¬ ((t.2.1 e).1 = 3 ∨ (t.2.1 e).1 = 4) := by omega
    have hc := k16 kc.1 kc.2.1 kc.2.2 h34
    have fin : ∀ (s : Ty) (kk : Nat) (Z : List Ty) (v : pm_J), (t.2.1 e).1 ≠ 16 → nty x.2.2.2.2.2.2 c.1 (t.2.1 e) = some s → rC T n D t (cz c) c.1 v (Y ++ Z) → Z.length ≤ 1 → (Y ++ Z)[kk]? = some s → r1O T n D t c.1 (if (t.2.1 e).1 = 16 then 99 else 1) (ck1 T D t x.2.2.2.2.2.2 c e) 1 (wi v 87 e (ie (kk : Nat))) Y := by
      intro s kk Z v h16 hnt Hv hZ hk
      unfold ck1
      rw [if_neg h34, if_neg h16, if_neg h16, hnt]
      exact ⟨rfl, Z, rC_ty Hv he _ (some s) ⟨kk, rfl, hk⟩, hZ⟩
    have bad : ∀ (v : pm_J) (q : Int32), (t.2.1 e).1 ≠ 16 → nty x.2.2.2.2.2.2 c.1 (t.2.1 e) = none → q = 0 → rEr T n (7, (t.2.1 e).2.1) v → r1O T n D t c.1 (if (t.2.1 e).1 = 16 then 99 else 1) (ck1 T D t x.2.2.2.2.2.2 c e) q v Y := by
      intro v q h16 hnt hq hv
      unfold ck1
      rw [if_neg h34, if_neg h16, if_neg h16, hnt]
      exact ⟨hq, hv⟩
    clear w1 w3 w4 w5
    unfold F_Md_typeOne
    simp only [if_pos ok, nt, k77]
    rcases hc with hk | hk | hk | hk | hk | hk | hk | hk | hk | hk | hk | hk | hk
    · simp only [hk]
      refine ⟨wi u 87 e (ie ((0 : Nat) : Int)), 1, fun N _ => ?_, frP_wi (frP_r u) _ _ _ (by unfold rSTp; omega), ?_⟩
      · rw [if_neg (show ¬ (ie ((rop 0 : Nat) : Int) = 1) by decide), if_neg (show ¬ (ie ((rop 0 : Nat) : Int) = 4) by decide), if_neg (show ¬ (ie ((rop 0 : Nat) : Int) = 6) by decide), if_neg (show ¬ (ie ((rop 0 : Nat) : Int) = 9) by decide), if_neg (show ¬ (ie ((rop 0 : Nat) : Int) = 10) by decide), if_neg (show ¬ (ie ((rop 0 : Nat) : Int) = 11) by decide), if_pos (show ie ((rop 0 : Nat) : Int) = 12 from rfl)]; rfl
      · have := fin (.num 0) 0 [] u (by omega) (by unfold nty; rw [if_pos hk]) (by rw [List.append_nil]; exact H) (Nat.zero_le _) (by rw [List.append_nil]; exact hR.2.2.2.2.1 0 (by omega))
        rw [hk] at this; exact this
    · simp only [hk]
      refine ⟨wi u 87 e (ie ((1 : Nat) : Int)), 1, fun N _ => ?_, frP_wi (frP_r u) _ _ _ (by unfold rSTp; omega), ?_⟩
      · rw [if_neg (show ¬ (ie ((rop 1 : Nat) : Int) = 1) by decide), if_neg (show ¬ (ie ((rop 1 : Nat) : Int) = 4) by decide), if_neg (show ¬ (ie ((rop 1 : Nat) : Int) = 6) by decide), if_neg (show ¬ (ie ((rop 1 : Nat) : Int) = 9) by decide), if_neg (show ¬ (ie ((rop 1 : Nat) : Int) = 10) by decide), if_neg (show ¬ (ie ((rop 1 : Nat) : Int) = 11) by decide), if_neg (show ¬ (ie ((rop 1 : Nat) : Int) = 12) by decide), if_pos (show ie ((rop 1 : Nat) : Int) = 13 from rfl)]; rfl
      · have := fin (.num 1) 1 [] u (by omega) (by unfold nty; rw [if_neg (show ¬ ((t.2.1 e).1 = 0) by omega), if_pos hk]) (by rw [List.append_nil]; exact H) (Nat.zero_le _) (by rw [List.append_nil]; exact hR.2.2.2.2.1 1 (by omega))
        rw [hk] at this; exact this
    · exact absurd (Or.inl hk) hn
    · obtain ⟨j, s, j1, jl, j2, j3, kb, j4, j5⟩ := chld _ (w9 (Or.inl hk))
      have k80' : u.1 80 e = ie (j : Nat) := by rw [k80]; unfold rvb; rw [if_neg (by omega), j1]
      have hnt : nty x.2.2.2.2.2.2 c.1 (t.2.1 e) = some s := by
        unfold nty; rw [if_neg (show ¬ ((t.2.1 e).1 = 0) by omega), if_neg (show ¬ ((t.2.1 e).1 = 1) by omega), if_neg (show ¬ ((t.2.1 e).1 = 2) by omega), if_pos hk, j2, j3]
      have hf := fin s kb [] u (by omega) hnt (by rw [List.append_nil]; exact H) (Nat.zero_le _) (by rw [List.append_nil]; exact j5)
      simp only [hk] at hf ⊢
      refine ⟨wi u 87 e (ie (kb : Nat)), 1, fun N _ => ?_, frP_wi (frP_r u) _ _ _ (by unfold rSTp; omega), hf⟩
      rw [if_neg (show ¬ (ie ((rop 7 : Nat) : Int) = 1) by decide), if_pos (show ie ((rop 7 : Nat) : Int) = 4 from rfl), k80', if_pos (okn j 2400 (by omega) (by omega)), ntn j (by omega), j4]
    · obtain ⟨j, s, j1, jl, j2, j3, ka, j4, j5⟩ := chld _ (w8 (by rw [hk]; decide) (by rw [hk]; decide))
      obtain ⟨i, r, i1, il, i2, i3, kb, i4, i5⟩ := chld _ (w9 (Or.inr (Or.inl hk)))
      obtain ⟨o, q, o1, ol, o2, o3, kd, o4, o5⟩ := chld _ (w10 hk)
      have k79' : u.1 79 e = ie (j : Nat) := by rw [k79, rva_c (by omega), j1]
      have k80' : u.1 80 e = ie (i : Nat) := by rw [k80]; unfold rvb; rw [if_neg (by omega), i1]
      have k81' : u.1 81 e = ie (o : Nat) := by rw [k81]; unfold rvc; rw [if_pos hk, o1]
      have hnt : nty x.2.2.2.2.2.2 c.1 (t.2.1 e) = if tyQ (.num 0) s = true ∧ tyQ r q = true then some r else none := by
        unfold nty
        rw [if_neg (show ¬ ((t.2.1 e).1 = 0) by omega), if_neg (show ¬ ((t.2.1 e).1 = 1) by omega), if_neg (show ¬ ((t.2.1 e).1 = 2) by omega), if_neg (show ¬ ((t.2.1 e).1 = 7) by omega), j2, j3]
        show (if (t.2.1 e).1 = 9 then _ else _) = _
        rw [if_neg (show ¬ ((t.2.1 e).1 = 9) by omega), if_neg (show ¬ ((t.2.1 e).1 = 14) by omega), if_neg (show ¬ ((t.2.1 e).1 = 15) by omega), i2, i3]
        show (if (t.2.1 e).1 = 8 then _ else _) = _
        rw [if_pos hk, o2, o3]
      have H1 := rC_ty H he (ie (kb : Nat)) (some r) ⟨kb, rfl, i5⟩
      obtain ⟨vu, vu1, vu2, vu3⟩ := r_untyped g H1 he (hW.1)
      have st : ∀ N : Nat, (if (ie (j : Nat)) = (ie (j : Nat)) then (if ie (ka : Nat) = 0 then if ie (kb : Nat) = ie (kd : Nat) then some ((1 : Int32), wi u 87 e (ie (kb : Nat))) else some (0, vu) else some (0, vu)) else none) = (if ie (ka : Nat) = 0 then if ie (kb : Nat) = ie (kd : Nat) then some ((1 : Int32), wi u 87 e (ie (kb : Nat))) else some (0, vu) else some (0, vu)) := fun N => if_pos rfl
      have rd : ∀ b : Nat, b < e → (wi u 87 e (ie (kb : Nat))).1 87 b = u.1 87 b := fun b hb => wi_ne _ _ _ _ _ _ (by omega)
      by_cases hs0 : s = .num 0
      · by_cases hrq : r = q
        · have hf := fin r kb [] u (by omega) (by rw [hnt, if_pos ⟨(hz s).mpr hs0, (tyQ_eq (tyR_g hR kb r i5)).mpr hrq⟩]) (by rw [List.append_nil]; exact H) (Nat.zero_le _) (by rw [List.append_nil]; exact i5)
          simp only [hk] at hf ⊢
          refine ⟨wi u 87 e (ie (kb : Nat)), 1, fun N _ => ?_, frP_wi (frP_r u) _ _ _ (by unfold rSTp; omega), hf⟩
          rw [if_neg (show ¬ (ie ((rop 8 : Nat) : Int) = 1) by decide), if_neg (show ¬ (ie ((rop 8 : Nat) : Int) = 4) by decide), if_pos (show ie ((rop 8 : Nat) : Int) = 6 from rfl)]
          simp only [k80', k79', k81', if_pos (okn i 2400 (show i < 2400 by omega) (by omega)), if_pos (okn j 2400 (show j < 2400 by omega) (by omega)), if_pos (okn o 2400 (show o < 2400 by omega) (by omega)), ntn i (show i < 2147483648 by omega), ntn j (show j < 2147483648 by omega), ntn o (show o < 2147483648 by omega), i4, rd j jl, rd i il, rd o ol, j4, o4]
          rw [if_pos ((h0 ka s j5).mpr hs0), if_pos ((r_same hR kb kd r q i5 o5).mpr hrq)]
        · have hb := bad vu 0 (by omega) (by rw [hnt, if_neg (fun hh => hrq ((tyQ_eq (tyR_g hR kb r i5)).mp hh.2))]) rfl vu2
          simp only [hk] at hb ⊢
          refine ⟨vu, 0, fun N _ => ?_, frP_t (frP_wi (frP_r u) _ _ _ (by unfold rSTp; omega)) vu3, hb⟩
          rw [if_neg (show ¬ (ie ((rop 8 : Nat) : Int) = 1) by decide), if_neg (show ¬ (ie ((rop 8 : Nat) : Int) = 4) by decide), if_pos (show ie ((rop 8 : Nat) : Int) = 6 from rfl)]
          simp only [k80', k79', k81', if_pos (okn i 2400 (show i < 2400 by omega) (by omega)), if_pos (okn j 2400 (show j < 2400 by omega) (by omega)), if_pos (okn o 2400 (show o < 2400 by omega) (by omega)), ntn i (show i < 2147483648 by omega), ntn j (show j < 2147483648 by omega), ntn o (show o < 2147483648 by omega), i4, rd j jl, rd i il, rd o ol, j4, o4]
          rw [if_pos ((h0 ka s j5).mpr hs0), if_neg (fun hh => hrq ((r_same hR kb kd r q i5 o5).mp hh)), vu1]; rfl
      · have hb := bad vu 0 (by omega) (by rw [hnt, if_neg (fun hh => hs0 ((hz s).mp hh.1))]) rfl vu2
        simp only [hk] at hb ⊢
        refine ⟨vu, 0, fun N _ => ?_, frP_t (frP_wi (frP_r u) _ _ _ (by unfold rSTp; omega)) vu3, hb⟩
        rw [if_neg (show ¬ (ie ((rop 8 : Nat) : Int) = 1) by decide), if_neg (show ¬ (ie ((rop 8 : Nat) : Int) = 4) by decide), if_pos (show ie ((rop 8 : Nat) : Int) = 6 from rfl)]
        simp only [k80', k79', k81', if_pos (okn i 2400 (show i < 2400 by omega) (by omega)), if_pos (okn j 2400 (show j < 2400 by omega) (by omega)), if_pos (okn o 2400 (show o < 2400 by omega) (by omega)), ntn i (show i < 2147483648 by omega), ntn j (show j < 2147483648 by omega), ntn o (show o < 2147483648 by omega), i4, rd j jl, rd i il, rd o ol, j4, o4]
        rw [if_neg (fun hh => hs0 ((h0 ka s j5).mp hh)), vu1]; rfl
    · obtain ⟨j, s, j1, jl, j2, j3, ka, j4, j5⟩ := chld _ (w8 (by rw [hk]; decide) (by rw [hk]; decide))
      obtain ⟨_, l, l1, l2, l3, sl, l4⟩ := w7 hk
      have k79' : u.1 79 e = ie (j : Nat) := by rw [k79, rva_c (by omega), j1]
      have k82' : u.1 82 e = ie (l : Nat) := by rw [k82]; unfold rvl; rw [if_neg (show ¬ ((t.2.1 e).1 = 2) by omega), if_pos (Or.inr hk), l1]
      obtain ⟨kl, kl1, kl2⟩ := ((H.2.2.2.2.2.1 di x hx).2 l l2).1 l3 sl l4
      obtain ⟨z, v, Z, z1, z2, z3, z4, z5⟩ := r_type g hR true sl s kl ka kl2 j5 (by omega)
      have hnt : nty x.2.2.2.2.2.2 c.1 (t.2.1 e) = some (.mul sl s) := by
        unfold nty
        rw [if_neg (show ¬ ((t.2.1 e).1 = 0) by omega), if_neg (show ¬ ((t.2.1 e).1 = 1) by omega), if_neg (show ¬ ((t.2.1 e).1 = 2) by omega), if_neg (show ¬ ((t.2.1 e).1 = 7) by omega), j2, j3]
        show (if (t.2.1 e).1 = 9 then _ else _) = _
        rw [if_pos hk, l1, show ((l : Nat) : Int).toNat = l by omega]
        unfold lTy
        rw [l3, if_pos (by omega), l4]
      have e24 : 24 * ie (di : Nat) + ie (l : Nat) = ie ((24 * di + l : Nat) : Int) := by rw [show (24 : Int32) = ie 24 from rfl, ie_mul, ie_add]; rfl
      have hf := fin (.mul sl s) z Z v (by omega) hnt (rC_grow H Z z2 (fun a k h1 h2 _ => z5 a k (rSy_no h1 h2))) z3 z4
      simp only [hk] at hf ⊢
      refine ⟨wi v 87 e (ie (z : Nat)), 1, fun N hN => ?_, frP_wi (frP_y z5) _ _ _ (by unfold rSTp; omega), hf⟩
      have z1' : F_Md_typeOf N 1 (ie (kl : Nat)) (ie (ka : Nat)) g u = some (ie (z : Nat), v) := z1 N hN
      rw [if_neg (show ¬ (ie ((rop 9 : Nat) : Int) = 1) by decide), if_neg (show ¬ (ie ((rop 9 : Nat) : Int) = 4) by decide), if_neg (show ¬ (ie ((rop 9 : Nat) : Int) = 6) by decide), if_pos (show ie ((rop 9 : Nat) : Int) = 9 from rfl), h69, k82', e24, if_pos (okn _ 720 (by omega) (by omega)), k79', if_pos (okn j 2400 (by omega) (by omega)), ntn _ (by omega), ntn j (by omega), kl1, j4, z1', Option.bind_some]
    · obtain ⟨j, s, j1, jl, j2, j3, ka, j4, j5⟩ := chld _ (w8 (by rw [hk]; decide) (by rw [hk]; decide))
      obtain ⟨i, r, i1, il, i2, i3, kb, i4, i5⟩ := chld _ (w9 (Or.inr (Or.inr (by rw [hk]; decide))))
      have k79' : u.1 79 e = ie (j : Nat) := by rw [k79, rva_c (by omega), j1]
      have k80' : u.1 80 e = ie (i : Nat) := by rw [k80]; unfold rvb; rw [if_neg (by omega), i1]
      have hnt : nty x.2.2.2.2.2.2 c.1 (t.2.1 e) = if tyQ (.num 0) s = true ∧ tyQ (.num 0) r = true then some (.num 0) else none := by
        unfold nty
        rw [if_neg (show ¬ ((t.2.1 e).1 = 0) by omega), if_neg (show ¬ ((t.2.1 e).1 = 1) by omega), if_neg (show ¬ ((t.2.1 e).1 = 2) by omega), if_neg (show ¬ ((t.2.1 e).1 = 7) by omega), j2, j3]
        show (if (t.2.1 e).1 = 9 then _ else _) = _
        rw [if_neg (show ¬ ((t.2.1 e).1 = 9) by omega), if_neg (show ¬ ((t.2.1 e).1 = 14) by omega), if_neg (show ¬ ((t.2.1 e).1 = 15) by omega), i2, i3]
        show (if (t.2.1 e).1 = 8 then _ else _) = _
        rw [if_neg (show ¬ ((t.2.1 e).1 = 8) by omega), if_neg (show ¬ ((t.2.1 e).1 = 13) by omega)]
      have H1 := rC_ty H he (ie ((0 : Nat) : Int)) (some (.num 0)) ⟨0, rfl, hR.2.2.2.2.1 0 (by omega)⟩
      have H1' : rC T n D t (pu_upd (cz c).1 e (some (.num 0)), (cz c).2) c.1 (wi u 87 e 0) Y := H1
      obtain ⟨vu, vu1, vu2, vu3⟩ := r_untyped g H1' he (hW.1)
      have rd : ∀ b : Nat, b < e → (wi u 87 e 0).1 87 b = u.1 87 b := fun b hb => wi_ne _ _ _ _ _ _ (by omega)
      by_cases hs0 : s = .num 0
      · by_cases hr0 : r = .num 0
        · have hf := fin (.num 0) 0 [] u (by omega) (by rw [hnt, if_pos ⟨(hz s).mpr hs0, (hz r).mpr hr0⟩]) (by rw [List.append_nil]; exact H) (Nat.zero_le _) (by rw [List.append_nil]; exact hR.2.2.2.2.1 0 (by omega))
          simp only [hk] at hf ⊢
          refine ⟨wi u 87 e 0, 1, fun N _ => ?_, frP_wi (frP_r u) _ _ _ (by unfold rSTp; omega), hf⟩
          rw [if_neg (show ¬ (ie ((rop 10 : Nat) : Int) = 1) by decide), if_neg (show ¬ (ie ((rop 10 : Nat) : Int) = 4) by decide), if_neg (show ¬ (ie ((rop 10 : Nat) : Int) = 6) by decide), if_neg (show ¬ (ie ((rop 10 : Nat) : Int) = 9) by decide), if_neg (show ¬ (ie ((rop 10 : Nat) : Int) = 10) by decide), if_neg (show ¬ (ie ((rop 10 : Nat) : Int) = 11) by decide), if_neg (show ¬ (ie ((rop 10 : Nat) : Int) = 12) by decide), if_neg (show ¬ (ie ((rop 10 : Nat) : Int) = 13) by decide), if_neg (show ¬ (ie ((rop 10 : Nat) : Int) = 30) by decide), if_neg (show ¬ (ie ((rop 10 : Nat) : Int) = 32) by decide)]
          unfold K_Md_typeOne_412
          rw [if_pos ok, if_pos ok, nt, k79', if_pos (okn j 2400 (by omega) (by omega)), ntn j (by omega), rd j jl, j4, if_pos ((h0 ka s j5).mpr hs0), if_pos ok, k80', if_pos (okn i 2400 (by omega) (by omega)), ntn i (by omega), rd i il, i4, if_pos ((h0 kb r i5).mpr hr0)]
        · have hb := bad vu 0 (by omega) (by rw [hnt, if_neg (fun hh => hr0 ((hz r).mp hh.2))]) rfl vu2
          simp only [hk] at hb ⊢
          refine ⟨vu, 0, fun N _ => ?_, frP_t (frP_wi (frP_r u) _ _ _ (by unfold rSTp; omega)) vu3, hb⟩
          rw [if_neg (show ¬ (ie ((rop 10 : Nat) : Int) = 1) by decide), if_neg (show ¬ (ie ((rop 10 : Nat) : Int) = 4) by decide), if_neg (show ¬ (ie ((rop 10 : Nat) : Int) = 6) by decide), if_neg (show ¬ (ie ((rop 10 : Nat) : Int) = 9) by decide), if_neg (show ¬ (ie ((rop 10 : Nat) : Int) = 10) by decide), if_neg (show ¬ (ie ((rop 10 : Nat) : Int) = 11) by decide), if_neg (show ¬ (ie ((rop 10 : Nat) : Int) = 12) by decide), if_neg (show ¬ (ie ((rop 10 : Nat) : Int) = 13) by decide), if_neg (show ¬ (ie ((rop 10 : Nat) : Int) = 30) by decide), if_neg (show ¬ (ie ((rop 10 : Nat) : Int) = 32) by decide)]
          unfold K_Md_typeOne_412
          rw [if_pos ok, if_pos ok, nt, k79', if_pos (okn j 2400 (by omega) (by omega)), ntn j (by omega), rd j jl, j4, if_pos ((h0 ka s j5).mpr hs0), if_pos ok, k80', if_pos (okn i 2400 (by omega) (by omega)), ntn i (by omega), rd i il, i4, if_neg (fun hh => hr0 ((h0 kb r i5).mp hh)), vu1]; rfl
      · have hb := bad vu 0 (by omega) (by rw [hnt, if_neg (fun hh => hs0 ((hz s).mp hh.1))]) rfl vu2
        simp only [hk] at hb ⊢
        refine ⟨vu, 0, fun N _ => ?_, frP_t (frP_wi (frP_r u) _ _ _ (by unfold rSTp; omega)) vu3, hb⟩
        rw [if_neg (show ¬ (ie ((rop 10 : Nat) : Int) = 1) by decide), if_neg (show ¬ (ie ((rop 10 : Nat) : Int) = 4) by decide), if_neg (show ¬ (ie ((rop 10 : Nat) : Int) = 6) by decide), if_neg (show ¬ (ie ((rop 10 : Nat) : Int) = 9) by decide), if_neg (show ¬ (ie ((rop 10 : Nat) : Int) = 10) by decide), if_neg (show ¬ (ie ((rop 10 : Nat) : Int) = 11) by decide), if_neg (show ¬ (ie ((rop 10 : Nat) : Int) = 12) by decide), if_neg (show ¬ (ie ((rop 10 : Nat) : Int) = 13) by decide), if_neg (show ¬ (ie ((rop 10 : Nat) : Int) = 30) by decide), if_neg (show ¬ (ie ((rop 10 : Nat) : Int) = 32) by decide)]
        unfold K_Md_typeOne_412
        rw [if_pos ok, if_pos ok, nt, k79', if_pos (okn j 2400 (by omega) (by omega)), ntn j (by omega), rd j jl, j4, if_neg (fun hh => hs0 ((h0 ka s j5).mp hh)), vu1]; rfl
    · obtain ⟨j, s, j1, jl, j2, j3, ka, j4, j5⟩ := chld _ (w8 (by rw [hk]; decide) (by rw [hk]; decide))
      obtain ⟨i, r, i1, il, i2, i3, kb, i4, i5⟩ := chld _ (w9 (Or.inr (Or.inr (by rw [hk]; decide))))
      have k79' : u.1 79 e = ie (j : Nat) := by rw [k79, rva_c (by omega), j1]
      have k80' : u.1 80 e = ie (i : Nat) := by rw [k80]; unfold rvb; rw [if_neg (by omega), i1]
      have hnt : nty x.2.2.2.2.2.2 c.1 (t.2.1 e) = if tyQ (.num 0) s = true ∧ tyQ (.num 0) r = true then some (.num 0) else none := by
        unfold nty
        rw [if_neg (show ¬ ((t.2.1 e).1 = 0) by omega), if_neg (show ¬ ((t.2.1 e).1 = 1) by omega), if_neg (show ¬ ((t.2.1 e).1 = 2) by omega), if_neg (show ¬ ((t.2.1 e).1 = 7) by omega), j2, j3]
        show (if (t.2.1 e).1 = 9 then _ else _) = _
        rw [if_neg (show ¬ ((t.2.1 e).1 = 9) by omega), if_neg (show ¬ ((t.2.1 e).1 = 14) by omega), if_neg (show ¬ ((t.2.1 e).1 = 15) by omega), i2, i3]
        show (if (t.2.1 e).1 = 8 then _ else _) = _
        rw [if_neg (show ¬ ((t.2.1 e).1 = 8) by omega), if_neg (show ¬ ((t.2.1 e).1 = 13) by omega)]
      have H1 := rC_ty H he (ie ((0 : Nat) : Int)) (some (.num 0)) ⟨0, rfl, hR.2.2.2.2.1 0 (by omega)⟩
      have H1' : rC T n D t (pu_upd (cz c).1 e (some (.num 0)), (cz c).2) c.1 (wi u 87 e 0) Y := H1
      obtain ⟨vu, vu1, vu2, vu3⟩ := r_untyped g H1' he (hW.1)
      have rd : ∀ b : Nat, b < e → (wi u 87 e 0).1 87 b = u.1 87 b := fun b hb => wi_ne _ _ _ _ _ _ (by omega)
      by_cases hs0 : s = .num 0
      · by_cases hr0 : r = .num 0
        · have hf := fin (.num 0) 0 [] u (by omega) (by rw [hnt, if_pos ⟨(hz s).mpr hs0, (hz r).mpr hr0⟩]) (by rw [List.append_nil]; exact H) (Nat.zero_le _) (by rw [List.append_nil]; exact hR.2.2.2.2.1 0 (by omega))
          simp only [hk] at hf ⊢
          refine ⟨wi u 87 e 0, 1, fun N _ => ?_, frP_wi (frP_r u) _ _ _ (by unfold rSTp; omega), hf⟩
          rw [if_neg (show ¬ (ie ((rop 11 : Nat) : Int) = 1) by decide), if_neg (show ¬ (ie ((rop 11 : Nat) : Int) = 4) by decide), if_neg (show ¬ (ie ((rop 11 : Nat) : Int) = 6) by decide), if_neg (show ¬ (ie ((rop 11 : Nat) : Int) = 9) by decide), if_neg (show ¬ (ie ((rop 11 : Nat) : Int) = 10) by decide), if_neg (show ¬ (ie ((rop 11 : Nat) : Int) = 11) by decide), if_neg (show ¬ (ie ((rop 11 : Nat) : Int) = 12) by decide), if_neg (show ¬ (ie ((rop 11 : Nat) : Int) = 13) by decide), if_neg (show ¬ (ie ((rop 11 : Nat) : Int) = 30) by decide), if_neg (show ¬ (ie ((rop 11 : Nat) : Int) = 32) by decide)]
          unfold K_Md_typeOne_412
          rw [if_pos ok, if_pos ok, nt, k79', if_pos (okn j 2400 (by omega) (by omega)), ntn j (by omega), rd j jl, j4, if_pos ((h0 ka s j5).mpr hs0), if_pos ok, k80', if_pos (okn i 2400 (by omega) (by omega)), ntn i (by omega), rd i il, i4, if_pos ((h0 kb r i5).mpr hr0)]
        · have hb := bad vu 0 (by omega) (by rw [hnt, if_neg (fun hh => hr0 ((hz r).mp hh.2))]) rfl vu2
          simp only [hk] at hb ⊢
          refine ⟨vu, 0, fun N _ => ?_, frP_t (frP_wi (frP_r u) _ _ _ (by unfold rSTp; omega)) vu3, hb⟩
          rw [if_neg (show ¬ (ie ((rop 11 : Nat) : Int) = 1) by decide), if_neg (show ¬ (ie ((rop 11 : Nat) : Int) = 4) by decide), if_neg (show ¬ (ie ((rop 11 : Nat) : Int) = 6) by decide), if_neg (show ¬ (ie ((rop 11 : Nat) : Int) = 9) by decide), if_neg (show ¬ (ie ((rop 11 : Nat) : Int) = 10) by decide), if_neg (show ¬ (ie ((rop 11 : Nat) : Int) = 11) by decide), if_neg (show ¬ (ie ((rop 11 : Nat) : Int) = 12) by decide), if_neg (show ¬ (ie ((rop 11 : Nat) : Int) = 13) by decide), if_neg (show ¬ (ie ((rop 11 : Nat) : Int) = 30) by decide), if_neg (show ¬ (ie ((rop 11 : Nat) : Int) = 32) by decide)]
          unfold K_Md_typeOne_412
          rw [if_pos ok, if_pos ok, nt, k79', if_pos (okn j 2400 (by omega) (by omega)), ntn j (by omega), rd j jl, j4, if_pos ((h0 ka s j5).mpr hs0), if_pos ok, k80', if_pos (okn i 2400 (by omega) (by omega)), ntn i (by omega), rd i il, i4, if_neg (fun hh => hr0 ((h0 kb r i5).mp hh)), vu1]; rfl
      · have hb := bad vu 0 (by omega) (by rw [hnt, if_neg (fun hh => hs0 ((hz s).mp hh.1))]) rfl vu2
        simp only [hk] at hb ⊢
        refine ⟨vu, 0, fun N _ => ?_, frP_t (frP_wi (frP_r u) _ _ _ (by unfold rSTp; omega)) vu3, hb⟩
        rw [if_neg (show ¬ (ie ((rop 11 : Nat) : Int) = 1) by decide), if_neg (show ¬ (ie ((rop 11 : Nat) : Int) = 4) by decide), if_neg (show ¬ (ie ((rop 11 : Nat) : Int) = 6) by decide), if_neg (show ¬ (ie ((rop 11 : Nat) : Int) = 9) by decide), if_neg (show ¬ (ie ((rop 11 : Nat) : Int) = 10) by decide), if_neg (show ¬ (ie ((rop 11 : Nat) : Int) = 11) by decide), if_neg (show ¬ (ie ((rop 11 : Nat) : Int) = 12) by decide), if_neg (show ¬ (ie ((rop 11 : Nat) : Int) = 13) by decide), if_neg (show ¬ (ie ((rop 11 : Nat) : Int) = 30) by decide), if_neg (show ¬ (ie ((rop 11 : Nat) : Int) = 32) by decide)]
        unfold K_Md_typeOne_412
        rw [if_pos ok, if_pos ok, nt, k79', if_pos (okn j 2400 (by omega) (by omega)), ntn j (by omega), rd j jl, j4, if_neg (fun hh => hs0 ((h0 ka s j5).mp hh)), vu1]; rfl
    · obtain ⟨j, s, j1, jl, j2, j3, ka, j4, j5⟩ := chld _ (w8 (by rw [hk]; decide) (by rw [hk]; decide))
      obtain ⟨i, r, i1, il, i2, i3, kb, i4, i5⟩ := chld _ (w9 (Or.inr (Or.inr (by rw [hk]; decide))))
      have k79' : u.1 79 e = ie (j : Nat) := by rw [k79, rva_c (by omega), j1]
      have k80' : u.1 80 e = ie (i : Nat) := by rw [k80]; unfold rvb; rw [if_neg (by omega), i1]
      have hnt : nty x.2.2.2.2.2.2 c.1 (t.2.1 e) = if tyQ (.num 0) s = true ∧ tyQ (.num 0) r = true then some (.num 0) else none := by
        unfold nty
        rw [if_neg (show ¬ ((t.2.1 e).1 = 0) by omega), if_neg (show ¬ ((t.2.1 e).1 = 1) by omega), if_neg (show ¬ ((t.2.1 e).1 = 2) by omega), if_neg (show ¬ ((t.2.1 e).1 = 7) by omega), j2, j3]
        show (if (t.2.1 e).1 = 9 then _ else _) = _
        rw [if_neg (show ¬ ((t.2.1 e).1 = 9) by omega), if_neg (show ¬ ((t.2.1 e).1 = 14) by omega), if_neg (show ¬ ((t.2.1 e).1 = 15) by omega), i2, i3]
        show (if (t.2.1 e).1 = 8 then _ else _) = _
        rw [if_neg (show ¬ ((t.2.1 e).1 = 8) by omega), if_neg (show ¬ ((t.2.1 e).1 = 13) by omega)]
      have H1 := rC_ty H he (ie ((0 : Nat) : Int)) (some (.num 0)) ⟨0, rfl, hR.2.2.2.2.1 0 (by omega)⟩
      have H1' : rC T n D t (pu_upd (cz c).1 e (some (.num 0)), (cz c).2) c.1 (wi u 87 e 0) Y := H1
      obtain ⟨vu, vu1, vu2, vu3⟩ := r_untyped g H1' he (hW.1)
      have rd : ∀ b : Nat, b < e → (wi u 87 e 0).1 87 b = u.1 87 b := fun b hb => wi_ne _ _ _ _ _ _ (by omega)
      by_cases hs0 : s = .num 0
      · by_cases hr0 : r = .num 0
        · have hf := fin (.num 0) 0 [] u (by omega) (by rw [hnt, if_pos ⟨(hz s).mpr hs0, (hz r).mpr hr0⟩]) (by rw [List.append_nil]; exact H) (Nat.zero_le _) (by rw [List.append_nil]; exact hR.2.2.2.2.1 0 (by omega))
          simp only [hk] at hf ⊢
          refine ⟨wi u 87 e 0, 1, fun N _ => ?_, frP_wi (frP_r u) _ _ _ (by unfold rSTp; omega), hf⟩
          rw [if_neg (show ¬ (ie ((rop 12 : Nat) : Int) = 1) by decide), if_neg (show ¬ (ie ((rop 12 : Nat) : Int) = 4) by decide), if_neg (show ¬ (ie ((rop 12 : Nat) : Int) = 6) by decide), if_neg (show ¬ (ie ((rop 12 : Nat) : Int) = 9) by decide), if_neg (show ¬ (ie ((rop 12 : Nat) : Int) = 10) by decide), if_neg (show ¬ (ie ((rop 12 : Nat) : Int) = 11) by decide), if_neg (show ¬ (ie ((rop 12 : Nat) : Int) = 12) by decide), if_neg (show ¬ (ie ((rop 12 : Nat) : Int) = 13) by decide), if_neg (show ¬ (ie ((rop 12 : Nat) : Int) = 30) by decide), if_neg (show ¬ (ie ((rop 12 : Nat) : Int) = 32) by decide)]
          unfold K_Md_typeOne_412
          rw [if_pos ok, if_pos ok, nt, k79', if_pos (okn j 2400 (by omega) (by omega)), ntn j (by omega), rd j jl, j4, if_pos ((h0 ka s j5).mpr hs0), if_pos ok, k80', if_pos (okn i 2400 (by omega) (by omega)), ntn i (by omega), rd i il, i4, if_pos ((h0 kb r i5).mpr hr0)]
        · have hb := bad vu 0 (by omega) (by rw [hnt, if_neg (fun hh => hr0 ((hz r).mp hh.2))]) rfl vu2
          simp only [hk] at hb ⊢
          refine ⟨vu, 0, fun N _ => ?_, frP_t (frP_wi (frP_r u) _ _ _ (by unfold rSTp; omega)) vu3, hb⟩
          rw [if_neg (show ¬ (ie ((rop 12 : Nat) : Int) = 1) by decide), if_neg (show ¬ (ie ((rop 12 : Nat) : Int) = 4) by decide), if_neg (show ¬ (ie ((rop 12 : Nat) : Int) = 6) by decide), if_neg (show ¬ (ie ((rop 12 : Nat) : Int) = 9) by decide), if_neg (show ¬ (ie ((rop 12 : Nat) : Int) = 10) by decide), if_neg (show ¬ (ie ((rop 12 : Nat) : Int) = 11) by decide), if_neg (show ¬ (ie ((rop 12 : Nat) : Int) = 12) by decide), if_neg (show ¬ (ie ((rop 12 : Nat) : Int) = 13) by decide), if_neg (show ¬ (ie ((rop 12 : Nat) : Int) = 30) by decide), if_neg (show ¬ (ie ((rop 12 : Nat) : Int) = 32) by decide)]
          unfold K_Md_typeOne_412
          rw [if_pos ok, if_pos ok, nt, k79', if_pos (okn j 2400 (by omega) (by omega)), ntn j (by omega), rd j jl, j4, if_pos ((h0 ka s j5).mpr hs0), if_pos ok, k80', if_pos (okn i 2400 (by omega) (by omega)), ntn i (by omega), rd i il, i4, if_neg (fun hh => hr0 ((h0 kb r i5).mp hh)), vu1]; rfl
      · have hb := bad vu 0 (by omega) (by rw [hnt, if_neg (fun hh => hs0 ((hz s).mp hh.1))]) rfl vu2
        simp only [hk] at hb ⊢
        refine ⟨vu, 0, fun N _ => ?_, frP_t (frP_wi (frP_r u) _ _ _ (by unfold rSTp; omega)) vu3, hb⟩
        rw [if_neg (show ¬ (ie ((rop 12 : Nat) : Int) = 1) by decide), if_neg (show ¬ (ie ((rop 12 : Nat) : Int) = 4) by decide), if_neg (show ¬ (ie ((rop 12 : Nat) : Int) = 6) by decide), if_neg (show ¬ (ie ((rop 12 : Nat) : Int) = 9) by decide), if_neg (show ¬ (ie ((rop 12 : Nat) : Int) = 10) by decide), if_neg (show ¬ (ie ((rop 12 : Nat) : Int) = 11) by decide), if_neg (show ¬ (ie ((rop 12 : Nat) : Int) = 12) by decide), if_neg (show ¬ (ie ((rop 12 : Nat) : Int) = 13) by decide), if_neg (show ¬ (ie ((rop 12 : Nat) : Int) = 30) by decide), if_neg (show ¬ (ie ((rop 12 : Nat) : Int) = 32) by decide)]
        unfold K_Md_typeOne_412
        rw [if_pos ok, if_pos ok, nt, k79', if_pos (okn j 2400 (by omega) (by omega)), ntn j (by omega), rd j jl, j4, if_neg (fun hh => hs0 ((h0 ka s j5).mp hh)), vu1]; rfl
    · obtain ⟨j, s, j1, jl, j2, j3, ka, j4, j5⟩ := chld _ (w8 (by rw [hk]; decide) (by rw [hk]; decide))
      obtain ⟨i, r, i1, il, i2, i3, kb, i4, i5⟩ := chld _ (w9 (Or.inr (Or.inr (by rw [hk]; decide))))
      have k79' : u.1 79 e = ie (j : Nat) := by rw [k79, rva_c (by omega), j1]
      have k80' : u.1 80 e = ie (i : Nat) := by rw [k80]; unfold rvb; rw [if_neg (by omega), i1]
      obtain ⟨z, v, Z, z1, z2, z3, z4, z5⟩ := r_type g hR false s r ka kb j5 i5 (by omega)
      have hnt : nty x.2.2.2.2.2.2 c.1 (t.2.1 e) = some (.add s r) := by
        unfold nty
        rw [if_neg (show ¬ ((t.2.1 e).1 = 0) by omega), if_neg (show ¬ ((t.2.1 e).1 = 1) by omega), if_neg (show ¬ ((t.2.1 e).1 = 2) by omega), if_neg (show ¬ ((t.2.1 e).1 = 7) by omega), j2, j3]
        show (if (t.2.1 e).1 = 9 then _ else _) = _
        rw [if_neg (show ¬ ((t.2.1 e).1 = 9) by omega), if_neg (show ¬ ((t.2.1 e).1 = 14) by omega), if_neg (show ¬ ((t.2.1 e).1 = 15) by omega), i2, i3]
        show (if (t.2.1 e).1 = 8 then _ else _) = _
        rw [if_neg (show ¬ ((t.2.1 e).1 = 8) by omega), if_pos hk]
      have hf := fin (.add s r) z Z v (by omega) hnt (rC_grow H Z z2 (fun a k h1 h2 _ => z5 a k (rSy_no h1 h2))) z3 z4
      simp only [hk] at hf ⊢
      refine ⟨wi v 87 e (ie (z : Nat)), 1, fun N hN => ?_, frP_wi (frP_y z5) _ _ _ (by unfold rSTp; omega), hf⟩
      have z1' : F_Md_typeOf N 0 (ie (ka : Nat)) (ie (kb : Nat)) g u = some (ie (z : Nat), v) := z1 N hN
      rw [if_neg (show ¬ (ie ((rop 13 : Nat) : Int) = 1) by decide), if_neg (show ¬ (ie ((rop 13 : Nat) : Int) = 4) by decide), if_neg (show ¬ (ie ((rop 13 : Nat) : Int) = 6) by decide), if_neg (show ¬ (ie ((rop 13 : Nat) : Int) = 9) by decide), if_neg (show ¬ (ie ((rop 13 : Nat) : Int) = 10) by decide), if_neg (show ¬ (ie ((rop 13 : Nat) : Int) = 11) by decide), if_neg (show ¬ (ie ((rop 13 : Nat) : Int) = 12) by decide), if_neg (show ¬ (ie ((rop 13 : Nat) : Int) = 13) by decide), if_neg (show ¬ (ie ((rop 13 : Nat) : Int) = 30) by decide), if_pos (show ie ((rop 13 : Nat) : Int) = 32 from rfl), k79', if_pos (okn j 2400 (by omega) (by omega)), k80', if_pos (okn i 2400 (by omega) (by omega)), ntn j (by omega), ntn i (by omega), j4, i4, z1', Option.bind_some]
    · obtain ⟨j, s, j1, jl, j2, j3, ka, j4, j5⟩ := chld _ (w8 (by rw [hk]; decide) (by rw [hk]; decide))
      have k79' : u.1 79 e = ie (j : Nat) := by rw [k79, rva_c (by omega), j1]
      have hkal := (List.getElem?_eq_some_iff.mp j5).1
      obtain ⟨vu, vu1, vu2, vu3⟩ := r_untyped g H he (hW.1)
      have k77' : u.1 77 e = ie ((rop 14 : Nat) : Int) := by rw [k77, hk]
      by_cases h6 : ka < 6
      · have hsn : s = .num ka := by
          have := hR.2.2.2.2.1 ka h6
          rw [j5] at this; exact Option.some.inj this
        have hnt : nty x.2.2.2.2.2.2 c.1 (t.2.1 e) = none := by
          unfold nty
          rw [if_neg (show ¬ ((t.2.1 e).1 = 0) by omega), if_neg (show ¬ ((t.2.1 e).1 = 1) by omega), if_neg (show ¬ ((t.2.1 e).1 = 2) by omega), if_neg (show ¬ ((t.2.1 e).1 = 7) by omega), j2, j3]
          show (if (t.2.1 e).1 = 9 then _ else _) = _
          rw [if_neg (show ¬ ((t.2.1 e).1 = 9) by omega), if_pos hk]
          rw [hsn]
        have hb := bad vu 0 (by omega) hnt rfl vu2
        simp only [hk] at hb ⊢
        refine ⟨vu, 0, fun N _ => ?_, vu3, hb⟩
        rw [if_neg (show ¬ (ie ((rop 14 : Nat) : Int) = 1) by decide), if_neg (show ¬ (ie ((rop 14 : Nat) : Int) = 4) by decide), if_neg (show ¬ (ie ((rop 14 : Nat) : Int) = 6) by decide), if_neg (show ¬ (ie ((rop 14 : Nat) : Int) = 9) by decide), if_pos (show ie ((rop 14 : Nat) : Int) = 10 from rfl)]
        unfold K_Md_typeOne_345
        rw [if_pos ok, nt, k79', if_pos (okn j 2400 (by omega) (by omega)), ntn j (by omega), j4, if_pos (show ie (ka : Nat) < 6 from (inlt ka 6 (by omega) (by omega)).mpr h6), vu1]; rfl
      · obtain ⟨f1, A, B, rfl⟩ := (ty_6 hR ka s j5).mp (by omega)
        obtain ⟨lA, lB, l1, l2, l3, l4, _, _, l5, _⟩ := r_parts hR f1 A B ka j5
        have n6 : ¬ (ie (ka : Nat) < 6) := fun hh => h6 ((inlt ka 6 (by omega) (by omega)).mp hh)
        cases f1 with
        | true =>
          have hnt : nty x.2.2.2.2.2.2 c.1 (t.2.1 e) = none := by
            unfold nty
            rw [if_neg (show ¬ ((t.2.1 e).1 = 0) by omega), if_neg (show ¬ ((t.2.1 e).1 = 1) by omega), if_neg (show ¬ ((t.2.1 e).1 = 2) by omega), if_neg (show ¬ ((t.2.1 e).1 = 7) by omega), j2, j3]
            show (if (t.2.1 e).1 = 9 then _ else _) = _
            rw [if_neg (show ¬ ((t.2.1 e).1 = 9) by omega), if_pos hk]
            rfl
          have hb := bad vu 0 (by omega) hnt rfl vu2
          simp only [hk] at hb ⊢
          refine ⟨vu, 0, fun N _ => ?_, vu3, hb⟩
          rw [if_neg (show ¬ (ie ((rop 14 : Nat) : Int) = 1) by decide), if_neg (show ¬ (ie ((rop 14 : Nat) : Int) = 4) by decide), if_neg (show ¬ (ie ((rop 14 : Nat) : Int) = 6) by decide), if_neg (show ¬ (ie ((rop 14 : Nat) : Int) = 9) by decide), if_pos (show ie ((rop 14 : Nat) : Int) = 10 from rfl)]
          unfold K_Md_typeOne_345
          rw [if_pos ok, nt, k79', if_pos (okn j 2400 (by omega) (by omega)), ntn j (by omega), j4, if_neg n6, if_pos (okn ka 100000 (by omega) (by omega)), ntn ka (by omega), l5, if_neg (show ¬ (ib true = 0) by decide), vu1]; rfl
        | false =>
          have hnt : nty x.2.2.2.2.2.2 c.1 (t.2.1 e) = some A := by
            unfold nty
            rw [if_neg (show ¬ ((t.2.1 e).1 = 0) by omega), if_neg (show ¬ ((t.2.1 e).1 = 1) by omega), if_neg (show ¬ ((t.2.1 e).1 = 2) by omega), if_neg (show ¬ ((t.2.1 e).1 = 7) by omega), j2, j3]
            show (if (t.2.1 e).1 = 9 then _ else _) = _
            rw [if_neg (show ¬ ((t.2.1 e).1 = 9) by omega), if_pos hk]
            rfl
          have hf := fin A lA [] u (by omega) hnt (by rw [List.append_nil]; exact H) (Nat.zero_le _) (by rw [List.append_nil]; exact l1)
          simp only [hk] at hf ⊢
          refine ⟨wi u 87 e (ie (lA : Nat)), 1, fun N _ => ?_, frP_wi (frP_r u) _ _ _ (by unfold rSTp; omega), hf⟩
          rw [if_neg (show ¬ (ie ((rop 14 : Nat) : Int) = 1) by decide), if_neg (show ¬ (ie ((rop 14 : Nat) : Int) = 4) by decide), if_neg (show ¬ (ie ((rop 14 : Nat) : Int) = 6) by decide), if_neg (show ¬ (ie ((rop 14 : Nat) : Int) = 9) by decide), if_pos (show ie ((rop 14 : Nat) : Int) = 10 from rfl)]
          unfold K_Md_typeOne_345
          rw [if_pos ok, nt, k79', if_pos (okn j 2400 (by omega) (by omega)), ntn j (by omega), j4, if_neg n6, if_pos (okn ka 100000 (by omega) (by omega)), ntn ka (by omega), l5, if_pos (show ib false = 0 from rfl), if_pos ok, k77', if_pos (show ie ((rop 14 : Nat) : Int) = 10 from rfl), if_pos (okn ka 100000 (by omega) (by omega)), if_pos ok, l3]
    · obtain ⟨j, s, j1, jl, j2, j3, ka, j4, j5⟩ := chld _ (w8 (by rw [hk]; decide) (by rw [hk]; decide))
      have k79' : u.1 79 e = ie (j : Nat) := by rw [k79, rva_c (by omega), j1]
      have hkal := (List.getElem?_eq_some_iff.mp j5).1
      obtain ⟨vu, vu1, vu2, vu3⟩ := r_untyped g H he (hW.1)
      have k77' : u.1 77 e = ie ((rop 15 : Nat) : Int) := by rw [k77, hk]
      by_cases h6 : ka < 6
      · have hsn : s = .num ka := by
          have := hR.2.2.2.2.1 ka h6
          rw [j5] at this; exact Option.some.inj this
        have hnt : nty x.2.2.2.2.2.2 c.1 (t.2.1 e) = none := by
          unfold nty
          rw [if_neg (show ¬ ((t.2.1 e).1 = 0) by omega), if_neg (show ¬ ((t.2.1 e).1 = 1) by omega), if_neg (show ¬ ((t.2.1 e).1 = 2) by omega), if_neg (show ¬ ((t.2.1 e).1 = 7) by omega), j2, j3]
          show (if (t.2.1 e).1 = 9 then _ else _) = _
          rw [if_neg (show ¬ ((t.2.1 e).1 = 9) by omega), if_neg (show ¬ ((t.2.1 e).1 = 14) by omega), if_pos hk]
          rw [hsn]
        have hb := bad vu 0 (by omega) hnt rfl vu2
        simp only [hk] at hb ⊢
        refine ⟨vu, 0, fun N _ => ?_, vu3, hb⟩
        rw [if_neg (show ¬ (ie ((rop 15 : Nat) : Int) = 1) by decide), if_neg (show ¬ (ie ((rop 15 : Nat) : Int) = 4) by decide), if_neg (show ¬ (ie ((rop 15 : Nat) : Int) = 6) by decide), if_neg (show ¬ (ie ((rop 15 : Nat) : Int) = 9) by decide), if_neg (show ¬ (ie ((rop 15 : Nat) : Int) = 10) by decide), if_pos (show ie ((rop 15 : Nat) : Int) = 11 from rfl)]
        unfold K_Md_typeOne_345
        rw [if_pos ok, nt, k79', if_pos (okn j 2400 (by omega) (by omega)), ntn j (by omega), j4, if_pos (show ie (ka : Nat) < 6 from (inlt ka 6 (by omega) (by omega)).mpr h6), vu1]; rfl
      · obtain ⟨f1, A, B, rfl⟩ := (ty_6 hR ka s j5).mp (by omega)
        obtain ⟨lA, lB, l1, l2, l3, l4, _, _, l5, _⟩ := r_parts hR f1 A B ka j5
        have n6 : ¬ (ie (ka : Nat) < 6) := fun hh => h6 ((inlt ka 6 (by omega) (by omega)).mp hh)
        cases f1 with
        | true =>
          have hnt : nty x.2.2.2.2.2.2 c.1 (t.2.1 e) = none := by
            unfold nty
            rw [if_neg (show ¬ ((t.2.1 e).1 = 0) by omega), if_neg (show ¬ ((t.2.1 e).1 = 1) by omega), if_neg (show ¬ ((t.2.1 e).1 = 2) by omega), if_neg (show ¬ ((t.2.1 e).1 = 7) by omega), j2, j3]
            show (if (t.2.1 e).1 = 9 then _ else _) = _
            rw [if_neg (show ¬ ((t.2.1 e).1 = 9) by omega), if_neg (show ¬ ((t.2.1 e).1 = 14) by omega), if_pos hk]
            rfl
          have hb := bad vu 0 (by omega) hnt rfl vu2
          simp only [hk] at hb ⊢
          refine ⟨vu, 0, fun N _ => ?_, vu3, hb⟩
          rw [if_neg (show ¬ (ie ((rop 15 : Nat) : Int) = 1) by decide), if_neg (show ¬ (ie ((rop 15 : Nat) : Int) = 4) by decide), if_neg (show ¬ (ie ((rop 15 : Nat) : Int) = 6) by decide), if_neg (show ¬ (ie ((rop 15 : Nat) : Int) = 9) by decide), if_neg (show ¬ (ie ((rop 15 : Nat) : Int) = 10) by decide), if_pos (show ie ((rop 15 : Nat) : Int) = 11 from rfl)]
          unfold K_Md_typeOne_345
          rw [if_pos ok, nt, k79', if_pos (okn j 2400 (by omega) (by omega)), ntn j (by omega), j4, if_neg n6, if_pos (okn ka 100000 (by omega) (by omega)), ntn ka (by omega), l5, if_neg (show ¬ (ib true = 0) by decide), vu1]; rfl
        | false =>
          have hnt : nty x.2.2.2.2.2.2 c.1 (t.2.1 e) = some B := by
            unfold nty
            rw [if_neg (show ¬ ((t.2.1 e).1 = 0) by omega), if_neg (show ¬ ((t.2.1 e).1 = 1) by omega), if_neg (show ¬ ((t.2.1 e).1 = 2) by omega), if_neg (show ¬ ((t.2.1 e).1 = 7) by omega), j2, j3]
            show (if (t.2.1 e).1 = 9 then _ else _) = _
            rw [if_neg (show ¬ ((t.2.1 e).1 = 9) by omega), if_neg (show ¬ ((t.2.1 e).1 = 14) by omega), if_pos hk]
            rfl
          have hf := fin B lB [] u (by omega) hnt (by rw [List.append_nil]; exact H) (Nat.zero_le _) (by rw [List.append_nil]; exact l2)
          simp only [hk] at hf ⊢
          refine ⟨wi u 87 e (ie (lB : Nat)), 1, fun N _ => ?_, frP_wi (frP_r u) _ _ _ (by unfold rSTp; omega), hf⟩
          rw [if_neg (show ¬ (ie ((rop 15 : Nat) : Int) = 1) by decide), if_neg (show ¬ (ie ((rop 15 : Nat) : Int) = 4) by decide), if_neg (show ¬ (ie ((rop 15 : Nat) : Int) = 6) by decide), if_neg (show ¬ (ie ((rop 15 : Nat) : Int) = 9) by decide), if_neg (show ¬ (ie ((rop 15 : Nat) : Int) = 10) by decide), if_pos (show ie ((rop 15 : Nat) : Int) = 11 from rfl)]
          unfold K_Md_typeOne_345
          rw [if_pos ok, nt, k79', if_pos (okn j 2400 (by omega) (by omega)), ntn j (by omega), j4, if_neg n6, if_pos (okn ka 100000 (by omega) (by omega)), ntn ka (by omega), l5, if_pos (show ib false = 0 from rfl), if_pos ok, k77', if_neg (show ¬ (ie ((rop 15 : Nat) : Int) = 10) by decide), if_pos (okn ka 100000 (by omega) (by omega)), if_pos ok, l4]
    · obtain ⟨v, q, q1, q2, q3⟩ := r_row (lc := x.2.2.2.2.2.2) g H he hW.1 hk (w11 hk) hI hpar hlet hY
      have hck : r1O T n D t c.1 (if (t.2.1 e).1 = 16 then 99 else 1) (ck1 T D t x.2.2.2.2.2.2 c e) q v Y ∧ (q == 0 || q == 1) = true := by
        unfold ck1
        rw [if_neg h34, if_pos hk, if_pos hk]
        cases hcc : ckC D t c e (t.2.1 e) with
        | none => rw [hcc] at q3; exact ⟨q3, by rw [q3.1]; rfl⟩
        | some p => rw [hcc] at q3; exact ⟨q3, by rw [q3.1]; rfl⟩
      have hck1 := hck.1
      simp only [hk] at hck1 ⊢
      refine ⟨v, q, fun N hN => ?_, q2, hck1⟩
      rw [if_neg (show ¬ (ie ((rop 16 : Nat) : Int) = 1) by decide), if_neg (show ¬ (ie ((rop 16 : Nat) : Int) = 4) by decide), if_neg (show ¬ (ie ((rop 16 : Nat) : Int) = 6) by decide), if_neg (show ¬ (ie ((rop 16 : Nat) : Int) = 9) by decide), if_neg (show ¬ (ie ((rop 16 : Nat) : Int) = 10) by decide), if_neg (show ¬ (ie ((rop 16 : Nat) : Int) = 11) by decide), if_neg (show ¬ (ie ((rop 16 : Nat) : Int) = 12) by decide), if_neg (show ¬ (ie ((rop 16 : Nat) : Int) = 13) by decide), if_pos (show ie ((rop 16 : Nat) : Int) = 30 from rfl), q1 N hN, Option.bind_some, if_pos hck.2]
