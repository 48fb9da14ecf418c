set_option maxRecDepth 100000
theorem ck_of {T : List Tok} {D : List Df} {t : Tr} {lc : Lc} {c : CS} {e : Nat} (hpar : parI D) (hce : c.1 e = none) : (∀ f, ck1 T D t lc c e = .error f → ck T D t lc c e = .error f) ∧ (∀ c1, ck1 T D t lc c e = .ok c1 → (c1.1 e = none → ck T D t lc c e = .ok c1) ∧ ∀ s, c1.1 e = some s → ck T D t lc c e = if 200 < tyL s then .error (7, (t.2.1 e).2.1) else .ok c1) := by
  unfold ck1 ck
  by_cases h34 : (t.2.1 e).1 = 3 ∨ (t.2.1 e).1 = 4
  · rw [if_pos h34, if_pos h34]
    refine ⟨fun f hf => hf, fun c1 h1 => ⟨fun _ => h1, fun s hs => ?_⟩⟩
    by_cases hm : fDef T (t.2.1 e).2.2.2.2.2.1 D 0 = -1
    · rw [if_pos hm] at h1; cases h1
    · rw [if_neg hm] at h1 ⊢
      obtain ⟨d, d1, d2⟩ := fDef_n hm
      rw [d1, show ((d : Nat) : Int).toNat = d by omega] at h1 ⊢
      obtain ⟨y, hy⟩ : ∃ y, D[d]? = some y := ⟨D[d], List.getElem?_eq_getElem d2⟩
      obtain ⟨p1, p2, p3⟩ := dPs_some hy
      have hl := (hpar d y hy).2.2.2
      by_cases h0 : (dPs D d).length = 0
      · rw [if_pos h0] at h1 ⊢
        cases h1
        have hs' : some (dTy D d) = some s := by rw [← hs]; exact (upd_same _ _ _).symm
        have hs2 := Option.some.inj hs'
        rw [p2] at hs2
        rw [← hs2, if_neg (by omega)]
      · rw [if_neg h0] at h1 ⊢
        by_cases e4 : (t.2.1 e).1 = 4
        · rw [if_pos e4] at h1 ⊢
          cases h1
          have hs' : c.1 e = some s := hs
          rw [hce] at hs'; cases hs'
        · rw [if_neg e4] at h1; cases h1
  · rw [if_neg h34, if_neg h34]
    cases hz : (if (t.2.1 e).1 = 16 then ckC D t c e (t.2.1 e) else (nty lc c.1 (t.2.1 e)).map fun s => (s, c)) with
    | none => exact ⟨fun f hf => hf, fun c1 h1 => (by cases h1)⟩
    | some p =>
      refine ⟨fun f hf => (by cases hf), fun c1 h1 => ?_⟩
      cases h1
      have hup : (sTy p.2 e p.1).1 e = some p.1 := upd_same _ _ _
      refine ⟨fun hn => (by rw [hup] at hn; cases hn), fun s hs => ?_⟩
      rw [hup] at hs; cases hs
      rfl
def frQ (u v : pm_J) : Prop := ∀ c i, ¬ rSTp c i → ¬ (c = 64 ∧ i = 69) → v.1 c i = u.1 c i ∧ v.2 c i = u.2 c i
theorem frQ_t {u v w : pm_J} (h : frQ u v) (h' : frQ v w) : frQ u w := fun c i h1 h2 => ⟨(h' c i h1 h2).1.trans (h c i h1 h2).1, (h' c i h1 h2).2.trans (h c i h1 h2).2⟩
theorem frQ_P {u v : pm_J} (h : frP u v) : frQ u v := fun c i h1 _ => h c i h1
theorem rC_let {T : List Tok} {n : Nat} {D : List Df} {t : Tr} {c : CS} {w : Nat → Option Ty} {u : pm_J} {Y : List Ty} {e di : Nat} {x : Df} (g : pm_s) (hpW : pW T D t) (hx : D[di]? = some x) (H : rC T n D t c w u Y) (he1 : dF D di ≤ e) (he2 : e ≤ x.2.2.2.1) (hw : ∀ j, j ≠ e → c.1 j = w j) :
    ∃ v, (∀ N (k22 : Int32 → Int32 → pm_J → Option (Int32 × pm_J)), K_Md_typeAll_74 N g k22 (ie (di : Nat)) (ie (e : Nat)) u = k22 (ie (di : Nat)) (ie ((e + 1 : Nat) : Int)) v) ∧ rC T n D t c c.1 v Y ∧ frP u v := by
  obtain ⟨h1, h2, h3, h4, h5, h6, h7⟩ := H
  have hdi := (List.getElem?_eq_some_iff.mp hx).1
  obtain ⟨⟨_, _, _, w4, _⟩, _, _, _, w9, w10, ⟨_, _, l24, _⟩, _⟩ := hpW.1 di x hx
  have he : e < t.1 := by omega
  have h18 := h4.2
  have h30 := h3.2
  obtain ⟨_, _, _, _, _, _, _, _, k86, _, k87, _⟩ := h7 e he
  have ok := okn e 2400 (by omega) (by omega)
  have nt := ntn e (by omega)
  have uniq : ∀ (i : Nat) (y : Df), D[i]? = some y → ∀ l : Nat, l < y.2.2.2.2.2.2.1 → y.2.2.2.2.2.2.2.2 l = (e : Nat) → i = di ∧ t.2.2.2.1 e = (l : Nat) := by
    intro i y hy l hl hb
    have hil := (List.getElem?_eq_some_iff.mp hy).1
    obtain ⟨_, _, _, _, _, v10, _⟩ := hpW.1 i y hy
    obtain ⟨e1, e2, e3⟩ := dF_mono hpW hy
    rcases v10 l hl with hh | ⟨e', q1, q2, q3, q4⟩
    · rw [hb] at hh; omega
    · rw [hb] at q1
      have : e' = e := by omega
      subst this
      refine ⟨?_, q4⟩
      by_cases a1 : i < di
      · have := dF_le hpW di (by omega) i y a1 hy; omega
      · by_cases a2 : di < i
        · have := dF_le hpW i (by omega) di x a2 hx; omega
        · omega
  rcases w9 e he1 he2 with hb | ⟨l, l1, l2, l3⟩
  · rw [hb] at k86
    refine ⟨u, fun N k22 => ?_, ⟨h1, h2, h3, h4, h5, fun i y hy => ⟨(h6 i y hy).1, fun l hl => ⟨((h6 i y hy).2 l hl).1, fun b hbb s hs => ?_⟩⟩, h7⟩, frP_r _⟩
    · unfold K_Md_typeAll_74
      rw [if_pos ok, nt, k86, if_pos (show ie (-1) < 0 by decide), iadd1]
    · by_cases hbe : b = e
      · subst hbe
        have := (uniq i y hy l hl hbb).2
        rw [hb] at this; omega
      · rw [hw b hbe] at hs
        exact ((h6 i y hy).2 l hl).2 b hbb s hs
  · rw [l1] at k86
    have e24 : 24 * ie (di : Nat) + ie (l : Nat) = ie ((24 * di + l : Nat) : Int) := by rw [show (24 : Int32) = ie 24 from rfl, ie_mul, ie_add]; rfl
    have hv : ∀ a k, ¬ (a = 100 ∧ k = 24 * di + l) → (wi u 100 (24 * di + l) (u.1 87 e)).1 a k = u.1 a k := fun a k h => wi_ne _ _ _ _ _ _ h
    refine ⟨wi u 100 (24 * di + l) (u.1 87 e), fun N k22 => ?_, ⟨(hv _ _ (by omega)).trans h1, rTk_fr h2 (frP_wi (frP_r u) _ _ _ (by unfold rSTp; omega)) (r5_e (hv _ _ (by omega)) (hv _ _ (by omega))), ⟨(hv _ _ (by omega)).trans h3.1, h3.2⟩, ⟨(hv _ _ (by omega)).trans h4.1, h4.2⟩, tyR_w h5 (hv _ _ (by omega)) (fun a i _ _ => hv _ _ (by omega)), fun i y hy => ⟨?_, fun l' hl' => ?_⟩, fun j hj => ?_⟩, frP_wi (frP_r u) _ _ _ (by unfold rSTp; omega)⟩
    · unfold K_Md_typeAll_74
      rw [if_pos ok, nt, k86, if_neg (show ¬ (ie (l : Nat) < 0) from fun hh => by have := (inlt l 0 (by omega) (by omega)).mp hh; omega), if_pos ok, if_pos ok, e24, if_pos (okn _ 720 (by omega) (by omega)), ntn _ (by omega), iadd1]
    · have := rCd_fr (v := wi u 100 (24 * di + l) (u.1 87 e)) (h6 i y hy).1 [] (fun a k _ _ => hv a k (by omega))
      rw [List.append_nil] at this; exact this
    · obtain ⟨⟨_, _, _, _, _⟩, _, _, _, _, _, ⟨_, _, y24, _⟩, _⟩ := hpW.1 i y hy
      by_cases hi : i = di ∧ l' = l
      · obtain ⟨rfl, rfl⟩ := hi
        rw [hx] at hy; cases hy
        rw [wi_at]
        refine ⟨fun hm => (by rw [l3] at hm; omega), fun b hbb s hs => ?_⟩
        rw [l3] at hbb
        have : b = e := by omega
        subst this
        rw [hs] at k87; exact k87
      · rw [hv _ _ (by omega)]
        refine ⟨((h6 i y hy).2 l' hl').1, fun b hbb s hs => ?_⟩
        by_cases hbe : b = e
        · subst hbe
          obtain ⟨q1, q2⟩ := uniq i y hy l' hl' hbb
          rw [l1] at q2
          exact absurd ⟨q1, by omega⟩ hi
        · rw [hw b hbe] at hs
          exact ((h6 i y hy).2 l' hl').2 b hbb s hs
    · have := rCe_fr (c' := c) (v := wi u 100 (24 * di + l) (u.1 87 e)) (h7 j hj) [] ⟨rfl, rfl, rfl, rfl⟩ (fun a k hk => hv a k (by omega))
      rw [List.append_nil] at this; exact this
theorem ck1_ty {T : List Tok} {D : List Df} {t : Tr} {lc : Lc} {c c1 : CS} {e : Nat} (h : ck1 T D t lc c e = .ok c1) : ∀ j, j ≠ e → c1.1 j = c.1 j := by
  intro j hj
  unfold ck1 at h
  by_cases h34 : (t.2.1 e).1 = 3 ∨ (t.2.1 e).1 = 4
  · rw [if_pos h34] at h
    split at h
    · cases h
    · split at h
      · cases h; exact upd_ne _ _ _ _ hj
      · split at h
        · cases h; rfl
        · cases h
  · rw [if_neg h34] at h
    cases hz : (if (t.2.1 e).1 = 16 then ckC D t c e (t.2.1 e) else (nty lc c.1 (t.2.1 e)).map fun s => (s, c)) with
    | none => rw [hz] at h; cases h
    | some p =>
      rw [hz] at h
      cases h
      have hp : p.2.1 = c.1 := by
        by_cases h16 : (t.2.1 e).1 = 16
        · rw [if_pos h16] at hz
          unfold ckC at hz
          split at hz
          · split at hz
            · cases hz
            · rename_i s hs
              cases ha : apF c.1 s (t.2.1 e).2.2.2.2.2.2 with
              | none => rw [ha] at hz; cases hz
              | some r => rw [ha] at hz; cases hz; rfl
          · rename_i d hd
            split at hz
            · cases hz
            · cases hf : fits c.1 (dPs D d) (t.2.1 e).2.2.2.2.2.2 (fun _ => none) with
              | none => rw [hf] at hz; cases hz
              | some f =>
                rw [hf, Option.bind_some] at hz
                cases hs : sbt f (dTy D d) with
                | none => rw [hs] at hz; cases hz
                | some s =>
                  rw [hs, Option.bind_some] at hz
                  cases ha : apF c.1 s ((t.2.1 e).2.2.2.2.2.2.drop (dPs D d).length) with
                  | none => rw [ha] at hz; cases hz
                  | some r => rw [ha] at hz; cases hz; rfl
        · rw [if_neg h16] at hz
          cases hn : nty lc c.1 (t.2.1 e) with
          | none => rw [hn] at hz; cases hz
          | some s => rw [hn] at hz; cases hz; rfl
      show pu_upd p.2.1 e (some p.1) j = c.1 j
      rw [upd_ne _ _ _ _ hj, hp]
theorem r_ckN {T : List Tok} {n : Nat} {D : List Df} {t : Tr} {di : Nat} {x : Df} (g : pm_s) (hpW : pW T D t) (hx : D[di]? = some x) (hlet : ltI D) (hkT : 2 * kT t ≤ 900) (m : Nat) : ∀ (e : Nat) (c : CS) (u : pm_J) (Y : List Ty), e + m = x.2.2.2.1 + 1 → dF D di ≤ e → rC T n D t (cz c) c.1 u Y → u.1 64 69 = ie (di : Nat) → kI D t (dF D di) e c → Y.length ≤ 1000 + e + 100 * cnt t.2.1 e →
    ∃ (v : pm_J), frP u v ∧ (match ckN T D t x.2.2.2.2.2.2 m e c with
      | .error f => rEr T n f v ∧ ∀ N, 200000 ≤ N → ∀ k2 fuel, m + 1 ≤ fuel → K_Md_typeAll_22 N g k2 fuel (ie (di : Nat)) (ie (e : Nat)) u = some (0, v)
      | .ok c' => ∃ Z, rC T n D t (cz c') c'.1 v (Y ++ Z) ∧ kI D t (dF D di) (x.2.2.2.1 + 1) c' ∧ (Y ++ Z).length ≤ 1000 + (x.2.2.2.1 + 1) + 100 * cnt t.2.1 (x.2.2.2.1 + 1) ∧ ∀ N, 200000 ≤ N → ∀ k2 fuel, m + 1 ≤ fuel → K_Md_typeAll_22 N g k2 fuel (ie (di : Nat)) (ie (e : Nat)) u = K_Md_typeAll_22 N g k2 (fuel - m) (ie (di : Nat)) (ie ((x.2.2.2.1 + 1 : Nat) : Int)) v) := by
  have hdi := (List.getElem?_eq_some_iff.mp hx).1
  have hpar := pW_par hpW
  have hD1 : ∀ (i : Nat) (x : Df), D[i]? = some x → tkK T x.1 = 1 := fun i y hy => (hpW.1 i y hy).1.1
  obtain ⟨⟨_, _, w3, w4, _⟩, w6, _, w8, _, _, ⟨_, _, l24, _⟩, _⟩ := hpW.1 di x hx
  induction m with
  | zero =>
    intro e c u Y he hf H h69 hI hY
    have hee : e = x.2.2.2.1 + 1 := by omega
    subst hee
    exact ⟨u, frP_r _, [], by rw [List.append_nil]; exact H, hI, by rw [List.append_nil]; exact hY, fun N _ k2 fuel _ => rfl⟩
  | succ m ih =>
    intro e c u Y he hf H h69 hI hY
    have h18 := H.2.2.2.1.2
    have h30 := H.2.2.1.2
    have het : e < t.1 := by omega
    have hcm : cnt t.2.1 e ≤ kT t := cnt_mono _ (by omega)
    obtain ⟨v, q, v1, v2, v3⟩ := r_one g H h69 het hx (w6 e hf (by omega)) l24 (fun h4 => w8 e hf (by omega) h4) hD1 hI hpar hlet (by omega)
    have hce := (hI.2.2.2.2 e (Nat.le_refl _)).1
    obtain ⟨ca, cb⟩ := ck_of (T := T) (D := D) (t := t) (lc := x.2.2.2.2.2.2) (c := c) (e := e) hpar hce
    have k96 : u.1 96 di = ie (x.2.2.2.1 : Nat) := ((H.2.2.2.2.2.1 di x hx).1).2.2.2.2.2
    have ok := okn e 2400 (by omega) (by omega)
    have nt := ntn e (by omega)
    have okd := okn di 30 (by omega) (by omega)
    have ntd := ntn di (by omega)
    have st : ∀ N, 200000 ≤ N → ∀ k2 fuel, K_Md_typeAll_22 N g k2 (fuel + 1) (ie (di : Nat)) (ie (e : Nat)) u = if q = 0 then some (0, v) else if v.1 87 e < 0 then K_Md_typeAll_74 N g (K_Md_typeAll_22 N g k2 fuel) (ie (di : Nat)) (ie (e : Nat)) v else if pm_ok (v.1 87 e) 100000 = true then if (v.1 74 ((v.1 87 e).toNatClampNeg)) ≤ 200 then K_Md_typeAll_74 N g (K_Md_typeAll_22 N g k2 fuel) (ie (di : Nat)) (ie (e : Nat)) v else (F_Md_untyped (ie (e : Nat)) g v).bind fun q25 => if (q25.1 == 0 || q25.1 == 1) = true then some (q25.1, q25.2) else none else none := by
      intro N hN k2 fuel
      rw [K_Md_typeAll_22, if_pos okd, ntd, k96, if_neg (fun hh => by have := (inlt _ _ (by omega) (by omega)).mp hh; omega), v1 N hN, Option.bind_some]
      simp only [if_pos ok, nt]
    rw [ckN]
    cases h1 : ck1 T D t x.2.2.2.2.2.2 c e with
    | error f =>
      rw [h1] at v3
      rw [ca f h1]
      refine ⟨v, v2, v3.2, fun N hN k2 fuel hfu => ?_⟩
      obtain ⟨fuel, rfl⟩ : ∃ f', fuel = f' + 1 := ⟨fuel - 1, by omega⟩
      rw [st N hN, v3.1, if_pos rfl]
    | ok c1 =>
      rw [h1] at v3
      obtain ⟨hq, Z, Hv, hZ⟩ := v3
      obtain ⟨cb1, cb2⟩ := cb c1 h1
      have hq0 : ¬ (q = 0) := by rw [hq]; decide
      have k87 := (Hv.2.2.2.2.2.2 e het).2.2.2.2.2.2.2.2.2.2.1
      have k87' : tyN (Y ++ Z) (v.1 87 e) (c1.1 e) := k87
      have hcs : cnt t.2.1 (e + 1) = cnt t.2.1 e + (if (t.2.1 e).1 = 16 then 1 else 0) := rfl
      have hYb : (Y ++ Z).length ≤ 1000 + (e + 1) + 100 * cnt t.2.1 (e + 1) := by
        rw [List.length_append, hcs]
        by_cases e16 : (t.2.1 e).1 = 16
        · rw [if_pos e16] at hZ ⊢; omega
        · rw [if_neg e16] at hZ ⊢; omega
      have go : ck T D t x.2.2.2.2.2.2 c e = .ok c1 → (∀ N, 200000 ≤ N → ∀ k2 fuel, K_Md_typeAll_22 N g k2 (fuel + 1) (ie (di : Nat)) (ie (e : Nat)) u = K_Md_typeAll_74 N g (K_Md_typeAll_22 N g k2 fuel) (ie (di : Nat)) (ie (e : Nat)) v) → ∃ (v : pm_J), frP u v ∧ (match pB (ck T D t x.2.2.2.2.2.2 c e) (fun c' => ckN T D t x.2.2.2.2.2.2 m (e + 1) c') with
          | .error f => rEr T n f v ∧ ∀ N, 200000 ≤ N → ∀ k2 fuel, m + 1 + 1 ≤ fuel → K_Md_typeAll_22 N g k2 fuel (ie (di : Nat)) (ie (e : Nat)) u = some (0, v)
          | .ok c' => ∃ Z, rC T n D t (cz c') c'.1 v (Y ++ Z) ∧ kI D t (dF D di) (x.2.2.2.1 + 1) c' ∧ (Y ++ Z).length ≤ 1000 + (x.2.2.2.1 + 1) + 100 * cnt t.2.1 (x.2.2.2.1 + 1) ∧ ∀ N, 200000 ≤ N → ∀ k2 fuel, m + 1 + 1 ≤ fuel → K_Md_typeAll_22 N g k2 fuel (ie (di : Nat)) (ie (e : Nat)) u = K_Md_typeAll_22 N g k2 (fuel - (m + 1)) (ie (di : Nat)) (ie ((x.2.2.2.1 + 1 : Nat) : Int)) v) := by
        intro hck hst
        obtain ⟨v', y1, y2, y3⟩ := rC_let g hpW hx Hv hf (by omega) (fun j hj => ck1_ty h1 j hj)
        have y2' : rC T n D t (cz c1) c1.1 v' (Y ++ Z) := y2
        obtain ⟨v'', z1, z2⟩ := ih (e + 1) c1 v' (Y ++ Z) (by omega) (by omega) y2' ((y3 64 69 (by unfold rSTp; omega)).1.trans ((v2 64 69 (by unfold rSTp; omega)).1.trans h69)) (kI_next hI hck) hYb
        rw [hck, pB_o]
        refine ⟨v'', frP_t v2 (frP_t y3 z1), ?_⟩
        cases hN2 : ckN T D t x.2.2.2.2.2.2 m (e + 1) c1 with
        | error f =>
          rw [hN2] at z2
          refine ⟨z2.1, fun N hN k2 fuel hfu => ?_⟩
          obtain ⟨fuel, rfl⟩ : ∃ f', fuel = f' + 1 := ⟨fuel - 1, by omega⟩
          rw [hst N hN, y1]; exact z2.2 N hN k2 fuel (by omega)
        | ok c' =>
          rw [hN2] at z2
          obtain ⟨Z', z3, z4, z5, z6⟩ := z2
          refine ⟨Z ++ Z', by rw [← List.append_assoc]; exact z3, z4, by rw [← List.append_assoc]; exact z5, fun N hN k2 fuel hfu => ?_⟩
          obtain ⟨fuel, rfl⟩ : ∃ f', fuel = f' + 1 := ⟨fuel - 1, by omega⟩
          rw [hst N hN, y1, z6 N hN k2 fuel (by omega), show fuel + 1 - (m + 1) = fuel - m by omega]
      cases hce1 : c1.1 e with
      | none =>
        rw [hce1] at k87'
        have k87n : v.1 87 e = ie (-1) := k87'
        refine go (cb1 hce1) (fun N hN k2 fuel => ?_)
        rw [st N hN, if_neg hq0, k87n, if_pos (show ie (-1) < 0 by decide)]
      | some s =>
        rw [hce1] at k87'
        obtain ⟨ks, ks1, ks2⟩ := k87'
        have hksl := (List.getElem?_eq_some_iff.mp ks2).1
        have hRb := Hv.2.2.2.2.1.2.1
        have k74 : v.1 74 ks = ie ((min 1000 (tyL s) : Nat) : Int) := (Hv.2.2.2.2.1.2.2.1 ks s ks2).2.1
        have st2 : ∀ N, 200000 ≤ N → ∀ k2 fuel, K_Md_typeAll_22 N g k2 (fuel + 1) (ie (di : Nat)) (ie (e : Nat)) u = if ie ((min 1000 (tyL s) : Nat) : Int) ≤ 200 then K_Md_typeAll_74 N g (K_Md_typeAll_22 N g k2 fuel) (ie (di : Nat)) (ie (e : Nat)) v else (F_Md_untyped (ie (e : Nat)) g v).bind fun q25 => if (q25.1 == 0 || q25.1 == 1) = true then some (q25.1, q25.2) else none := by
          intro N hN k2 fuel
          rw [st N hN, if_neg hq0, ks1, if_neg (show ¬ (ie (ks : Nat) < 0) from fun hh => by have := (inlt ks 0 (by omega) (by omega)).mp hh; omega), if_pos (okn ks 100000 (by omega) (by omega)), ntn ks (by omega), k74]
        have hcks := cb2 s hce1
        by_cases hl : 200 < tyL s
        · rw [if_pos hl] at hcks
          rw [hcks]
          obtain ⟨vu, vu1, vu2, vu3⟩ := r_untyped g Hv het (w6 e hf (by omega)).1
          refine ⟨vu, frP_t v2 vu3, vu2, fun N hN k2 fuel hfu => ?_⟩
          obtain ⟨fuel, rfl⟩ : ∃ f', fuel = f' + 1 := ⟨fuel - 1, by omega⟩
          rw [st2 N hN, if_neg (show ¬ (ie ((min 1000 (tyL s) : Nat) : Int) ≤ 200) from fun hh => by have := (inle _ 200 (by omega) (by omega)).mp hh; omega), vu1]; rfl
        · rw [if_neg hl] at hcks
          refine go hcks (fun N hN k2 fuel => ?_)
          rw [st2 N hN, if_pos (show ie ((min 1000 (tyL s) : Nat) : Int) ≤ 200 from (inle _ 200 (by omega) (by omega)).mpr (by omega))]
theorem r_ckA {T : List Tok} {n : Nat} {D : List Df} {t : Tr} (g : pm_s) (hpW : pW T D t) (hlet : ltI D) (hkT : 2 * kT t ≤ 900) (R : List Df) : ∀ (i : Nat) (c : CS) (u : pm_J) (Y : List Ty), D.drop i = R → i ≤ D.length → rC T n D t (cz c) c.1 u Y → kI0 D t (dF D i) c → Y.length ≤ 1000 + dF D i + 100 * cnt t.2.1 (dF D i) →
    ∃ (v : pm_J), frQ u v ∧ (match ckA T D t R c with
      | .error f => rEr T n f v ∧ ∀ N, 200000 ≤ N → ∀ fuel, R.length + 1 ≤ fuel → K_Md_typeAll_2 N g fuel (ie (i : Nat)) u = some (0, v)
      | .ok c' => ∃ Z, rC T n D t (cz c') c'.1 v (Y ++ Z) ∧ (Y ++ Z).length ≤ 60000 ∧ ∀ N, 200000 ≤ N → ∀ fuel, R.length + 1 ≤ fuel → K_Md_typeAll_2 N g fuel (ie (i : Nat)) u = some (1, v)) := by
  induction R with
  | nil =>
    intro i c u Y hd hi H hI hY
    have hi' : i = D.length := by
      have := congrArg List.length hd
      rw [List.length_drop, List.length_nil] at this; omega
    subst hi'
    have h30 := H.2.2.1.2
    have h18 := H.2.2.2.1.2
    rw [← hpW.2.1] at hY
    have : cnt t.2.1 t.1 = kT t := rfl
    refine ⟨u, fun _ _ _ _ => ⟨rfl, rfl⟩, [], by rw [List.append_nil]; exact H, by rw [List.append_nil]; omega, fun N hN fuel hf => ?_⟩
    obtain ⟨fuel, rfl⟩ : ∃ f', fuel = f' + 1 := ⟨fuel - 1, by omega⟩
    rw [K_Md_typeAll_2, H.2.2.1.1, if_pos ((inle _ _ (by omega) (by omega)).mpr (Nat.le_refl _))]
  | cons x R ih =>
    intro i c u Y hd hi H hI hY
    have hil : i < D.length := by
      have := congrArg List.length hd
      rw [List.length_drop] at this
      have h2 : (x :: R).length = R.length + 1 := rfl
      omega
    have hRl : (x :: R).length = R.length + 1 := rfl
    have hx : D[i]? = some x := by
      have h1 := List.drop_eq_getElem_cons hil
      rw [h1] at hd
      injection hd with h2 _
      rw [← h2]; exact List.getElem?_eq_getElem hil
    have hdr : D.drop (i + 1) = R := by
      have h1 := List.drop_eq_getElem_cons hil
      rw [h1] at hd
      injection hd
    have h30 := H.2.2.1.2
    have h18 := H.2.2.2.1.2
    obtain ⟨d1, d2, d3⟩ := dF_mono hpW hx
    obtain ⟨⟨w1, w2, w3, w4, w5⟩, _⟩ := hpW.1 i x hx
    have k95 : u.1 95 i = ie (dF D i : Nat) := by rw [((H.2.2.2.2.2.1 i x hx).1).2.2.2.2.1, w2]
    have H0 : rC T n D t (cz c) c.1 (wi u 64 69 (ie (i : Nat))) Y := by
      obtain ⟨g1, g2, g3, g4, g5, g6, g7⟩ := H
      have hv : ∀ a k, ¬ (a = 64 ∧ k = 69) → (wi u 64 69 (ie (i : Nat))).1 a k = u.1 a k := fun a k h => wi_ne _ _ _ _ _ _ h
      obtain ⟨t1, t2, o, t3, t4, t5⟩ := g2
      refine ⟨(hv _ _ (by omega)).trans g1, ⟨rK_fr t1 (hv _ _ (by omega)) (fun a k _ _ => ⟨hv a k (by omega), rfl⟩) (r5_e (hv _ _ (by omega)) (hv _ _ (by omega))), t2, o, t3, ⟨(hv _ _ (by omega)).trans t4.1, fun j hj => (hv _ _ (by omega)).trans (t4.2 j hj)⟩, t5⟩, ⟨(hv _ _ (by omega)).trans g3.1, g3.2⟩, ⟨(hv _ _ (by omega)).trans g4.1, g4.2⟩, tyR_w g5 (hv _ _ (by omega)) (fun a k _ _ => hv _ _ (by omega)), fun j y hy => ?_, fun j hj => ?_⟩
      · have q1 := rCd_fr (v := wi u 64 69 (ie (i : Nat))) (g6 j y hy).1 [] (fun a k _ _ => hv a k (by omega))
        have q2 := rCl_fr (v := wi u 64 69 (ie (i : Nat))) (g6 j y hy).2 [] (fun k => hv _ _ (by omega))
        rw [List.append_nil] at q1 q2; exact ⟨q1, q2⟩
      · have := rCe_fr (c' := cz c) (v := wi u 64 69 (ie (i : Nat))) (g7 j hj) [] ⟨rfl, rfl, rfl, rfl⟩ (fun a k hk => hv a k (by omega))
        rw [List.append_nil] at this; exact this
    have hfq : frQ u (wi u 64 69 (ie (i : Nat))) := fun a k _ h => ⟨wi_ne _ _ _ _ _ _ h, rfl⟩
    obtain ⟨v, v1, v2⟩ := r_ckN g hpW hx hlet hkT (x.2.2.2.1 + 1 - dF D i) (dF D i) c _ Y (by omega) (Nat.le_refl _) H0 (wi_at _ _ _ _) (kI_s hI) hY
    have st : ∀ N fuel, K_Md_typeAll_2 N g (fuel + 1) (ie (i : Nat)) u = K_Md_typeAll_22 N g (K_Md_typeAll_2 N g fuel) N (ie (i : Nat)) (ie (dF D i : Nat)) (wi u 64 69 (ie (i : Nat))) := by
      intro N fuel
      rw [K_Md_typeAll_2, H.2.2.1.1, if_neg (fun hh => by have := (inle _ _ (by omega) (by omega)).mp hh; omega), if_pos (okn i 30 (by omega) (by omega)), ntn i (by omega), k95]
    rw [ckA]
    unfold ckD
    rw [w2]
    cases hck : ckN T D t x.2.2.2.2.2.2 (x.2.2.2.1 + 1 - dF D i) (dF D i) c with
    | error f =>
      rw [hck] at v2
      refine ⟨v, frQ_t hfq (frQ_P v1), v2.1, fun N hN fuel hf => ?_⟩
      obtain ⟨fuel, rfl⟩ : ∃ f', fuel = f' + 1 := ⟨fuel - 1, by omega⟩
      rw [st N fuel]; exact v2.2 N hN _ N (by omega)
    | ok c1 =>
      rw [hck] at v2
      obtain ⟨Z, q5, q6, q7, q8⟩ := v2
      rw [pB_o]
      obtain ⟨s, hs⟩ := q6.2.2.1 x.2.2.2.1 w3 (by omega) w5
      rw [hs]
      have k87 := (q5.2.2.2.2.2.2 x.2.2.2.1 w4).2.2.2.2.2.2.2.2.2.2.1
      have k87' : tyN (Y ++ Z) (v.1 87 x.2.2.2.1) (c1.1 x.2.2.2.1) := k87
      rw [hs] at k87'
      obtain ⟨kr, kr1, kr2⟩ := k87'
      obtain ⟨c91, _, ⟨kt, kt1, kt2⟩, _, _, c96⟩ := (q5.2.2.2.2.2.1 i x hx).1
      have hR := q5.2.2.2.2.1
      have h9 := q5.2.1.1.1.2.1
      have st2 : ∀ N fuel, 200000 ≤ N → K_Md_typeAll_2 N g (fuel + 1) (ie (i : Nat)) u = if ie (kr : Nat) = ie (kt : Nat) then K_Md_typeAll_2 N g fuel (ie ((i + 1 : Nat) : Int)) v else (F_Md_fails 7 (ie (tkP T n x.1 : Nat)) g v).bind fun q11 => if (q11.1 == 0 || q11.1 == 1) = true then some (q11.1, q11.2) else none := by
        intro N fuel hN
        have hx1 : x.1 < T.length := tkK_lt (by rw [w1]; omega)
        rw [st N fuel, q8 N hN _ N (by omega)]
        obtain ⟨M, hM⟩ : ∃ M, N - (x.2.2.2.1 + 1 - dF D i) = M + 1 := ⟨N - (x.2.2.2.1 + 1 - dF D i) - 1, by omega⟩
        rw [hM, K_Md_typeAll_22, if_pos (okn i 30 (by omega) (by omega)), ntn i (by omega), c96, if_pos ((inlt _ _ (by omega) (by omega)).mpr (by omega)), if_pos (okn i 30 (by omega) (by omega)), if_pos (okn x.2.2.2.1 2400 (by omega) (by omega)), if_pos (okn i 30 (by omega) (by omega)), ntn x.2.2.2.1 (by omega), kr1, kt1, if_pos (okn i 30 (by omega) (by omega)), c91, if_pos (okn x.1 902 (by omega) (by omega)), ntn x.1 (by omega), r_plc q5.2.1.1 x.1 (by omega), iadd1]
      show ∃ v, _ ∧ (match pB (if tyQ x.2.2.1 s = true then .ok c1 else .error (7, x.1)) (fun c' => ckA T D t R c') with | .error f => _ | .ok c' => _)
      by_cases heq : x.2.2.1 = s
      · rw [if_pos ((tyQ_eq (tyR_g hR kt _ kt2)).mpr heq), pB_o]
        obtain ⟨v', r1, r2⟩ := ih (i + 1) c1 v (Y ++ Z) hdr (by omega) q5 (by rw [d1]; exact kI_0 q6) (by rw [d1]; exact q7)
        have hkk : ie (kr : Nat) = ie (kt : Nat) := (r_same hR kr kt s x.2.2.1 kr2 kt2).mpr heq.symm
        refine ⟨v', frQ_t hfq (frQ_t (frQ_P v1) r1), ?_⟩
        cases hA : ckA T D t R c1 with
        | error f =>
          rw [hA] at r2
          refine ⟨r2.1, fun N hN fuel hf => ?_⟩
          obtain ⟨fuel, rfl⟩ : ∃ f', fuel = f' + 1 := ⟨fuel - 1, by omega⟩
          rw [st2 N fuel hN, if_pos hkk]; exact r2.2 N hN fuel (by omega)
        | ok c2 =>
          rw [hA] at r2
          obtain ⟨Z', r3, r4, r5⟩ := r2
          refine ⟨Z ++ Z', by rw [← List.append_assoc]; exact r3, by rw [← List.append_assoc]; exact r4, fun N hN fuel hf => ?_⟩
          obtain ⟨fuel, rfl⟩ : ∃ f', fuel = f' + 1 := ⟨fuel - 1, by omega⟩
          rw [st2 N fuel hN, if_pos hkk]; exact r5 N hN fuel (by omega)
      · rw [if_neg (fun hh => heq ((tyQ_eq (tyR_g hR kt _ kt2)).mp hh))]
        refine ⟨rFail v 7 (tkP T n x.1), frQ_t hfq (frQ_t (frQ_P v1) ?_), ?_, fun N hN fuel hf => ?_⟩
        · unfold rFail
          exact frQ_P (frP_wi (frP_wi (frP_r v) _ _ _ (by unfold rSTp; omega)) _ _ _ (by unfold rSTp; omega))
        · unfold rFail
          refine ⟨?_, by show 1 ≤ 7; omega, wi_at _ _ _ _, Y ++ Z, tyR_w hR ?_ (fun a i h1 h2 => ?_)⟩
          · rw [wi_ne _ _ _ _ _ _ (by omega), wi_at]; rfl
          · rw [wi_ne _ _ _ _ _ _ (by omega), wi_ne _ _ _ _ _ _ (by omega)]
          · rw [wi_ne _ _ _ _ _ _ (by omega), wi_ne _ _ _ _ _ _ (by omega)]
        · obtain ⟨fuel, rfl⟩ : ∃ f', fuel = f' + 1 := ⟨fuel - 1, by omega⟩
          rw [st2 N fuel hN, if_neg (fun hh => heq ((r_same hR kr kt s x.2.2.1 kr2 kt2).mp hh).symm), show (7 : Int32) = ie 7 from rfl, r_fails v g 7 _ q5.1, Option.bind_some]; rfl
