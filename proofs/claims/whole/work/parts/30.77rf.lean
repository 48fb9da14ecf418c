set_option maxRecDepth 100000
theorem rvb_c {x : Nd} (h : x.1 = 16) : ie (rvb x) = hdI x.2.2.2.2.2.2 := by
  unfold rvb; rw [if_pos h]
  cases x.2.2.2.2.2.2 with
  | nil => rfl
  | cons a l => rfl
theorem rvn_c {x : Nd} (h : x.1 = 16) : rvn x = x.2.2.2.2.1 := by unfold rvn; rw [if_pos h]
theorem rva_c {x : Nd} (h : 4 < x.1) : rva x = x.2.2.1 := by unfold rva; rw [if_neg (by omega)]
theorem r_row {T : List Tok} {n : Nat} {D : List Df} {t : Tr} {c : CS} {lc : Lc} {w : Nat → Option Ty} {u : pm_J} {Y : List Ty} {e f0 : Nat} (g : pm_s) (H : rC T n D t (cz c) w u Y) (he : e < t.1) (ht : (t.2.1 e).2.1 < T.length) (h16 : (t.2.1 e).1 = 16) (hC : nC (lc, t) f0 e (t.2.1 e)) (hI : kI D t f0 e c) (hpar : parI D) (hlet : ltI D) (hY : Y.length ≤ 60000) :
    ∃ (v : pm_J) (q : Int32), (∀ N, 200000 ≤ N → F_Md_typeRow N (ie (e : Nat)) g u = some (q, v)) ∧ frP u v ∧ (match ckC D t c e (t.2.1 e) with
      | none => q = 0 ∧ rEr T n (7, (t.2.1 e).2.1) v
      | some p => q = 1 ∧ ∃ Z : List Ty, rC T n D t (cz (sTy p.2 e p.1)) w v (Y ++ Z) ∧ Z.length ≤ 99) := by
  obtain ⟨b1, b2, b3, b4, b5, b6, b7, b8, b9, b10, b11⟩ := hC
  obtain ⟨i1, i2, i3, i4, i5⟩ := hI
  have b1' : 0 ≤ (t.2.1 e).2.2.1 := b1
  obtain ⟨h, hh⟩ : ∃ h : Nat, (t.2.1 e).2.2.1 = h := ⟨(t.2.1 e).2.2.1.toNat, by omega⟩
  have htn : (t.2.1 e).2.2.1.toNat = h := by omega
  have hrow : row (t.2.1 e) = h :: (t.2.1 e).2.2.2.2.2.2 := by rw [row_c h16, htn]
  have b3' : ∀ a ∈ h :: (t.2.1 e).2.2.2.2.2.2, f0 ≤ a ∧ a < e := fun a ha => b3 a (by show a ∈ row (t.2.1 e); rw [hrow]; exact ha)
  have b10' : t.2.2.2.2.1 h = true → (t.2.1 h).1 = 2 ∨ (t.2.1 h).1 = 4 := by
    have := b10; rw [show ((lc, t) : YT).2 = t from rfl, htn] at this; exact this
  have b11' : t.2.2.2.2.1 h = false → (t.2.1 h).1 ≠ 4 := by
    have := b11; rw [show ((lc, t) : YT).2 = t from rfl, htn] at this; exact this
  have b9' : cn t.2.2.2.2.2 (t.2.1 e).2.2.2.2.2.2 := b9
  have b5' : (t.2.1 e).2.2.2.2.1 = ((t.2.1 e).2.2.2.2.2.2.length : Nat) := b5
  have b4' : ∀ a ∈ (t.2.1 e).2.2.2.2.2.2, (t.2.1 a).1 ≠ 4 := b4
  clear b1 b2 b3 b4 b5 b8 b9 b10 b11
  have hhr := b3' h List.mem_cons_self
  have h18 := H.2.2.2.1.2
  have h30 := H.2.2.1.2
  obtain ⟨k77, k78, k79, k80, _, _, _, k84, _⟩ := H.2.2.2.2.2.2 e he
  rw [rva_c (by omega), hh] at k79
  rw [rvb_c h16] at k80
  rw [rvn_c h16, b5'] at k84
  have hvn : rvn (t.2.1 e) = ((t.2.1 e).2.2.2.2.2.2.length : Nat) := by rw [rvn_c h16, b5']
  obtain ⟨_, _, _, _, _, _, _, _, _, m112, m87, m88, _⟩ := H.2.2.2.2.2.2 h (by omega)
  have okE := okn e 2400 (by omega) (by omega)
  have ntE := ntn e (by omega)
  have okH := okn h 2400 (by omega) (by omega)
  have ntH := ntn h (by omega)
  have hat : ∀ a ∈ (t.2.1 e).2.2.2.2.2.2, a < e ∧ ∃ s, c.1 a = some s := fun a ha => by
    have hr := b3' a (List.mem_cons_of_mem _ ha)
    exact ⟨hr.2, i3 a hr.1 hr.2 (b4' a ha)⟩
  have hun : ∀ N, F_Md_typeRow N (ie (e : Nat)) g u = if ib (t.2.2.2.2.1 h) = 0 then K_Md_typeRow_26 N g (ie (e : Nat)) (ie (h : Nat)) (-1) u else K_Md_typeRow_26 N g (ie (e : Nat)) (ie (h : Nat)) (ie (oI (c.2.1 h))) u := by
    intro N
    unfold F_Md_typeRow
    have m88' : u.1 88 h = ie (oI (c.2.1 h)) := m88
    rw [if_pos okE, ntE, k79, if_pos okH, ntH, m112, if_pos okH, m88']
  have dfn := (i5 e (Nat.le_refl _)).2.1
  have upid : pu_upd c.2.1 e none = c.2.1 := by
    funext j; by_cases ej : j = e
    · rw [ej, upd_same, dfn]
    · rw [upd_ne _ _ _ _ ej]
  unfold ckC
  rw [htn]
  have plain : calD D t c h = none → (∃ s, c.1 h = some s) → (∃ x3 : Int32, ∀ N, F_Md_typeRow N (ie (e : Nat)) g u = K_Md_typeRow_58 N g (ie (e : Nat)) (ie (h : Nat)) x3 0 (-1) (ie (e : Nat)) u) → ∃ (v : pm_J) (q : Int32), (∀ N, 200000 ≤ N → F_Md_typeRow N (ie (e : Nat)) g u = some (q, v)) ∧ frP u v ∧ (match (match calD D t c h with
      | none => (match c.1 h with
        | none => none
        | some s => (apF c.1 s (t.2.1 e).2.2.2.2.2.2).map fun r => (r, c))
      | some d => if (t.2.1 e).2.2.2.2.2.2.length < (dPs D d).length then none else (fits c.1 (dPs D d) (t.2.1 e).2.2.2.2.2.2 (fun _ => none)).bind fun f => (sbt f (dTy D d)).bind fun s => (apF c.1 s ((t.2.1 e).2.2.2.2.2.2.drop (dPs D d).length)).map fun r => (r, (c.1, pu_upd c.2.1 e (some d), pu_upd c.2.2.1 e f, shs D t c (dPs D d) (t.2.1 e).2.2.2.2.2.2 c.2.2.2))) with
      | none => q = 0 ∧ rEr T n (7, (t.2.1 e).2.1) v
      | some p => q = 1 ∧ ∃ Z : List Ty, rC T n D t (cz (sTy p.2 e p.1)) w v (Y ++ Z) ∧ Z.length ≤ 99) := by
    rintro hcal ⟨s, hs⟩ ⟨x3, hx3⟩
    have H1 : rC T n D t (cz c) w (wi u 88 e (-1)) Y := by
      have := rC_df H he none
      have h2 : ((cz c).1, pu_upd (cz c).2.1 e none, (cz c).2.2) = cz c := by
        show (c.1, pu_upd c.2.1 e none, c.2.2.1, fun _ => false) = cz c
        rw [upid]; rfl
      rw [h2] at this; exact this
    have m87' : tyN Y ((wi u 88 e (-1)).1 87 h) (some s) := by
      have := (H1.2.2.2.2.2.2 h (by omega)).2.2.2.2.2.2.2.2.2.2.1
      rw [show (cz c).1 h = c.1 h from rfl, hs] at this; exact this
    have H2 := rC_ty H1 he _ (some s) m87'
    obtain ⟨v, q, v1, v2, v3⟩ := r_apF g he ht _ b7 hvn (t.2.1 e).2.2.2.2.2.2 s 0 _ _ (Nat.zero_add _) (upd_same _ _ _) b9' (fun a ha => by
      obtain ⟨q1, q2⟩ := hat a ha
      exact ⟨q1, by show ∃ s', pu_upd c.1 e (some s) a = some s'; rw [upd_ne _ _ _ _ (by omega)]; exact q2⟩) H2
    refine ⟨v, q, fun N hN => ?_, frP_t (frP_wi (frP_wi (frP_r u) 88 e (-1) (by unfold rSTp; omega)) 87 e _ (by unfold rSTp; omega)) v2, ?_⟩
    · rw [hx3 N]
      unfold K_Md_typeRow_58
      obtain ⟨M, hM⟩ : ∃ M, N = M + 1 := ⟨N - 1, by omega⟩
      rw [if_pos okE, if_pos okE, ntE, k84, if_pos (show (0 : Int32) ≤ ie ((t.2.1 e).2.2.2.2.2.2.length : Nat) from (inle 0 _ (by omega) (by omega)).mpr (by omega)), if_pos okE, k80]
      rw [show K_Md_typeRow_87 N g N = K_Md_typeRow_87 N g (M + 1) by rw [← hM]]
      rw [K_Md_typeRow_87, if_pos (show (0 : Int32) ≤ 0 by decide), if_pos (show (0 : Int32) ≤ 0 by decide), if_pos okH, if_pos okE, ntE, ntH]
      exact v1 N N (by omega)
    · rw [hcal, hs]
      have hcg : apF (pu_upd c.1 e (some s)) s (t.2.1 e).2.2.2.2.2.2 = apF c.1 s (t.2.1 e).2.2.2.2.2.2 := apF_cg _ _ (fun a ha => upd_ne _ _ _ _ (by have := (hat a ha).1; omega))
      have v3' : match apF (pu_upd c.1 e (some s)) s (t.2.1 e).2.2.2.2.2.2 with
        | none => q = 0 ∧ rEr T n (7, (t.2.1 e).2.1) v
        | some r => q = 1 ∧ rC T n D t (pu_upd (pu_upd c.1 e (some s)) e (some r), (cz c).2) w v Y := v3
      rw [hcg] at v3'
      show match (apF c.1 s (t.2.1 e).2.2.2.2.2.2).map fun r => (r, c) with | none => _ | some p => _
      cases hap : apF c.1 s (t.2.1 e).2.2.2.2.2.2 with
      | none => rw [hap] at v3'; exact v3'
      | some r =>
        rw [hap] at v3'
        refine ⟨v3'.1, [], ?_, Nat.zero_le _⟩
        have h2 : pu_upd (pu_upd c.1 e (some s)) e (some r) = pu_upd c.1 e (some r) := by
          funext j; by_cases ej : j = e
          · rw [ej, upd_same, upd_same]
          · rw [upd_ne _ _ _ _ ej, upd_ne _ _ _ _ ej, upd_ne _ _ _ _ ej]
        have := v3'.2
        rw [h2] at this; rw [List.append_nil]; exact this
  have k26m : ∀ N, K_Md_typeRow_26 N g (ie (e : Nat)) (ie (h : Nat)) (-1) u = K_Md_typeRow_58 N g (ie (e : Nat)) (ie (h : Nat)) (-1) 0 (-1) (ie (e : Nat)) u := by
    intro N
    unfold K_Md_typeRow_26 K_Md_typeRow_41
    rw [if_pos (show (-1 : Int32) < 0 by decide), if_pos (show (0 : Int32) ≤ 0 by decide)]
  by_cases h4 : (t.2.1 h).1 = 4
  · obtain ⟨d, hd1, hd2⟩ := i4 h hhr.1 hhr.2 h4
    have hrt : t.2.2.2.2.1 h = true := by
      cases hb : t.2.2.2.2.1 h with
      | true => rfl
      | false => exact absurd h4 (b11' hb)
    have hdl := i1 h d hd1
    obtain ⟨x, hx⟩ : ∃ x, D[d]? = some x := ⟨D[d], List.getElem?_eq_getElem hdl⟩
    obtain ⟨p1, p2, p3⟩ := dPs_some hx
    have hp6 := (hpar d x hx).1
    have h92 : u.1 92 d = ie (x.2.1.length : Nat) := ((H.2.2.2.2.2.1 d x hx).1.2.1).1
    have k26 : ∀ N, F_Md_typeRow N (ie (e : Nat)) g u = K_Md_typeRow_41 N g (ie (e : Nat)) (ie (h : Nat)) (ie (d : Nat)) (ie ((dPs D d).length : Nat)) u := by
      intro N
      rw [hun N, hrt, if_neg (show ¬ (ib true = 0) by decide), hd1]
      show K_Md_typeRow_26 N g (ie (e : Nat)) (ie (h : Nat)) (ie (d : Nat)) u = _
      unfold K_Md_typeRow_26
      rw [if_neg (show ¬ (ie (d : Nat) < 0) from fun hh => by have := (inlt d 0 (by omega) (by omega)).mp hh; omega), if_pos (okn d 30 (by omega) (by omega)), ntn d (by omega), h92, p3]
    by_cases h0 : (dPs D d).length = 0
    · refine plain (by unfold calD; rw [if_pos h4, hd1]; show (if (dPs D d).length = 0 then none else some d) = none; rw [if_pos h0]) (hd2 h0) ⟨ie (d : Nat), fun N => ?_⟩
      rw [k26 N, h0]
      unfold K_Md_typeRow_41
      rw [if_pos (show ie ((0 : Nat) : Int) ≤ 0 by decide)]; rfl
    · have hcal : calD D t c h = some d := by unfold calD; rw [if_pos h4, hd1]; show (if (dPs D d).length = 0 then none else some d) = some d; rw [if_neg h0]
      rw [hcal]
      show ∃ v q, _ ∧ _ ∧ (match (if (t.2.1 e).2.2.2.2.2.2.length < (dPs D d).length then none else (fits c.1 (dPs D d) (t.2.1 e).2.2.2.2.2.2 (fun _ => none)).bind fun f => (sbt f (dTy D d)).bind fun s => (apF c.1 s ((t.2.1 e).2.2.2.2.2.2.drop (dPs D d).length)).map fun r => (r, (c.1, pu_upd c.2.1 e (some d), pu_upd c.2.2.1 e f, shs D t c (dPs D d) (t.2.1 e).2.2.2.2.2.2 c.2.2.2))) with | none => _ | some p => _)
      have H1 : rC T n D t (c.1, pu_upd c.2.1 e (some d), c.2.2.1, fun _ => false) w (wi u 88 e (ie (d : Nat))) Y := rC_df H he (some d)
      have hfr1 : frP u (wi u 88 e (ie (d : Nat))) := frP_wi (frP_r u) _ _ _ (by unfold rSTp; omega)
      have k58 : ∀ N, F_Md_typeRow N (ie (e : Nat)) g u = if ie ((dPs D d).length : Nat) ≤ ie ((t.2.1 e).2.2.2.2.2.2.length : Nat) then K_Md_typeRow_87 N g N (ie (e : Nat)) (ie (h : Nat)) (ie (d : Nat)) (ie ((dPs D d).length : Nat)) (hdI (t.2.1 e).2.2.2.2.2.2) 0 (wi u 88 e (ie (d : Nat))) else (F_Md_untyped (ie (e : Nat)) g (wi u 88 e (ie (d : Nat)))).bind fun q42 => if (q42.1 == 0 || q42.1 == 1) = true then some (q42.1, q42.2) else none := by
        intro N
        rw [k26 N]
        unfold K_Md_typeRow_41 K_Md_typeRow_58
        rw [if_neg (show ¬ (ie ((dPs D d).length : Nat) ≤ 0) from fun hh => by have := (inle _ 0 (by omega) (by omega)).mp hh; omega), if_pos okE, if_pos okE, ntE, k84, if_pos okE, k80]
      by_cases hsh : (t.2.1 e).2.2.2.2.2.2.length < (dPs D d).length
      · rw [if_pos hsh]
        obtain ⟨vu, vu1, vu2, vu3⟩ := r_untyped g H1 he ht
        refine ⟨vu, 0, fun N _ => ?_, frP_t hfr1 vu3, rfl, vu2⟩
        rw [k58 N, if_neg (fun hh => by have := (inle _ _ (by omega) (by omega)).mp hh; omega), vu1]; rfl
      · rw [if_neg hsh]
        obtain ⟨v1, f1, m1⟩ := r_fitsL g he ht hx hpar h30 h0 (ie (h : Nat)) (dPs D d).length 0 (t.2.1 e).2.2.2.2.2.2 (c.1, pu_upd c.2.1 e (some d), c.2.2.1, fun _ => false) _ (Nat.zero_add _) (by omega) b9' hat H1
        rw [List.drop_zero] at m1
        have m1' : match fits c.1 (dPs D d) (t.2.1 e).2.2.2.2.2.2 (c.2.2.1 e) with
          | none => rEr T n (7, (t.2.1 e).2.1) v1 ∧ ∀ N f, 1000 ≤ N → (dPs D d).length + 1 ≤ f → K_Md_typeRow_87 N g f (ie (e : Nat)) (ie (h : Nat)) (ie (d : Nat)) (ie ((dPs D d).length : Nat)) (hdI (t.2.1 e).2.2.2.2.2.2) (ie ((0 : Nat) : Int)) (wi u 88 e (ie (d : Nat))) = some (0, v1)
          | some f' => rC T n D t (sFt (c.1, pu_upd c.2.1 e (some d), c.2.2.1, fun _ => false) e f') w v1 Y ∧ cn t.2.2.2.2.2 ((t.2.1 e).2.2.2.2.2.2.drop (dPs D d).length) ∧ ∀ N f, 1000 ≤ N → (dPs D d).length + 1 ≤ f → K_Md_typeRow_87 N g f (ie (e : Nat)) (ie (h : Nat)) (ie (d : Nat)) (ie ((dPs D d).length : Nat)) (hdI (t.2.1 e).2.2.2.2.2.2) (ie ((0 : Nat) : Int)) (wi u 88 e (ie (d : Nat))) = (F_Md_filled N (v1.1 93 d) (ie (e : Nat)) g v1).bind fun q33 => if pm_ok (ie (e : Nat)) 2400 = true then K_Md_typeRow_177 N g N (ie (e : Nat)) (hdI ((t.2.1 e).2.2.2.2.2.2.drop (dPs D d).length)) (ie ((dPs D d).length : Nat)) (wi q33.2 87 e q33.1) else none := m1
        rw [(i5 e (Nat.le_refl _)).2.2] at m1'
        have kle : ie ((dPs D d).length : Nat) ≤ ie ((t.2.1 e).2.2.2.2.2.2.length : Nat) := (inle _ _ (by omega) (by omega)).mpr (by omega)
        cases hfi : fits c.1 (dPs D d) (t.2.1 e).2.2.2.2.2.2 (fun _ => none) with
        | none =>
          rw [hfi] at m1'
          refine ⟨v1, 0, fun N hN => ?_, frP_t hfr1 f1, rfl, m1'.1⟩
          rw [k58 N, if_pos kle]; exact m1'.2 N N (by omega) (by omega)
        | some f =>
          rw [hfi] at m1'
          obtain ⟨H2, hcn2, hst⟩ := m1'
          obtain ⟨kt, kt1, kt2⟩ := (H2.2.2.2.2.2.1 d x hx).1.2.2.1
          obtain ⟨s, hs⟩ := sbt_some hlet hx (tyR_g H2.2.2.2.2.1 kt _ kt2) hfi
          have hfe : (sFt (c.1, pu_upd c.2.1 e (some d), c.2.2.1, fun _ => false) e f).2.2.1 e = f := upd_same _ _ _
          have hs' := hs
          rw [p2] at hs'
          obtain ⟨zz, v2, Z, x1, x2, x3, x4, x5⟩ := r_filled g he H2 kt2 (by rw [hfe]; exact hs') (hpar d x hx).2.2.2 hY
          have H3 := rC_ty x2 he (ie (zz : Nat)) (some s) ⟨zz, rfl, x4⟩
          obtain ⟨v3, q, y1, y2, y3⟩ := r_apF g he ht _ b7 hvn ((t.2.1 e).2.2.2.2.2.2.drop (dPs D d).length) s (dPs D d).length _ _ (by rw [List.length_drop]; omega) (upd_same _ _ _) hcn2 (fun a ha => by
            obtain ⟨q1, q2⟩ := hat a (List.mem_of_mem_drop ha)
            exact ⟨q1, by show ∃ s', pu_upd c.1 e (some s) a = some s'; rw [upd_ne _ _ _ _ (by omega)]; exact q2⟩) H3
          refine ⟨v3, q, fun N hN => ?_, frP_t (frP_t (frP_t hfr1 f1) (frP_wi x3 87 e (ie (zz : Nat)) (by unfold rSTp; omega))) y2, ?_⟩
          · have hst' := hst N N (by omega) (by omega)
            have hst'' : K_Md_typeRow_87 N g N (ie (e : Nat)) (ie (h : Nat)) (ie (d : Nat)) (ie ((dPs D d).length : Nat)) (hdI (t.2.1 e).2.2.2.2.2.2) 0 (wi u 88 e (ie (d : Nat))) = _ := hst'
            rw [k58 N, if_pos kle, hst'', kt1, x1 N hN, Option.bind_some, if_pos okE]
            exact y1 N N (by rw [List.length_drop]; omega)
          · have hcg : apF (pu_upd c.1 e (some s)) s ((t.2.1 e).2.2.2.2.2.2.drop (dPs D d).length) = apF c.1 s ((t.2.1 e).2.2.2.2.2.2.drop (dPs D d).length) := apF_cg _ _ (fun a ha => upd_ne _ _ _ _ (by have := (hat a (List.mem_of_mem_drop ha)).1; omega))
            have y3' : match apF (pu_upd c.1 e (some s)) s ((t.2.1 e).2.2.2.2.2.2.drop (dPs D d).length) with
              | none => q = 0 ∧ rEr T n (7, (t.2.1 e).2.1) v3
              | some r => q = 1 ∧ rC T n D t (pu_upd (pu_upd c.1 e (some s)) e (some r), pu_upd c.2.1 e (some d), pu_upd c.2.2.1 e f, fun _ => false) w v3 (Y ++ Z) := y3
            rw [hcg] at y3'
            rw [Option.bind_some, hs, Option.bind_some]
            cases hap : apF c.1 s ((t.2.1 e).2.2.2.2.2.2.drop (dPs D d).length) with
            | none => rw [hap] at y3'; exact y3'
            | some r =>
              rw [hap] at y3'
              refine ⟨y3'.1, Z, ?_, x5⟩
              have h2 : pu_upd (pu_upd c.1 e (some s)) e (some r) = pu_upd c.1 e (some r) := by
                funext j; by_cases ej : j = e
                · rw [ej, upd_same, upd_same]
                · rw [upd_ne _ _ _ _ ej, upd_ne _ _ _ _ ej, upd_ne _ _ _ _ ej]
              have := y3'.2
              rw [h2] at this; exact this
  · have hcal : calD D t c h = none := by unfold calD; rw [if_neg h4]
    refine plain hcal (i3 h hhr.1 hhr.2 h4) ⟨-1, fun N => ?_⟩
    rw [hun N]
    cases hb : t.2.2.2.2.1 h with
    | false => rw [if_pos (show ib false = 0 from rfl)]; exact k26m N
    | true =>
      rw [if_neg (show ¬ (ib true = 0) by decide)]
      have k2 : (t.2.1 h).1 = 2 := by rcases b10' hb with hh | hh; exact hh; exact absurd hh h4
      have hdf : c.2.1 h = none := by
        cases hdf : c.2.1 h with
        | none => rfl
        | some d => rcases i2 h d hdf with ⟨q, _⟩ | q | ⟨q, _⟩ <;> omega
      rw [hdf]; exact k26m N
