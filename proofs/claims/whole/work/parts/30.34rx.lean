set_option maxRecDepth 100000
theorem r_part {T : List Tok} {n : Nat} {g : pm_s} {fl dp : Nat} (hG : tkG T) (pr : Nat → Nat → PE PT) (hT : pAt T pr) (hd20 : dp ≤ 20) (ih : rIH T n g fl dp pr) (j : Nat) : j ≤ 8 → ∀ (a c h qt : Nat) (u : pm_J) (Y : List Ty), rT T n a c dp (h + 1) qt u Y → u.1 105 h = ie 4 → u.1 106 h = ie ((8 - j : Nat) : Int) → fl ≤ h → h + 20 * (21 - dp) + 2 * j ≤ 5897 → qt ≤ c → c ≤ 100 → a ≤ T.length → Y.length + (T.length - a) ≤ 60000 → rtP T n g fl a dp h qt u Y (pPart pr T j a c) := by
  have main : ∀ j, j ≤ 8 → (∀ j', j' + 1 = j → ∀ (a c h qt : Nat) (u : pm_J) (Y : List Ty), rT T n a c dp (h + 1) qt u Y → u.1 105 h = ie 4 → u.1 106 h = ie ((8 - j' : Nat) : Int) → fl ≤ h → h + 20 * (21 - dp) + 2 * j' ≤ 5897 → qt ≤ c → c ≤ 100 → a ≤ T.length → Y.length + (T.length - a) ≤ 60000 → rtP T n g fl a dp h qt u Y (pPart pr T j' a c)) →
      ∀ (a c h qt : Nat) (u : pm_J) (Y : List Ty), rT T n a c dp (h + 1) qt u Y → u.1 105 h = ie 4 → u.1 106 h = ie ((8 - j : Nat) : Int) → fl ≤ h → h + 20 * (21 - dp) + 2 * j ≤ 5897 → qt ≤ c → c ≤ 100 → a ≤ T.length → Y.length + (T.length - a) ≤ 60000 → rtP T n g fl a dp h qt u Y (pPart pr T j a c) := by
    intro j hj hp a c h qt u Y H h4 h6 hfl hh hq hc ha hY
    have h9 := H.2.2.1.1.2.1
    have H0 := rT_pop H
    have fr0 : fr (rS_T h qt) u (wi u 64 56 (ie h)) := frR_wi _ _ _ (by omega) (fr_refl _ _)
    have k5 : ((wi u 64 56 (ie h)).1 66 a = 2) ↔ tkK T a = 5 := r_kq hG H0.2.2.1 a ha 5 (by omega)
    have k6 : ((wi u 64 56 (ie h)).1 66 a = 3) ↔ tkK T a = 6 := r_kq hG H0.2.2.1 a ha 6 (by omega)
    have k4 : ((wi u 64 56 (ie h)).1 66 a = 14) ↔ tkK T a = 4 := r_kq hG H0.2.2.1 a ha 4 (by omega)
    have k15 : ((wi u 64 56 (ie h)).1 66 a = 15) ↔ tkK T a = 15 := r_kq hG H0.2.2.1 a ha 15 (by omega)
    have hb : ∀ N, F_Md_typeTask N (ie 4) (ie ((8 - j : Nat) : Int)) g (wi u 64 56 (ie h)) = (if tkK T a = 5 then K_Md_typeTask_215 N g (ie ((8 - j : Nat) : Int)) (wi u 64 56 (ie h)) else if tkK T a = 6 then K_Md_typeTask_215 N g (ie ((8 - j : Nat) : Int)) (wi u 64 56 (ie h)) else if tkK T a = 4 then K_Md_typeTask_215 N g (ie ((8 - j : Nat) : Int)) (wi u 64 56 (ie h)) else if tkK T a = 15 then (F_Md_later 5 (ie ((8 - j : Nat) : Int)) 0 g (wi (wi u 64 56 (ie h)) 64 51 (ie ((a + 1 : Nat) : Int)))).bind fun q35 => (F_Md_later 7 0 0 g q35).bind fun q36 => (F_Md_later 1 0 0 g q36).bind fun q37 => some q37 else (F_Md_stop 2 (ie a) g (wi u 64 56 (ie h))).bind fun q34 => some q34) := by
      intro N
      rw [tt4, H0.2.2.2.1, ntn a (by omega)]
      simp only [k4, k5, k6, k15, okn a 902 (by omega) (by omega), if_true, iadd1]
    have heq : ∀ v, (∀ N, 200000 ≤ N → F_Md_typeTask N (ie 4) (ie ((8 - j : Nat) : Int)) g (wi u 64 56 (ie h)) = some v) → rEq g fl u v := fun v hv => rEq_ty (k := 4) H.1 H.2.2.2.2.2.2.1 hfl (by omega) h4 (by omega) h6 200000 hv
    rw [pPart_eq]
    by_cases eL : tkK T a = 5 ∨ tkK T a = 6 ∨ tkK T a = 4
    · -- a BASE that is a single TOKEN
      have hlt := tkK_lt (show tkK T a ≠ 0 by omega)
      have hb2 : ∀ N, F_Md_typeTask N (ie 4) (ie ((8 - j : Nat) : Int)) g (wi u 64 56 (ie h)) = K_Md_typeTask_215 N g (ie ((8 - j : Nat) : Int)) (wi u 64 56 (ie h)) := by
        intro N; rw [hb N]
        by_cases e5 : tkK T a = 5
        · rw [if_pos e5]
        · rw [if_neg e5]
          by_cases e6 : tkK T a = 6
          · rw [if_pos e6]
          · rw [if_neg e6, if_pos (by omega)]
      generalize hm : (if tkK T a = 5 then 0 else if tkK T a = 6 then 1 else 2 + (tkV T a).toInt.toNat) = m
      have hm6 : m < 6 := by
        rw [← hm]
        by_cases e5 : tkK T a = 5
        · rw [if_pos e5]; omega
        · rw [if_neg e5]
          by_cases e6 : tkK T a = 6
          · rw [if_pos e6]; omega
          · rw [if_neg e6]
            obtain ⟨l, l4, hv⟩ := hG.2 a (by omega)
            rw [hv, je_nat l l4]; omega
      have leaf : ∀ (w : pm_J), (∀ i, w.1 66 i = (wi u 64 56 (ie h)).1 66 i) → (∀ i, w.2 69 i = u.2 69 i) → w.1 64 51 = ie a → w.1 64 63 = ie c → w.1 64 60 = ie qt → w.1 64 56 = ie h → ∀ N, K_Md_typeTask_233 N g (ie ((8 - j : Nat) : Int)) w = some (rL (wi (rGv (wi w 64 63 (ie ((c + 1 : Nat) : Int))) qt m) 64 51 (ie ((a + 1 : Nat) : Int))) h 5 ((8 - j : Nat) : Int) 0) := by
        intro w w66 w69 w51 w63 w60 w56 N
        have fin : ∀ x : Int32, x = ie (m : Nat) → K_Md_typeTask_290 N g (ie ((8 - j : Nat) : Int)) x (wi w 64 63 (ie ((c + 1 : Nat) : Int))) = some (rL (wi (rGv (wi w 64 63 (ie ((c + 1 : Nat) : Int))) qt m) 64 51 (ie ((a + 1 : Nat) : Int))) h 5 ((8 - j : Nat) : Int) 0) := by
          rintro x rfl
          unfold K_Md_typeTask_290
          have e60 : (wi w 64 63 (ie ((c + 1 : Nat) : Int))).1 64 60 = ie qt := w60
          rw [r_give g qt e60 (by omega) m, Option.bind_some]
          have e51 : (rGv (wi w 64 63 (ie ((c + 1 : Nat) : Int))) qt m).1 64 51 = ie a := w51
          rw [e51, iadd1]
          have e56 : (wi (rGv (wi w 64 63 (ie ((c + 1 : Nat) : Int))) qt m) 64 51 (ie ((a + 1 : Nat) : Int))).1 64 56 = ie h := w56
          have l1 := r_later' g h e56 (by omega) 5 ((8 - j : Nat) : Int) 0
          have l1' : F_Md_later 5 (ie ((8 - j : Nat) : Int)) 0 g (wi (rGv (wi w 64 63 (ie ((c + 1 : Nat) : Int))) qt m) 64 51 (ie ((a + 1 : Nat) : Int))) = _ := l1
          rw [l1', Option.bind_some]
        unfold K_Md_typeTask_233
        rw [w51, ntn a (by omega), w66, w63, iadd1]
        simp only [k5, k6, okn a 902 (by omega) (by omega), if_true]
        by_cases e5 : tkK T a = 5
        · rw [if_pos e5]
          exact fin 0 (by rw [← hm, if_pos e5]; rfl)
        · rw [if_neg e5]
          by_cases e6 : tkK T a = 6
          · rw [if_pos e6]
            exact fin 1 (by rw [← hm, if_neg e5, if_pos e6]; rfl)
          · rw [if_neg e6]
            obtain ⟨l, l4, hv⟩ := hG.2 a (by omega)
            obtain ⟨t, ht⟩ : ∃ t, T[a]? = some t := ⟨T[a], List.getElem?_eq_getElem hlt⟩
            have hv' : t.2.2.2 = je l := by unfold tkV at hv; rw [ht] at hv; exact hv
            have hk' : t.1 = 4 := by
              have : tkK T a = 4 := by omega
              unfold tkK at this; rw [ht] at this; exact this
            have e69 : w.2 69 a = je l := by
              rw [w69, (H.2.2.1.1.2.2 a t ht).2.2.2, hk', hv']; rfl
            refine fin _ ?_
            show (2 : Int32) + ((wi w 64 63 (ie ((c + 1 : Nat) : Int))).2 69 a).toInt32 = _
            have e69' : (wi w 64 63 (ie ((c + 1 : Nat) : Int))).2 69 a = je l := e69
            rw [e69', je_ie _ (by omega) (by omega), ← hm, if_neg e5, if_neg e6, hv, je_nat l l4, show (2 : Int32) = ie 2 from rfl, ie_add]; rfl
      have hpb : pBase pr T a c = if c = 100 then .error (4, a) else .ok (.num m, a + 1, c + 1) := by
        unfold pBase; rw [if_pos eL, hm]
      rw [hpb]
      by_cases hc1 : c = 100
      · rw [if_pos hc1, pB_e]
        have hs := r_stop g H0.2.2.1 H0.2.1 4 a ha
        have hs' : F_Md_stop 4 (ie a) g (wi u 64 56 (ie h)) = some (rStop (wi u 64 56 (ie h)) 4 (tkP T n a)) := hs
        have hx := rX_stop H0 (by omega) 4 a (by omega)
        have hl := leaf (rStop (wi u 64 56 (ie h)) 4 (tkP T n a)) (fun _ => rfl) (fun _ => rfl) H0.2.2.2.1 H0.2.2.2.2.1 H0.2.2.2.2.2.2.2.1 rfl
        have hx2 : rX T n (4, a) (wi (rGv (wi (rStop (wi u 64 56 (ie h)) 4 (tkP T n a)) 64 63 (ie ((c + 1 : Nat) : Int))) qt m) 64 51 (ie ((a + 1 : Nat) : Int))) := by
          refine rX_of hx rfl rfl rfl ⟨a + 1, by omega, rfl⟩ rfl (fun x i h1 h2 => ?_)
          unfold rGv; rw [wi_1, if_neg (by omega), wi_1, if_neg (by omega), wi_1, if_neg (by omega), wi_1, if_neg (by omega)]; rfl
        refine rtP_er (heq _ (fun N _ => ?_)) (rX_push hx2 h 5 ((8 - j : Nat) : Int) 0) ?_
        · rw [hb2 N]
          unfold K_Md_typeTask_215
          rw [H0.2.2.2.2.1, if_pos (show ie (c : Int) = 100 from (ineq c 100 (by omega) (by omega)).mpr hc1), H0.2.2.2.1, hs', Option.bind_some, hl N]
        · unfold rGv
          exact fr_rL _ _ _ _ (rST (by omega)) (rST (by omega)) (rST (by omega)) (rST (by omega)) (frR_wi _ _ _ (by omega) (frR_wi _ _ _ (by omega) (frR_wi _ _ _ (by omega) (frR_wi _ _ _ (by omega) (fr_stop _ _ fr0)))))
      · rw [if_neg hc1, pB_o]
        have hl := leaf (wi u 64 56 (ie h)) (fun _ => rfl) (fun _ => rfl) H0.2.2.2.1 H0.2.2.2.2.1 H0.2.2.2.2.2.2.2.1 rfl
        have V := rT_push (rT_at (rT_give (rT_c H0 (c + 1)) m) (a + 1)) 5 ((8 - j : Nat) : Int) 0
        have tv := rL_t (wi (rGv (wi (wi u 64 56 (ie h)) 64 63 (ie ((c + 1 : Nat) : Int))) qt m) 64 51 (ie ((a + 1 : Nat) : Int))) h 5 ((8 - j : Nat) : Int) 0
        have ov := rL_o (wi (rGv (wi (wi u 64 56 (ie h)) 64 63 (ie ((c + 1 : Nat) : Int))) qt m) 64 51 (ie ((a + 1 : Nat) : Int))) h 5 ((8 - j : Nat) : Int) 0
        have he := heq (rL (wi (rGv (wi (wi u 64 56 (ie h)) 64 63 (ie ((c + 1 : Nat) : Int))) qt m) 64 51 (ie ((a + 1 : Nat) : Int))) h 5 ((8 - j : Nat) : Int) 0) (fun N _ => by rw [hb2 N]; unfold K_Md_typeTask_215; rw [H0.2.2.2.2.1, if_neg (show ¬ (ie (c : Int) = 100) from fun hh => hc1 ((ineq c 100 (by omega) (by omega)).mp hh))]; exact hl N)
        have fr1 : fr (rS_T h qt) u (rL (wi (rGv (wi (wi u 64 56 (ie h)) 64 63 (ie ((c + 1 : Nat) : Int))) qt m) 64 51 (ie ((a + 1 : Nat) : Int))) h 5 ((8 - j : Nat) : Int) 0) := by
          unfold rGv
          exact fr_rL _ _ _ _ (rST (by omega)) (rST (by omega)) (rST (by omega)) (rST (by omega)) (frR_wi _ _ _ (by omega) (frR_wi _ _ _ (by omega) (frR_wi _ _ _ (by omega) (frR_wi _ _ _ (by omega) fr0))))
        have b109 : (rL (wi (rGv (wi (wi u 64 56 (ie h)) 64 63 (ie ((c + 1 : Nat) : Int))) qt m) 64 51 (ie ((a + 1 : Nat) : Int))) h 5 ((8 - j : Nat) : Int) 0).1 109 qt = ie (m : Nat) := by
          rw [ov 109 qt (by omega)]; unfold rGv; simp [wi_1]
        have star := r_star hG pr hT j hj hp (.num m) (a + 1) (c + 1) h qt _ Y m V tv.2.1 tv.2.2.1 b109 (H.2.2.2.2.2.2.2.2.2.2.2.2.1 m hm6) hfl hh hd20 (by omega) (by omega) (by omega) (by omega)
        refine rtP_eq (a' := a + 1) (Z0 := []) he fr1 (by rw [List.append_nil]; exact star) ?_
        intro t ht
        show 0 + (t.2.1 - (a + 1)) ≤ t.2.1 - a; omega
    · by_cases e15 : tkK T a = 15
      · have hlt := tkK_lt (show tkK T a ≠ 0 by omega)
        have hpb : pBase pr T a c = pB (pr (a + 1) c) fun q => if tkK T q.2.1 = 16 then .ok (q.1, q.2.1 + 1, q.2.2) else .error (2, q.2.1) := by
          unfold pBase; rw [if_neg eL, if_pos e15]
        rw [hpb]
        have H1 := rT_at H0 (a + 1)
        have H2 := rT_push H1 5 ((8 - j : Nat) : Int) 0
        have H3 := rT_push H2 7 0 0
        have H4 := rT_push H3 1 0 0
        have t1 := rL_t (wi (wi u 64 56 (ie h)) 64 51 (ie ((a + 1 : Nat) : Int))) h 5 ((8 - j : Nat) : Int) 0
        have t2 := rL_t (rL (wi (wi u 64 56 (ie h)) 64 51 (ie ((a + 1 : Nat) : Int))) h 5 ((8 - j : Nat) : Int) 0) (h + 1) 7 0 0
        have t3 := rL_t (rL (rL (wi (wi u 64 56 (ie h)) 64 51 (ie ((a + 1 : Nat) : Int))) h 5 ((8 - j : Nat) : Int) 0) (h + 1) 7 0 0) (h + 2) 1 0 0
        have o2 := rL_o (rL (wi (wi u 64 56 (ie h)) 64 51 (ie ((a + 1 : Nat) : Int))) h 5 ((8 - j : Nat) : Int) 0) (h + 1) 7 0 0
        have o3 := rL_o (rL (rL (wi (wi u 64 56 (ie h)) 64 51 (ie ((a + 1 : Nat) : Int))) h 5 ((8 - j : Nat) : Int) 0) (h + 1) 7 0 0) (h + 2) 1 0 0
        have key : ∀ N, F_Md_typeTask N (ie 4) (ie ((8 - j : Nat) : Int)) g (wi u 64 56 (ie h)) = some (rL (rL (rL (wi (wi u 64 56 (ie h)) 64 51 (ie ((a + 1 : Nat) : Int))) h 5 ((8 - j : Nat) : Int) 0) (h + 1) 7 0 0) (h + 2) 1 0 0) := by
          intro N
          rw [hb N, if_neg (by omega), if_neg (by omega), if_neg (by omega), if_pos e15]
          have l1 := r_later' (u := wi (wi u 64 56 (ie h)) 64 51 (ie ((a + 1 : Nat) : Int))) g h rfl (by omega) 5 ((8 - j : Nat) : Int) 0
          have l1' : F_Md_later 5 (ie ((8 - j : Nat) : Int)) 0 g (wi (wi u 64 56 (ie h)) 64 51 (ie ((a + 1 : Nat) : Int))) = _ := l1
          have l2 := r_later' g (h + 1) t1.1 (by omega) 7 0 0
          have l2' : F_Md_later 7 0 0 g (rL (wi (wi u 64 56 (ie h)) 64 51 (ie ((a + 1 : Nat) : Int))) h 5 ((8 - j : Nat) : Int) 0) = _ := l2
          have l3 := r_later' g (h + 2) t2.1 (by omega) 1 0 0
          have l3' : F_Md_later 1 0 0 g (rL (rL (wi (wi u 64 56 (ie h)) 64 51 (ie ((a + 1 : Nat) : Int))) h 5 ((8 - j : Nat) : Int) 0) (h + 1) 7 0 0) = _ := l3
          rw [l1', Option.bind_some, l2', Option.bind_some, l3', Option.bind_some]
        have he := heq _ (fun N _ => key N)
        have fr1 : fr (rS_T h qt) u (rL (rL (rL (wi (wi u 64 56 (ie h)) 64 51 (ie ((a + 1 : Nat) : Int))) h 5 ((8 - j : Nat) : Int) 0) (h + 1) 7 0 0) (h + 2) 1 0 0) := fr_rL _ _ _ _ (rST (by omega)) (rST (by omega)) (rST (by omega)) (rST (by omega)) (fr_rL _ _ _ _ (rST (by omega)) (rST (by omega)) (rST (by omega)) (rST (by omega)) (fr_rL _ _ _ _ (rST (by omega)) (rST (by omega)) (rST (by omega)) (rST (by omega)) (frR_wi _ _ _ (by omega) fr0)))
        have b7 : (rL (rL (rL (wi (wi u 64 56 (ie h)) 64 51 (ie ((a + 1 : Nat) : Int))) h 5 ((8 - j : Nat) : Int) 0) (h + 1) 7 0 0) (h + 2) 1 0 0).1 105 (h + 1) = ie 7 := (o3 105 (h + 1) (by omega)).trans t2.2.1
        have b7x : (rL (rL (rL (wi (wi u 64 56 (ie h)) 64 51 (ie ((a + 1 : Nat) : Int))) h 5 ((8 - j : Nat) : Int) 0) (h + 1) 7 0 0) (h + 2) 1 0 0).1 106 (h + 1) = ie 0 := (o3 106 (h + 1) (by omega)).trans t2.2.2.1
        have b5 : (rL (rL (rL (wi (wi u 64 56 (ie h)) 64 51 (ie ((a + 1 : Nat) : Int))) h 5 ((8 - j : Nat) : Int) 0) (h + 1) 7 0 0) (h + 2) 1 0 0).1 105 h = ie 5 := (o3 105 h (by omega)).trans ((o2 105 h (by omega)).trans t1.2.1)
        have b5x : (rL (rL (rL (wi (wi u 64 56 (ie h)) 64 51 (ie ((a + 1 : Nat) : Int))) h 5 ((8 - j : Nat) : Int) 0) (h + 1) 7 0 0) (h + 2) 1 0 0).1 106 h = ie ((8 - j : Nat) : Int) := (o3 106 h (by omega)).trans ((o2 106 h (by omega)).trans t1.2.2.1)
        have inner := ih (a + 1) c (h + 2) qt _ Y H4 t3.2.1 t3.2.2.1 (by omega) (by omega) hq hc (by omega) (by omega)
        generalize rL (rL (rL (wi (wi u 64 56 (ie h)) 64 51 (ie ((a + 1 : Nat) : Int))) h 5 ((8 - j : Nat) : Int) 0) (h + 1) 7 0 0) (h + 2) 1 0 0 = w at he fr1 b7 b7x b5 b5x inner
        cases hr : pr (a + 1) c with
        | error q =>
          rw [hr] at inner
          obtain ⟨v, v1, v2, v3⟩ := inner
          exact ⟨v, he v v1, v2, fr_trans fr1 (fr_rT_mono v3 (by omega) (by omega))⟩
        | ok q =>
          rw [hr] at inner
          obtain ⟨v, Z, k, v1, v2, v3, v4, v5, v6⟩ := inner
          obtain ⟨q1, q2, q3, q4⟩ := hT _ _ _ hc hr
          have fr2 := fr_trans fr1 (fr_rT_mono (h := h) (qt := qt) v6 (by omega) (by omega))
          have V0 := rT_pop v2
          have c7 : v.1 105 (h + 1) = ie 7 := ((v6 105 (h + 1) (rST_no (by omega))).1).trans b7
          have c7x : v.1 106 (h + 1) = ie 0 := ((v6 106 (h + 1) (rST_no (by omega))).1).trans b7x
          have c5 : v.1 105 h = ie 5 := ((v6 105 h (rST_no (by omega))).1).trans b5
          have c5x : v.1 106 h = ie ((8 - j : Nat) : Int) := ((v6 106 h (rST_no (by omega))).1).trans b5x
          have hZ : Z.length ≤ q.2.1 - (a + 1) := v5
          rw [pB_assoc, pB_o]
          by_cases e16 : tkK T q.2.1 = 16
          · have hlt2 := tkK_lt (show tkK T q.2.1 ≠ 0 by omega)
            rw [if_pos e16, pB_o]
            have key2 : ∀ N, F_Md_typeTask N (ie 7) (ie 0) g (wi v 64 56 (ie ((h + 1 : Nat) : Int))) = some (wi (wi v 64 56 (ie ((h + 1 : Nat) : Int))) 64 51 (ie ((q.2.1 + 1 : Nat) : Int))) := by
              intro N; rw [tt7, (rT_close N g hG V0 q2).1 e16, Option.bind_some]
            have he2 := rEq_ty (fl := fl) (k := 7) v2.1 v2.2.2.2.2.2.2.1 (by omega) (by omega) c7 (by omega) c7x 0 (fun N _ => key2 N)
            have V1 := rT_at V0 (q.2.1 + 1)
            have fr3 : fr (rS_T h qt) u (wi (wi v 64 56 (ie ((h + 1 : Nat) : Int))) 64 51 (ie ((q.2.1 + 1 : Nat) : Int))) := frR_wi _ _ _ (by omega) (frR_wi _ _ _ (by omega) fr2)
            have star := r_star hG pr hT j hj hp q.1 (q.2.1 + 1) q.2.2 h qt _ (Y ++ Z) k V1 c5 c5x v3 v4 hfl hh hd20 (by omega) q4 (by omega) (by rw [List.length_append]; omega)
            refine rtP_eq (a' := q.2.1 + 1) (Z0 := Z) (rEq_trans he (rEq_trans v1 he2)) fr3 star ?_
            intro t ht
            have hat : q.2.1 + 1 ≤ t.2.1 := by
              unfold pRest at ht
              by_cases e21 : tkK T (q.1, q.2.1 + 1, q.2.2).2.1 = 21
              · rw [if_pos e21] at ht
                cases j with
                | zero => cases ht
                | succ j =>
                  obtain ⟨p, p1, p2⟩ := pB_ok ht
                  have := (pAt_part hT j _ _ _ q4 p1).1
                  have this' : q.2.1 + 1 + 1 < p.2.1 := this
                  cases p2
                  show q.2.1 + 1 ≤ p.2.1; omega
              · rw [if_neg e21] at ht; cases ht; exact Nat.le_refl _
            omega
          · rw [if_neg e16, pB_e]
            obtain ⟨x, x1, x2, x3⟩ := (rT_close 0 g hG V0 q2).2 e16
            have key2 : ∀ N, F_Md_typeTask N (ie 7) (ie 0) g (wi v 64 56 (ie ((h + 1 : Nat) : Int))) = some x := by
              intro N; rw [tt7]
              have : F_Md_expect N 16 g (wi v 64 56 (ie ((h + 1 : Nat) : Int))) = F_Md_expect 0 16 g (wi v 64 56 (ie ((h + 1 : Nat) : Int))) := rfl
              rw [this, x1, Option.bind_some]
            have he2 := rEq_ty (fl := fl) (k := 7) v2.1 v2.2.2.2.2.2.2.1 (by omega) (by omega) c7 (by omega) c7x 0 (fun N _ => key2 N)
            exact rtP_er (rEq_trans he (rEq_trans v1 he2)) x2 (fr_trans fr2 (fr_trans (frR_wi _ _ _ (by omega) (fr_refl _ _)) (fr_rT_mono x3 (by omega) (by omega))))
      · have hpb : pBase pr T a c = .error (2, a) := by
          unfold pBase; rw [if_neg eL, if_neg e15]
        rw [hpb, pB_e]
        have hs := r_stop g H0.2.2.1 H0.2.1 2 a ha
        have hs' : F_Md_stop 2 (ie a) g (wi u 64 56 (ie h)) = some (rStop (wi u 64 56 (ie h)) 2 (tkP T n a)) := hs
        refine rtP_er (heq _ (fun N _ => ?_)) (rX_stop H0 (by omega) 2 a (by omega)) (fr_stop _ _ fr0)
        rw [hb N, if_neg (by omega), if_neg (by omega), if_neg (by omega), if_neg e15, hs', Option.bind_some]; rfl
  induction j with
  | zero => intro hj; exact main 0 hj (fun j' hj' => by omega)
  | succ j ihj => intro hj; exact main (j + 1) hj (fun j' hj' => by have hjj : j' = j := (by omega); subst hjj; exact ihj (by omega))
theorem r_ty {T : List Tok} {n : Nat} {g : pm_s} {fl : Nat} (hG : tkG T) (r : Nat) : ∀ dp, dp + r = 20 → rIH T n g fl dp (pTy T r) := by
  induction r with
  | zero =>
    intro dp hdp a c h qt u Y H h1 h6 hfl hh hq hc ha hY
    have h9 := H.2.2.1.1.2.1
    have H0 := rT_pop H
    have H1 := rT_dp H0 (dp + 1)
    have fr0 : fr (rS_T h qt) u (wi u 64 56 (ie h)) := frR_wi _ _ _ (by omega) (fr_refl _ _)
    have hs := r_stop g H1.2.2.1 H1.2.1 3 a ha
    have hs' : F_Md_stop 3 (ie a) g (wi (wi u 64 56 (ie h)) 64 62 (ie ((dp + 1 : Nat) : Int))) = some (rStop (wi (wi u 64 56 (ie h)) 64 62 (ie ((dp + 1 : Nat) : Int))) 3 (tkP T n a)) := hs
    have hx := rX_stop H1 (by omega) 3 a (by omega)
    have hx' : rX T n (3, a) (rStop (wi (wi u 64 56 (ie h)) 64 62 (ie ((dp + 1 : Nat) : Int))) 3 (tkP T n a)) := hx
    have key : ∀ N, F_Md_typeTask N (ie 1) (ie 0) g (wi u 64 56 (ie h)) = some (rL (rL (rStop (wi (wi u 64 56 (ie h)) 64 62 (ie ((dp + 1 : Nat) : Int))) 3 (tkP T n a)) h 2 0 0) (h + 1) 4 0 0) := by
      intro N
      rw [tt1, H0.2.2.2.2.2.1, iadd1, if_neg (show ¬ (ie ((dp + 1 : Nat) : Int) ≤ 20) from fun hh => by have := (inle (dp + 1) 20 (by omega) (by omega)).mp hh; omega), H0.2.2.2.1, hs', Option.bind_some]
      unfold K_Md_typeTask_68
      have l1 := r_later' (u := rStop (wi (wi u 64 56 (ie h)) 64 62 (ie ((dp + 1 : Nat) : Int))) 3 (tkP T n a)) g h rfl (by omega) 2 0 0
      have l1' : F_Md_later 2 0 0 g (rStop (wi (wi u 64 56 (ie h)) 64 62 (ie ((dp + 1 : Nat) : Int))) 3 (tkP T n a)) = _ := l1
      have l2 := r_later' (u := rL (rStop (wi (wi u 64 56 (ie h)) 64 62 (ie ((dp + 1 : Nat) : Int))) 3 (tkP T n a)) h 2 0 0) g (h + 1) (rL_t _ _ _ _ _).1 (by omega) 4 0 0
      have l2' : F_Md_later 4 0 0 g (rL (rStop (wi (wi u 64 56 (ie h)) 64 62 (ie ((dp + 1 : Nat) : Int))) 3 (tkP T n a)) h 2 0 0) = _ := l2
      rw [l1', Option.bind_some, l2', Option.bind_some]
    exact rtP_er (rEq_ty (k := 1) H.1 H.2.2.2.2.2.2.1 hfl (by omega) h1 (by omega) h6 0 (fun N _ => key N)) (rX_push (rX_push hx' _ _ _ _) _ _ _ _) (fr_rL _ _ _ _ (rST (by omega)) (rST (by omega)) (rST (by omega)) (rST (by omega)) (fr_rL _ _ _ _ (rST (by omega)) (rST (by omega)) (rST (by omega)) (rST (by omega)) (fr_stop _ _ (frR_wi _ _ _ (by omega) fr0))))
  | succ r ihr =>
    intro dp hdp a c h qt u Y H h1 h6 hfl hh hq hc ha hY
    have h9 := H.2.2.1.1.2.1
    have H0 := rT_pop H
    have H1 := rT_dp H0 (dp + 1)
    have fr0 : fr (rS_T h qt) u (wi u 64 56 (ie h)) := frR_wi _ _ _ (by omega) (fr_refl _ _)
    have H2 := rT_push H1 2 0 0
    have H3 := rT_push H2 4 0 0
    have t1 := rL_t (wi (wi u 64 56 (ie h)) 64 62 (ie ((dp + 1 : Nat) : Int))) h 2 0 0
    have t2 := rL_t (rL (wi (wi u 64 56 (ie h)) 64 62 (ie ((dp + 1 : Nat) : Int))) h 2 0 0) (h + 1) 4 0 0
    have o2 := rL_o (rL (wi (wi u 64 56 (ie h)) 64 62 (ie ((dp + 1 : Nat) : Int))) h 2 0 0) (h + 1) 4 0 0
    have key : ∀ N, F_Md_typeTask N (ie 1) (ie 0) g (wi u 64 56 (ie h)) = some (rL (rL (wi (wi u 64 56 (ie h)) 64 62 (ie ((dp + 1 : Nat) : Int))) h 2 0 0) (h + 1) 4 0 0) := by
      intro N
      rw [tt1, H0.2.2.2.2.2.1, iadd1, if_pos (show ie ((dp + 1 : Nat) : Int) ≤ 20 from (inle (dp + 1) 20 (by omega) (by omega)).mpr (by omega))]
      unfold K_Md_typeTask_68
      have l1 := r_later' (u := wi (wi u 64 56 (ie h)) 64 62 (ie ((dp + 1 : Nat) : Int))) g h rfl (by omega) 2 0 0
      have l1' : F_Md_later 2 0 0 g (wi (wi u 64 56 (ie h)) 64 62 (ie ((dp + 1 : Nat) : Int))) = _ := l1
      have l2 := r_later' g (h + 1) t1.1 (by omega) 4 0 0
      have l2' : F_Md_later 4 0 0 g (rL (wi (wi u 64 56 (ie h)) 64 62 (ie ((dp + 1 : Nat) : Int))) h 2 0 0) = _ := l2
      rw [l1', Option.bind_some, l2', Option.bind_some]
    have he := rEq_ty (fl := fl) (k := 1) H.1 H.2.2.2.2.2.2.1 hfl (by omega) h1 (by omega) h6 0 (fun N _ => key N)
    have fr1 : fr (rS_T h qt) u (rL (rL (wi (wi u 64 56 (ie h)) 64 62 (ie ((dp + 1 : Nat) : Int))) h 2 0 0) (h + 1) 4 0 0) := fr_rL _ _ _ _ (rST (by omega)) (rST (by omega)) (rST (by omega)) (rST (by omega)) (fr_rL _ _ _ _ (rST (by omega)) (rST (by omega)) (rST (by omega)) (rST (by omega)) (frR_wi _ _ _ (by omega) fr0))
    have b2 : (rL (rL (wi (wi u 64 56 (ie h)) 64 62 (ie ((dp + 1 : Nat) : Int))) h 2 0 0) (h + 1) 4 0 0).1 105 h = ie 2 := (o2 105 h (by omega)).trans t1.2.1
    have b2x : (rL (rL (wi (wi u 64 56 (ie h)) 64 62 (ie ((dp + 1 : Nat) : Int))) h 2 0 0) (h + 1) 4 0 0).1 106 h = ie 0 := (o2 106 h (by omega)).trans t1.2.2.1
    have ih := ihr (dp + 1) (by omega)
    have inner := r_part hG (pTy T r) (pAt_ty r) (by omega) ih 8 (by omega) a c (h + 1) qt _ Y H3 t2.2.1 t2.2.2.1 (by omega) (by omega) hq hc ha hY
    generalize rL (rL (wi (wi u 64 56 (ie h)) 64 62 (ie ((dp + 1 : Nat) : Int))) h 2 0 0) (h + 1) 4 0 0 = w at he fr1 b2 b2x inner
    rw [pTy]
    cases hr : pPart (pTy T r) T 8 a c with
    | error q =>
      rw [hr] at inner
      obtain ⟨v, v1, v2, v3⟩ := inner
      exact ⟨v, he v v1, v2, fr_trans fr1 (fr_rT_mono v3 (by omega) (by omega))⟩
    | ok q =>
      rw [hr] at inner
      obtain ⟨v, Z, k, v1, v2, v3, v4, v5, v6⟩ := inner
      obtain ⟨q1, q2, q3, q4⟩ := pAt_part (pAt_ty r) 8 _ _ _ hc hr
      have fr2 := fr_trans fr1 (fr_rT_mono (h := h) (qt := qt) v6 (by omega) (by omega))
      have V0 := rT_pop v2
      have c2 : v.1 105 h = ie 2 := ((v6 105 h (rST_no (by omega))).1).trans b2
      have c2x : v.1 106 h = ie 0 := ((v6 106 h (rST_no (by omega))).1).trans b2x
      have hZ : Z.length ≤ q.2.1 - a := v5
      have k25 : ((wi v 64 56 (ie h)).1 66 q.2.1 = 20) ↔ tkK T q.2.1 = 25 := r_kq hG V0.2.2.1 q.2.1 q2 25 (by omega)
      rw [pB_o]
      by_cases e25 : tkK T q.2.1 = 25
      · have hlt := tkK_lt (show tkK T q.2.1 ≠ 0 by omega)
        rw [if_pos e25]
        have V1 := rT_at V0 (q.2.1 + 1)
        have V2 := rT_push V1 3 0 0
        have V3 := rT_push V2 1 0 0
        have s1 := rL_t (wi (wi v 64 56 (ie h)) 64 51 (ie ((q.2.1 + 1 : Nat) : Int))) h 3 0 0
        have s2 := rL_t (rL (wi (wi v 64 56 (ie h)) 64 51 (ie ((q.2.1 + 1 : Nat) : Int))) h 3 0 0) (h + 1) 1 0 0
        have p2 := rL_o (rL (wi (wi v 64 56 (ie h)) 64 51 (ie ((q.2.1 + 1 : Nat) : Int))) h 3 0 0) (h + 1) 1 0 0
        have p1 := rL_o (wi (wi v 64 56 (ie h)) 64 51 (ie ((q.2.1 + 1 : Nat) : Int))) h 3 0 0
        have key2 : ∀ N, F_Md_typeTask N (ie 2) (ie 0) g (wi v 64 56 (ie h)) = some (rL (rL (wi (wi v 64 56 (ie h)) 64 51 (ie ((q.2.1 + 1 : Nat) : Int))) h 3 0 0) (h + 1) 1 0 0) := by
          intro N
          have l1 := r_later' (u := wi (wi v 64 56 (ie h)) 64 51 (ie ((q.2.1 + 1 : Nat) : Int))) g h rfl (by omega) 3 0 0
          have l1' : F_Md_later 3 0 0 g (wi (wi v 64 56 (ie h)) 64 51 (ie ((q.2.1 + 1 : Nat) : Int))) = _ := l1
          have l2 := r_later' g (h + 1) s1.1 (by omega) 1 0 0
          have l2' : F_Md_later 1 0 0 g (rL (wi (wi v 64 56 (ie h)) 64 51 (ie ((q.2.1 + 1 : Nat) : Int))) h 3 0 0) = _ := l2
          rw [tt2, V0.2.2.2.1, if_pos (okn _ 902 (by omega) (by omega)), ntn _ (by omega), if_pos (k25.mpr e25), iadd1, l1', Option.bind_some, l2', Option.bind_some]
        have he2 := rEq_ty (fl := fl) (k := 2) v2.1 v2.2.2.2.2.2.2.1 hfl (by omega) c2 (by omega) c2x 0 (fun N _ => key2 N)
        have fr3 : fr (rS_T h qt) u (rL (rL (wi (wi v 64 56 (ie h)) 64 51 (ie ((q.2.1 + 1 : Nat) : Int))) h 3 0 0) (h + 1) 1 0 0) := fr_rL _ _ _ _ (rST (by omega)) (rST (by omega)) (rST (by omega)) (rST (by omega)) (fr_rL _ _ _ _ (rST (by omega)) (rST (by omega)) (rST (by omega)) (rST (by omega)) (frR_wi _ _ _ (by omega) (frR_wi _ _ _ (by omega) fr2)))
        have b3 : (rL (rL (wi (wi v 64 56 (ie h)) 64 51 (ie ((q.2.1 + 1 : Nat) : Int))) h 3 0 0) (h + 1) 1 0 0).1 105 h = ie 3 := (p2 105 h (by omega)).trans s1.2.1
        have b3x : (rL (rL (wi (wi v 64 56 (ie h)) 64 51 (ie ((q.2.1 + 1 : Nat) : Int))) h 3 0 0) (h + 1) 1 0 0).1 106 h = ie 0 := (p2 106 h (by omega)).trans s1.2.2.1
        have b9 : (rL (rL (wi (wi v 64 56 (ie h)) 64 51 (ie ((q.2.1 + 1 : Nat) : Int))) h 3 0 0) (h + 1) 1 0 0).1 109 qt = ie k := by rw [p2 109 qt (by omega), p1 109 qt (by omega)]; exact v3
        have inner2 := ih (q.2.1 + 1) q.2.2 (h + 1) (qt + 1) _ (Y ++ Z) V3 s2.2.1 s2.2.2.1 (by omega) (by omega) (by omega) q4 (by omega) (by rw [List.length_append]; omega)
        generalize rL (rL (wi (wi v 64 56 (ie h)) 64 51 (ie ((q.2.1 + 1 : Nat) : Int))) h 3 0 0) (h + 1) 1 0 0 = w2 at he2 fr3 b3 b3x b9 inner2
        cases hr2 : pTy T r (q.2.1 + 1) q.2.2 with
        | error e' =>
          rw [hr2] at inner2
          obtain ⟨x, x1, x2, x3⟩ := inner2
          exact ⟨x, he x (v1 x (he2 x x1)), x2, fr_trans fr3 (fr_rT_mono x3 (by omega) (by omega))⟩
        | ok p =>
          rw [hr2] at inner2
          obtain ⟨x, Z2, kp, x1, x2, x3, x4, x5, x6⟩ := inner2
          obtain ⟨y1, y2, y3, y4⟩ := pAt_ty r _ _ _ q4 hr2
          have y1' : q.2.1 + 1 < p.2.1 := y1
          have X0 := rT_pop x2
          have X1 := rT_dp X0 dp
          have d3 : x.1 105 h = ie 3 := ((x6 105 h (rST_no (by omega))).1).trans b3
          have d3x : x.1 106 h = ie 0 := ((x6 106 h (rST_no (by omega))).1).trans b3x
          have d9 : x.1 109 qt = ie k := ((x6 109 qt (rST_no (by omega))).1).trans b9
          have hZ2 : Z2.length ≤ p.2.1 - (q.2.1 + 1) := x5
          obtain ⟨m, Z3, km, m1, m2, m3, m4, m5, m6⟩ := rT_mk g true q.1 p.1 k kp X1 (by omega) d9 x3 (by rw [List.getElem?_append_left (List.getElem?_eq_some_iff.mp v4).1]; exact v4) x4 (by rw [List.length_append, List.length_append]; omega)
          have key3 : ∀ N, 200000 ≤ N → F_Md_typeTask N (ie 3) (ie 0) g (wi x 64 56 (ie h)) = some m := by
            intro N hN
            have e1 : ie ((dp + 1 : Nat) : Int) - 1 = ie (dp : Int) := by rw [show (1 : Int32) = ie 1 from rfl, ie_sub]; congr 1; omega
            rw [tt3, X0.2.2.2.2.2.1, e1]; exact m1 N hN
          have he3 := rEq_ty (fl := fl) (k := 3) x2.1 x2.2.2.2.2.2.2.1 hfl (by omega) d3 (by omega) d3x 200000 key3
          refine ⟨m, Z ++ Z2 ++ Z3, km, rEq_trans he (rEq_trans v1 (rEq_trans he2 (rEq_trans x1 he3))), ?_, m3, ?_, ?_, ?_⟩
          · rw [show Y ++ (Z ++ Z2 ++ Z3) = Y ++ Z ++ Z2 ++ Z3 by simp [List.append_assoc]]; exact m2
          · rw [show Y ++ (Z ++ Z2 ++ Z3) = Y ++ Z ++ Z2 ++ Z3 by simp [List.append_assoc]]; exact m4
          · rw [List.length_append, List.length_append]; show Z.length + Z2.length + Z3.length ≤ p.2.1 - a; omega
          · exact fr_trans fr3 (fr_trans (fr_rT_mono x6 (by omega) (by omega)) (fr_trans (frR_wi _ _ _ (by omega) (frR_wi _ _ _ (by omega) (fr_refl _ _))) m6))
      · rw [if_neg e25]
        have key2 : ∀ N, F_Md_typeTask N (ie 2) (ie 0) g (wi v 64 56 (ie h)) = some (wi (wi v 64 56 (ie h)) 64 62 (ie dp)) := by
          intro N
          have e1 : ie ((dp + 1 : Nat) : Int) - 1 = ie (dp : Int) := by rw [show (1 : Int32) = ie 1 from rfl, ie_sub]; congr 1; omega
          rw [tt2, V0.2.2.2.1, if_pos (okn _ 902 (by omega) (by omega)), ntn _ (by omega), if_neg (fun hh => e25 (k25.mp hh)), V0.2.2.2.2.2.1, e1]
        have he2 := rEq_ty (fl := fl) (k := 2) v2.1 v2.2.2.2.2.2.2.1 hfl (by omega) c2 (by omega) c2x 0 (fun N _ => key2 N)
        exact ⟨_, Z, k, rEq_trans he (rEq_trans v1 he2), rT_dp V0 dp, v3, v4, v5, frR_wi _ _ _ (by omega) (frR_wi _ _ _ (by omega) fr2)⟩
