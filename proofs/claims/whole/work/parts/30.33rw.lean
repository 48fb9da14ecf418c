set_option maxRecDepth 100000
def rIH (T : List Tok) (n : Nat) (g : pm_s) (fl dp : Nat) (pr : Nat → Nat → PE PT) : Prop := ∀ (a c h qt : Nat) (u : pm_J) (Y : List Ty), rT T n a c dp (h + 1) qt u Y → u.1 105 h = ie 1 → u.1 106 h = ie 0 → fl ≤ h → h + 20 * (21 - dp) ≤ 5900 → qt ≤ c → c ≤ 100 → a ≤ T.length → Y.length + (T.length - a) ≤ 60000 → rtP T n g fl a dp h qt u Y (pr a c)
theorem rtP_z {T : List Tok} {n : Nat} {g : pm_s} {fl a dp h qt : Nat} {u : pm_J} {Y : List Ty} {t : PT} {v : pm_J} {k : Nat} (he : rEq g fl u v) (H : rT T n t.2.1 t.2.2 dp h (qt + 1) v Y) (hk : v.1 109 qt = ie k) (hy : Y[k]? = some t.1) (hf : fr (rS_T h qt) u v) : rtP T n g fl a dp h qt u Y (.ok t) :=
  ⟨v, [], k, he, by rw [List.append_nil]; exact H, hk, by rw [List.append_nil]; exact hy, by show 0 ≤ _; omega, hf⟩
theorem r_star {T : List Tok} {n : Nat} {g : pm_s} {fl dp : Nat} (hG : tkG T) (pr : Nat → Nat → PE PT) (hT : pAt T pr) (j : Nat) (hj : j ≤ 8)
    (hp : ∀ j', j' + 1 = j → ∀ (a c h qt : Nat) (u : pm_J) (Y : List Ty), rT T n a c dp (h + 1) qt u Y → u.1 105 h = ie 4 → u.1 106 h = ie ((8 - j' : Nat) : Int) → fl ≤ h → h + 20 * (21 - dp) + 2 * j' ≤ 5897 → qt ≤ c → c ≤ 100 → a ≤ T.length → Y.length + (T.length - a) ≤ 60000 → rtP T n g fl a dp h qt u Y (pPart pr T j' a c))
    (t : Ty) (a c h qt : Nat) (u : pm_J) (Y : List Ty) (k : Nat) (H : rT T n a c dp (h + 1) (qt + 1) u Y) (h5 : u.1 105 h = ie 5) (h6 : u.1 106 h = ie ((8 - j : Nat) : Int)) (hk : u.1 109 qt = ie k) (hy : Y[k]? = some t) (hfl : fl ≤ h) (hh : h + 20 * (21 - dp) + 2 * j ≤ 5897) (hd20 : dp ≤ 20) (hq : qt + 1 ≤ c) (hc : c ≤ 100) (ha : a ≤ T.length) (hY : Y.length + (T.length - a) ≤ 60000) :
    rtP T n g fl a dp h qt u Y (pRest pr T j (t, a, c)) := by
  have h9 := H.2.2.1.1.2.1
  have H0 := rT_pop H
  have k21 : ((wi u 64 56 (ie h)).1 66 a = 22) ↔ tkK T a = 21 := r_kq hG H0.2.2.1 a ha 21 (by omega)
  have hb : ∀ N, F_Md_typeTask N (ie 5) (ie ((8 - j : Nat) : Int)) g (wi u 64 56 (ie h)) = (if tkK T a = 21 then if ie ((8 - j : Nat) : Int) = 8 then (F_Md_stop 3 (ie a) g (wi u 64 56 (ie h))).bind fun q44 => K_Md_typeTask_403 N g (ie ((8 - j : Nat) : Int)) q44 else K_Md_typeTask_403 N g (ie ((8 - j : Nat) : Int)) (wi u 64 56 (ie h)) else some (wi u 64 56 (ie h))) := by
    intro N
    rw [tt5, H0.2.2.2.1, if_pos (okn a 902 (by omega) (by omega)), ntn a (by omega)]
    simp only [k21]
  have fr0 : fr (rS_T h qt) u (wi u 64 56 (ie h)) := frR_wi _ _ _ (by omega) (fr_refl _ _)
  unfold pRest
  show rtP T n g fl a dp h qt u Y (if tkK T a = 21 then _ else _)
  by_cases e21 : tkK T a = 21
  · rw [if_pos e21]
    have hlt := tkK_lt (show tkK T a ≠ 0 by omega)
    cases j with
    | zero =>
      have hs := r_stop g H0.2.2.1 H0.2.1 3 a ha
      have hs' : F_Md_stop 3 (ie a) g (wi u 64 56 (ie h)) = some (rStop (wi u 64 56 (ie h)) 3 (tkP T n a)) := hs
      have hx := rX_stop H0 (by omega) 3 a (by omega)
      have hx1 : rX T n (3, a) (wi (rStop (wi u 64 56 (ie h)) 3 (tkP T n a)) 64 51 (ie ((a + 1 : Nat) : Int))) := rX_of hx rfl rfl rfl ⟨a + 1, by omega, rfl⟩ rfl (fun c i h1 h2 => by rw [wi_1, if_neg (by omega)]; rfl)
      have key : ∀ N, F_Md_typeTask N (ie 5) (ie ((8 - 0 : Nat) : Int)) g (wi u 64 56 (ie h)) = some (rL (rL (wi (rStop (wi u 64 56 (ie h)) 3 (tkP T n a)) 64 51 (ie ((a + 1 : Nat) : Int))) h 6 0 0) (h + 1) 4 9 0) := by
        intro N
        rw [hb N, if_pos e21, if_pos (show ie ((8 - 0 : Nat) : Int) = 8 from rfl), hs', Option.bind_some]
        unfold K_Md_typeTask_403
        have e51 : (rStop (wi u 64 56 (ie h)) 3 (tkP T n a)).1 64 51 = ie a := H.2.2.2.1
        rw [e51, iadd1]
        have l1 := r_later' (u := wi (rStop (wi u 64 56 (ie h)) 3 (tkP T n a)) 64 51 (ie ((a + 1 : Nat) : Int))) g h rfl (by omega) 6 0 0
        have l1' : F_Md_later 6 0 0 g (wi (rStop (wi u 64 56 (ie h)) 3 (tkP T n a)) 64 51 (ie ((a + 1 : Nat) : Int))) = some (rL (wi (rStop (wi u 64 56 (ie h)) 3 (tkP T n a)) 64 51 (ie ((a + 1 : Nat) : Int))) h 6 0 0) := l1
        rw [l1', Option.bind_some]
        have l2 := r_later' (u := rL (wi (rStop (wi u 64 56 (ie h)) 3 (tkP T n a)) 64 51 (ie ((a + 1 : Nat) : Int))) h 6 0 0) g (h + 1) (rL_t _ _ _ _ _).1 (by omega) 4 9 0
        have l2' : F_Md_later 4 (ie ((8 - 0 : Nat) : Int) + 1) 0 g (rL (wi (rStop (wi u 64 56 (ie h)) 3 (tkP T n a)) 64 51 (ie ((a + 1 : Nat) : Int))) h 6 0 0) = _ := l2
        rw [l2', Option.bind_some]
      refine rtP_er (rEq_ty (k := 5) H.1 H.2.2.2.2.2.2.1 hfl (by omega) h5 (by omega) h6 0 (fun N _ => key N)) (rX_push (rX_push hx1 _ _ _ _) _ _ _ _) ?_
      exact fr_rL _ _ _ _ (rST (by omega)) (rST (by omega)) (rST (by omega)) (rST (by omega)) (fr_rL _ _ _ _ (rST (by omega)) (rST (by omega)) (rST (by omega)) (rST (by omega)) (frR_wi _ _ _ (by omega) (fr_stop _ _ fr0)))
    | succ j =>
      have H1 := rT_at H0 (a + 1)
      have H2 := rT_push H1 6 0 0
      have H3 := rT_push H2 4 ((8 - j : Nat) : Int) 0
      have key : ∀ N, F_Md_typeTask N (ie 5) (ie ((8 - (j + 1) : Nat) : Int)) g (wi u 64 56 (ie h)) = some (rL (rL (wi (wi u 64 56 (ie h)) 64 51 (ie ((a + 1 : Nat) : Int))) h 6 0 0) (h + 1) 4 ((8 - j : Nat) : Int) 0) := by
        intro N
        rw [hb N, if_pos e21, if_neg (show ¬ (ie ((8 - (j + 1) : Nat) : Int) = 8) from fun hh => by have := (ineq _ 8 (by omega) (by omega)).mp hh; omega)]
        unfold K_Md_typeTask_403
        have e51 : (wi u 64 56 (ie h)).1 64 51 = ie a := H.2.2.2.1
        rw [e51, iadd1]
        have l1 := r_later' (u := wi (wi u 64 56 (ie h)) 64 51 (ie ((a + 1 : Nat) : Int))) g h rfl (by omega) 6 0 0
        have l1' : F_Md_later 6 0 0 g (wi (wi u 64 56 (ie h)) 64 51 (ie ((a + 1 : Nat) : Int))) = some (rL (wi (wi u 64 56 (ie h)) 64 51 (ie ((a + 1 : Nat) : Int))) h 6 0 0) := l1
        rw [l1', Option.bind_some]
        have ex : ie ((8 - (j + 1) : Nat) : Int) + 1 = ie ((8 - j : Nat) : Int) := by rw [iadd1]; congr 1; omega
        have l2 := r_later' (u := rL (wi (wi u 64 56 (ie h)) 64 51 (ie ((a + 1 : Nat) : Int))) h 6 0 0) g (h + 1) (rL_t _ _ _ _ _).1 (by omega) 4 ((8 - j : Nat) : Int) 0
        have l2' : F_Md_later 4 (ie ((8 - j : Nat) : Int)) 0 g (rL (wi (wi u 64 56 (ie h)) 64 51 (ie ((a + 1 : Nat) : Int))) h 6 0 0) = _ := l2
        rw [ex, l2', Option.bind_some]
      have he := rEq_ty (fl := fl) (k := 5) H.1 H.2.2.2.2.2.2.1 hfl (by omega) h5 (by omega) h6 0 (fun N _ => key N)
      have fr1 : fr (rS_T h qt) u (rL (rL (wi (wi u 64 56 (ie h)) 64 51 (ie ((a + 1 : Nat) : Int))) h 6 0 0) (h + 1) 4 ((8 - j : Nat) : Int) 0) := fr_rL _ _ _ _ (rST (by omega)) (rST (by omega)) (rST (by omega)) (rST (by omega)) (fr_rL _ _ _ _ (rST (by omega)) (rST (by omega)) (rST (by omega)) (rST (by omega)) (frR_wi _ _ _ (by omega) fr0))
      have t1 := rL_t (wi (wi u 64 56 (ie h)) 64 51 (ie ((a + 1 : Nat) : Int))) h 6 0 0
      have t2 := rL_t (rL (wi (wi u 64 56 (ie h)) 64 51 (ie ((a + 1 : Nat) : Int))) h 6 0 0) (h + 1) 4 ((8 - j : Nat) : Int) 0
      have o2 := rL_o (rL (wi (wi u 64 56 (ie h)) 64 51 (ie ((a + 1 : Nat) : Int))) h 6 0 0) (h + 1) 4 ((8 - j : Nat) : Int) 0
      have o1 := rL_o (wi (wi u 64 56 (ie h)) 64 51 (ie ((a + 1 : Nat) : Int))) h 6 0 0
      have b105 : (rL (rL (wi (wi u 64 56 (ie h)) 64 51 (ie ((a + 1 : Nat) : Int))) h 6 0 0) (h + 1) 4 ((8 - j : Nat) : Int) 0).1 105 h = ie 6 := (o2 105 h (by omega)).trans t1.2.1
      have b106 : (rL (rL (wi (wi u 64 56 (ie h)) 64 51 (ie ((a + 1 : Nat) : Int))) h 6 0 0) (h + 1) 4 ((8 - j : Nat) : Int) 0).1 106 h = ie 0 := (o2 106 h (by omega)).trans t1.2.2.1
      have b109 : (rL (rL (wi (wi u 64 56 (ie h)) 64 51 (ie ((a + 1 : Nat) : Int))) h 6 0 0) (h + 1) 4 ((8 - j : Nat) : Int) 0).1 109 qt = ie k := by rw [o2 109 qt (by omega), o1 109 qt (by omega)]; exact hk
      have ih := hp j rfl (a + 1) c (h + 1) (qt + 1) _ Y H3 t2.2.1 t2.2.2.1 (by omega) (by omega) (by omega) hc (by omega) (by omega)
      generalize rL (rL (wi (wi u 64 56 (ie h)) 64 51 (ie ((a + 1 : Nat) : Int))) h 6 0 0) (h + 1) 4 ((8 - j : Nat) : Int) 0 = w at he fr1 b105 b106 b109 ih
      show rtP T n g fl a dp h qt u Y (pB (pPart pr T j (a + 1) c) _)
      cases hr : pPart pr T j (a + 1) c with
      | error q =>
        rw [hr] at ih
        obtain ⟨v, v1, v2, v3⟩ := ih
        exact ⟨v, he v v1, v2, fr_trans fr1 (fr_rT_mono v3 (by omega) (by omega))⟩
      | ok p =>
        rw [hr] at ih
        obtain ⟨v, Z, kp, v1, v2, v3, v4, v5, v6⟩ := ih
        have c105 : v.1 105 h = ie 6 := ((v6 105 h (rST_no (by omega))).1).trans b105
        have c106 : v.1 106 h = ie 0 := ((v6 106 h (rST_no (by omega))).1).trans b106
        have c109 : v.1 109 qt = ie k := ((v6 109 qt (rST_no (by omega))).1).trans b109
        have V0 := rT_pop v2
        have hZ : Z.length ≤ p.2.1 - (a + 1) := v5
        have hp1 := pAt_part hT j _ _ _ hc hr
        obtain ⟨x, Z2, kx, x1, x2, x3, x4, x5, x6⟩ := rT_mk g false t p.1 k kp V0 (by omega) c109 v3 (by rw [List.getElem?_append_left (List.getElem?_eq_some_iff.mp hy).1]; exact hy) v4 (by rw [List.length_append]; omega)
        have key2 : ∀ N, 200000 ≤ N → F_Md_typeTask N (ie 6) (ie 0) g (wi v 64 56 (ie h)) = some x := by
          intro N hN; rw [tt6]; exact x1 N hN
        have he2 := rEq_ty (fl := fl) (k := 6) v2.1 v2.2.2.2.2.2.2.1 hfl (by omega) c105 (by omega) c106 200000 key2
        refine ⟨x, Z ++ Z2, kx, rEq_trans he (rEq_trans v1 he2), by rw [← List.append_assoc]; exact x2, x3, by rw [← List.append_assoc]; exact x4, ?_, ?_⟩
        · rw [List.length_append]; show Z.length + Z2.length ≤ p.2.1 - a; omega
        · exact fr_trans fr1 (fr_trans (fr_rT_mono v6 (by omega) (by omega)) (fr_trans (frR_wi _ _ _ (by omega) (fr_refl _ _)) x6))
  · rw [if_neg e21]
    have key : ∀ N, F_Md_typeTask N (ie 5) (ie ((8 - j : Nat) : Int)) g (wi u 64 56 (ie h)) = some (wi u 64 56 (ie h)) := by
      intro N; rw [hb N, if_neg e21]
    exact rtP_z (rEq_ty (k := 5) H.1 H.2.2.2.2.2.2.1 hfl (by omega) h5 (by omega) h6 0 (fun N _ => key N)) H0 hk hy fr0
