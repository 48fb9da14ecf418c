set_option maxRecDepth 100000
def cz (c : CS) : CS := (c.1, c.2.1, c.2.2.1, fun _ => false)
def rEr (T : List Tok) (n : Nat) (q : Nat × Nat) (v : pm_J) : Prop := v.1 64 4 = ie (q.1 : Nat) ∧ 1 ≤ q.1 ∧ v.1 64 5 = ie (tkP T n q.2 : Nat) ∧ ∃ Y, tyR v Y
theorem r_untyped {T : List Tok} {n : Nat} {D : List Df} {t : Tr} {c : CS} {w : Nat → Option Ty} {u : pm_J} {Y : List Ty} {e : Nat} (g : pm_s) (H : rC T n D t c w u Y) (he : e < t.1) (ht : (t.2.1 e).2.1 < T.length) : ∃ v, F_Md_untyped (ie (e : Nat)) g u = some (0, v) ∧ rEr T n (7, (t.2.1 e).2.1) v ∧ frP u v := by
  have h18 := H.2.2.2.1.2
  have h9 := H.2.1.1.1.2.1
  have k78 := (H.2.2.2.2.2.2 e he).2.1
  refine ⟨rFail u 7 (tkP T n (t.2.1 e).2.1), ?_, ?_, ?_⟩
  · unfold F_Md_untyped
    rw [if_pos (okn e 2400 (by omega) (by omega)), ntn e (by omega), k78, if_pos (okn _ 902 (by omega) (by omega)), ntn _ (by omega), r_plc H.2.1.1 _ (by omega), show (7 : Int32) = ie 7 from rfl, r_fails u g 7 _ H.1, Option.bind_some]; rfl
  · unfold rFail
    refine ⟨?_, by show 1 ≤ 7; omega, wi_at _ _ _ _, Y, tyR_w H.2.2.2.2.1 ?_ (fun a i h1 h2 => ?_)⟩
    · rw [wi_ne _ _ _ _ _ _ (by omega), wi_at]; rfl
    · rw [wi_ne _ _ _ _ _ _ (by omega), wi_ne _ _ _ _ _ _ (by omega)]
    · rw [wi_ne _ _ _ _ _ _ (by omega), wi_ne _ _ _ _ _ _ (by omega)]
  · unfold rFail
    exact frP_wi (frP_wi (frP_r u) _ _ _ (by unfold rSTp; omega)) _ _ _ (by unfold rSTp; omega)
theorem r_sameT {T : List Tok} {n : Nat} {u : pm_J} (g : pm_s) (h : rTk T n u) (i b : Nat) (hi : tkK T i = 1) (hb : tkK T b = 1) : ∀ N, 10000 ≤ N → F_Md_isSame N (ie (i : Nat)) (ie b) g u = some (ib (decide (tkV T i = tkV T b))) := by
  obtain ⟨h1, hG, o, ho, hx, hok⟩ := h
  intro N hN
  obtain ⟨t1, e1⟩ : ∃ t, T[i]? = some t := ⟨T[i]'(tkK_lt (by omega)), List.getElem?_eq_getElem _⟩
  obtain ⟨t2, e2⟩ : ∃ t, T[b]? = some t := ⟨T[b]'(tkK_lt (by omega)), List.getElem?_eq_getElem _⟩
  have k1 : t1.1 = 1 := by unfold tkK at hi; rw [e1] at hi; exact hi
  have k2 : t2.1 = 1 := by unfold tkK at hb; rw [e2] at hb; exact hb
  have := r_isSame N g ho hN hx T h1.1 hok i b t1 t2 e1 e2 k1 k2
  rw [this]; unfold tkV; rw [e1, e2]
theorem r_defNamed {T : List Tok} {n : Nat} {D : List Df} {t : Tr} {c : CS} {w : Nat → Option Ty} {u : pm_J} {Y : List Ty} (g : pm_s) (H : rC T n D t c w u Y) (hD : ∀ (i : Nat) (x : Df), D[i]? = some x → tkK T x.1 = 1) (a : Nat) (ha : tkK T a = 1) : ∀ N, 10000 ≤ N → F_Md_defNamed N (ie (a : Nat)) g u = some (ie (fDef T (tkV T a) D 0)) := by
  have h30 := H.2.2.1.2
  intro N hN
  have lp : ∀ (j i f : Nat), i + j = D.length → j < f → K_Md_defNamed_2 N g u f (ie (a : Nat)) (ie (i : Nat)) = some (ie (fDef T (tkV T a) (D.drop i) i)) := by
    intro j
    induction j with
    | zero =>
      intro i f hi hf
      obtain ⟨f, rfl⟩ : ∃ f', f = f' + 1 := ⟨f - 1, by omega⟩
      rw [K_Md_defNamed_2, H.2.2.1.1, if_pos ((inle _ _ (by omega) (by omega)).mpr (by omega)), List.drop_eq_nil_of_le (by omega)]; rfl
    | succ j ih =>
      intro i f hi hf
      obtain ⟨f, rfl⟩ : ∃ f', f = f' + 1 := ⟨f - 1, by omega⟩
      have hlt : i < D.length := by omega
      have hg : D[i]? = some D[i] := List.getElem?_eq_getElem hlt
      have h91 := (H.2.2.2.2.2.1 i _ hg).1.1
      rw [K_Md_defNamed_2, H.2.2.1.1, if_neg (fun hh => by have := (inle _ _ (by omega) (by omega)).mp hh; omega), if_pos (okn i 30 (by omega) (by omega)), ntn i (by omega), h91, r_sameT g H.2.1 _ _ (hD i _ hg) ha N hN, Option.bind_some, List.drop_eq_getElem_cons hlt, fDef]
      by_cases hv : tkV T D[i].1 = tkV T a
      · rw [if_pos hv, show decide (tkV T D[i].1 = tkV T a) = true from decide_eq_true hv, if_neg (show ¬ (ib true = 0) by decide)]
      · rw [if_neg hv, show decide (tkV T D[i].1 = tkV T a) = false from decide_eq_false hv, if_pos (show ib false = 0 from rfl), iadd1]
        exact ih (i + 1) f (by omega) (by omega)
  have := lp D.length 0 N (Nat.zero_add _) (by omega)
  rw [List.drop_zero] at this
  exact this
theorem hdI_nr {f : Nat → Int} {a : Nat} {l : List Nat} (h : cn f (a :: l)) : ie (f a) = hdI l ∧ cn f l := cn_hd h
theorem r_apF {T : List Tok} {n : Nat} {D : List Df} {t : Tr} {w : Nat → Option Ty} {Y : List Ty} {e : Nat} (g : pm_s) (he : e < t.1) (ht : (t.2.1 e).2.1 < T.length) (m : Nat) (hm : m ≤ 8) (h84 : rvn (t.2.1 e) = (m : Nat)) (l : List Nat) : ∀ (s : Ty) (i : Nat) (c : CS) (u : pm_J), i + l.length = m → c.1 e = some s → cn t.2.2.2.2.2 l → (∀ a ∈ l, a < e ∧ ∃ s, c.1 a = some s) → rC T n D t c w u Y → ∃ (v : pm_J) (q : Int32), (∀ N f, l.length + 1 ≤ f → K_Md_typeRow_177 N g f (ie (e : Nat)) (hdI l) (ie (i : Nat)) u = some (q, v)) ∧ frP u v ∧ (match apF c.1 s l with
    | none => q = 0 ∧ rEr T n (7, (t.2.1 e).2.1) v
    | some r => q = 1 ∧ rC T n D t (pu_upd c.1 e (some r), c.2) w v Y) := by
  induction l with
  | nil =>
    intro s i c u hi hs hcn hat H
    have hi' : i + 0 = m := hi
    have h18 := H.2.2.2.1.2
    have k84 := (H.2.2.2.2.2.2 e he).2.2.2.2.2.2.2.1
    refine ⟨u, 1, fun N f hf => ?_, frP_r _, ?_⟩
    · obtain ⟨f, rfl⟩ : ∃ f', f = f' + 1 := ⟨f - 1, by omega⟩
      rw [K_Md_typeRow_177, if_pos (okn e 2400 (by omega) (by omega)), ntn e (by omega), k84, h84, if_pos ((inle _ _ (by omega) (by omega)).mpr (by omega))]
    · have h1 : apF c.1 s [] = some s := by unfold apF; rfl
      rw [h1]
      have h2 : pu_upd c.1 e (some s) = c.1 := by
        funext j; by_cases ej : j = e
        · rw [ej, upd_same, hs]
        · rw [upd_ne _ _ _ _ ej]
      show 1 = (1 : Int32) ∧ rC T n D t (pu_upd c.1 e (some s), c.2) w u Y
      rw [h2]; exact ⟨rfl, H⟩
  | cons a l ih =>
    intro s i c u hi hs hcn hat H
    have hi' : i + (l.length + 1) = m := hi
    have h18 := H.2.2.2.1.2
    obtain ⟨_, _, _, _, _, _, _, k84, _, _, k87, _⟩ := H.2.2.2.2.2.2 e he
    rw [hs] at k87
    obtain ⟨ks, ks1, ks2⟩ := k87
    have hR := H.2.2.2.2.1
    have hYb := hR.2.1
    have hksl := (List.getElem?_eq_some_iff.mp ks2).1
    obtain ⟨ha1, sa, hsa⟩ := hat a List.mem_cons_self
    obtain ⟨_, _, _, _, _, _, a83, _, _, _, a87, _⟩ := H.2.2.2.2.2.2 a (by omega)
    rw [hsa] at a87
    obtain ⟨ka, ka1, ka2⟩ := a87
    obtain ⟨hh1, hh2⟩ := hdI_nr hcn
    have ok := okn e 2400 (by omega) (by omega)
    have nt := ntn e (by omega)
    have oka := okn a 2400 (by omega) (by omega)
    have nta := ntn a (by omega)
    have okk := okn ks 100000 (by omega) (by omega)
    have ntk := ntn ks (by omega)
    have ng : ¬ (ie (m : Nat) ≤ ie (i : Nat)) := fun hh => by have := (inle _ _ (by omega) (by omega)).mp hh; omega
    obtain ⟨vu, vu1, vu2, vu3⟩ := r_untyped g H he ht
    have bad : apF c.1 s (a :: l) = none → (∀ N f, l.length + 1 + 1 ≤ f → K_Md_typeRow_177 N g f (ie (e : Nat)) (hdI (a :: l)) (ie (i : Nat)) u = some (0, vu)) → ∃ (v : pm_J) (q : Int32), (∀ N f, (a :: l).length + 1 ≤ f → K_Md_typeRow_177 N g f (ie (e : Nat)) (hdI (a :: l)) (ie (i : Nat)) u = some (q, v)) ∧ frP u v ∧ (match apF c.1 s (a :: l) with
        | none => q = 0 ∧ rEr T n (7, (t.2.1 e).2.1) v
        | some r => q = 1 ∧ rC T n D t (pu_upd c.1 e (some r), c.2) w v Y) := by
      intro h1 h2
      rw [h1]
      exact ⟨vu, 0, h2, vu3, rfl, vu2⟩
    have un : ((F_Md_untyped (ie (e : Nat)) g u).bind fun q18 => if (q18.1 == 0 || q18.1 == 1) = true then some (q18.1, q18.2) else none) = some (0, vu) := by rw [vu1]; rfl
    by_cases h6 : ks < 6
    · refine bad ?_ (fun N f hf => ?_)
      · have hsn : s = .num ks := by
          have := hR.2.2.2.2.1 ks h6
          rw [ks2] at this; exact Option.some.inj this
        rw [hsn]; unfold apF; rfl
      · obtain ⟨f, rfl⟩ : ∃ f', f = f' + 1 := ⟨f - 1, by omega⟩
        rw [K_Md_typeRow_177, if_pos ok, nt, k84, h84, if_neg ng, if_pos ok, ks1, if_pos (show ie (ks : Nat) < 6 from (inlt ks 6 (by omega) (by omega)).mpr h6), un]
    · obtain ⟨f0, A, B, rfl⟩ := (ty_6 hR ks s ks2).mp (by omega)
      obtain ⟨lA, lB, l1, l2, l3, l4, _, _, l5, _⟩ := r_parts hR f0 A B ks ks2
      have n6 : ¬ (ie (ks : Nat) < 6) := fun hh => h6 ((inlt ks 6 (by omega) (by omega)).mp hh)
      cases f0 with
      | false =>
        refine bad (by show apF c.1 (.add A B) (a :: l) = none; unfold apF; rfl) (fun N f hf => ?_)
        obtain ⟨f, rfl⟩ : ∃ f', f = f' + 1 := ⟨f - 1, by omega⟩
        rw [K_Md_typeRow_177, if_pos ok, nt, k84, h84, if_neg ng, if_pos ok, ks1, if_neg n6, if_pos okk, ntk, l5, if_pos (show ib false = 0 from rfl), un]
      | true =>
        have hap : apF c.1 (tyP true A B) (a :: l) = if tyQ A sa = true then apF c.1 B l else none := by
          show apF c.1 (.mul A B) (a :: l) = _
          rw [apF, hsa]
        have st : ∀ N f, K_Md_typeRow_177 N g (f + 1) (ie (e : Nat)) (ie (a : Nat)) (ie (i : Nat)) u = if ie (lA : Nat) = ie (ka : Nat) then K_Md_typeRow_177 N g f (ie (e : Nat)) (hdI l) (ie ((i + 1 : Nat) : Int)) (wi u 87 e (ie (lB : Nat))) else some (0, vu) := by
          intro N f
          rw [K_Md_typeRow_177, if_pos ok, nt, k84, h84, if_neg ng, if_pos ok, ks1, if_neg n6, if_pos okk, ntk, l5, if_neg (show ¬ (ib true = 0) by decide), if_pos okk, if_pos oka, nta, l3, ka1, if_pos okk, if_pos ok, if_pos oka, l4, a83, hh1, iadd1, un]
        by_cases eq : A = sa
        · have hup : pu_upd c.1 e (some B) e = some B := upd_same _ _ _
          obtain ⟨v, q, v1, v2, v3⟩ := ih B (i + 1) (pu_upd c.1 e (some B), c.2) (wi u 87 e (ie (lB : Nat))) (by omega) hup hh2 (fun b hb => by
            obtain ⟨q1, q2⟩ := hat b (List.mem_cons_of_mem _ hb)
            exact ⟨q1, by show ∃ s, pu_upd c.1 e (some B) b = some s; rw [upd_ne _ _ _ _ (by omega)]; exact q2⟩) (rC_ty H he _ (some B) ⟨lB, rfl, l2⟩)
          refine ⟨v, q, fun N f hf => ?_, frP_t (frP_wi (frP_r u) _ _ _ (by unfold rSTp; omega)) v2, ?_⟩
          · obtain ⟨f, rfl⟩ : ∃ f', f = f' + 1 := ⟨f - 1, by omega⟩
            show K_Md_typeRow_177 N g (f + 1) (ie (e : Nat)) (ie (a : Nat)) (ie (i : Nat)) u = _
            rw [st N f, if_pos ((r_same hR lA ka A sa l1 ka2).mpr eq)]
            exact v1 N f (by have : (a :: l).length + 1 ≤ f + 1 := hf; have h2 : (a :: l).length = l.length + 1 := rfl; omega)
          · rw [hap, if_pos ((tyQ_eq (tyR_g hR lA A l1)).mpr eq)]
            have hcg : apF (pu_upd c.1 e (some B)) B l = apF c.1 B l := apF_cg l B (fun b hb => upd_ne _ _ _ _ (by have := (hat b (List.mem_cons_of_mem _ hb)).1; omega))
            have v3' : match apF (pu_upd c.1 e (some B)) B l with
              | none => q = 0 ∧ rEr T n (7, (t.2.1 e).2.1) v
              | some r => q = 1 ∧ rC T n D t (pu_upd (pu_upd c.1 e (some B)) e (some r), c.2) w v Y := v3
            rw [hcg] at v3'
            cases hr : apF c.1 B l with
            | none => rw [hr] at v3'; exact v3'
            | some r =>
              rw [hr] at v3'
              have h2 : pu_upd (pu_upd c.1 e (some B)) e (some r) = pu_upd c.1 e (some r) := by
                funext j; by_cases ej : j = e
                · rw [ej, upd_same, upd_same]
                · rw [upd_ne _ _ _ _ ej, upd_ne _ _ _ _ ej, upd_ne _ _ _ _ ej]
              refine ⟨v3'.1, ?_⟩
              rw [← h2]; exact v3'.2
        · refine bad (by rw [hap, if_neg (fun hh => eq ((tyQ_eq (tyR_g hR lA A l1)).mp hh))]) (fun N f hf => ?_)
          obtain ⟨f, rfl⟩ : ∃ f', f = f' + 1 := ⟨f - 1, by omega⟩
          show K_Md_typeRow_177 N g (f + 1) (ie (e : Nat)) (ie (a : Nat)) (ie (i : Nat)) u = _
          rw [st N f, if_neg (fun hh => eq ((r_same hR lA ka A sa l1 ka2).mp hh))]
theorem r_fitsL {T : List Tok} {n : Nat} {D : List Df} {t : Tr} {w : Nat → Option Ty} {Y : List Ty} {e d : Nat} {x : Df} (g : pm_s) (he : e < t.1) (ht : (t.2.1 e).2.1 < T.length) (hx : D[d]? = some x) (hpar : parI D) (h30 : D.length ≤ 30) (hpl : (dPs D d).length ≠ 0) (x2 : Int32) (j : Nat) : ∀ (i : Nat) (l : List Nat) (c : CS) (u : pm_J), i + j = (dPs D d).length → j ≤ l.length → cn t.2.2.2.2.2 l → (∀ a ∈ l, a < e ∧ ∃ s, c.1 a = some s) → rC T n D t c w u Y →
    ∃ (v : pm_J), frP u v ∧ (match fits c.1 ((dPs D d).drop i) l (c.2.2.1 e) with
      | none => rEr T n (7, (t.2.1 e).2.1) v ∧ ∀ N f, 1000 ≤ N → j + 1 ≤ f → K_Md_typeRow_87 N g f (ie (e : Nat)) x2 (ie (d : Nat)) (ie ((dPs D d).length : Nat)) (hdI l) (ie (i : Nat)) u = some (0, v)
      | some f' => rC T n D t (sFt c e f') w v Y ∧ cn t.2.2.2.2.2 (l.drop j) ∧ ∀ N f, 1000 ≤ N → j + 1 ≤ f → K_Md_typeRow_87 N g f (ie (e : Nat)) x2 (ie (d : Nat)) (ie ((dPs D d).length : Nat)) (hdI l) (ie (i : Nat)) u = (F_Md_filled N (v.1 93 d) (ie (e : Nat)) g v).bind fun q33 => if pm_ok (ie (e : Nat)) 2400 = true then K_Md_typeRow_177 N g N (ie (e : Nat)) (hdI (l.drop j)) (ie ((dPs D d).length : Nat)) (wi q33.2 87 e q33.1) else none) := by
  have hd := (List.getElem?_eq_some_iff.mp hx).1
  obtain ⟨p1, p2, p3⟩ := dPs_some hx
  obtain ⟨r1, r2, r3, r4⟩ := hpar d x hx
  induction j with
  | zero =>
    intro i l c u hi hl hcn hat H
    have h18 := H.2.2.2.1.2
    refine ⟨u, frP_r _, ?_⟩
    rw [List.drop_eq_nil_of_le (by omega)]
    have hfi : fits c.1 [] l (c.2.2.1 e) = some (c.2.2.1 e) := by unfold fits; rfl
    rw [hfi]
    refine ⟨by rw [sFt_same]; exact H, hcn, fun N f hN hf => ?_⟩
    obtain ⟨f, rfl⟩ : ∃ f', f = f' + 1 := ⟨f - 1, by omega⟩
    rw [K_Md_typeRow_87, if_pos ((inle _ _ (by omega) (by omega)).mpr (by omega)), if_neg (show ¬ (ie ((dPs D d).length : Nat) ≤ 0) from fun hh => by have := (inle _ 0 (by omega) (by omega)).mp hh; omega), if_pos (okn d 30 (by omega) (by omega)), ntn d (by omega), ntn e (by omega)]; rfl
  | succ j ih =>
    intro i l c u hi hl hcn hat H
    have h18 := H.2.2.2.1.2
    cases l with
    | nil => exact absurd hl (by show ¬ (j + 1 ≤ 0); omega)
    | cons a l =>
      have hil : i < (dPs D d).length := by omega
      have hpi : (dPs D d)[i]? = some (dPs D d)[i] := List.getElem?_eq_getElem hil
      have hdr : (dPs D d).drop i = (dPs D d)[i] :: (dPs D d).drop (i + 1) := List.drop_eq_getElem_cons hil
      generalize (dPs D d)[i] = p at hpi hdr
      obtain ⟨pp, q1, q2⟩ := dPs_i hx hpi
      obtain ⟨_, kp, kp1, kp2⟩ := ((H.2.2.2.2.2.1 d x hx).1.2.1).2.2 i pp q1
      rw [q2] at kp2
      have hpL : tyL p ≤ 100 := by have := (r3 i pp q1).2.2; rw [q2] at this; exact this
      obtain ⟨ha1, s, hs⟩ := hat a List.mem_cons_self
      obtain ⟨_, _, _, _, _, _, a83, _, _, _, a87, _⟩ := H.2.2.2.2.2.2 a (by omega)
      rw [hs] at a87
      obtain ⟨ks, ks1, ks2⟩ := a87
      obtain ⟨hh1, hh2⟩ := hdI_nr hcn
      have H1 := rC_scr (rC_scr H 103 0 (ie (kp : Nat)) (by omega)) 104 0 (ie (ks : Nat)) (by omega)
      have hstk : stR (wi (wi u 103 0 (ie (kp : Nat))) 104 0 (ie (ks : Nat))) Y [(p, s)] := ⟨⟨kp, by show (wi (wi u 103 0 _) 104 0 _).1 103 0 = _; rw [wi_ne _ _ _ _ _ _ (by omega), wi_at], kp2⟩, ⟨ks, wi_at _ _ _ _, ks2⟩, trivial⟩
      obtain ⟨v, bb, f', w1, w2, w3, w4⟩ := r_fits g he 200 [(p, s)] c _ (by show 2 * tyL p - 1 + 0 ≤ 200; omega) (by omega) hstk H1
      have hfl : fitL [(p, s)] (c.2.2.1 e) = fit p s (c.2.2.1 e) := by
        show ((fit p s (c.2.2.1 e)).bind fun f' => some f') = _
        cases fit p s (c.2.2.1 e) <;> rfl
      rw [hfl] at w4
      have hff : ∀ N, 1000 ≤ N → F_Md_fits N (ie (kp : Nat)) (ie (ks : Nat)) (ie (e : Nat)) g u = some (ib bb, v) := by
        intro N hN
        unfold F_Md_fits
        rw [if_pos (show pm_ok 0 400 = true by decide), if_pos (show pm_ok 0 400 = true by decide)]
        exact w1 N N (by omega)
      have e6 : 6 * ie (d : Nat) + ie (i : Nat) = ie ((6 * d + i : Nat) : Int) := by rw [show (6 : Int32) = ie 6 from rfl, ie_mul, ie_add]; rfl
      have st : ∀ N f, 1000 ≤ N → K_Md_typeRow_87 N g (f + 1) (ie (e : Nat)) x2 (ie (d : Nat)) (ie ((dPs D d).length : Nat)) (ie (a : Nat)) (ie (i : Nat)) u = if ib bb = 0 then (F_Md_untyped (ie (e : Nat)) g v).bind fun q40 => if (q40.1 == 0 || q40.1 == 1) = true then some (q40.1, q40.2) else none else K_Md_typeRow_87 N g f (ie (e : Nat)) x2 (ie (d : Nat)) (ie ((dPs D d).length : Nat)) (v.1 83 a) (ie ((i + 1 : Nat) : Int)) v := by
        intro N f hN
        rw [K_Md_typeRow_87, if_neg (fun hh => by have := (inle _ _ (by omega) (by omega)).mp hh; omega), e6, if_pos (okn _ 180 (by omega) (by omega)), if_pos (okn a 2400 (by omega) (by omega)), ntn _ (by omega), ntn a (by omega), kp1, ks1, hff N hN, Option.bind_some, if_pos (okn a 2400 (by omega) (by omega)), iadd1]
      have hfr : frP u v := frP_t (frP_wi (frP_wi (frP_r u) 103 0 _ (by unfold rSTp; omega)) 104 0 _ (by unfold rSTp; omega)) w3
      rw [hdr]
      have hfits : fits c.1 (p :: (dPs D d).drop (i + 1)) (a :: l) (c.2.2.1 e) = (fit p s (c.2.2.1 e)).bind fun f' => fits c.1 ((dPs D d).drop (i + 1)) l f' := by rw [fits, hs]
      rw [hfits]
      cases hfit : fit p s (c.2.2.1 e) with
      | none =>
        rw [hfit] at w4
        subst w4
        obtain ⟨vu, vu1, vu2, vu3⟩ := r_untyped g w2 he ht
        refine ⟨vu, frP_t hfr vu3, vu2, fun N f hN hf => ?_⟩
        obtain ⟨f, rfl⟩ : ∃ f', f = f' + 1 := ⟨f - 1, by omega⟩
        show K_Md_typeRow_87 N g (f + 1) (ie (e : Nat)) x2 (ie (d : Nat)) (ie ((dPs D d).length : Nat)) (ie (a : Nat)) (ie (i : Nat)) u = _
        rw [st N f hN, if_pos (show ib false = 0 from rfl), vu1]; rfl
      | some f1 =>
        rw [hfit] at w4
        obtain ⟨rfl, rfl⟩ := w4
        have v83 : v.1 83 a = hdI l := (w2.2.2.2.2.2.2 a (by omega)).2.2.2.2.2.2.1.trans hh1
        obtain ⟨v', j1, j2⟩ := ih (i + 1) l (sFt c e f') v (by omega) (by have : j + 1 ≤ l.length + 1 := hl; omega) hh2 (fun b hb => hat b (List.mem_cons_of_mem _ hb)) w2
        have hup : (sFt c e f').2.2.1 e = f' := upd_same _ _ _
        rw [hup] at j2
        refine ⟨v', frP_t hfr j1, ?_⟩
        show match fits c.1 ((dPs D d).drop (i + 1)) l f' with | none => _ | some f'' => _
        have j2' : match fits c.1 ((dPs D d).drop (i + 1)) l f' with
          | none => rEr T n (7, (t.2.1 e).2.1) v' ∧ ∀ N f, 1000 ≤ N → j + 1 ≤ f → K_Md_typeRow_87 N g f (ie (e : Nat)) x2 (ie (d : Nat)) (ie ((dPs D d).length : Nat)) (hdI l) (ie ((i + 1 : Nat) : Int)) v = some (0, v')
          | some f'' => rC T n D t (sFt (sFt c e f') e f'') w v' Y ∧ cn t.2.2.2.2.2 (l.drop j) ∧ ∀ N f, 1000 ≤ N → j + 1 ≤ f → K_Md_typeRow_87 N g f (ie (e : Nat)) x2 (ie (d : Nat)) (ie ((dPs D d).length : Nat)) (hdI l) (ie ((i + 1 : Nat) : Int)) v = (F_Md_filled N (v'.1 93 d) (ie (e : Nat)) g v').bind fun q33 => if pm_ok (ie (e : Nat)) 2400 = true then K_Md_typeRow_177 N g N (ie (e : Nat)) (hdI (l.drop j)) (ie ((dPs D d).length : Nat)) (wi q33.2 87 e q33.1) else none := j2
        have hst : ∀ N f, 1000 ≤ N → K_Md_typeRow_87 N g (f + 1) (ie (e : Nat)) x2 (ie (d : Nat)) (ie ((dPs D d).length : Nat)) (hdI (a :: l)) (ie (i : Nat)) u = K_Md_typeRow_87 N g f (ie (e : Nat)) x2 (ie (d : Nat)) (ie ((dPs D d).length : Nat)) (hdI l) (ie ((i + 1 : Nat) : Int)) v := by
          intro N f hN
          show K_Md_typeRow_87 N g (f + 1) (ie (e : Nat)) x2 (ie (d : Nat)) (ie ((dPs D d).length : Nat)) (ie (a : Nat)) (ie (i : Nat)) u = _
          rw [st N f hN, if_neg (show ¬ (ib true = 0) by decide), v83]
        cases hff2 : fits c.1 ((dPs D d).drop (i + 1)) l f' with
        | none =>
          rw [hff2] at j2'
          refine ⟨j2'.1, fun N f hN hf => ?_⟩
          obtain ⟨f, rfl⟩ : ∃ f', f = f' + 1 := ⟨f - 1, by omega⟩
          rw [hst N f hN]; exact j2'.2 N f hN (by omega)
        | some f2 =>
          rw [hff2] at j2'
          refine ⟨by rw [← sFt_2 c e f' f2]; exact j2'.1, j2'.2.1, fun N f hN hf => ?_⟩
          obtain ⟨f, rfl⟩ : ∃ f', f = f' + 1 := ⟨f - 1, by omega⟩
          rw [hst N f hN]; exact j2'.2.2 N f hN (by omega)
