set_option maxRecDepth 100000
theorem rd_p {T : List Tok} {n : Nat} {D : List Df} {t : Tr} {c : CS} {u : pm_J} {Y : List Ty} {d : Nat} (H : rC T n D t c c.1 u Y) (hd : d < D.length) {A : List Va} (hA : aRg D d A) {i : Nat} {x : Va} (hi : A[i]? = some x) : u.1 99 (6 * d + i) = ie (x.1 : Nat) ∧ x.1 < 2 := by
  have hil := (List.getElem?_eq_some_iff.mp hi).1
  have hlA := hA.1
  obtain ⟨p, hp⟩ : ∃ p, (dPs D d)[i]? = some p := ⟨_, List.getElem?_eq_getElem (by omega)⟩
  obtain ⟨a1, a2⟩ := hA.2 i x p hi hp
  obtain ⟨_, _, _, _, b5⟩ := rtb_all H hd
  obtain ⟨k, k1, k2, k3⟩ := b5 i p hp
  rw [a2] at k3
  have := (ty_num H.2.2.2.2.1 k3).1
  exact ⟨by rw [k1, this], a1⟩
theorem r_234 {u0 w : pm_J} {Y : List Ty} {r : Nat} {hp : Hp} {v : Va} {st cc dp : Nat} (N : Nat) (g : pm_s) (hr : 1 ≤ r ∧ r ≤ 4) (h : finR u0 Y w r hp v st cc dp) : ∃ z, (if (w.1 64 96) = 0 then K_Md_run_234 N g 1 w else K_Md_run_234 N g 0 w) = some (ie (r : Nat), z) ∧ finR u0 Y z r hp v st cc dp ∧ z.1 64 105 = ie ((if r = 1 then 1 else 0 : Nat) : Int) := by
  obtain ⟨f1, f2, f3, f4, f5, f6, f7⟩ := h
  have go : ∀ x : Int32, finR u0 Y (wi w 64 105 x) r hp v st cc dp := fun x => by
    have aw : ag (fun c i => ¬ (c = 64 ∧ i = 105)) w (wi w 64 105 x) := ag_wi (ag_r _ w) _ _ _ (by omega)
    exact ⟨ag_t f1 (ag_m aw (fun c i hc => by unfold wZ at hc; omega)), hR_ag f2 (ag_m aw (fun c i hc => by unfold wH at hc; omega)), (aw _ _ (by omega)).1.trans f3, (aw _ _ (by omega)).1.trans f4, (aw _ _ (by omega)).1.trans f5, (aw _ _ (by omega)).1.trans f6, fun hh => ⟨(aw _ _ (by omega)).1.trans (f7 hh).1, (aw _ _ (by omega)).2.trans (f7 hh).2⟩⟩
  by_cases e : r = 1
  · rw [if_pos e] at f6
    refine ⟨wi w 64 105 1, ?_, go 1, by rw [wi_at, if_pos e]; rfl⟩
    unfold K_Md_run_234
    rw [f6, if_pos (show ie ((0 : Nat) : Int) = (0 : Int32) from rfl), if_pos (by decide), if_neg (by decide), e]; rfl
  · rw [if_neg e] at f6
    refine ⟨wi w 64 105 0, ?_, go 0, by rw [wi_at, if_neg e]; rfl⟩
    unfold K_Md_run_234
    rw [f6, if_neg (show ¬ (ie (r : Nat) = (0 : Int32)) from fun hh => by have := (ineq r 0 (by omega) (by omega)).mp hh; omega), if_pos (by decide), if_pos (by decide)]
theorem st_loopR {T : List Tok} {n : Nat} {D : List Df} {t : Tr} {c : CS} {Y : List Ty} {u4 : pm_J} {d w : Nat} {A : List Va} (N : Nat) (g : pm_s) (H : rC T n D t c c.1 u4 Y) (hd : d < D.length) (hA : aRg D d A) (hw : A.length ≤ w) (hw24 : w ≤ 24) (h6 : A.length ≤ 6) (h107 : u4.1 64 107 = ie (A.length : Nat)) (h131 : ∀ (i : Nat) (x : Va), A[i]? = some x → u4.2 131 i = x.2) (m : Nat) : ∀ (i : Nat) (u : pm_J) (f : Nat), i + m = A.length → m < f → ag (fun c _ => c ≠ 113 ∧ c ≠ 114) u4 u → loR u (lDef (fun _ => none) 0 w (A.take i)) (0 + w) → ∃ z, K_Md_run_146 N g f (ie (d : Nat)) (ie ((0 : Nat) : Int)) (ie (i : Nat)) u = ((F_Md_begin (ie (dRt D d : Nat)) (ie ((0 : Nat) : Int)) g (wi z 64 107 0)).bind fun q13 => (F_Md_go N g q13).bind fun q14 => if (q14.1 64 96) = 0 then K_Md_run_234 N g 1 q14 else K_Md_run_234 N g 0 q14) ∧ ag (fun c _ => c ≠ 113 ∧ c ≠ 114) u4 z ∧ loR z (lDef (fun _ => none) 0 w A) (0 + w) := by
  have h30 := H.2.2.1.2
  have okd := okn d 30 (by omega) (by omega)
  have ntd := ntn d (by omega)
  induction m with
  | zero =>
    intro i u f hi hf ha hlo
    obtain ⟨f, rfl⟩ : ∃ f', f = f' + 1 := ⟨f - 1, by omega⟩
    rw [List.take_of_length_le (by omega)] at hlo
    refine ⟨u, ?_, ha, hlo⟩
    rw [K_Md_run_146, (ha 64 107 (by omega)).1, h107, if_pos ((inle _ _ (by omega) (by omega)).mpr (by omega)), if_pos okd, ntd, (ha 96 d (by omega)).1, (rtb_all H hd).1]
  | succ m ih =>
    intro i u f hi hf ha hlo
    obtain ⟨f, rfl⟩ : ∃ f', f = f' + 1 := ⟨f - 1, by omega⟩
    obtain ⟨x, hx⟩ : ∃ x, A[i]? = some x := ⟨_, List.getElem?_eq_getElem (by omega)⟩
    obtain ⟨p1, p2⟩ := rd_p H hd hA hx
    have e6 : (6 : Int32) * ie (d : Nat) + ie (i : Nat) = ie ((6 * d + i : Nat) : Int) := by
      rw [show (6 : Int32) = ie ((6 : Nat) : Int) from rfl, ie_mul, ie_add]; rfl
    have aw : ag (fun c _ => c ≠ 113 ∧ c ≠ 114) u (wj (wi u 113 (0 + i) (ie (x.1 : Nat))) 114 (0 + i) x.2) := ag_wj (ag_wi (ag_r _ u) _ _ _ (by omega)) _ _ _ (by omega)
    obtain ⟨z, z1, z2, z3⟩ := ih (i + 1) _ f (by omega) (by omega) (ag_t ha aw) (loR_d1 hlo hx)
    refine ⟨z, ?_, z2, z3⟩
    have ok1 := okn (0 + i) 60000 (by omega) (by omega)
    rw [K_Md_run_146, (ha 64 107 (by omega)).1, h107, if_neg (fun hh => by have := (inle _ _ (by omega) (by omega)).mp hh; omega), e6, if_pos (okn (6 * d + i) 180 (by omega) (by omega)), ie_bl, if_pos ok1, if_pos (okn i 6 (by omega) (by omega)), if_pos ok1, ntn _ (by omega), ntn _ (by omega), ntn i (by omega), (ha 99 _ (by omega)).1, (ha 131 _ (by omega)).2, p1, h131 i x hx, iadd1]
    exact z1
theorem r_run {T : List Tok} {n : Nat} {D : List Df} {t : Tr} {c : CS} {Y : List Ty} {u : pm_J} {d lim r : Nat} {A : List Va} {sf : Ms} (bx : Bool) (N : Nat) (hN : 10000000 ≤ N) (g : pm_s) (hW : pW T D t) (hS : pS T D t) (hI : kI0 D t t.1 c) (H : rC T n D t c c.1 u Y) (hd : d < D.length) (hA : aRg D d A) (h107 : u.1 64 107 = ie (A.length : Nat)) (h131 : ∀ (i : Nat) (x : Va), A[i]? = some x → u.2 131 i = x.2) (hl : lim ≤ 20000) (hr : rch D t c bx lim 9700000 (s0R D d A) r sf) (hr1 : 1 ≤ r ∧ r ≤ 4) : ∃ w, F_Md_run N (ie (d : Nat)) (ib bx) (ie (lim : Nat)) g u = some (ie (r : Nat), w) ∧ finR (wi (wi u 64 2 0) 64 107 0) Y w r sf.1 sf.2.2.2.2.1 sf.2.2.2.2.2.1 sf.2.2.2.2.2.2.1 sf.2.2.2.2.2.2.2.1 ∧ w.1 64 105 = ie ((if r = 1 then 1 else 0 : Nat) : Int) := by
  have hx : D[d]? = some D[d] := List.getElem?_eq_getElem hd
  have h30 := H.2.2.1.2
  have h44 := H.2.2.1.1
  obtain ⟨b1, b2, b3, _, _⟩ := rtb_all H hd
  have hAl := hA.1
  have hw : dWd D d = D[d].2.2.2.2.2.2.1 := by unfold dWd; rw [hx]
  have hlw : A.length ≤ dWd D d ∧ A.length ≤ 6 := by
    rw [hAl, (dPs_some hx).2.2, hw]
    exact ⟨(hW.1 d _ hx).2.2.2.2.2.2.1.2.1, (hW.1 d _ hx).2.2.2.2.2.2.1.1⟩
  have hw24 : dWd D d ≤ 24 := by
    rw [hw]; exact (hW.1 d _ hx).2.2.2.2.2.2.1.2.2.1
  have okd := okn d 30 (by omega) (by omega)
  have ntd := ntn d (by omega)
  have nod : F_Md_noDef (ie (d : Nat)) g u = some 0 := by
    unfold F_Md_noDef
    rw [if_neg (show ¬ (ie (d : Nat) < (0 : Int32)) from fun hh => by have := (inlt d 0 (by omega) (by omega)).mp hh; omega), h44, if_pos ((inlt _ _ (by omega) (by omega)).mpr hd)]
  have l42 : ∀ (m i f : Nat), i + m = A.length → m < f → K_Md_run_42 N g f (ie (d : Nat)) (ib bx) (ie (lim : Nat)) 1 (ie (i : Nat)) u = K_Md_run_87 N g (ie (d : Nat)) (ib bx) (ie (lim : Nat)) 1 u := by
    intro m
    induction m with
    | zero =>
      intro i f hi hf
      obtain ⟨f, rfl⟩ : ∃ f', f = f' + 1 := ⟨f - 1, by omega⟩
      rw [K_Md_run_42, if_neg (by decide), if_pos okd, ntd, b3, if_pos ((inle _ _ (by omega) (by omega)).mpr (by omega))]
    | succ m ih =>
      intro i f hi hf
      obtain ⟨f, rfl⟩ : ∃ f', f = f' + 1 := ⟨f - 1, by omega⟩
      obtain ⟨x, hx'⟩ : ∃ x, A[i]? = some x := ⟨_, List.getElem?_eq_getElem (by omega)⟩
      obtain ⟨p1, p2⟩ := rd_p H hd hA hx'
      have e6 : (6 : Int32) * ie (d : Nat) + ie (i : Nat) = ie ((6 * d + i : Nat) : Int) := by
        rw [show (6 : Int32) = ie ((6 : Nat) : Int) from rfl, ie_mul, ie_add]; rfl
      rw [K_Md_run_42, if_neg (by decide), if_pos okd, ntd, b3, if_neg (fun hh => by have := (inle _ _ (by omega) (by omega)).mp hh; omega), e6, if_pos (okn (6 * d + i) 180 (by omega) (by omega)), ntn _ (by omega), p1, if_neg (show ¬ ((2 : Int32) ≤ ie (x.1 : Nat)) from fun hh => by have := (inle 2 _ (by omega) (by omega)).mp hh; omega), iadd1]
      exact ih (i + 1) f (by omega) (by omega)
  let u1 : pm_J := wi (wi (wi (wi (wi (wi (wi (wi (wi (wi (wi (wi (wi (wi (wi u 64 2 0) 64 72 0) 64 81 0) 64 88 0) 64 89 0) 64 92 0) 64 96 0) 64 97 0) 64 99 0) 64 100 0) 64 101 0) 64 102 0) 64 103 0) 64 104 0) 64 105 0
  let u2 : pm_J := wi (wi u1 64 95 (ib bx)) 64 98 (ie (lim : Nat))
  have a2 : ag (fun c i => ¬ (c = 64 ∧ (i = 2 ∨ 72 ≤ i) ∧ i ≠ 107)) u u2 := by
    refine ag_wi (ag_wi (ag_wi (ag_wi (ag_wi (ag_wi (ag_wi (ag_wi (ag_wi (ag_wi (ag_wi (ag_wi (ag_wi (ag_wi (ag_wi (ag_wi (ag_wi (ag_r _ u) _ _ _ ?_) _ _ _ ?_) _ _ _ ?_) _ _ _ ?_) _ _ _ ?_) _ _ _ ?_) _ _ _ ?_) _ _ _ ?_) _ _ _ ?_) _ _ _ ?_) _ _ _ ?_) _ _ _ ?_) _ _ _ ?_) _ _ _ ?_) _ _ _ ?_) _ _ _ ?_) _ _ _ ?_ <;> omega
  have hlo0 := (r_locals0 (u := u2) (lc := 0) (w := dWd D d) (d := d) g (by omega) hw24 ((a2 94 d (by omega)).1.trans b2) rfl (by omega)).1 (by omega)
  let u4 : pm_J := wi u2 64 72 (ie ((0 + dWd D d : Nat) : Int))
  have a4 : ag (fun c i => ¬ (c = 64 ∧ (i = 2 ∨ 72 ≤ i) ∧ i ≠ 107)) u u4 := ag_wi a2 _ _ _ (by omega)
  have H4 : rC T n D t c c.1 u4 Y := rC_cg H (fun a i hk => a4 a i (by unfold rKp at hk; omega))
  have hl4 : loR u4 (lDef (fun _ => none) 0 (dWd D d) (A.take 0)) (0 + dWd D d) := by
    refine ⟨rfl, by omega, fun i y hi hy => ?_⟩
    exfalso
    unfold lDef at hy
    rw [List.take_zero] at hy
    by_cases e : 0 ≤ i ∧ i < 0 + dWd D d
    · rw [if_pos e] at hy; cases hy
    · rw [if_neg e] at hy; cases hy
  obtain ⟨z, z1, z2, z3⟩ := st_loopR N g H4 hd hA hlw.1 hw24 hlw.2 ((a4 _ _ (by omega)).1.trans h107) (fun i x hi => (a4 _ _ (by omega)).2.trans (h131 i x hi)) A.length 0 u4 N (by omega) (by omega) (ag_r _ _) hl4
  have a5 : ag (fun c i => c ≠ 113 ∧ c ≠ 114 ∧ ¬ (c = 64 ∧ i = 107)) u4 (wi z 64 107 0) := ag_wi (ag_m z2 (fun c i hc => by omega)) _ _ _ (by omega)
  have hz : ∀ i, i ≠ 107 → (wi z 64 107 0).1 64 i = u4.1 64 i := fun i hi => (a5 64 i (by omega)).1
  have au : ag (fun c i => ¬ (c = 64 ∧ (i = 2 ∨ i = 107))) u (wi (wi u 64 2 0) 64 107 0) := ag_wi (ag_wi (ag_r _ u) _ _ _ (by omega)) _ _ _ (by omega)
  have hrr : rr0 (wi (wi u 64 2 0) 64 107 0) t Y bx lim (wi z 64 107 0) ([], 0) (lDef (fun _ => none) 0 (dWd D d) A) (0 + dWd D d) [] 0 0 0 := by
    refine ⟨fun cc ii hc => ?_, ⟨(hz 81 (by omega)).trans rfl, by show 0 ≤ 4000; omega, (fun i it hi => by cases hi), ⟨(hz 99 (by omega)).trans rfl, (hz 101 (by omega)).trans rfl, (hz 102 (by omega)).trans rfl, (hz 103 (by omega)).trans rfl⟩, (hz 100 (by omega)).trans rfl⟩, loR_ag z3 (ag_wi (ag_r _ _) _ _ _ (by unfold wL; omega)), trivial, ⟨(hz 92 (by omega)).trans rfl, (fun i x hi => by cases hi)⟩, ⟨(hz 88 (by omega)).trans rfl, by show 0 ≤ 150; omega⟩, (hz 97 (by omega)).trans rfl, (hz 104 (by omega)).trans rfl, (hz 89 (by omega)).trans rfl, (hz 98 (by omega)).trans rfl, (hz 95 (by omega)).trans rfl, (hz 96 (by omega)).trans rfl, by omega, hl, by omega⟩
    by_cases e1 : cc = 64 ∧ ii = 107
    · obtain ⟨rfl, rfl⟩ := e1
      refine ⟨by rw [wi_at, wi_at], ?_⟩
      exact (z2 64 107 (by omega)).2
    · by_cases e2 : cc = 64 ∧ ii = 2
      · obtain ⟨rfl, rfl⟩ := e2
        exact ⟨(hz 2 (by omega)).trans rfl, (a5 64 2 (by omega)).2⟩
      · unfold wZ at hc
        have p1 := a5 cc ii (by omega)
        have p2 := a4 cc ii (by omega)
        have p3 := au cc ii (by omega)
        exact ⟨(p1.1.trans p2.1).trans p3.1.symm, (p1.2.trans p2.2).trans p3.2.symm⟩
  obtain ⟨q, q1, q2⟩ := r_begin g (by omega) hrr hr
  have H0 : rC T n D t c c.1 (wi (wi u 64 2 0) 64 107 0) Y := rC_cg H (fun a i hk => au a i (by unfold rKp at hk; omega))
  have hgo : ∃ w, F_Md_go N g q = some w ∧ finR (wi (wi u 64 2 0) 64 107 0) Y w r sf.1 sf.2.2.2.2.1 sf.2.2.2.2.2.1 sf.2.2.2.2.2.2.1 sf.2.2.2.2.2.2.2.1 := by
    unfold F_Md_go
    rcases q2 with ⟨k', s', k1, k2, k3⟩ | ⟨k1, k2, k3⟩
    · exact r_go N (by omega) g hW hS hI H0 9700000 k' s' q N (by omega) k2 k3 (by omega)
    · refine ⟨q, ?_, k3⟩
      obtain ⟨f, hf⟩ : ∃ f', N = f' + 1 := ⟨N - 1, by omega⟩
      have h96 := k3.2.2.2.2.2.1
      rw [if_neg (by omega)] at h96
      have hK : K_Md_go_0 N g (f + 1) q = some q := by
        rw [K_Md_go_0]
        by_cases e : q.1 64 88 ≤ 0
        · rw [if_pos e]
        · rw [if_neg e, h96, if_neg (show ¬ (ie (r : Nat) = (0 : Int32)) from fun hh => by have := (ineq r 0 (by omega) (by omega)).mp hh; omega)]
      rw [← hf] at hK; exact hK
  obtain ⟨w, w1, w2⟩ := hgo
  obtain ⟨y, y1, y2, y3⟩ := r_234 N g hr1 w2
  refine ⟨y, ?_, y2, y3⟩
  unfold F_Md_run
  rw [nod, Option.bind_some, if_pos rfl, if_neg (show ¬ (ie (lim : Nat) < (0 : Int32)) from fun hh => by have := (inlt lim 0 (by omega) (by omega)).mp hh; omega), if_neg (show ¬ ((20000 : Int32) < ie (lim : Nat)) from fun hh => by have := (inlt 20000 lim (by omega) (by omega)).mp hh; omega), if_pos okd, ntd, b3, h107, hAl, if_pos rfl]
  refine (l42 A.length 0 N (by omega) (by omega)).trans ?_
  unfold K_Md_run_87
  rw [nod, Option.bind_some, if_pos rfl, if_neg (by decide)]
  unfold K_Md_run_110
  rw [if_pos (by decide)]
  show (if (ib bx == 0 || ib bx == 1) = true then (F_Md_locals0 (ie (d : Nat)) g u2).bind fun q10 => K_Md_run_146 N g N (ie (d : Nat)) q10.1 0 q10.2 else none) = _
  rw [if_pos (by cases bx <;> rfl), hlo0, Option.bind_some]
  refine z1.trans ?_
  rw [q1, Option.bind_some, w1, Option.bind_some]; exact y1
