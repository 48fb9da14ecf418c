set_option maxRecDepth 100000
abbrev Ta : Type := Nat × Nat × Nat × Nat
def taA (c : CS) : List Ty → List Nat → Ta → Ta
  | p :: ps, a :: l, s => taA c ps l (if c.2.2.2 a = true then (s.1, s.2.1, s.2.2.1, s.2.2.2 + 1) else if tyM p = 0 then s else (s.1, s.2.1 + 1, s.2.2))
  | [], _, s => s
  | _ :: _, [], s => s
def taR (D : List Df) (c : CS) (e d : Nat) (s : Ta) : Ta := if tyM (dTy D d) = 0 then s else if c.2.2.2 e = true then s else (s.1, s.2.1, s.2.2.1 + 1, s.2.2.2)
def taE (D : List Df) (t : Tr) (c : CS) (e : Nat) (s : Ta) : Ta := match c.2.1 e with
  | none => s
  | some d => if (t.2.1 e).1 = 16 then taR D c e d (taA c (dPs D d) (t.2.1 e).2.2.2.2.2.2 (s.1 + 1, s.2)) else if (dPs D d).length = 0 then (s.1 + 1, s.2) else s
def taN (D : List Df) (t : Tr) (c : CS) : Nat → Nat → Ta → Ta
  | 0, _, s => s
  | n + 1, e, s => taN D t c n (e + 1) (taE D t c e s)
def taD (D : List Df) (t : Tr) (c : CS) (x : Df) : Ta := taN D t c (x.2.2.2.1 + 1 - x.2.2.2.2.1) x.2.2.2.2.1 (0, 0, 0, 0)
def cDt (u : pm_J) (i : Nat) (s : Ta) : Prop := u.1 38 (i * 6 + 2) = ie (s.1 : Nat) ∧ u.1 38 (i * 6 + 3) = ie (s.2.1 : Nat) ∧ u.1 38 (i * 6 + 4) = ie (s.2.2.1 : Nat) ∧ u.1 38 (i * 6 + 5) = ie (s.2.2.2 : Nat)
def cDg (T : List Tok) (n : Nat) (u : pm_J) (Y : List Ty) (i : Nat) (x : Df) : Prop := u.2 30 i = tkV T x.1 ∧ u.1 31 i = ie (tkP T n x.1 : Nat) ∧ (∃ k : Nat, u.1 32 i = ie k ∧ Y[k]? = some x.2.2.1) ∧ u.1 33 i = ie (x.2.2.2.1 : Nat) ∧ u.1 34 i = ie ((x.2.2.2.1 + 1 : Nat) : Int) ∧ cLoc i x.2.2.2.2.2.2 u Y ∧ u.1 38 (i * 6 + 0) = ie (List.length x.2.1 : Nat) ∧ u.1 38 (i * 6 + 1) = ie (bc (pmM x.2.1) : Nat)
def cF (T : List Tok) (n : Nat) (D : List Df) (t : Tr) (c : CS) (s : Nat → Ta) (g : pm_s) (u : pm_J) (Y : List Ty) : Prop := u.1 3 0 = ie 0 ∧ tyC g u Y ∧ (u.1 18 10 = ie (t.1 : Nat) ∧ t.1 ≤ 1800) ∧ (u.1 29 9 = ie (D.length : Nat) ∧ D.length ≤ 30) ∧ (∀ i x, D[i]? = some x → cDg T n u Y i x ∧ cDt u i (s i)) ∧ ∀ i, i < t.1 → cKn T n D t c u Y i
theorem cF_of {T : List Tok} {n : Nat} {D : List Df} {t : Tr} {c : CS} {g : pm_s} {u : pm_J} {Y : List Ty} (H : cK T n D t c g u Y) : cF T n D t c (fun _ => (0, 0, 0, 0)) g u Y := by
  obtain ⟨h1, h2, h3, h4, h5, h6⟩ := H
  refine ⟨h1, h2, h3, h4, fun i x hx => ?_, h6⟩
  obtain ⟨a1, a2, a3, a4, a5, a6, a7, a8, a9⟩ := h5 i x hx
  exact ⟨⟨a1, a2, a3, a4, a5, a6, a7, a8⟩, a9 2 (by omega) (by omega), a9 3 (by omega) (by omega), a9 4 (by omega) (by omega), a9 5 (by omega) (by omega)⟩
def bmp (k : Nat) (s : Ta) : Ta := if k = 2 then (s.1 + 1, s.2) else if k = 3 then (s.1, s.2.1 + 1, s.2.2) else if k = 4 then (s.1, s.2.1, s.2.2.1 + 1, s.2.2.2) else (s.1, s.2.1, s.2.2.1, s.2.2.2 + 1)
theorem cF_bmp {T : List Tok} {n : Nat} {D : List Df} {t : Tr} {c : CS} {s : Nat → Ta} {g : pm_s} {u : pm_J} {Y : List Ty} (H : cF T n D t c s g u Y) (d k : Nat) (hd : d < D.length) (hk : 2 ≤ k ∧ k ≤ 5) : ∃ v, F_Table_count (ie (d : Nat)) (ie (k : Nat)) 1 g u = some v ∧ cF T n D t c (pu_upd s d (bmp k (s d))) g v Y ∧ ∀ a i, a ≠ 38 → v.1 a i = u.1 a i ∧ v.2 a i = u.2 a i := by
  obtain ⟨h1, h2, h3, h4, h5, h6⟩ := H
  obtain ⟨_, _, _, _, _, _, b7⟩ := tb_row (g := g) h4 d hd
  refine ⟨_, (b7 k (by omega)).2, ?_, fun a i ha => ⟨wi_ne _ _ _ _ _ _ (by omega), rfl⟩⟩
  have hv : ∀ a i, ¬ (a = 38 ∧ i = d * 6 + k) → (wi u 38 (d * 6 + k) (u.1 38 (d * 6 + k) + 1)).1 a i = u.1 a i := fun a i h => wi_ne _ _ _ _ _ _ h
  refine ⟨(hv _ _ (by omega)).trans h1, tyC_fr h2 (fun a i ha => hv a i (fun hh => by rw [hh.1, cSy_no (by omega)] at ha; cases ha)), ⟨(hv _ _ (by omega)).trans h3.1, h3.2⟩, ⟨(hv _ _ (by omega)).trans h4.1, h4.2⟩, fun i x hx => ?_, fun i hi => ?_⟩
  · obtain ⟨⟨a1, a2, ⟨kt, a3, a3'⟩, a4, a5, ⟨c1, c2, c3⟩, a7, a8⟩, t1, t2, t3, t4⟩ := h5 i x hx
    refine ⟨⟨a1, (hv _ _ (by omega)).trans a2, ⟨kt, (hv _ _ (by omega)).trans a3, a3'⟩, (hv _ _ (by omega)).trans a4, (hv _ _ (by omega)).trans a5, ⟨(hv _ _ (by omega)).trans c1, c2, fun l hl => ?_⟩, (hv _ _ (by omega)).trans a7, (hv _ _ (by omega)).trans a8⟩, ?_⟩
    · obtain ⟨d1, d2⟩ := c3 l hl
      refine ⟨?_, (hv _ _ (by omega)).trans d2⟩
      cases hlt : x.2.2.2.2.2.2.2.1 l with
      | none => rw [hlt] at d1; exact (hv _ _ (by omega)).trans d1
      | some z => rw [hlt] at d1; obtain ⟨k', k1, k2⟩ := d1; exact ⟨k', (hv _ _ (by omega)).trans k1, k2⟩
    · by_cases ei : i = d
      · subst ei
        rw [upd_same]
        rcases (show k = 2 ∨ k = 3 ∨ k = 4 ∨ k = 5 by omega) with rfl | rfl | rfl | rfl
        · exact ⟨by rw [wi_at, t1, iadd1]; rfl, (hv _ _ (by omega)).trans t2, (hv _ _ (by omega)).trans t3, (hv _ _ (by omega)).trans t4⟩
        · exact ⟨(hv _ _ (by omega)).trans t1, by rw [wi_at, t2, iadd1]; rfl, (hv _ _ (by omega)).trans t3, (hv _ _ (by omega)).trans t4⟩
        · exact ⟨(hv _ _ (by omega)).trans t1, (hv _ _ (by omega)).trans t2, by rw [wi_at, t3, iadd1]; rfl, (hv _ _ (by omega)).trans t4⟩
        · exact ⟨(hv _ _ (by omega)).trans t1, (hv _ _ (by omega)).trans t2, (hv _ _ (by omega)).trans t3, by rw [wi_at, t4, iadd1]; rfl⟩
      · rw [upd_ne _ _ _ _ ei]
        exact ⟨(hv _ _ (by omega)).trans t1, (hv _ _ (by omega)).trans t2, (hv _ _ (by omega)).trans t3, (hv _ _ (by omega)).trans t4⟩
  · have := cKn_fr (c' := c) (v := wi u 38 (d * 6 + k) (u.1 38 (d * 6 + k) + 1)) (h6 i hi) [] ⟨rfl, rfl, rfl, rfl⟩ (fun a j hj => ⟨hv a j (by omega), rfl⟩)
    rw [List.append_nil] at this; exact this
theorem tb_loc2 {T : List Tok} {n : Nat} {D : List Df} {Y : List Ty} {g : pm_s} {u : pm_J} (h : u.1 29 9 = ie (D.length : Nat) ∧ D.length ≤ 30) {i : Nat} {x : Df} (hx : D[i]? = some x) (hd : cDg T n u Y i x) (l : Nat) (hl : l < x.2.2.2.2.2.2.1) : F_Table_localType (ie (i : Nat)) (ie (l : Nat)) g u = some (u.1 36 (i * 24 + l)) ∧ tyN Y (u.1 36 (i * 24 + l)) (x.2.2.2.2.2.2.2.1 l) := by
  have hi := (List.getElem?_eq_some_iff.mp hx).1
  have h1 := h.1
  have h2 := h.2
  obtain ⟨_, _, _, _, _, ⟨c1, c2, c3⟩, _⟩ := hd
  obtain ⟨c4, c5⟩ := c3 l hl
  have n0 : ¬ (ie (i : Int) < 0) := fun hh => by have := (inlt i 0 (by omega) (by omega)).mp hh; omega
  have n1 : ¬ (ie (D.length : Int) ≤ ie (i : Int)) := fun hh => by have := (inle D.length i (by omega) (by omega)).mp hh; omega
  have m0 : ¬ (ie (l : Int) < 0) := fun hh => by have := (inlt l 0 (by omega) (by omega)).mp hh; omega
  have m1 : ¬ (ie (x.2.2.2.2.2.2.1 : Int) ≤ ie (l : Int)) := fun hh => by have := (inle _ l (by omega) (by omega)).mp hh; omega
  have ok := okn i 30 (by omega) (by omega)
  have nt := ntn i (by omega)
  have e1 : ie (i : Int) * 24 + ie (l : Int) = ie ((i * 24 + l : Nat) : Int) := by rw [show (24 : Int32) = ie 24 from rfl, ie_mul, ie_add]; congr 1
  have ok1 := okn (i * 24 + l) 720 (by omega) (by omega)
  have nt1 := ntn (i * 24 + l) (by omega)
  have hh : F_Table_hasLocal (ie (i : Nat)) (ie (l : Nat)) g u = some 1 := by
    unfold F_Table_hasLocal
    simp only [h1, n0, n1, m0, ok, nt, c1, m1, if_true, if_false]
  unfold F_Table_localType
  rw [hh, Option.bind_some, e1, if_neg (show ¬ ((1 : Int32) = 0) by decide), if_pos ok1, nt1]
  refine ⟨rfl, ?_⟩
  cases hlt : x.2.2.2.2.2.2.2.1 l with
  | none => rw [hlt] at c4; exact c4
  | some s => rw [hlt] at c4; exact c4
def fr38 (u v : pm_J) : Prop := ∀ a i, a ≠ 38 → v.1 a i = u.1 a i ∧ v.2 a i = u.2 a i
theorem fr38_t {u v w : pm_J} (h : fr38 u v) (h' : fr38 v w) : fr38 u w := fun a i ha => ⟨(h' a i ha).1.trans (h a i ha).1, (h' a i ha).2.trans (h a i ha).2⟩
theorem k_cnt {T : List Tok} {n : Nat} {D : List Df} {t : Tr} {c : CS} {g : pm_s} {Y : List Ty} {e d dd : Nat} {x : Df} (N : Nat) (hdd : dd < D.length) (he : e < t.1) (hx : D[d]? = some x) (hpar : parI D) (j : Nat) : ∀ (i : Nat) (l : List Nat) (s : Nat → Ta) (u : pm_J) (fuel : Nat), i + j = (dPs D d).length → j ≤ l.length → j + 1 ≤ fuel → cn t.2.2.1 l → (∀ a ∈ l, a < t.1) → cF T n D t c s g u Y → ∃ v, K_Checker_countCall_40 N g fuel (ie (dd : Nat)) (ie (e : Nat)) (ie (d : Nat)) (hdI l) (ie (i : Nat)) u = some v ∧ cF T n D t c (pu_upd s dd (taR D c e d (taA c ((dPs D d).drop i) l (s dd)))) g v Y ∧ fr38 u v := by
  have hd := (List.getElem?_eq_some_iff.mp hx).1
  obtain ⟨p1, p2, p3⟩ := dPs_some hx
  obtain ⟨r1, r2, r3, r4⟩ := hpar d x hx
  have upd_id : ∀ s : Nat → Ta, pu_upd s dd (s dd) = s := fun s => by
    funext i; by_cases h : i = dd
    · rw [h, upd_same]
    · rw [upd_ne _ _ _ _ h]
  have upd_2 : ∀ (s : Nat → Ta) (a b : Ta), pu_upd (pu_upd s dd a) dd b = pu_upd s dd b := fun s a b => by
    funext i; by_cases h : i = dd
    · rw [h, upd_same, upd_same]
    · rw [upd_ne _ _ _ _ h, upd_ne _ _ _ _ h, upd_ne _ _ _ _ h]
  have shv : ∀ (s : Nat → Ta) (u : pm_J) (a : Nat), a < t.1 → cF T n D t c s g u Y → F_Tree_isShort (ie (a : Nat)) g u = some (ib (c.2.2.2 a)) := by
    intro s u a ha H
    obtain ⟨_, _, _, _, _, q6⟩ := tr_set (g := g) H.2.2.1 a ha
    rw [q6, (H.2.2.2.2.2 a ha).2.2.2.2.2.2.2.2.1]
    cases c.2.2.2 a <;> rfl
  induction j with
  | zero =>
    intro i l s u fuel hi hl hf hcn hat H
    obtain ⟨fuel, rfl⟩ : ∃ f', fuel = f' + 1 := ⟨fuel - 1, by omega⟩
    have h30 := H.2.2.2.1.2
    obtain ⟨b1, _, _, _, _, b6, _⟩ := tb_row (g := g) H.2.2.2.1 d hd
    obtain ⟨hD, _⟩ := H.2.2.2.2.1 d x hx
    obtain ⟨kt, kt1, kt2⟩ := hD.2.2.1
    obtain ⟨_, _, q3, _⟩ := c_row H.2.1 kt _ kt2
    have hM := tyG_M (tyC_g H.2.1 kt _ kt2)
    rw [K_Checker_countCall_40, b6, Option.bind_some, hD.2.2.2.2.2.2.1, if_pos ((inle _ _ (by omega) (by omega)).mpr (by omega)), b1, Option.bind_some, kt1, q3, Option.bind_some, List.drop_eq_nil_of_le (by omega)]
    have htaA : taA c [] l (s dd) = s dd := by unfold taA; rfl
    rw [htaA]
    unfold taR
    rw [p2]
    by_cases h0 : tyM x.2.2.1 = 0
    · rw [h0, if_pos (show ie ((0 : Nat) : Int) = 0 from rfl), if_pos rfl, upd_id]
      exact ⟨u, rfl, H, fun _ _ _ => ⟨rfl, rfl⟩⟩
    · rw [if_neg (show ¬ (ie (tyM x.2.2.1 : Nat) = 0) from fun hh => h0 ((ineq _ 0 (by omega) (by omega)).mp hh)), if_neg h0, shv s u e he H, Option.bind_some]
      cases hsh : c.2.2.2 e with
      | true =>
        rw [if_neg (show ¬ (ib true = 0) by decide), if_pos rfl, upd_id]
        exact ⟨u, rfl, H, fun _ _ _ => ⟨rfl, rfl⟩⟩
      | false =>
        obtain ⟨v, v1, v2, v3⟩ := cF_bmp H dd 4 hdd (by omega)
        have v1' : F_Table_count (ie (dd : Nat)) 4 1 g u = some v := v1
        rw [if_pos (show ib false = 0 from rfl), v1', Option.bind_some, if_neg (by decide)]
        exact ⟨v, rfl, v2, v3⟩
  | succ j ih =>
    intro i l s u fuel hi hl hf hcn hat H
    obtain ⟨fuel, rfl⟩ : ∃ f', fuel = f' + 1 := ⟨fuel - 1, by omega⟩
    cases l with
    | nil => exact absurd hl (by show ¬ (j + 1 ≤ 0); omega)
    | cons a l =>
      have h30 := H.2.2.2.1.2
      have ha1 := hat a List.mem_cons_self
      obtain ⟨_, _, _, _, _, b6, _⟩ := tb_row (g := g) H.2.2.2.1 d hd
      obtain ⟨hD, _⟩ := H.2.2.2.2.1 d x hx
      have hil : i < (dPs D d).length := by omega
      have hpi : (dPs D d)[i]? = some (dPs D d)[i] := List.getElem?_eq_getElem hil
      have hdr : (dPs D d).drop i = (dPs D d)[i] :: (dPs D d).drop (i + 1) := List.drop_eq_getElem_cons hil
      generalize (dPs D d)[i] = p at hpi hdr
      obtain ⟨pp, q1, q2⟩ := dPs_i hx hpi
      obtain ⟨t1, t2, t3⟩ := r3 i pp q1
      obtain ⟨hh1, hh2⟩ := cn_hd hcn
      have nxt : ∀ (s : Nat → Ta) (w : pm_J), cF T n D t c s g w Y → F_Tree_next (ie (a : Nat)) g w = some (hdI l) := fun s w Hw => by
        obtain ⟨_, _, _, _, _, m6, _⟩ := tr_row (g := g) Hw.2.2.1 a ha1
        rw [m6, (Hw.2.2.2.2.2 a ha1).2.2.2.2.2.1, hh1]
      rw [K_Checker_countCall_40, b6, Option.bind_some, hD.2.2.2.2.2.2.1, if_neg (fun hh => by have := (inle _ _ (by omega) (by omega)).mp hh; omega), hdr]
      show ∃ v, ((F_Tree_isShort (ie (a : Nat)) g u).bind fun q13 => _) = _ ∧ _
      rw [shv s u a ha1 H, Option.bind_some]
      have hl' : j ≤ l.length := by have : j + 1 ≤ l.length + 1 := hl; omega
      cases hsh : c.2.2.2 a with
      | true =>
        obtain ⟨v, v1, v2, v3⟩ := cF_bmp H dd 5 hdd (by omega)
        have v1' : F_Table_count (ie (dd : Nat)) 5 1 g u = some v := v1
        obtain ⟨v', i1, i2, i3⟩ := ih (i + 1) l _ v fuel (by omega) hl' (by omega) hh2 (fun b hb => hat b (List.mem_cons_of_mem _ hb)) v2
        rw [if_neg (show ¬ (ib true = 0) by decide), v1', Option.bind_some]
        show ∃ w, ((F_Tree_next (ie (a : Nat)) g v).bind fun q22 => _) = _ ∧ _
        rw [nxt _ v v2, Option.bind_some, iadd1]
        rw [upd_same, upd_2] at i2
        refine ⟨v', i1, ?_, fr38_t v3 i3⟩
        rw [taA, hsh, if_pos rfl]; exact i2
      | false =>
        obtain ⟨l1, l3⟩ := tb_loc2 (g := g) H.2.2.2.1 hx hD i (by omega)
        rw [t1, q2] at l3
        obtain ⟨kp, kp1, kp2⟩ := l3
        obtain ⟨_, _, g3, _⟩ := c_row H.2.1 kp _ kp2
        have hM := tyG_M (tyC_g H.2.1 kp _ kp2)
        rw [if_pos (show ib false = 0 from rfl), l1, Option.bind_some, kp1, g3, Option.bind_some]
        by_cases h0 : tyM p = 0
        · rw [h0, if_pos (show ie ((0 : Nat) : Int) = 0 from rfl)]
          show ∃ w, ((F_Tree_next (ie (a : Nat)) g u).bind fun q22 => _) = _ ∧ _
          rw [nxt _ u H, Option.bind_some, iadd1]
          obtain ⟨v', i1, i2, i3⟩ := ih (i + 1) l s u fuel (by omega) hl' (by omega) hh2 (fun b hb => hat b (List.mem_cons_of_mem _ hb)) H
          refine ⟨v', i1, ?_, i3⟩
          rw [taA, hsh, if_neg (by decide), if_pos h0]; exact i2
        · obtain ⟨v, v1, v2, v3⟩ := cF_bmp H dd 3 hdd (by omega)
          have v1' : F_Table_count (ie (dd : Nat)) 3 1 g u = some v := v1
          obtain ⟨v', i1, i2, i3⟩ := ih (i + 1) l _ v fuel (by omega) hl' (by omega) hh2 (fun b hb => hat b (List.mem_cons_of_mem _ hb)) v2
          rw [if_neg (show ¬ (ie (tyM p : Nat) = 0) from fun hh => h0 ((ineq _ 0 (by omega) (by omega)).mp hh)), v1', Option.bind_some]
          show ∃ w, ((F_Tree_next (ie (a : Nat)) g v).bind fun q22 => _) = _ ∧ _
          rw [nxt _ v v2, Option.bind_some, iadd1]
          rw [upd_same, upd_2] at i2
          refine ⟨v', i1, ?_, fr38_t v3 i3⟩
          rw [taA, hsh, if_neg (by decide), if_neg h0]; exact i2
