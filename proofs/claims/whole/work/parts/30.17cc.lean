set_option maxRecDepth 100000
theorem e_begins {T : List Tok} {n d m : Nat} {cl0 : Option Nat} {sc : Sc} {s : PS} {g : pm_s} {u : pm_J} {Y : List Ty} (hG : tkG T) (h : cE T n d m cl0 sc s g u Y) (hs : s.1 ≤ T.length) : F_Parser_beginsAtom g u = some (ib (bgA (tkK T s.1))) := by
  have k1 : (ie (tkK T s.1 : Int) = 1) ↔ tkK T s.1 = 1 := kq (hG.1 s.1) 1 (by omega)
  have k2 : (ie (tkK T s.1 : Int) = 2) ↔ tkK T s.1 = 2 := kq (hG.1 s.1) 2 (by omega)
  have k3 : (ie (tkK T s.1 : Int) = 3) ↔ tkK T s.1 = 3 := kq (hG.1 s.1) 3 (by omega)
  have k15 : (ie (tkK T s.1 : Int) = 15) ↔ tkK T s.1 = 15 := kq (hG.1 s.1) 15 (by omega)
  unfold F_Parser_beginsAtom
  rw [k_kind h.1 hs g, Option.bind_some]
  simp only [k1, k2, k3, k15]
  unfold bgA
  by_cases e2 : tkK T s.1 = 2
  · rw [if_pos e2, e2]; rfl
  · by_cases e3 : tkK T s.1 = 3
    · rw [if_neg e2, if_pos e3, e3]; rfl
    · by_cases e1 : tkK T s.1 = 1
      · rw [if_neg e2, if_neg e3, if_pos e1, e1]; rfl
      · by_cases e15 : tkK T s.1 = 15
        · rw [if_neg e2, if_neg e3, if_neg e1, if_pos e15, e15]; rfl
        · rw [if_neg e2, if_neg e3, if_neg e1, if_neg e15]
          have hf : (tkK T s.1 == 2 || tkK T s.1 == 3 || tkK T s.1 == 1 || tkK T s.1 == 15) = false := by simp [e1, e2, e3, e15]
          rw [hf]; rfl
theorem f_73 {T : List Tok} {n d : Nat} {q : Nat × Nat} {g : pm_s} {u : pm_J} (N : Nat) (hN : 100 ≤ N) (R : Int32 → pm_s → pm_J → Option (Int32 × pm_s × pm_J)) (x1 x4 : Int32) (h : fl T n q g u) : flR T n d q g u (K_Parser_readAtoms_73 N R x1 x4 g u) := by
  obtain ⟨p, hp⟩ := f_place h x1
  obtain ⟨w, v, v1, v2⟩ := f_add (d := d) N hN h 16 p x1 (-1) x4
  unfold K_Parser_readAtoms_73
  rw [hp, Option.bind_some, v1, Option.bind_some]
  exact flR_1 _ v2
theorem f_atoms {T : List Tok} {n d : Nat} {q : Nat × Nat} {g : pm_s} {u : pm_J} (N : Nat) (hN : 100 ≤ N) (R : Int32 → pm_s → pm_J → Option (Int32 × pm_s × pm_J)) (f : Nat) (hf : 0 < f) (x1 x2 x3 x4 x5 : Int32) (h : fl T n q g u) : flR T n d q g u (K_Parser_readAtoms_8 N R f x1 x2 x3 x4 x5 g u) := by
  obtain ⟨f, rfl⟩ : ∃ f', f = f' + 1 := ⟨f - 1, by omega⟩
  have := f_73 (d := d) N hN R x1 x4 h
  rw [K_Parser_readAtoms_8, f_begins h, Option.bind_some, if_pos rfl]
  split <;> exact this
theorem e_placeOf {T : List Tok} {n d m : Nat} {cl0 : Option Nat} {sc : Sc} {s : PS} {g : pm_s} {u : pm_J} {Y : List Ty} (h : cE T n d m cl0 sc s g u Y) (x : Nat) (hx : x < s.2.2.2.1) : F_Tree_placeOf (ie x) g u = some (ie (tkP T n (s.2.2.2.2.1 x).2.1 : Nat)) := by
  have hc := h.2.2.2.2.2.2.1
  obtain ⟨g1, g2, g3, g4⟩ := g_node s.2.2.2.1 x hc.1 hx hc.2.1
  unfold F_Tree_placeOf
  rw [if_neg g1, if_neg g2, if_pos g3, g4, (hc.2.2 x hx).2.1]
theorem cE_hr {T : List Tok} {n d m : Nat} {cl0 : Option Nat} {sc : Sc} {s : PS} {g : pm_s} {u : pm_J} {Y : List Ty} (t : Tr) (h : cE T n d m cl0 sc s g u Y) (h1 : t.1 = s.2.2.2.1) (h2 : t.2.1 = s.2.2.2.2.1) (h3 : t.2.2.1 = s.2.2.2.2.2.1) : cE T n d m cl0 sc (sTr s t) g u Y := by
  refine cE_set t h (fun _ _ _ => ⟨rfl, rfl⟩) ?_
  have hc := h.2.2.2.2.2.2.1
  refine ⟨by rw [h1]; exact hc.1, by rw [h1]; exact hc.2.1, fun i hi => ?_⟩
  rw [h2, h3]; exact hc.2.2 i (by omega)
theorem c_atoms {T : List Tok} {n d m : Nat} {cl0 : Option Nat} {sc : Sc} (N : Nat) (hN : 100 ≤ N) (hG : tkG T) (r : PR) (R : Int32 → pm_s → pm_J → Option (Int32 × pm_s × pm_J)) (dp : Int32) (ih : iE T n d m cl0 r (R (dp + 1))) (hd : Nat) (nm : Bool) (j : Nat) : ∀ (f last : Nat) (acc : List Nat) (s : PS) (g : pm_s) (u : pm_J) (Y : List Ty),
    j + acc.length = 8 → j + 1 < f → cE T n d m cl0 sc s g u Y → s.1 ≤ T.length → Y.length + (T.length - s.1) ≤ 60000 → s.2.2.2.1 < 2 * s.1 → hd < s.2.2.2.1 → last < s.2.2.2.1 →
    peC T n d m cl0 sc s g u Y (pAtoms r T sc hd nm j last acc s) (K_Parser_readAtoms_8 N R f (ie hd) dp (ie last) (ie acc.length) (ie acc.length) g u) := by
  have fin : ∀ (f last : Nat) (acc : List Nat) (s : PS) (g : pm_s) (u : pm_J) (Y : List Ty), acc.length ≤ 8 → cE T n d m cl0 sc s g u Y → s.1 ≤ T.length → s.2.2.2.1 < 2 * s.1 → hd < s.2.2.2.1 → peC T n d m cl0 sc s g u Y (.ok (s.2.2.2.1, sTr s (tAdd (tNr (tHr s.2.2.2 hd nm) acc) (16, (s.2.2.2.2.1 hd).2.1, hd, -1, acc.length, 0, acc)))) (K_Parser_readAtoms_73 N R (ie hd) (ie acc.length) g u) := by
    intro f last acc s g u Y ha h hs hn hh
    have h9 := cE_9 h
    have h2 := cE_hr (tNr (tHr s.2.2.2 hd nm) acc) h rfl rfl rfl
    unfold K_Parser_readAtoms_73
    rw [e_placeOf h hd hh, Option.bind_some]
    obtain ⟨v, v1, v2, v3⟩ := e_add N hN h2 (by show s.2.2.2.1 < 1800; omega) 16 (s.2.2.2.2.1 hd).2.1 hd (-1) acc.length acc
    have v1' : F_Tree_add N 16 (ie (tkP T n (s.2.2.2.2.1 hd).2.1 : Nat)) (ie hd) (-1) (ie acc.length) g u = some (ie (s.2.2.2.1 : Nat), v) := v1
    rw [v1', Option.bind_some]
    exact peC_0 (q := (s.2.2.2.1, sTr s (tAdd (tNr (tHr s.2.2.2 hd nm) acc) (16, (s.2.2.2.2.1 hd).2.1, hd, -1, acc.length, 0, acc)))) v2 v3
  induction j with
  | zero =>
    intro f last acc s g u Y hj hf h hs hY hn hh hl
    have h9 := cE_9 h
    obtain ⟨f, rfl⟩ : ∃ f', f = f' + 1 := ⟨f - 1, by omega⟩
    rw [K_Parser_readAtoms_8, if_neg (show ¬ ((8 : Int32) < ie (acc.length : Int)) from fun hh => by have := (inlt 8 acc.length (by omega) (by omega)).mp hh; omega), e_begins hG h hs, Option.bind_some, pAtoms]
    simp only [ib_z]
    by_cases hb : bgA (tkK T s.1) = true
    · rw [if_neg (show ¬ (bgA (tkK T s.1) = false) by rw [hb]; decide), if_pos hb, if_pos (show ie (acc.length : Int) = 8 from (ineq acc.length 8 (by omega) (by omega)).mpr (by omega)), k_here h.1 hs g, Option.bind_some]
      obtain ⟨t1, t2⟩ := e_tell h 3 s.1 (by omega) (by omega)
      have t1' : F_Fault_tell_3 3 (ie (tkP T n s.1)) g u = some (cTell u 3 (tkP T n s.1)) := t1
      have t2' : fl T n (3, s.1) g (cTell u 3 (tkP T n s.1)) := t2
      rw [t1', Option.bind_some]
      exact peC_f (flR_fr (fr_TE (frT_tell u _ _)) (f_atoms N hN R f (by omega) _ _ _ _ _ t2'))
    · rw [if_pos (show bgA (tkK T s.1) = false by simpa using hb), if_neg hb]
      exact fin f last acc s g u Y (by omega) h hs hn hh
  | succ j ihj =>
    intro f last acc s g u Y hj hf h hs hY hn hh hl
    have h9 := cE_9 h
    obtain ⟨f, rfl⟩ : ∃ f', f = f' + 1 := ⟨f - 1, by omega⟩
    rw [K_Parser_readAtoms_8, if_neg (show ¬ ((8 : Int32) < ie (acc.length : Int)) from fun hh => by have := (inlt 8 acc.length (by omega) (by omega)).mp hh; omega), e_begins hG h hs, Option.bind_some, pAtoms]
    simp only [ib_z]
    by_cases hb : bgA (tkK T s.1) = true
    · rw [if_neg (show ¬ (bgA (tkK T s.1) = false) by rw [hb]; decide), if_pos hb, if_neg (show ¬ (ie (acc.length : Int) = 8) from fun hh => by have := (ineq acc.length 8 (by omega) (by omega)).mp hh; omega)]
      have bO := b_atom ih.2.2 sc false s (cE_24 h)
      refine peC_b (c_atom N hN hG r R dp ih h ⟨hs, by omega, hY, h9⟩) (fr_refl _ _) (Nat.le_refl _) bO ?_ ?_ ?_
      · intro q g' v Z hq hlt1 hle1 hfr hgl hc hZ
        obtain ⟨b1, b2, b3, b4, b5, b6, b7⟩ := bO q hq
        obtain ⟨v2, w1, w2, w3⟩ := e_chain hc last q.1 (by omega)
        show peC T n d m cl0 sc q.2 g' v (Y ++ Z) _ ((F_Tree_chain (ie last) (ie (q.1 : Nat)) g' v).bind fun q10 => _)
        rw [w1, Option.bind_some, iadd1]
        have hal : (acc ++ [q.1]).length = acc.length + 1 := by simp
        have key := ihj f q.1 (acc ++ [q.1]) (sTr q.2 (tNx q.2.2.2.2 last q.1)) g' v2 (Y ++ Z) (by rw [hal]; omega) (by omega) w3 hle1 (by rw [List.length_append]; show Y.length + Z.length + (T.length - q.2.1) ≤ 60000; omega) (by show q.2.2.2.2.1 < 2 * q.2.1; omega) (by show hd < q.2.2.2.2.1; omega) (by show q.1 < q.2.2.2.2.1; omega)
        rw [hal] at key
        obtain ⟨z3, g3, v3, y1, y2, y3, y4⟩ := key
        exact ⟨z3, g3, v3, y1, fr_trans w2 y2, y3, y4⟩
      · intro q' z g2 v2 hfl _
        obtain ⟨w, w1, w2⟩ := f_chain (d := d) hfl (ie last) z
        show flR T n d q' g2 v2 ((F_Tree_chain (ie last) z g2 v2).bind fun q10 => _)
        rw [w1, Option.bind_some]
        exact flR_fr w2.2 (f_atoms N hN R f (by omega) _ _ _ _ _ w2.1)
      · intro q p hq hk
        obtain ⟨b1, b2, b3, b4, b5, b6, b7⟩ := bO q hq
        have := b_atoms ih.2.2 sc hd nm j q.1 (acc ++ [q.1]) (sTr q.2 (tNx q.2.2.2.2 last q.1)) p b7 b2 hk
        exact this.1
    · rw [if_pos (show bgA (tkK T s.1) = false by simpa using hb), if_neg hb]
      exact fin f last acc s g u Y (by omega) h hs hn hh
theorem pAtom_hd {r : PR} {T : List Tok} {sc : Sc} {s : PS} (h : ¬ (tkK T s.1 = 1 ∧ fnd sc (tkV T s.1) = none ∧ bgA (tkK T (s.1 + 1)) = true)) : pAtom r T sc true s = pAtom r T sc false s := by
  unfold pAtom
  by_cases e1 : tkK T s.1 = 1
  · cases hf : fnd sc (tkV T s.1) with
    | some l => rfl
    | none =>
      by_cases hb : bgA (tkK T (s.1 + 1)) = true
      · exact absurd ⟨e1, hf, hb⟩ h
      · simp [hb]
  · simp [e1]
theorem c_readAtoms {T : List Tok} {n d m : Nat} {cl0 : Option Nat} {sc : Sc} {s : PS} {g : pm_s} {u : pm_J} {Y : List Ty} (N : Nat) (hN : 100 ≤ N) (hG : tkG T) (r : PR) (R : Int32 → pm_s → pm_J → Option (Int32 × pm_s × pm_J)) (dp : Int32) (ih : iE T n d m cl0 r (R (dp + 1))) (hd : Nat) (nm : Bool) (h : cE T n d m cl0 sc s g u Y) (hs : s.1 ≤ T.length) (hY : Y.length + (T.length - s.1) ≤ 60000) (hn : s.2.2.2.1 < 2 * s.1) (hh : hd < s.2.2.2.1) :
    peC T n d m cl0 sc s g u Y (pAtoms r T sc hd nm 8 hd [] s) ((F_Parser_readAtoms N R (ie hd) dp g u).bind fun q => if sh_Tb q.2.1 = true then pm_S q.2.1 (some (q.1, q.2.1, q.2.2)) else none) := by
  unfold F_Parser_readAtoms
  obtain ⟨z, g', v, y1, y2, y3, y4⟩ := peC_S (c_atoms N hN hG r R dp ih hd nm 8 N hd [] s g u Y rfl (by omega) h hs hY hn hh hh)
  have y1' : pm_S g (K_Parser_readAtoms_8 N R N (ie hd) dp (ie hd) 0 0 g u) = some (z, g', v) := y1
  rw [y1', Option.bind_some, if_pos (gI_Tb y3.1), pmS_some _ _ _ _ (Nat.le_refl _) (Nat.le_refl _)]
  exact ⟨z, g', v, rfl, y2, y3, y4⟩
theorem f_readAtoms {T : List Tok} {n d : Nat} {q : Nat × Nat} {g : pm_s} {u : pm_J} (N : Nat) (hN : 100 ≤ N) (R : Int32 → pm_s → pm_J → Option (Int32 × pm_s × pm_J)) (x1 x2 : Int32) (h : fl T n q g u) : flR T n d q g u ((F_Parser_readAtoms N R x1 x2 g u).bind fun q => if sh_Tb q.2.1 = true then pm_S q.2.1 (some (q.1, q.2.1, q.2.2)) else none) := by
  unfold F_Parser_readAtoms
  obtain ⟨z, g', v, y1, y2, y3, y4⟩ := flR_S (f_atoms (d := d) N hN R N (by omega) x1 x2 x1 0 0 h)
  rw [y1, Option.bind_some, if_pos (gI_Tb y4.1), pmS_some _ _ _ _ (Nat.le_refl _) (Nat.le_refl _)]
  exact ⟨z, g', v, rfl, y2, y3, y4⟩
theorem c_call {T : List Tok} {n d m : Nat} {cl0 : Option Nat} {sc : Sc} {s : PS} {g : pm_s} {u : pm_J} {Y : List Ty} (N : Nat) (hN : 100 ≤ N) (hG : tkG T) (r : PR) (R : Int32 → pm_s → pm_J → Option (Int32 × pm_s × pm_J)) (dp : Int32) (ih : iE T n d m cl0 r (R (dp + 1))) (h : cE T n d m cl0 sc s g u Y) (hm : rm T s Y) :
    peC T n d m cl0 sc s g u Y (pCall r T sc s) (F_Parser_readCall N R dp g u) := by
  obtain ⟨m1, m2, m3, m4⟩ := hm
  have k13 : (ie (tkK T s.1 : Int) = 13) ↔ tkK T s.1 = 13 := kq (hG.1 s.1) 13 (by omega)
  have k14 : (ie (tkK T s.1 : Int) = 14) ↔ tkK T s.1 = 14 := kq (hG.1 s.1) 14 (by omega)
  have k1 : (ie (tkK T s.1 : Int) = 1) ↔ tkK T s.1 = 1 := kq (hG.1 s.1) 1 (by omega)
  unfold F_Parser_readCall pCall
  apply peC_S
  rw [k_kind h.1 m1 g, Option.bind_some]
  simp only [Option.bind_some, k13, k14, k1]
  have half : ∀ kk : Nat, tkK T s.1 ≠ 0 → peC T n d m cl0 sc s g u Y (pB (pAtom r T sc false (sAt s (s.1 + 1))) fun q => .ok (q.2.2.2.2.1, sNode q.2 (kk, s.1, q.1, -1, -1, 0, []))) (K_Parser_readCall_34 N R dp (ie kk) g u) := by
    intro kk h0
    have hlt := tkK_lt h0
    unfold K_Parser_readCall_34
    rw [k_here h.1 m1 g, Option.bind_some, h.1.2.2.2, iadd1]
    have hat := cE_at h (s.1 + 1)
    have rm1 : rm T (sAt s (s.1 + 1)) Y := ⟨by show s.1 + 1 ≤ _; omega, by show s.2.2.2.1 ≤ 2 * (s.1 + 1); omega, by show _ + (T.length - (s.1 + 1)) ≤ _; omega, m4⟩
    have bO := b_atom ih.2.2 sc false (sAt s (s.1 + 1)) (cE_24 hat)
    refine peC_b (c_atom N hN hG r R dp ih hat rm1) (frE_wi _ _ _ (by omega) (fr_refl _ _)) (by show s.1 ≤ s.1 + 1; omega) bO ?_ ?_ ?_
    · intro q g' v Z hq hlt1 hle1 hfr hgl hc hZ
      obtain ⟨rmq, hnq⟩ := rm_q ⟨m1, m2, m3, m4⟩ bO hq (by show s.1 ≤ s.1 + 1; omega) rm1.2.1 hZ
      obtain ⟨w, w1, w2, w3⟩ := e_add N hN hc (by omega) kk s.1 q.1 (-1) (-1) []
      have w1' : F_Tree_add N (ie kk) (ie (tkP T n s.1)) (ie (q.1 : Nat)) (-1) (-1) g' v = some (ie (q.2.2.2.2.1 : Nat), w) := w1
      show peC T n d m cl0 sc q.2 g' v (Y ++ Z) _ ((F_Tree_add N (ie kk) (ie (tkP T n s.1)) (ie (q.1 : Nat)) (-1) (-1) g' v).bind fun q9 => _)
      rw [w1', Option.bind_some]
      exact peC_0 (q := (q.2.2.2.2.1, sNode q.2 (kk, s.1, q.1, -1, -1, 0, []))) w2 w3
    · intro q' z g2 v2 hfl _
      obtain ⟨w, x, w1, w2⟩ := f_add (d := d) N hN hfl (ie kk) (ie (tkP T n s.1)) z (-1) (-1)
      show flR T n d q' g2 v2 ((F_Tree_add N (ie kk) (ie (tkP T n s.1)) z (-1) (-1) g2 v2).bind fun q9 => _)
      rw [w1, Option.bind_some]
      exact flR_1 _ w2
    · intro q p hq hk; cases hk; exact Nat.le_refl _
  have rest : ∀ t0 : Bool, t0 = (tkK T s.1 == 1) → peC T n d m cl0 sc s g u Y (pB (pAtom r T sc true s) fun q => if bgA (tkK T q.2.1) = true then pAtoms r T sc q.1 (tkK T s.1 == 1) 8 q.1 [] q.2 else .ok q) (K_Parser_readCall_80 N R dp (ib t0) g u) := by
    intro t0 ht0
    unfold K_Parser_readCall_80
    have ferr : ∀ q' z g2 v2, fl T n q' g2 v2 → v2.1 39 12 = u.1 39 12 → flR T n d q' g2 v2 ((F_Parser_beginsAtom g2 v2).bind fun q17 => if q17 = 0 then some (z, g2, v2) else if ib t0 = 0 then (F_Parser_readAtoms N R z dp g2 v2).bind fun q20 => if sh_Tb q20.2.1 = true then pm_S q20.2.1 (some (q20.1, q20.2.1, q20.2.2)) else none else (F_Tree_kind z g2 v2).bind fun q23 => if q23 = 3 then (F_Tree_turnInto z 4 g2 v2).bind fun q28 => (F_Parser_readAtoms N R z dp g2 q28).bind fun q29 => if sh_Tb q29.2.1 = true then pm_S q29.2.1 (some (q29.1, q29.2.1, q29.2.2)) else none else (F_Parser_readAtoms N R z dp g2 v2).bind fun q25 => if sh_Tb q25.2.1 = true then pm_S q25.2.1 (some (q25.1, q25.2.1, q25.2.2)) else none) := by
      intro q' z g2 v2 hfl _
      rw [f_begins hfl, Option.bind_some, if_pos rfl]
      exact flR_1 _ ⟨hfl, fr_refl _ _⟩
    by_cases hh : tkK T s.1 = 1 ∧ fnd sc (tkV T s.1) = none ∧ bgA (tkK T (s.1 + 1)) = true
    · obtain ⟨h1, h2, h3⟩ := hh
      have hlt := tkK_lt (show tkK T s.1 ≠ 0 by omega)
      have htt : t0 = true := by rw [ht0, h1]; rfl
      subst htt
      have pa : pAtom r T sc false s = .ok (pLeaf T 3 (-1) s) := by
        unfold pAtom; rw [if_neg (by omega), if_neg (by omega), if_pos h1, h2]; simp
      have pt : pAtom r T sc true s = .ok (pLeaf T 4 (-1) s) := by
        unfold pAtom; rw [if_neg (by omega), if_neg (by omega), if_pos h1, h2]; simp [h3]
      have c1 := c_atom N hN hG r R dp ih h ⟨m1, m2, m3, m4⟩
      rw [pa] at c1
      obtain ⟨z, g', v, y1, y2, y3, y4⟩ := c1
      obtain ⟨rfl, Z, y5, y6⟩ := y4
      rw [y1, Option.bind_some, if_pos (gI_Tb y3.1), pt]
      have hat1 : (pLeaf T 3 (-1) s).2.1 ≤ T.length := by show s.1 + 1 ≤ _; omega
      rw [e_begins hG y5 hat1, Option.bind_some]
      have hb : bgA (tkK T (pLeaf T 3 (-1) s).2.1) = true := h3
      rw [hb, if_neg (show ¬ (ib true = 0) by decide), if_neg (show ¬ (ib true = 0) by decide)]
      have hnn : s.2.2.2.1 + 1 ≤ 1800 := y5.2.2.2.2.2.2.1.2.1
      have hkd' : F_Tree_kind (ie (s.2.2.2.1 : Nat)) g' v = some 3 := by
        have hc := y5.2.2.2.2.2.2.1
        obtain ⟨g1, g2, g3, g4⟩ := g_node (s.2.2.2.1 + 1) s.2.2.2.1 hc.1 (by omega) hnn
        unfold F_Tree_kind
        rw [if_neg g1, if_neg g2, if_pos g3, g4, (hc.2.2 s.2.2.2.1 (by show s.2.2.2.1 < s.2.2.2.1 + 1; omega)).1]
        show some (ie ((pu_upd s.2.2.2.2.1 s.2.2.2.1 (3, s.1, -1, -1, -1, tkV T s.1, []) s.2.2.2.1).1 : Nat)) = _
        rw [upd_same]; rfl
      have hkd : F_Tree_kind (ie ((pLeaf T 3 (-1) s).1 : Nat)) g' v = some 3 := hkd'
      rw [hkd, Option.bind_some, if_pos rfl]
      obtain ⟨w, w1, w2, w3⟩ := e_turn (s := s) (k' := 4) y5
      have w1' : F_Tree_turnInto (ie ((pLeaf T 3 (-1) s).1 : Nat)) 4 g' v = some w := w1
      rw [w1', Option.bind_some]
      have key := c_readAtoms N hN hG r R dp ih (pLeaf T 4 (-1) s).1 (tkK T s.1 == 1) (s := (pLeaf T 4 (-1) s).2) w3 hat1 (by rw [List.length_append]; show Y.length + Z.length + (T.length - (s.1 + 1)) ≤ 60000; have : Y.length + Z.length ≤ Y.length + (s.1 + 1 - s.1) := y6; omega) (by show s.2.2.2.1 + 1 < 2 * (s.1 + 1); omega) (by show s.2.2.2.1 < s.2.2.2.1 + 1; omega)
      obtain ⟨z3, g3, v3, x1, x2, x3, x4⟩ := peC_S key
      have x1' : pm_S g' ((F_Parser_readAtoms N R (ie ((pLeaf T 3 (-1) s).1 : Nat)) dp g' w).bind fun q29 => if sh_Tb q29.2.1 = true then pm_S q29.2.1 (some (q29.1, q29.2.1, q29.2.2)) else none) = some (z3, g3, v3) := x1
      refine ⟨z3, g3, v3, x1', fr_trans y2 (fr_trans w2 x2), gL_trans y3 x3, ?_⟩
      have e9 : (pB (.ok (pLeaf T 4 (-1) s)) fun q => if bgA (tkK T q.2.1) = true then pAtoms r T sc q.1 (tkK T s.1 == 1) 8 q.1 [] q.2 else .ok q) = pAtoms r T sc (pLeaf T 4 (-1) s).1 (tkK T s.1 == 1) 8 (pLeaf T 4 (-1) s).1 [] (pLeaf T 4 (-1) s).2 := by
        show (if bgA (tkK T (pLeaf T 4 (-1) s).2.1) = true then _ else _) = _
        rw [if_pos (show bgA (tkK T (pLeaf T 4 (-1) s).2.1) = true from h3)]
      rw [e9]
      cases hq : pAtoms r T sc (pLeaf T 4 (-1) s).1 (tkK T s.1 == 1) 8 (pLeaf T 4 (-1) s).1 [] (pLeaf T 4 (-1) s).2 with
      | error e' => rw [hq] at x4; exact x4
      | ok q =>
        rw [hq] at x4
        obtain ⟨u1, Z2, u2, u3⟩ := x4
        have hle := (b_atoms ih.2.2 sc _ _ 8 _ _ _ q (cE_24 w3) hat1 hq).1
        have hle' : s.1 + 1 ≤ q.2.1 := hle
        refine ⟨u1, Z ++ Z2, by rw [← List.append_assoc]; exact u2, ?_⟩
        have y6' : Y.length + Z.length ≤ Y.length + (s.1 + 1 - s.1) := y6
        have u3' : (Y ++ Z).length + Z2.length ≤ (Y ++ Z).length + (q.2.1 - (s.1 + 1)) := u3
        rw [List.length_append] at u3' ⊢
        omega
    · rw [pAtom_hd hh]
      have bO := b_atom ih.2.2 sc false s (cE_24 h)
      refine peC_b (c_atom N hN hG r R dp ih h ⟨m1, m2, m3, m4⟩) (fr_refl _ _) (Nat.le_refl _) bO ?_ ferr ?_
      · intro q g' v Z hq hlt1 hle1 hfr hgl hc hZ
        obtain ⟨rmq, hnq⟩ := rm_q ⟨m1, m2, m3, m4⟩ bO hq (Nat.le_refl _) m2 hZ
        obtain ⟨b1, b2, b3, b4, b5, b6, b7⟩ := bO q hq
        show peC T n d m cl0 sc q.2 g' v (Y ++ Z) _ ((F_Parser_beginsAtom g' v).bind fun q17 => _)
        rw [e_begins hG hc hle1, Option.bind_some]
        simp only [ib_z]
        by_cases hb : bgA (tkK T q.2.1) = true
        · rw [if_neg (show ¬ (bgA (tkK T q.2.1) = false) by rw [hb]; decide), if_pos hb]
          have key := c_readAtoms N hN hG r R dp ih q.1 (tkK T s.1 == 1) hc hle1 rmq.2.2.1 hnq (by omega)
          by_cases ht : t0 = false
          · rw [if_pos ht]; exact key
          · rw [if_neg ht]
            have hkd : ∃ x, F_Tree_kind (ie (q.1 : Nat)) g' v = some x ∧ x ≠ 3 := by
              have hcn := hc.2.2.2.2.2.2.1
              obtain ⟨g1, g2, g3, g4⟩ := g_node q.2.2.2.2.1 q.1 hcn.1 (by omega) hcn.2.1
              refine ⟨ie ((q.2.2.2.2.2.1 q.1).1 : Nat), ?_, ?_⟩
              · unfold F_Tree_kind
                rw [if_neg g1, if_neg g2, if_pos g3, g4, (hcn.2.2 q.1 (by omega)).1]
              · have h1 : tkK T s.1 = 1 := by
                  cases t0 with
                  | false => exact absurd rfl ht
                  | true => simpa using ht0.symm
                have hq' := hq
                unfold pAtom at hq'
                rw [if_neg (by omega), if_neg (by omega), if_pos h1] at hq'
                cases hf : fnd sc (tkV T s.1) with
                | some l =>
                  rw [hf] at hq'
                  cases hq'
                  show ie ((pu_upd s.2.2.2.2.1 s.2.2.2.1 (2, s.1, (l : Int), -1, -1, tkV T s.1, []) s.2.2.2.1).1 : Nat) ≠ 3
                  rw [upd_same]; show ie 2 ≠ 3; decide
                | none =>
                  rw [hf] at hq'
                  simp at hq'
                  exfalso
                  apply hh
                  refine ⟨h1, hf, ?_⟩
                  rw [← hq'] at hb; exact hb
            obtain ⟨x, x1, x2⟩ := hkd
            show peC T n d m cl0 sc q.2 g' v (Y ++ Z) _ ((F_Tree_kind (ie (q.1 : Nat)) g' v).bind fun q23 => _)
            rw [x1, Option.bind_some, if_neg x2]; exact key
        · rw [if_pos (show bgA (tkK T q.2.1) = false by simpa using hb), if_neg hb]
          exact peC_0 (q := q) (fr_refl _ _) hc
      · intro q p hq hk
        obtain ⟨b1, b2, b3, b4, b5, b6, b7⟩ := bO q hq
        by_cases hb : bgA (tkK T q.2.1) = true
        · rw [if_pos hb] at hk
          exact (b_atoms ih.2.2 sc _ _ 8 _ _ _ p b7 b2 hk).1
        · rw [if_neg hb] at hk; cases hk; exact Nat.le_refl _
  by_cases e13 : tkK T s.1 = 13
  · have := half 14 (by omega)
    rw [if_pos e13, if_pos e13, if_pos (Or.inl e13)]
    rw [e13]; exact this
  · rw [if_neg e13]
    by_cases e14 : tkK T s.1 = 14
    · have := half 15 (by omega)
      rw [if_pos e14, if_neg e13, if_pos (Or.inr e14)]
      rw [e14]; exact this
    · rw [if_neg e14, if_neg (show ¬ (tkK T s.1 = 13 ∨ tkK T s.1 = 14) by omega)]
      by_cases e1 : tkK T s.1 = 1
      · rw [if_pos e1]; exact rest true (by rw [e1]; rfl)
      · rw [if_neg e1]; exact rest false (by simp [e1])
