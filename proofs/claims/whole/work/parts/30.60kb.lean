set_option maxRecDepth 100000
def kk (D : List Df) (c : CS) (x : Nd) (i : Nat) : Nat := match c.2.1 i with
  | none => x.1
  | some d => if x.1 = 16 then 17 else if (dPs D d).length = 0 then 6 else 5
def cKn (T : List Tok) (n : Nat) (D : List Df) (t : Tr) (c : CS) (u : pm_J) (Y : List Ty) (i : Nat) : Prop := u.1 19 i = ie (kk D c (t.2.1 i) i : Nat) ∧ u.1 20 i = ie (tkP T n (t.2.1 i).2.1 : Nat) ∧ u.1 21 i = ie (t.2.1 i).2.2.1 ∧ u.1 22 i = ie (t.2.1 i).2.2.2.1 ∧ u.1 23 i = ie (t.2.1 i).2.2.2.2.1 ∧ u.1 24 i = ie (t.2.2.1 i) ∧ tyN Y (u.1 25 i) (c.1 i) ∧ u.2 26 i = (match c.2.1 i with | none => (t.2.1 i).2.2.2.2.2.1 | some d => je (d : Nat)) ∧ u.1 27 i = ib (c.2.2.2 i) ∧ ∀ l : Nat, l < 4 → tyN Y (u.1 28 (4 * i + l)) (c.2.2.1 i l)
def cK (T : List Tok) (n : Nat) (D : List Df) (t : Tr) (c : CS) (g : pm_s) (u : pm_J) (Y : List Ty) : Prop := u.1 3 0 = ie 0 ∧ tyC g u Y ∧ (u.1 18 10 = ie (t.1 : Nat) ∧ t.1 ≤ 1800) ∧ (u.1 29 9 = ie (D.length : Nat) ∧ D.length ≤ 30) ∧ (∀ i x, D[i]? = some x → cDf T n u Y i x) ∧ ∀ i, i < t.1 → cKn T n D t c u Y i
theorem tr_row {t : Tr} {g : pm_s} {u : pm_J} (h : u.1 18 10 = ie (t.1 : Nat) ∧ t.1 ≤ 1800) (i : Nat) (hi : i < t.1) : F_Tree_kind (ie (i : Nat)) g u = some (u.1 19 i) ∧ F_Tree_placeOf (ie (i : Nat)) g u = some (u.1 20 i) ∧ F_Tree_first (ie (i : Nat)) g u = some (u.1 21 i) ∧ F_Tree_second (ie (i : Nat)) g u = some (u.1 22 i) ∧ F_Tree_third (ie (i : Nat)) g u = some (u.1 23 i) ∧ F_Tree_next (ie (i : Nat)) g u = some (u.1 24 i) ∧ F_Tree_type (ie (i : Nat)) g u = some (u.1 25 i) ∧ F_Tree_value (ie (i : Nat)) g u = some (u.2 26 i) := by
  have h1 := h.1
  have h2 := h.2
  have n0 : ¬ (ie (i : Int) < 0) := fun hh => by have := (inlt i 0 (by omega) (by omega)).mp hh; omega
  have n1 : ¬ (ie (t.1 : Int) ≤ ie (i : Int)) := fun hh => by have := (inle t.1 i (by omega) (by omega)).mp hh; omega
  have ok := okn i 1800 (by omega) (by omega)
  have nt := ntn i (by omega)
  unfold F_Tree_kind F_Tree_placeOf F_Tree_first F_Tree_second F_Tree_third F_Tree_next F_Tree_type F_Tree_value
  simp only [h1, n0, n1, ok, nt, if_true, if_false, and_self]
theorem tr_set {t : Tr} {g : pm_s} {u : pm_J} (h : u.1 18 10 = ie (t.1 : Nat) ∧ t.1 ≤ 1800) (i : Nat) (hi : i < t.1) : (∀ k, F_Tree_turnInto (ie (i : Nat)) k g u = some (wi u 19 i k)) ∧ (∀ k, F_Tree_setType (ie (i : Nat)) k g u = some (wi u 25 i k)) ∧ (∀ k, F_Tree_setValue (ie (i : Nat)) k g u = some (wj u 26 i k)) ∧ F_Tree_markShort (ie (i : Nat)) g u = some (wi u 27 i 1) ∧ (∀ l : Nat, l < 4 → F_Tree_fit (ie (i : Nat)) (ie (l : Nat)) g u = some (u.1 28 (4 * i + l)) ∧ ∀ k, F_Tree_setFit (ie (i : Nat)) (ie (l : Nat)) k g u = some (wi u 28 (4 * i + l) k)) ∧ F_Tree_isShort (ie (i : Nat)) g u = some (if u.1 27 i = 0 then 0 else 1) := by
  have h1 := h.1
  have h2 := h.2
  have n0 : ¬ (ie (i : Int) < 0) := fun hh => by have := (inlt i 0 (by omega) (by omega)).mp hh; omega
  have n1 : ¬ (ie (t.1 : Int) ≤ ie (i : Int)) := fun hh => by have := (inle t.1 i (by omega) (by omega)).mp hh; omega
  have ok := okn i 1800 (by omega) (by omega)
  have nt := ntn i (by omega)
  unfold F_Tree_turnInto F_Tree_setType F_Tree_setValue F_Tree_markShort F_Tree_isShort F_Tree_fit F_Tree_setFit
  simp only [h1, n0, n1, ok, nt, if_true, if_false]
  refine ⟨fun _ => trivial, fun _ => trivial, fun _ => trivial, trivial, fun l hl => ?_, by split <;> rfl⟩
  have m0 : ¬ (ie (l : Int) < 0) := fun hh => by have := (inlt l 0 (by omega) (by omega)).mp hh; omega
  have m1 : ie (l : Int) < 4 := (inlt l 4 (by omega) (by omega)).mpr hl
  have m2 : ¬ (4 ≤ ie (l : Int)) := fun hh => by have := (inle 4 l (by omega) (by omega)).mp hh; omega
  have e1 : ie (i : Int) * 4 + ie (l : Int) = ie ((4 * i + l : Nat) : Int) := by rw [show (4 : Int32) = ie 4 from rfl, ie_mul, ie_add]; congr 1; omega
  rw [e1]
  have ok2 := okn (4 * i + l) 7200 (by omega) (by omega)
  have nt2 := ntn (4 * i + l) (by omega)
  simp only [m0, m1, m2, ok2, nt2, if_true, if_false]
  exact ⟨trivial, fun _ => trivial⟩
theorem tr_tot {t : Tr} {u : pm_J} (g : pm_s) (h : u.1 18 10 = ie (t.1 : Nat) ∧ t.1 ≤ 1800) (x : Int32) : ∃ y, F_Tree_type x g u = some y := by
  unfold F_Tree_type
  by_cases h0 : x < 0
  · rw [if_pos h0]; exact ⟨_, rfl⟩
  rw [if_neg h0]
  by_cases h1 : u.1 18 10 ≤ x
  · rw [if_pos h1]; exact ⟨_, rfl⟩
  rw [if_neg h1]
  have hx : x = ie x.toInt := (Int32.ofInt_toInt x).symm
  have r1 := Int32.le_toInt x
  have r2 := Int32.toInt_lt x
  rw [hx] at h0 h1 ⊢
  rw [h.1, ie_le _ _ (by omega) (by omega) (by omega) (by omega)] at h1
  rw [show (0 : Int32) = ie 0 from rfl, ie_lt _ _ (by omega) (by omega) (by omega) (by omega)] at h0
  have h2 := h.2
  obtain ⟨k, hk⟩ : ∃ k : Nat, x.toInt = k := ⟨x.toInt.toNat, by omega⟩
  rw [hk, if_pos (okn k 1800 (by omega) (by omega))]; exact ⟨_, rfl⟩
theorem tr_m1 (g : pm_s) (u : pm_J) : F_Tree_type (ie (-1)) g u = some (ie (-1)) ∧ F_Tree_kind (ie (-1)) g u = some (ie (-1)) ∧ F_Tree_next (ie (-1)) g u = some (ie (-1)) := ⟨rfl, rfl, rfl⟩
theorem tb_row {D : List Df} {g : pm_s} {u : pm_J} (h : u.1 29 9 = ie (D.length : Nat) ∧ D.length ≤ 30) (i : Nat) (hi : i < D.length) : F_Table_type (ie (i : Nat)) g u = some (u.1 32 i) ∧ F_Table_root (ie (i : Nat)) g u = some (u.1 33 i) ∧ F_Table_end (ie (i : Nat)) g u = some (u.1 34 i) ∧ F_Table_placeOf (ie (i : Nat)) g u = some (u.1 31 i) ∧ F_Table_locals (ie (i : Nat)) g u = some (u.1 35 i) ∧ F_Table_parameters (ie (i : Nat)) g u = some (u.1 38 (i * 6 + 0)) ∧ (∀ k : Nat, k < 6 → F_Table_tally (ie (i : Nat)) (ie (k : Nat)) g u = some (u.1 38 (i * 6 + k)) ∧ F_Table_count (ie (i : Nat)) (ie (k : Nat)) 1 g u = some (wi u 38 (i * 6 + k) (u.1 38 (i * 6 + k) + 1))) := by
  have h1 := h.1
  have h2 := h.2
  have n0 : ¬ (ie (i : Int) < 0) := fun hh => by have := (inlt i 0 (by omega) (by omega)).mp hh; omega
  have n1 : ¬ (ie (D.length : Int) ≤ ie (i : Int)) := fun hh => by have := (inle D.length i (by omega) (by omega)).mp hh; omega
  have ok := okn i 30 (by omega) (by omega)
  have nt := ntn i (by omega)
  have e0 : ie (i : Int) * 6 + 0 = ie ((i * 6 + 0 : Nat) : Int) := by rw [show (6 : Int32) = ie 6 from rfl, show (0 : Int32) = ie 0 from rfl, ie_mul, ie_add]; congr 1
  have ok0 := okn (i * 6 + 0) 180 (by omega) (by omega)
  have nt0 := ntn (i * 6 + 0) (by omega)
  unfold F_Table_type F_Table_root F_Table_end F_Table_placeOf F_Table_locals F_Table_parameters F_Table_tally F_Table_count
  rw [e0]
  simp only [h1, n0, n1, ok, nt, ok0, nt0, if_true, if_false, true_and]
  intro k hk
  have m0 : ¬ (ie (k : Int) < 0) := fun hh => by have := (inlt k 0 (by omega) (by omega)).mp hh; omega
  have m1 : ie (k : Int) < 6 := (inlt k 6 (by omega) (by omega)).mpr hk
  have m2 : ¬ (6 ≤ ie (k : Int)) := fun hh => by have := (inle 6 k (by omega) (by omega)).mp hh; omega
  have e1 : ie (i : Int) * 6 + ie (k : Int) = ie ((i * 6 + k : Nat) : Int) := by rw [show (6 : Int32) = ie 6 from rfl, ie_mul, ie_add]; congr 1
  rw [e1]
  have ok1 := okn (i * 6 + k) 180 (by omega) (by omega)
  have nt1 := ntn (i * 6 + k) (by omega)
  simp only [m0, m1, m2, ok1, nt1, if_true, if_false, and_self]
theorem tb_loc {T : List Tok} {n : Nat} {D : List Df} {Y : List Ty} {g : pm_s} {u : pm_J} (h : u.1 29 9 = ie (D.length : Nat) ∧ D.length ≤ 30) {i : Nat} {x : Df} (hx : D[i]? = some x) (hd : cDf T n u Y i x) (l : Nat) (hl : l < x.2.2.2.2.2.2.1) : F_Table_localType (ie (i : Nat)) (ie (l : Nat)) g u = some (u.1 36 (i * 24 + l)) ∧ F_Table_localBound (ie (i : Nat)) (ie (l : Nat)) g u = some (ie (x.2.2.2.2.2.2.2.2 l)) ∧ tyN Y (u.1 36 (i * 24 + l)) (x.2.2.2.2.2.2.2.1 l) := by
  have hi := (List.getElem?_eq_some_iff.mp hx).1
  have h1 := h.1
  have h2 := h.2
  obtain ⟨_, _, _, _, _, ⟨c1, c2, c3⟩, _⟩ := hd
  obtain ⟨c4, c5⟩ := c3 l hl
  have n0 : ¬ (ie (i : Int) < 0) := fun hh => by have := (inlt i 0 (by omega) (by omega)).mp hh; omega
  have n1 : ¬ (ie (D.length : Int) ≤ ie (i : Int)) := fun hh => by have := (inle D.length i (by omega) (by omega)).mp hh; omega
  have m0 : ¬ (ie (l : Int) < 0) := fun hh => by have := (inlt l 0 (by omega) (by omega)).mp hh; omega
  have m1 : ¬ (ie (x.2.2.2.2.2.2.1 : Int) ≤ ie (l : Int)) := fun hh => by have := (inle _ l (by omega) (by omega)).mp hh; omega
  have ok := okn i 30 (by omega) (by omega)
  have nt := ntn i (by omega)
  have e1 : ie (i : Int) * 24 + ie (l : Int) = ie ((i * 24 + l : Nat) : Int) := by rw [show (24 : Int32) = ie 24 from rfl, ie_mul, ie_add]; congr 1
  have ok1 := okn (i * 24 + l) 720 (by omega) (by omega)
  have nt1 := ntn (i * 24 + l) (by omega)
  have hh : F_Table_hasLocal (ie (i : Nat)) (ie (l : Nat)) g u = some 1 := by
    unfold F_Table_hasLocal
    simp only [h1, n0, n1, m0, ok, nt, c1, m1, if_true, if_false]
  unfold F_Table_localType F_Table_localBound
  rw [hh, Option.bind_some, e1, Option.bind_some, if_neg (show ¬ ((1 : Int32) = 0) by decide), if_neg (show ¬ ((1 : Int32) = 0) by decide), if_pos ok1, nt1, if_pos ok1, c5]
  refine ⟨rfl, rfl, ?_⟩
  cases hlt : x.2.2.2.2.2.2.2.1 l with
  | none => rw [hlt] at c4; exact c4
  | some s => rw [hlt] at c4; exact c4
theorem cDf_g {T : List Tok} {n : Nat} {Y : List Ty} {u v : pm_J} {i : Nat} {x : Df} (h : cDf T n u Y i x) (Z : List Ty) (hv : ∀ c k, 30 ≤ c → c ≤ 38 → v.1 c k = u.1 c k ∧ v.2 c k = u.2 c k) : cDf T n v (Y ++ Z) i x := by
  obtain ⟨a1, a2, ⟨k, a3, a4⟩, a5, a6, ⟨b1, b2, b3⟩, a8, a9, a10⟩ := h
  refine ⟨(hv _ _ (by omega) (by omega)).2.trans a1, (hv _ _ (by omega) (by omega)).1.trans a2, ⟨k, (hv _ _ (by omega) (by omega)).1.trans a3, gapp a4 Z⟩, (hv _ _ (by omega) (by omega)).1.trans a5, (hv _ _ (by omega) (by omega)).1.trans a6, ⟨(hv _ _ (by omega) (by omega)).1.trans b1, b2, fun l hl => ?_⟩, (hv _ _ (by omega) (by omega)).1.trans a8, (hv _ _ (by omega) (by omega)).1.trans a9, fun k h1 h2 => (hv _ _ (by omega) (by omega)).1.trans (a10 k h1 h2)⟩
  obtain ⟨c1, c2⟩ := b3 l hl
  refine ⟨?_, (hv _ _ (by omega) (by omega)).1.trans c2⟩
  cases hlt : x.2.2.2.2.2.2.2.1 l with
  | none => rw [hlt] at c1; exact (hv _ _ (by omega) (by omega)).1.trans c1
  | some s => rw [hlt] at c1; obtain ⟨k, k1, k2⟩ := c1; exact ⟨k, (hv _ _ (by omega) (by omega)).1.trans k1, gapp k2 Z⟩
theorem cSy_no {c i : Nat} (h : (c < 10 ∨ 17 < c) ∧ c < 140) : cS_y c i = false := by
  unfold cS_y
  rw [nbf (show c ≠ 10 by omega), nbf (show c ≠ 17 by omega)]
  cases h1 : Nat.ble 140 c with
  | true => have := Nat.ble_eq.mp h1; omega
  | false =>
    cases h2 : Nat.ble 11 c with
    | false => rfl
    | true =>
      cases h3 : Nat.ble c 16 with
      | false => rfl
      | true => have := Nat.ble_eq.mp h2; have := Nat.ble_eq.mp h3; omega
theorem cKn_fr {T : List Tok} {n : Nat} {D : List Df} {t : Tr} {c c' : CS} {u v : pm_J} {Y : List Ty} {i : Nat} (h : cKn T n D t c u Y i) (Z : List Ty) (hc : c'.1 i = c.1 i ∧ c'.2.1 i = c.2.1 i ∧ c'.2.2.1 i = c.2.2.1 i ∧ c'.2.2.2 i = c.2.2.2 i) (hv : ∀ x k, (19 ≤ x ∧ x ≤ 27 ∧ k = i) ∨ (x = 28 ∧ 4 * i ≤ k ∧ k < 4 * i + 4) → v.1 x k = u.1 x k ∧ v.2 x k = u.2 x k) : cKn T n D t c' v (Y ++ Z) i := by
  obtain ⟨a1, a2, a3, a4, a5, a6, a7, a8, a9, a10⟩ := h
  obtain ⟨c1, c2, c3, c4⟩ := hc
  unfold cKn kk
  rw [c1, c2, c3, c4]
  refine ⟨(hv _ _ (by omega)).1.trans a1, (hv _ _ (by omega)).1.trans a2, (hv _ _ (by omega)).1.trans a3, (hv _ _ (by omega)).1.trans a4, (hv _ _ (by omega)).1.trans a5, (hv _ _ (by omega)).1.trans a6, ?_, (hv _ _ (by omega)).2.trans a8, (hv _ _ (by omega)).1.trans a9, fun l hl => ?_⟩
  · rw [(hv _ _ (by omega)).1]; exact tyN_app a7 Z
  · rw [(hv _ _ (by omega)).1]; exact tyN_app (a10 l hl) Z
theorem cK_grow {T : List Tok} {n : Nat} {D : List Df} {t : Tr} {c : CS} {g g' : pm_s} {u v : pm_J} {Y : List Ty} (H : cK T n D t c g u Y) (Z : List Ty) (hy : tyC g' v (Y ++ Z)) (hf : fr cS_y u v) : cK T n D t c g' v (Y ++ Z) := by
  obtain ⟨h1, h2, h3, h4, h5, h6⟩ := H
  have hv : ∀ x k, (x < 10 ∨ 17 < x) → x < 140 → v.1 x k = u.1 x k ∧ v.2 x k = u.2 x k := fun x k a b => hf x k (cSy_no ⟨a, b⟩)
  exact ⟨(hv _ _ (by omega) (by omega)).1.trans h1, hy, ⟨(hv _ _ (by omega) (by omega)).1.trans h3.1, h3.2⟩, ⟨(hv _ _ (by omega) (by omega)).1.trans h4.1, h4.2⟩, fun i x hx => cDf_g (h5 i x hx) Z (fun c k a b => hv c k (by omega) (by omega)), fun i hi => cKn_fr (h6 i hi) Z ⟨rfl, rfl, rfl, rfl⟩ (fun x k hk => hv x k (by omega) (by omega))⟩
theorem cK_at {T : List Tok} {n : Nat} {D : List Df} {t : Tr} {c c' : CS} {g : pm_s} {u v : pm_J} {Y : List Ty} (e : Nat) (H : cK T n D t c g u Y) (he : e < t.1) (hv : ∀ x k, ¬ ((x = 19 ∨ x = 25 ∨ x = 26 ∨ x = 27) ∧ k = e) → ¬ (x = 28 ∧ 4 * e ≤ k ∧ k < 4 * e + 4) → v.1 x k = u.1 x k ∧ v.2 x k = u.2 x k) (hc : ∀ i, i ≠ e → c'.1 i = c.1 i ∧ c'.2.1 i = c.2.1 i ∧ c'.2.2.1 i = c.2.2.1 i ∧ c'.2.2.2 i = c.2.2.2 i) (hn : cKn T n D t c' v Y e) : cK T n D t c' g v Y := by
  obtain ⟨h1, h2, h3, h4, h5, h6⟩ := H
  refine ⟨(hv _ _ (by omega) (by omega)).1.trans h1, tyC_fr h2 (fun x k hx => (hv x k (fun hh => ?_) (fun hh => ?_)).1), ⟨(hv _ _ (by omega) (by omega)).1.trans h3.1, h3.2⟩, ⟨(hv _ _ (by omega) (by omega)).1.trans h4.1, h4.2⟩, fun i x hx => ?_, fun i hi => ?_⟩
  · rw [cSy_no (by omega)] at hx; cases hx
  · rw [cSy_no (by omega)] at hx; cases hx
  · have := cDf_g (h5 i x hx) [] (fun c k a b => hv c k (by omega) (by omega))
    rw [List.append_nil] at this; exact this
  · by_cases ei : i = e
    · subst ei; exact hn
    · have := cKn_fr (c' := c') (v := v) (h6 i hi) [] (hc i ei) (fun x k hk => hv x k (by omega) (by omega))
      rw [List.append_nil] at this; exact this
