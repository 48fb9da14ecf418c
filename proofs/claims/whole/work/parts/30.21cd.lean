set_option maxRecDepth 100000
theorem cE_Tm {T : List Tok} {n d m m' : Nat} {cl0 : Option Nat} {sc : Sc} {s : PS} {g g' : pm_s} {u v : pm_J} {Y Z : List Ty} (h : cE T n d m cl0 sc s g u Y) (hf : fr cS_T u v) (a : Nat) (wr : Option Nat) (h1 : cTk T n a v) (h4 : v.1 39 13 = ie m') (hm' : m' < 16) (h5 : cCl T n (oE cl0 wr) v) (h6 : tyC g' v (Y ++ Z)) (hB : cBI v) : cE T n d m' cl0 sc (sAt (sWr s wr) a) g' v (Y ++ Z) := by
  have F1 : ∀ c i, cS_T c i = false → v.1 c i = u.1 c i := fun c i hh => (hf c i hh).1
  have F2 : ∀ c i, cS_T c i = false → v.2 c i = u.2 c i := fun c i hh => (hf c i hh).2
  obtain ⟨a1, a2, a3, a4, a5, a6, a7, a8⟩ := h
  have N1 : ∀ c i, (c < 10 ∨ (17 < c ∧ c < 140)) → c ≠ 3 → c ≠ 4 → c ≠ 42 → c ≠ 39 → cS_T c i = false := by
    intro c i hc c3 c4 c42 c39
    unfold cS_T
    rw [csy_no hc]
    rw [nbf c3, nbf c4, nbf c42, nbf c39]; rfl
  refine ⟨h1, ⟨(F1 39 12 rfl).trans a2.1, h4, a2.2.2.1, hm', (F1 29 9 rfl).trans a2.2.2.2.2⟩, ⟨scR_cong sc a3.1 (fun i _ => ⟨F2 40 i (N1 _ _ (by omega) (by omega) (by omega) (by omega) (by omega)), F1 41 i (N1 _ _ (by omega) (by omega) (by omega) (by omega) (by omega))⟩), (F1 39 8 rfl).trans a3.2.1, a3.2.2⟩, h5, h6, ?_, ?_, hB⟩
  · exact cLoc_cong Z a6 (F1 35 d (N1 _ _ (by omega) (by omega) (by omega) (by omega) (by omega))) (fun l _ => ⟨F1 36 _ (N1 _ _ (by omega) (by omega) (by omega) (by omega) (by omega)), F1 37 _ (N1 _ _ (by omega) (by omega) (by omega) (by omega) (by omega))⟩)
  · exact cNd_cong a7 (F1 18 10 rfl) (fun c j h1 h2 => ⟨F1 c j (N1 _ _ (by omega) (by omega) (by omega) (by omega) (by omega)), F2 c j (N1 _ _ (by omega) (by omega) (by omega) (by omega) (by omega))⟩)
def cS_D (d : Nat) : Nat → Nat → Bool := fun c i => cS_E d c i || Nat.beq c 29 || ((Nat.ble 32 c && Nat.ble c 34) && Nat.beq i d) || (Nat.beq c 38 && (Nat.ble (d * 6) i && Nat.blt i (d * 6 + 6)))
theorem fr_ED {d : Nat} {u v : pm_J} (h : fr (cS_E d) u v) : fr (cS_D d) u v := fr_sub h (fun c i hh => by
  unfold cS_D at hh
  cases h1 : cS_E d c i with
  | false => rfl
  | true => rw [h1] at hh; simp at hh)
theorem bsd {c i d : Nat} (h : c = 29 ∨ ((32 ≤ c ∧ c ≤ 34) ∧ i = d) ∨ (c = 38 ∧ d * 6 ≤ i ∧ i < d * 6 + 6)) : cS_D d c i = true := by
  unfold cS_D
  simp only [Bool.or_eq_true, Bool.and_eq_true, Nat.beq_eq, Nat.ble_eq, Nat.blt_eq]
  omega
theorem frD_wi {d : Nat} {u v : pm_J} (a k : Nat) (x : Int32) (h : a = 29 ∨ ((32 ≤ a ∧ a ≤ 34) ∧ k = d) ∨ (a = 38 ∧ d * 6 ≤ k ∧ k < d * 6 + 6)) (hv : fr (cS_D d) u v) : fr (cS_D d) u (wi v a k x) := fr_wi _ _ _ _ _ _ (bsd h) hv
theorem frE_29 {d : Nat} {u v : pm_J} (h : fr (cS_E d) u v) (c i : Nat) (hc : c = 29 ∨ (30 ≤ c ∧ c ≤ 34) ∨ c = 38) : v.1 c i = u.1 c i ∧ v.2 c i = u.2 c i := h c i (by
  unfold cS_E cS_T
  rw [csy_no (by omega)]
  simp only [nbf (show c ≠ 3 by omega), nbf (show c ≠ 4 by omega), nbf (show c ≠ 42 by omega), nbf (show c ≠ 39 by omega), nbf (show c ≠ 40 by omega), nbf (show c ≠ 41 by omega), nbf (show c ≠ 35 by omega), nbf (show c ≠ 36 by omega), nbf (show c ≠ 37 by omega), Bool.false_and, Bool.or_false, Bool.false_or]
  have : (Nat.ble 18 c && Nat.ble c 28) = false := by
    rw [Bool.and_eq_false_iff]; right
    exact Bool.eq_false_iff.mpr (fun hh => by have := Nat.le_of_ble_eq_true hh; omega)
  exact this)
theorem frD_12 {d : Nat} {u v : pm_J} (h : fr (cS_D d) u v) : v.1 39 12 = u.1 39 12 := (h 39 12 (by
  unfold cS_D cS_E
  show (cS_T 39 12 || _ || _ || _ || _ || _ || _ || _ || _ || _) = false
  simp [show cS_T 39 12 = false from rfl, Nat.beq, Nat.ble])).1
theorem f_count {T : List Tok} {n d : Nat} {q : Nat × Nat} {g : pm_s} {u : pm_J} (hd : d < 30) (h : fl T n q g u) (k : Nat) (hk : k < 6) (y : Int32) : ∃ v, F_Table_count (ie d) (ie k) y g u = some v ∧ fl T n q g v ∧ fr (cS_D d) u v := by
  obtain ⟨b, hb, hc⟩ := h.2.1.2.2.2.1
  unfold F_Table_count
  rw [if_neg (nlt0 d (by omega)), hc]
  by_cases h1 : ie (b : Int) ≤ ie (d : Int)
  · rw [if_pos h1]; exact ⟨u, rfl, h, fr_refl _ _⟩
  have e1 : ie (d : Int) * 6 + ie (k : Int) = ie ((d * 6 + k : Nat) : Int) := by rw [show (6 : Int32) = ie 6 from rfl, ie_mul, ie_add]; rfl
  rw [if_neg h1, if_neg (nlt0 k (by omega)), if_neg (show ¬ ((6 : Int32) ≤ ie (k : Int)) from fun hh => by have := (inle 6 k (by omega) (by omega)).mp hh; omega), e1, if_pos (okn _ 180 (by omega) (by omega)), if_pos (okn _ 180 (by omega) (by omega)), ntn _ (by omega)]
  exact ⟨_, rfl, fl_wi h _ _ _ (by omega) (by omega) (by omega), frD_wi _ _ _ (by omega) (fr_refl _ _)⟩
theorem f_setType {T : List Tok} {n d : Nat} {q : Nat × Nat} {g : pm_s} {u : pm_J} (hd : d < 30) (h : fl T n q g u) (y : Int32) : ∃ v, F_Table_setType (ie d) y g u = some v ∧ fl T n q g v ∧ fr (cS_D d) u v := by
  obtain ⟨b, hb, hc⟩ := h.2.1.2.2.2.1
  unfold F_Table_setType
  rw [if_neg (nlt0 d (by omega)), hc]
  by_cases h1 : ie (b : Int) ≤ ie (d : Int)
  · rw [if_pos h1]; exact ⟨u, rfl, h, fr_refl _ _⟩
  rw [if_neg h1, if_pos (okn _ 30 (by omega) (by omega)), ntn _ (by omega)]
  exact ⟨_, rfl, fl_wi h _ _ _ (by omega) (by omega) (by omega), frD_wi _ _ _ (by omega) (fr_refl _ _)⟩
theorem f_setRoot {T : List Tok} {n d : Nat} {q : Nat × Nat} {g : pm_s} {u : pm_J} (hd : d < 30) (h : fl T n q g u) (y z : Int32) : ∃ v, F_Table_setRoot (ie d) y z g u = some v ∧ fl T n q g v ∧ fr (cS_D d) u v := by
  obtain ⟨b, hb, hc⟩ := h.2.1.2.2.2.1
  unfold F_Table_setRoot
  rw [if_neg (nlt0 d (by omega)), hc]
  by_cases h1 : ie (b : Int) ≤ ie (d : Int)
  · rw [if_pos h1]; exact ⟨u, rfl, h, fr_refl _ _⟩
  rw [if_neg h1, if_pos (okn _ 30 (by omega) (by omega)), if_pos (okn _ 30 (by omega) (by omega)), ntn _ (by omega)]
  exact ⟨_, rfl, fl_wi (fl_wi h _ _ _ (by omega) (by omega) (by omega)) _ _ _ (by omega) (by omega) (by omega), frD_wi _ _ _ (by omega) (frD_wi _ _ _ (by omega) (fr_refl _ _))⟩
theorem cE_wi {T : List Tok} {n d m : Nat} {cl0 : Option Nat} {sc : Sc} {s : PS} {g : pm_s} {u : pm_J} {Y : List Ty} (h : cE T n d m cl0 sc s g u Y) (a k : Nat) (x : Int32) (ha : (30 ≤ a ∧ a ≤ 34) ∨ a = 38) : cE T n d m cl0 sc s g (wi u a k x) Y := by
  obtain ⟨a1, a2, a3, a4, a5, a6, a7, a8⟩ := h
  have V : ∀ c i, ¬ ((30 ≤ c ∧ c ≤ 34) ∨ c = 38) → (wi u a k x).1 c i = u.1 c i := fun c i hc => by rw [wi_1, if_neg (by omega)]
  refine ⟨cTk_at a1 (V 3 0 (by omega)) (fun i => V 5 i (by omega)) (fun i => ⟨V 6 i (by omega), V 7 i (by omega), rfl⟩) ((V 39 11 (by omega)).trans a1.2.2.2), ⟨(V 39 12 (by omega)).trans a2.1, (V 39 13 (by omega)).trans a2.2.1, a2.2.2.1, a2.2.2.2.1, (V 29 9 (by omega)).trans a2.2.2.2.2⟩, ⟨scR_cong sc a3.1 (fun i _ => ⟨rfl, V 41 i (by omega)⟩), (V 39 8 (by omega)).trans a3.2.1, a3.2.2⟩, cCl_cong a4 (V 4 0 (by omega)) (V 4 1 (by omega)), tyC_fr a5 (wi_csy _ _ _ _ (by omega)), cLoc_c0 a6 (V 35 d (by omega)) (fun l _ => ⟨V 36 _ (by omega), V 37 _ (by omega)⟩), cNd_cong a7 (V 18 10 (by omega)) (fun c j h1 h2 => ⟨V c j (by omega), rfl⟩), cBI_wi _ _ _ _ a8 (by omega)⟩
def cP (T : List Tok) (n d : Nat) (cl0 : Option Nat) (sc : Sc) (ps : PM) (s : PS) (g : pm_s) (u : pm_J) (Y : List Ty) : Prop := cE T n d (pmM ps) cl0 sc s g u Y ∧ u.1 38 (d * 6 + 0) = ie (List.length ps : Nat) ∧ List.length ps ≤ 6 ∧ List.length sc = List.length ps ∧ s.2.2.1.1 = List.length ps ∧ (∀ k, 1 ≤ k → k < 6 → u.1 38 (d * 6 + k) = ie 0)
theorem e_params {T : List Tok} {n d m : Nat} {cl0 : Option Nat} {sc : Sc} {s : PS} {g : pm_s} {u : pm_J} {Y : List Ty} (h : cE T n d m cl0 sc s g u Y) : F_Table_parameters (ie d) g u = some (u.1 38 (d * 6 + 0)) := by
  have hd := h.2.1.2.2.1
  have e1 : ie (d : Int) * 6 + 0 = ie ((d * 6 + 0 : Nat) : Int) := by rw [show (6 : Int32) = ie 6 from rfl, show (0 : Int32) = ie 0 from rfl, ie_mul, ie_add]; rfl
  unfold F_Table_parameters
  rw [if_neg (nlt0 d (by omega)), h.2.1.2.2.2.2, if_neg (fun hh => by have := (inle (d + 1) d (by omega) (by omega)).mp hh; omega), e1, if_pos (okn _ 180 (by omega) (by omega)), ntn _ (by omega)]
theorem e_count {T : List Tok} {n d m : Nat} {cl0 : Option Nat} {sc : Sc} {s : PS} {g : pm_s} {u : pm_J} {Y : List Ty} (h : cE T n d m cl0 sc s g u Y) (k : Nat) (hk : k < 6) (y : Int32) : F_Table_count (ie d) (ie k) y g u = some (wi u 38 (d * 6 + k) (u.1 38 (d * 6 + k) + y)) := by
  have hd := h.2.1.2.2.1
  have e1 : ie (d : Int) * 6 + ie (k : Int) = ie ((d * 6 + k : Nat) : Int) := by rw [show (6 : Int32) = ie 6 from rfl, ie_mul, ie_add]; rfl
  unfold F_Table_count
  rw [if_neg (nlt0 d (by omega)), h.2.1.2.2.2.2, if_neg (fun hh => by have := (inle (d + 1) d (by omega) (by omega)).mp hh; omega), if_neg (nlt0 k (by omega)), if_neg (show ¬ ((6 : Int32) ≤ ie (k : Int)) from fun hh => by have := (inle 6 k (by omega) (by omega)).mp hh; omega), e1, if_pos (okn _ 180 (by omega) (by omega)), if_pos (okn _ 180 (by omega) (by omega)), ntn _ (by omega)]
theorem e_clash {T : List Tok} {n d m : Nat} {cl0 : Option Nat} {sc : Sc} {s : PS} {g : pm_s} {u : pm_J} {Y : List Ty} (h : cE T n d m cl0 sc s g u Y) (t : Nat) : ∃ v, F_Fault_tell_4 5 (ie (tkP T n t)) g u = some v ∧ cE T n d m cl0 sc (sWr s (oE s.2.1 (some t))) g v Y ∧ fr cS_T u v ∧ (∀ i, v.1 38 i = u.1 38 i) := by
  obtain ⟨a1, a2, a3, a4, a5, a6, a7, a8⟩ := h
  unfold F_Fault_tell_4
  cases hc : oE cl0 s.2.1 with
  | none =>
    rw [hc] at a4
    rw [if_pos (show u.1 4 0 = 0 from a4)]
    have V : ∀ c i, c ≠ 4 → (wi (wi u 4 0 5) 4 1 (ie (tkP T n t))).1 c i = u.1 c i := fun c i hcc => by rw [wi_1, if_neg (by omega), wi_1, if_neg (by omega)]
    refine ⟨_, rfl, ⟨cTk_at a1 rfl (fun _ => rfl) (fun _ => ⟨rfl, rfl, rfl⟩) a1.2.2.2, a2, ⟨scR_cong sc a3.1 (fun _ _ => ⟨rfl, rfl⟩), a3.2⟩, ?_, tyC_fr (tyC_fr a5 (wi_csy _ _ _ _ (by omega))) (wi_csy _ _ _ _ (by omega)), cLoc_c0 a6 rfl (fun _ _ => ⟨rfl, rfl⟩), cNd_cong a7 rfl (fun c j h1 h2 => ⟨V c j (by omega), rfl⟩), cBI_wi _ _ _ _ (cBI_wi _ _ _ _ a8 (by omega)) (by omega)⟩, fr_wi _ _ _ _ _ _ rfl (fr_wi _ _ _ _ _ _ rfl (fr_refl _ _)), fun _ => rfl⟩
    show cCl T n (oE cl0 (oE s.2.1 (some t))) _
    rw [← oE_assoc, hc]
    exact ⟨rfl, rfl⟩
  | some x =>
    rw [hc] at a4
    rw [if_neg (show ¬ (u.1 4 0 = 0) by rw [a4.1]; decide)]
    refine ⟨u, rfl, ⟨a1, a2, a3, ?_, a5, a6, a7, a8⟩, fr_refl _ _, fun _ => rfl⟩
    show cCl T n (oE cl0 (oE s.2.1 (some t))) u
    rw [← oE_assoc, hc]; exact a4
