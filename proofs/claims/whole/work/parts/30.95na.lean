set_option maxRecDepth 100000
def ag (P : Nat → Nat → Prop) (u v : pm_J) : Prop := ∀ c i, P c i → v.1 c i = u.1 c i ∧ v.2 c i = u.2 c i
theorem ag_r (P : Nat → Nat → Prop) (u : pm_J) : ag P u u := fun _ _ _ => ⟨rfl, rfl⟩
theorem ag_t {P : Nat → Nat → Prop} {u v w : pm_J} (h : ag P u v) (h' : ag P v w) : ag P u w := fun c i hc => ⟨(h' c i hc).1.trans (h c i hc).1, (h' c i hc).2.trans (h c i hc).2⟩
theorem ag_m {P Q : Nat → Nat → Prop} {u v : pm_J} (h : ag P u v) (hq : ∀ c i, Q c i → P c i) : ag Q u v := fun c i hc => h c i (hq c i hc)
theorem wj_at (u : pm_J) (a k : Nat) (x : Int64) : (wj u a k x).2 a k = x := by rw [wj_2, if_pos ⟨rfl, rfl⟩]
theorem wj_ne (u : pm_J) (a k : Nat) (x : Int64) (b j : Nat) (h : ¬ (b = a ∧ j = k)) : (wj u a k x).2 b j = u.2 b j := by rw [wj_2, if_neg h]
theorem ag_wi {P : Nat → Nat → Prop} {u v : pm_J} (h : ag P u v) (a k : Nat) (x : Int32) (hn : ¬ P a k) : ag P u (wi v a k x) := fun c i hc => ⟨(wi_ne _ _ _ _ _ _ (fun hh => hn (by rw [← hh.1, ← hh.2]; exact hc))).trans (h c i hc).1, (h c i hc).2⟩
theorem ag_wj {P : Nat → Nat → Prop} {u v : pm_J} (h : ag P u v) (a k : Nat) (x : Int64) (hn : ¬ P a k) : ag P u (wj v a k x) := fun c i hc => ⟨(h c i hc).1, (wj_ne _ _ _ _ _ _ (fun hh => hn (by rw [← hh.1, ← hh.2]; exact hc))).trans (h c i hc).2⟩
def qS (c _i : Nat) : Prop := ¬ (44 ≤ c ∧ c ≤ 63)
def qH (c i : Nat) : Prop := (c = 45 ∧ (i = 5 ∨ i = 6)) ∨ (46 ≤ c ∧ c ≤ 50)
def qO (c i : Nat) : Prop := c = 45 ∧ i = 9
def qL (c i : Nat) : Prop := (c = 45 ∧ i = 8) ∨ c = 51
def qF (k c i : Nat) : Prop := (58 ≤ c ∧ c ≤ 62 ∧ i < k) ∨ (c = 63 ∧ i < 6 * k)
def qT (k c i : Nat) : Prop := (58 ≤ c ∧ c ≤ 62 ∧ i = k) ∨ (c = 63 ∧ 6 * k ≤ i ∧ i < 6 * k + 6)
def qR (c i : Nat) : Prop := (c = 44 ∧ (i = 6 ∨ i = 7 ∨ i = 8 ∨ i = 9 ∨ i = 10 ∨ i = 15 ∨ i = 16)) ∨ (c = 57 ∧ i = 7)
def qD (c i : Nat) : Prop := c = 57 ∧ i = 6
theorem cF_ag {T : List Tok} {n : Nat} {D : List Df} {t : Tr} {c : CS} {s : Nat → Ta} {g : pm_s} {u v : pm_J} {Y : List Ty} (H : cF T n D t c s g u Y) (h : ag qS u v) : cF T n D t c s g v Y := by
  obtain ⟨h1, h2, h3, h4, h5, h6⟩ := H
  have e : ∀ c i, ¬ (44 ≤ c ∧ c ≤ 63) → v.1 c i = u.1 c i ∧ v.2 c i = u.2 c i := h
  refine ⟨(e _ _ (by omega)).1.trans h1, tyC_fr h2 (fun c i hc => (e c i (fun hh => ?_)).1), ⟨(e _ _ (by omega)).1.trans h3.1, h3.2⟩, ⟨(e _ _ (by omega)).1.trans h4.1, h4.2⟩, fun i x hx => ⟨?_, ?_⟩, fun i hi => ?_⟩
  · rw [cSy_no (by omega)] at hc; cases hc
  · obtain ⟨a1, a2, ⟨k, a3, a4⟩, a5, a6, ⟨b1, b2, b3⟩, a8, a9⟩ := (h5 i x hx).1
    refine ⟨(e _ _ (by omega)).2.trans a1, (e _ _ (by omega)).1.trans a2, ⟨k, (e _ _ (by omega)).1.trans a3, a4⟩, (e _ _ (by omega)).1.trans a5, (e _ _ (by omega)).1.trans a6, ⟨(e _ _ (by omega)).1.trans b1, b2, fun l hl => ?_⟩, (e _ _ (by omega)).1.trans a8, (e _ _ (by omega)).1.trans a9⟩
    obtain ⟨c1, c2⟩ := b3 l hl
    refine ⟨?_, (e _ _ (by omega)).1.trans c2⟩
    cases hlt : x.2.2.2.2.2.2.2.1 l with
    | none => rw [hlt] at c1; exact (e _ _ (by omega)).1.trans c1
    | some s => rw [hlt] at c1; obtain ⟨k, k1, k2⟩ := c1; exact ⟨k, (e _ _ (by omega)).1.trans k1, k2⟩
  · obtain ⟨a1, a2, a3, a4⟩ := (h5 i x hx).2
    exact ⟨(e _ _ (by omega)).1.trans a1, (e _ _ (by omega)).1.trans a2, (e _ _ (by omega)).1.trans a3, (e _ _ (by omega)).1.trans a4⟩
  · have := cKn_fr (c' := c) (v := v) (h6 i hi) [] ⟨rfl, rfl, rfl, rfl⟩ (fun x k hk => e x k (by omega))
    rw [List.append_nil] at this; exact this
def itC (Y : List Ty) (u : pm_J) (i : Nat) (it : It) : Prop := it.1 < 6 ∧ u.1 46 i = ie (it.1 : Nat) ∧ u.2 47 i = it.2.1.2 ∧ (it.1 ≤ 1 → u.2 48 i = it.2.2.1.2) ∧ (4 ≤ it.1 → (∃ k : Nat, u.2 48 i = je (k : Nat) ∧ k < 65536 ∧ Y[k]? = some it.2.2.2.1) ∧ u.1 49 i = ie it.2.2.2.2)
def cntI (k : Nat) (H : List It) : Nat := (H.filter fun it => it.1 == k).length
theorem cntI_s (k : Nat) (H : List It) (it : It) : cntI k (H ++ [it]) = cntI k H + (if it.1 = k then 1 else 0) := by
  unfold cntI
  rw [List.filter_append, List.length_append]
  congr 1
  by_cases e : it.1 = k
  · rw [if_pos e]
    have : (it.1 == k) = true := beq_iff_eq.mpr e
    rw [List.filter_cons_of_pos (p := fun it : It => it.1 == k) this]; rfl
  · rw [if_neg e]
    have : ¬ ((it.1 == k) = true) := fun h => e (beq_iff_eq.mp h)
    rw [List.filter_cons_of_neg (p := fun it : It => it.1 == k) this]; rfl
def hC (Y : List Ty) (u : pm_J) (hp : Hp) : Prop := u.1 45 5 = ie (hp.1.length : Nat) ∧ hp.1.length ≤ 4000 ∧ (∀ (i : Nat) (it : It), hp.1[i]? = some it → itC Y u i it) ∧ (∀ k, k < 6 → u.1 50 k = ie (cntI k hp.1 : Nat)) ∧ u.1 45 6 = ie (hp.2 : Nat)
theorem hC_ag {Y : List Ty} {u v : pm_J} {hp : Hp} (h : hC Y u hp) (ha : ag qH u v) : hC Y v hp := by
  obtain ⟨h1, h2, h3, h4, h5⟩ := h
  have e : ∀ c i, (c = 45 ∧ (i = 5 ∨ i = 6)) ∨ (46 ≤ c ∧ c ≤ 50) → v.1 c i = u.1 c i ∧ v.2 c i = u.2 c i := ha
  refine ⟨(e _ _ (by omega)).1.trans h1, h2, fun i it hi => ?_, fun k hk => (e _ _ (by omega)).1.trans (h4 k hk), (e _ _ (by omega)).1.trans h5⟩
  obtain ⟨a0, a1, a2, a3, a4⟩ := h3 i it hi
  refine ⟨a0, (e _ _ (by omega)).1.trans a1, (e _ _ (by omega)).2.trans a2, fun hh => (e _ _ (by omega)).2.trans (a3 hh), fun hh => ?_⟩
  obtain ⟨⟨k, k1, k2⟩, k3⟩ := a4 hh
  exact ⟨⟨k, (e _ _ (by omega)).2.trans k1, k2⟩, (e _ _ (by omega)).1.trans k3⟩
theorem je_0 (i : Nat) (hi : i < 2147483648) : ¬ (lg_cmp (je (i : Nat)) 0 < 0) := fun h => by
  have := (lg_lt0 _ _).mp h
  rw [show (0 : Int64) = je 0 from rfl, je_lt _ _ (by omega) (by omega) (by omega) (by omega)] at this; omega
theorem je_len (i l : Nat) (hi : i < l) (hl : l < 2147483648) : ¬ (0 ≤ lg_cmp (je (i : Nat)) (ie (l : Nat)).toInt64) := fun h => by
  have := (lg_ge0 _ _).mp h
  rw [ie_je _ (by omega) (by omega), je_lt _ _ (by omega) (by omega) (by omega) (by omega)] at this; omega
theorem je_i32 (i : Nat) (hi : i < 2147483648) : (je (i : Nat)).toInt32 = ie (i : Nat) := je_ie _ (by omega) (by omega)
theorem hp_rd {u : pm_J} {l i : Nat} (g : pm_s) (h5 : u.1 45 5 = ie (l : Nat)) (hl : l ≤ 4000) (hi : i < l) : F_Heap_kind (je (i : Nat)) g u = some (u.1 46 i) ∧ F_Heap_first (je (i : Nat)) g u = some (u.2 47 i) ∧ F_Heap_second (je (i : Nat)) g u = some (u.2 48 i) ∧ F_Heap_site (je (i : Nat)) g u = some (u.1 49 i) ∧ F_Heap_openBox (je (i : Nat)) g u = some (u.2 47 i, wi u 45 6 (u.1 45 6 + 1)) := by
  have n0 := je_0 i (by omega)
  have n1 := je_len i l hi (by omega)
  have e1 := je_i32 i (by omega)
  have ok := okn i 4000 (by omega) (by omega)
  have nt := ntn i (by omega)
  unfold F_Heap_kind F_Heap_first F_Heap_second F_Heap_site F_Heap_openBox
  rw [h5, if_neg n0, if_neg n1, if_neg n0, if_neg n1, if_neg n0, if_neg n1, if_neg n0, if_neg n1, if_neg n0, if_neg n1, e1, if_pos ok, if_pos ok, if_pos ok, if_pos ok, if_pos ok, nt]
  exact ⟨rfl, rfl, rfl, rfl, rfl⟩
def mkC (u : pm_J) (l k : Nat) (w1 w2 : Int64) (site : Int32) : pm_J := wi (wi (wi (wj (wj (wi u 46 l (ie (k : Nat))) 47 l w1) 48 l w2) 49 l site) 50 k (u.1 50 k + 1)) 45 5 (ie ((l + 1 : Nat) : Int))
theorem hp_mk {u : pm_J} {l k : Nat} (g : pm_s) (w1 w2 : Int64) (site : Int32) (h5 : u.1 45 5 = ie (l : Nat)) (hl : l < 4000) (hk : k < 6) : F_Heap_make (ie (k : Nat)) w1 w2 site g u = some (je (l : Nat), mkC u l k w1 w2 site) := by
  have c1 : ¬ ((4000 : Int32) ≤ ie (l : Nat)) := fun h => by have := (inle 4000 l (by omega) (by omega)).mp h; omega
  have c2 : ¬ (ie (k : Nat) < (0 : Int32)) := fun h => by have := (inlt k 0 (by omega) (by omega)).mp h; omega
  have c3 : ie (k : Nat) < (6 : Int32) := (inlt k 6 (by omega) (by omega)).mpr hk
  have ok := okn l 4000 (by omega) (by omega)
  have okk := okn k 6 (by omega) (by omega)
  have nt := ntn l (by omega)
  have ntk := ntn k (by omega)
  have e1 : ie (l : Nat) + 1 - 1 = ie (l : Nat) := by rw [iadd1, isub1]
  unfold F_Heap_make mkC
  rw [h5, if_neg c1, if_neg c2, if_pos c3, if_pos ok, if_pos ok, if_pos ok, if_pos ok, if_pos okk, if_pos okk, e1, nt, ntk, ie_je _ (by omega) (by omega), iadd1]
theorem hp_full {u : pm_J} (g : pm_s) (k : Int32) (w1 w2 : Int64) (site : Int32) (h5 : u.1 45 5 = ie ((4000 : Nat) : Int)) : F_Heap_make k w1 w2 site g u = some (-1, wi u 45 9 1) := by
  unfold F_Heap_make
  rw [h5, if_pos (show (4000 : Int32) ≤ ie ((4000 : Nat) : Int) by decide)]
theorem mkC_ag (P : Nat → Nat → Prop) (u : pm_J) (l k : Nat) (w1 w2 : Int64) (site : Int32) (h : ∀ c i, P c i → ¬ ((46 ≤ c ∧ c ≤ 50) ∨ (c = 45 ∧ i = 5))) : ag P u (mkC u l k w1 w2 site) := by
  unfold mkC
  exact ag_wi (ag_wi (ag_wi (ag_wj (ag_wj (ag_wi (ag_r P u) _ _ _ (fun hh => h _ _ hh (by omega))) _ _ _ (fun hh => h _ _ hh (by omega))) _ _ _ (fun hh => h _ _ hh (by omega))) _ _ _ (fun hh => h _ _ hh (by omega))) _ _ _ (fun hh => h _ _ hh (by omega))) _ _ _ (fun hh => h _ _ hh (by omega))
theorem mkC_h {Y : List Ty} {u : pm_J} {hp : Hp} (h : hC Y u hp) (hl : hp.1.length < 4000) {it : It} {w1 w2 : Int64} {site : Int32} (h6 : it.1 < 6) (h1 : w1 = it.2.1.2) (h2 : it.1 ≤ 1 → w2 = it.2.2.1.2) (h4 : 4 ≤ it.1 → (∃ k : Nat, w2 = je (k : Nat) ∧ k < 65536 ∧ Y[k]? = some it.2.2.2.1) ∧ site = ie it.2.2.2.2) : hC Y (mkC u hp.1.length it.1 w1 w2 site) (hp.1 ++ [it], hp.2) := by
  obtain ⟨a1, a2, a3, a4, a5⟩ := h
  have hlen : (hp.1 ++ [it]).length = hp.1.length + 1 := by rw [List.length_append]; rfl
  unfold mkC
  refine ⟨by rw [wi_at, hlen], by rw [hlen]; omega, fun i x hi => ?_, fun k hk => ?_, ?_⟩
  · by_cases e : i < hp.1.length
    · rw [List.getElem?_append_left e] at hi
      obtain ⟨b0, b1, b2, b3, b4⟩ := a3 i x hi
      refine ⟨b0, ?_, ?_, fun hh => ?_, fun hh => ?_⟩
      · rw [wi_ne _ _ _ _ _ _ (by omega), wi_ne _ _ _ _ _ _ (by omega), wi_ne _ _ _ _ _ _ (by omega), wj_1, wj_1, wi_ne _ _ _ _ _ _ (by omega)]; exact b1
      · rw [wi_2, wi_2, wi_2, wj_ne _ _ _ _ _ _ (by omega), wj_ne _ _ _ _ _ _ (by omega), wi_2]; exact b2
      · rw [wi_2, wi_2, wi_2, wj_ne _ _ _ _ _ _ (by omega), wj_ne _ _ _ _ _ _ (by omega), wi_2]; exact b3 hh
      · obtain ⟨⟨k, k1, k2⟩, k3⟩ := b4 hh
        refine ⟨⟨k, ?_, k2⟩, ?_⟩
        · rw [wi_2, wi_2, wi_2, wj_ne _ _ _ _ _ _ (by omega), wj_ne _ _ _ _ _ _ (by omega), wi_2]; exact k1
        · rw [wi_ne _ _ _ _ _ _ (by omega), wi_ne _ _ _ _ _ _ (by omega), wi_ne _ _ _ _ _ _ (by omega), wj_1, wj_1, wi_ne _ _ _ _ _ _ (by omega)]; exact k3
    · rw [List.getElem?_append_right (by omega)] at hi
      have i0 : i - hp.1.length = 0 := by
        have := (List.getElem?_eq_some_iff.mp hi).1
        rw [List.length_singleton] at this; omega
      rw [i0] at hi
      have hx : it = x := by cases hi; rfl
      subst hx
      have ei : i = hp.1.length := by omega
      subst ei
      refine ⟨h6, ?_, ?_, fun hh => ?_, fun hh => ?_⟩
      · rw [wi_ne _ _ _ _ _ _ (by omega), wi_ne _ _ _ _ _ _ (by omega), wi_ne _ _ _ _ _ _ (by omega), wj_1, wj_1, wi_at]
      · rw [wi_2, wi_2, wi_2, wj_ne _ _ _ _ _ _ (by omega), wj_at]; exact h1
      · rw [wi_2, wi_2, wi_2, wj_at]; exact h2 hh
      · obtain ⟨⟨k, k1, k2⟩, k3⟩ := h4 hh
        refine ⟨⟨k, ?_, k2⟩, ?_⟩
        · rw [wi_2, wi_2, wi_2, wj_at]; exact k1
        · rw [wi_ne _ _ _ _ _ _ (by omega), wi_ne _ _ _ _ _ _ (by omega), wi_at]; exact k3
  · have hlt : k < 6 := hk
    show _ = ie (cntI k (hp.1 ++ [it]) : Nat)
    rw [cntI_s]
    by_cases e : k = it.1
    · subst e
      rw [wi_ne _ _ _ _ _ _ (by omega), wi_at, a4 _ h6, iadd1, if_pos rfl]
    · rw [wi_ne _ _ _ _ _ _ (by omega), wi_ne _ _ _ _ _ _ (by omega), wi_ne _ _ _ _ _ _ (by omega), wj_1, wj_1, wi_ne _ _ _ _ _ _ (by omega), a4 k hk, if_neg (fun hh => e hh.symm)]; rfl
  · rw [wi_ne _ _ _ _ _ _ (by omega), wi_ne _ _ _ _ _ _ (by omega), wi_ne _ _ _ _ _ _ (by omega), wj_1, wj_1, wi_ne _ _ _ _ _ _ (by omega)]; exact a5
