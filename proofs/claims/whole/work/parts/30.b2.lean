set_option maxRecDepth 100000
def wN (c i : Nat) : Prop := ¬ ((c = 64 ∧ (i = 81 ∨ i = 99 ∨ i = 100 ∨ i = 101 ∨ i = 102 ∨ i = 103)) ∨ (115 ≤ c ∧ c ≤ 122) ∨ (c = 64 ∧ i = 118) ∨ c = 137 ∨ c = 138)
theorem r_coverOf {Y : List Ty} {u : pm_J} {hp : Hp} {rs : List Va} {T : Ty} {k : Nat} (g : pm_s) (bo : Bool) (site : Int) (x : Va) (h : hR Y u hp) (h0 : u.1 64 96 = ie 0) (hrs : rsR u rs) (hrl : rs.length < 8000) (hk : k < 100000) (hY : Y[k]? = some T) : (hp.1.length < 4000 → ∃ v, F_Md_coverOf (ie (hwR bo site : Nat)) (ie (k : Nat)) (ie site) (ie (x.1 : Nat)) x.2 g u = some v ∧ hR Y v (hp.1 ++ [(if bo = true then 4 else 5, x, v0, T, site)], hp.2) ∧ rsR v (rs ++ [(3, je (hp.1.length : Nat))]) ∧ ag wN u v) ∧ (4000 ≤ hp.1.length → F_Md_coverOf (ie (hwR bo site : Nat)) (ie (k : Nat)) (ie site) (ie (x.1 : Nat)) x.2 g u = some (wi u 64 96 4)) := by
  obtain ⟨m1, m2⟩ := r_make g h.1 h.2.1
  refine ⟨fun hl => ?_, fun hl => ?_⟩
  · have ok := okn hp.1.length 4000 hl (by omega)
    have nt := ntn hp.1.length (by omega)
    have ht := h.2.2.2.1
    let w : pm_J := wi (wj (wi (wi (wi (wi (wi (wi u 64 81 (ie ((hp.1.length + 1 : Nat) : Int))) 115 hp.1.length 1) 116 hp.1.length (ie (hwR bo site : Nat))) 117 hp.1.length (ie (k : Nat))) 118 hp.1.length (ie site)) 119 hp.1.length (ie (x.1 : Nat))) 120 hp.1.length x.2) 64 101 (u.1 64 101 + 1)
    have aw : ∀ P : Nat → Nat → Prop, (∀ c i, P c i → ¬ (wH c i)) → ag P u w := fun P hP => by
      have q : ∀ a k, wH a k → ¬ P a k := fun a k hq hp => hP a k hp hq
      exact ag_wi (ag_wj (ag_wi (ag_wi (ag_wi (ag_wi (ag_wi (ag_wi (ag_r P u) _ _ _ (q _ _ (by unfold wH; omega))) _ _ _ (q _ _ (by unfold wH; omega))) _ _ _ (q _ _ (by unfold wH; omega))) _ _ _ (q _ _ (by unfold wH; omega))) _ _ _ (q _ _ (by unfold wH; omega))) _ _ _ (q _ _ (by unfold wH; omega))) _ _ _ (q _ _ (by unfold wH; omega))) _ _ _ (q _ _ (by unfold wH; omega))
    have rd : ∀ c i, w.1 c i = if c = 64 ∧ i = 101 then u.1 64 101 + 1 else if c = 119 ∧ i = hp.1.length then ie (x.1 : Nat) else if c = 118 ∧ i = hp.1.length then ie site else if c = 117 ∧ i = hp.1.length then ie (k : Nat) else if c = 116 ∧ i = hp.1.length then ie (hwR bo site : Nat) else if c = 115 ∧ i = hp.1.length then 1 else if c = 64 ∧ i = 81 then ie ((hp.1.length + 1 : Nat) : Int) else u.1 c i := fun c i => rfl
    have rd2 : ∀ c i, w.2 c i = if c = 120 ∧ i = hp.1.length then x.2 else u.2 c i := fun c i => rfl
    have hb4 : ∀ P : Prop, (if bo = true then 4 else 5) = 0 ∨ (if bo = true then 4 else 5) = 1 ∨ (if bo = true then 4 else 5) = 2 ∨ (if bo = true then 4 else 5) = 3 → P := fun P hh => by cases bo <;> (rcases hh with hh | hh | hh | hh <;> cases hh)
    have hw : hR Y w (hp.1 ++ [(if bo = true then 4 else 5, x, v0, T, site)], hp.2) := by
      refine hR_new h hl ?_ (fun c i c1 c2 hi => ?_) ⟨fun k => hb4 _ (Or.inl k), fun k => hb4 _ (Or.inr (Or.inl k)), fun k => hb4 _ (Or.inr (Or.inr k)), fun _ => ⟨?_, ?_, ⟨k, ?_, hk, hY⟩, ?_, ?_, ?_⟩⟩ (ct_add ht ?_ ?_ ?_ ?_) ?_
      · rw [rd, if_neg (by omega), if_neg (by omega), if_neg (by omega), if_neg (by omega), if_neg (by omega), if_neg (by omega), if_pos (by omega)]
      · exact ⟨by rw [rd, if_neg (by omega), if_neg (by omega), if_neg (by omega), if_neg (by omega), if_neg (by omega), if_neg (by omega), if_neg (by omega)], by rw [rd2, if_neg (by omega)]⟩
      · rw [rd, if_neg (by omega), if_neg (by omega), if_neg (by omega), if_neg (by omega), if_neg (by omega), if_pos (by omega)]; rfl
      · rw [rd, if_neg (by omega), if_neg (by omega), if_neg (by omega), if_neg (by omega), if_pos (by omega)]; cases bo <;> rfl
      · rw [rd, if_neg (by omega), if_neg (by omega), if_neg (by omega), if_pos (by omega)]
      · rw [rd, if_neg (by omega), if_neg (by omega), if_pos (by omega)]
      · rw [rd, if_neg (by omega), if_pos (by omega)]
      · rw [rd2, if_pos (by omega)]
      · rw [if_neg (fun hh => hb4 False (Or.inl hh)), Int32.add_zero]; rfl
      · rw [if_neg (fun hh => hb4 False (Or.inr (Or.inl hh))), Int32.add_zero]; rfl
      · rw [if_neg (fun hh => hb4 False (Or.inr (Or.inr hh))), Int32.add_zero]; rfl
      · rw [if_pos (show (if bo = true then 4 else 5) = 4 ∨ (if bo = true then 4 else 5) = 5 by cases bo <;> simp)]; rfl
      · rfl
    obtain ⟨z, z1, z2, z3⟩ := r_answer g (rsR_ag hrs (aw _ (fun c i hc hh => by unfold wR' at hc; unfold wH at hh; omega))) hrl (3, je (hp.1.length : Nat))
    refine ⟨z, ?_, hR_ag hw (z3 _ (fun c i hc hh => by unfold wH at hc; unfold wR' at hh; omega)), z2, ag_t (aw _ (fun c i hc hh => by unfold wN at hc; unfold wH at hh; omega)) (z3 _ (fun c i hc hh => by unfold wN at hc; unfold wR' at hh; omega))⟩
    have z1' : F_Md_answer 3 (je (hp.1.length : Nat)) g w = some z := z1
    unfold F_Md_coverOf
    rw [m1 hl, Option.bind_some]
    show (if (wi u 64 81 (ie ((hp.1.length + 1 : Nat) : Int))).1 64 96 = 0 then _ else _) = _
    rw [wi_ne _ _ _ _ _ _ (by omega), h0, if_pos (show ie 0 = (0 : Int32) from rfl), if_pos ok, if_pos ok, if_pos ok, if_pos ok, if_pos ok, if_pos ok, nt, ie_je _ (by omega) (by omega), wi_ne _ _ _ _ _ _ (by omega)]
    show (F_Md_answer 3 (je (hp.1.length : Nat)) g w).bind _ = _
    rw [z1']; rfl
  · have hl' : hp.1.length = 4000 := by have := h.2.1; omega
    unfold F_Md_coverOf
    rw [m2 hl', Option.bind_some]
    show (if (wi u 64 96 4).1 64 96 = 0 then _ else _) = _
    rw [wi_at, if_neg (by decide)]
theorem r_box {Y : List Ty} {u : pm_J} {hp : Hp} {rs : List Va} (g : pm_s) (j : Nat) (hj : j < 2) (x : Va) (h : hR Y u hp) (h0 : u.1 64 96 = ie 0) (hrs : rsR u rs) (hrl : rs.length < 8000) : (hp.1.length < 4000 → ∃ v, F_Md_boxOne 1 (ie (x.1 : Nat)) x.2 g u = some v ∧ hR Y v (hp.1 ++ [(2 + j, x, v0, .num 0, -1)], hp.2) ∧ rsR v (rs ++ [(4, je (hp.1.length : Nat))]) ∧ ag wN u v) ∧ (4000 ≤ hp.1.length → F_Md_boxOne 1 (ie (x.1 : Nat)) x.2 g u = some (wi u 64 96 4)) := by
  obtain ⟨m1, m2⟩ := r_make g h.1 h.2.1
  refine ⟨fun hl => ?_, fun hl => ?_⟩
  · have ok := okn hp.1.length 4000 hl (by omega)
    have nt := ntn hp.1.length (by omega)
    have ht := h.2.2.2.1
    let w : pm_J := wi (wj (wi (wi u 64 81 (ie ((hp.1.length + 1 : Nat) : Int))) 119 hp.1.length (ie (x.1 : Nat))) 120 hp.1.length x.2) 64 99 (u.1 64 99 + 1)
    have aw : ∀ P : Nat → Nat → Prop, (∀ c i, P c i → ¬ (wH c i)) → ag P u w := fun P hP => by
      have q : ∀ a k, wH a k → ¬ P a k := fun a k hq hp => hP a k hp hq
      exact ag_wi (ag_wj (ag_wi (ag_wi (ag_r P u) _ _ _ (q _ _ (by unfold wH; omega))) _ _ _ (q _ _ (by unfold wH; omega))) _ _ _ (q _ _ (by unfold wH; omega))) _ _ _ (q _ _ (by unfold wH; omega))
    have rd : ∀ c i, w.1 c i = if c = 64 ∧ i = 99 then u.1 64 99 + 1 else if c = 119 ∧ i = hp.1.length then ie (x.1 : Nat) else if c = 64 ∧ i = 81 then ie ((hp.1.length + 1 : Nat) : Int) else u.1 c i := fun c i => rfl
    have rd2 : ∀ c i, w.2 c i = if c = 120 ∧ i = hp.1.length then x.2 else u.2 c i := fun c i => rfl
    have hw : hR Y w (hp.1 ++ [(2 + j, x, v0, .num 0, -1)], hp.2) := by
      refine hR_new h hl ?_ (fun c i c1 c2 hi => ?_) ⟨fun k => (by (have : 2 + j = 0 := k); omega), fun k => (by (have : 2 + j = 1 := k); omega), fun _ => ⟨?_, ?_⟩, fun k => (by (have : 2 + j = 4 ∨ 2 + j = 5 := k); omega)⟩ (ct_add ht ?_ ?_ ?_ ?_) ?_
      · rw [rd, if_neg (by omega), if_neg (by omega), if_pos (by omega)]
      · exact ⟨by rw [rd, if_neg (by omega), if_neg (by omega), if_neg (by omega)], by rw [rd2, if_neg (by omega)]⟩
      · rw [rd, if_neg (by omega), if_pos (by omega)]
      · rw [rd2, if_pos (by omega)]
      · rw [if_neg (show ¬ (2 + j = 0) by omega), Int32.add_zero]; rfl
      · rw [if_neg (show ¬ (2 + j = 1) by omega), Int32.add_zero]; rfl
      · rw [if_pos (show 2 + j = 2 ∨ 2 + j = 3 by omega)]; rfl
      · rw [if_neg (show ¬ (2 + j = 4 ∨ 2 + j = 5) by omega), Int32.add_zero]; rfl
      · rfl
    obtain ⟨z, z1, z2, z3⟩ := r_answer g (rsR_ag hrs (aw _ (fun c i hc hh => by unfold wR' at hc; unfold wH at hh; omega))) hrl (4, je (hp.1.length : Nat))
    refine ⟨z, ?_, hR_ag hw (z3 _ (fun c i hc hh => by unfold wH at hc; unfold wR' at hh; omega)), z2, ag_t (aw _ (fun c i hc hh => by unfold wN at hc; unfold wH at hh; omega)) (z3 _ (fun c i hc hh => by unfold wN at hc; unfold wR' at hh; omega))⟩
    have z1' : F_Md_answer 4 (je (hp.1.length : Nat)) g w = some z := z1
    unfold F_Md_boxOne
    rw [if_neg (by decide), m1 hl, Option.bind_some]
    show (if (wi u 64 81 (ie ((hp.1.length + 1 : Nat) : Int))).1 64 96 = 0 then _ else _) = _
    rw [wi_ne _ _ _ _ _ _ (by omega), h0, if_pos (show ie 0 = (0 : Int32) from rfl), if_pos ok, if_pos ok, nt, ie_je _ (by omega) (by omega), wi_ne _ _ _ _ _ _ (by omega)]
    show (F_Md_answer 4 (je (hp.1.length : Nat)) g w).bind _ = _
    rw [z1']; rfl
  · have hl' : hp.1.length = 4000 := by have := h.2.1; omega
    unfold F_Md_boxOne
    rw [if_neg (by decide), m2 hl', Option.bind_some]
    show (if (wi u 64 96 4).1 64 96 = 0 then _ else _) = _
    rw [wi_at, if_neg (by decide)]
theorem rd_one {N : Nat} {Y : List Ty} {g : pm_s} {u w : pm_J} {h' : Hp} {ts : List RTk} {rs : List Va} (m : Nat) (hm : 1 ≤ m) (hK : ∀ f, K_Md_convert_25 N g (f + 1) u = K_Md_convert_25 N g f w) (y : Va) (hr : rdR Y w h' (ts, rs ++ [y])) (ha : ag wB u w) : rdG N Y g u m (ts, rs) (some (some y, h')) := ⟨w, 1, hm, hK, hr, ha⟩
theorem rd_none {N : Nat} {Y : List Ty} {g : pm_s} {u w : pm_J} {h' : Hp} {q : RdX} (m : Nat) (hm : 1 ≤ m) (hK : ∀ f, K_Md_convert_25 N g (f + 1) u = K_Md_convert_25 N g f w) (hh : hR Y w h') (ho : w.1 64 96 = ie 4) (ha : ag wB u w) : rdG N Y g u m q (some (none, h')) :=
  ⟨w, 1, hm, fun f => by rw [hK (f + 1)]; exact r_full N g f ho, hh, ho, ha⟩
theorem rd_same {N : Nat} {Y : List Ty} {g : pm_s} {u v : pm_J} {hp : Hp} {ts : List RTk} {rs : List Va} {x : RTk} (m : Nat) (y : Va) (hm : 1 ≤ m) (hrl : rs.length < 8000)
    (hK : ∀ f, K_Md_convert_25 N g (f + 1) u = (F_Md_convertOne N x.1 x.2.1 x.2.2.1 x.2.2.2.1 x.2.2.2.2 g v).bind fun q => K_Md_convert_25 N g f q) (ha : ag wB u v) (hr : rdR Y v hp (ts, rs))
    (hT : F_Md_convertOne N x.1 x.2.1 x.2.2.1 x.2.2.2.1 x.2.2.2.2 g v = (F_Md_answer (ie (y.1 : Nat)) y.2 g v).bind fun z => some z) : rdG N Y g u m (ts, rs) (some (some y, hp)) := by
  obtain ⟨h1, h0, hts, hrs⟩ := hr
  obtain ⟨w, w1, w3, w4⟩ := r_answer g hrs hrl y
  refine rd_one m hm (w := w) (fun f => by rw [hK f, hT, w1]; rfl) y ⟨hR_ag h1 (w4 _ (fun c i h1 h2 => by unfold wH at h1; unfold wR' at h2; omega)), ?_, tsR_ag hts (w4 _ (fun c i h1 h2 => by unfold wT' at h1; unfold wR' at h2; omega)), w3⟩ (ag_t ha (w4 _ (fun c i h1 => (nB c i h1).2.1)))
  rw [(w4 (fun c i => c = 64 ∧ i = 96) (fun c i h1 h2 => by unfold wR' at h2; omega) 64 96 ⟨rfl, rfl⟩).1]; exact h0
theorem rd_mk {N : Nat} {Y : List Ty} {g : pm_s} {u v : pm_J} {hp : Hp} {ts : List RTk} {rs : List Va} (m tag : Nat) (it : It) (o : Option pm_J) (hm : 1 ≤ m) (hK : ∀ f, K_Md_convert_25 N g (f + 1) u = o.bind fun q => K_Md_convert_25 N g f q) (ha : ag wB u v) (hr : rdR Y v hp (ts, rs))
    (h1 : hp.1.length < 4000 → ∃ w, o = some w ∧ hR Y w (hp.1 ++ [it], hp.2) ∧ rsR w (rs ++ [(tag, je (hp.1.length : Nat))]) ∧ ag wN v w) (h2 : 4000 ≤ hp.1.length → o = some (wi v 64 96 4)) : rdG N Y g u m (ts, rs) (some (mkI hp tag it)) := by
  obtain ⟨k1, k0, kts, krs⟩ := hr
  unfold mkI
  by_cases e : hp.1.length < 4000
  · rw [if_pos e]
    obtain ⟨w, w1, w2, w3, w4⟩ := h1 e
    refine rd_one m hm (w := w) (fun f => by rw [hK f, w1]; rfl) (tag, je (hp.1.length : Nat)) ⟨w2, ?_, tsR_ag kts (ag_m w4 (fun c i hc => by unfold wT' at hc; unfold wN; omega)), w3⟩ (ag_t ha (ag_m w4 (fun c i hc => by unfold wB at hc; unfold wN; omega)))
    rw [(w4 64 96 (by unfold wN; omega)).1]; exact k0
  · rw [if_neg e]
    have aw : ag (fun c i => ¬ (c = 64 ∧ i = 96)) v (wi v 64 96 4) := ag_wi (ag_r _ v) _ _ _ (by omega)
    exact rd_none m hm (w := wi v 64 96 4) (fun f => by rw [hK f, h2 (by omega)]; rfl) (hR_ag k1 (ag_m aw (fun c i hc => by unfold wH at hc; omega))) (by rw [wi_at]; rfl) (ag_t ha (ag_m aw (fun c i hc => by unfold wB at hc; omega)))
theorem rd_pair {N : Nat} {Y : List Ty} {g : pm_s} {u v : pm_J} {hp : Hp} {ts : List RTk} {rs : List Va} (m ma mb l r : Nat) {x : RTk} (it : It) (fa fb : Va → Hp → Option (Option Va × Hp)) (hm : ma + mb + 2 ≤ m) (hts3 : ts.length + 3 ≤ 8000) (hrs2 : rs.length + 2 ≤ 8000)
    (hK : ∀ f, K_Md_convert_25 N g (f + 1) u = (F_Md_convertOne N x.1 x.2.1 x.2.2.1 x.2.2.2.1 x.2.2.2.2 g v).bind fun q => K_Md_convert_25 N g f q) (ha : ag wB u v) (hr : rdR Y v hp (ts, rs))
    (hT : ∀ z1 z2 z3 : pm_J, F_Md_ask 9 0 0 0 0 g v = some z1 → ag wB v z1 → hR Y z1 hp → F_Md_ask x.1 (ie (r : Nat)) x.2.2.1 (ie (it.2.2.1.1 : Nat)) it.2.2.1.2 g z1 = some z2 → ag wB v z2 → hR Y z2 hp → F_Md_ask x.1 (ie (l : Nat)) x.2.2.1 (ie (it.2.1.1 : Nat)) it.2.1.2 g z2 = some z3 → F_Md_convertOne N x.1 x.2.1 x.2.2.1 x.2.2.2.1 x.2.2.2.2 g v = some z3)
    (hA : ∀ (z : pm_J) (h' : Hp) (ts' : List RTk) (rs' : List Va), ag wB v z → ts'.length ≤ ts.length + 2 → rs'.length ≤ rs.length → rdR Y z h' (ts' ++ [(x.1, ie (l : Nat), x.2.2.1, ie (it.2.1.1 : Nat), it.2.1.2)], rs') → rdG N Y g z ma (ts', rs') (fa it.2.1 h'))
    (hB : ∀ (z : pm_J) (h' : Hp) (ts' : List RTk) (rs' : List Va), ag wB v z → ts'.length ≤ ts.length + 1 → rs'.length ≤ rs.length + 1 → rdR Y z h' (ts' ++ [(x.1, ie (r : Nat), x.2.2.1, ie (it.2.2.1.1 : Nat), it.2.2.1.2)], rs') → rdG N Y g z mb (ts', rs') (fb it.2.2.1 h')) :
    rdG N Y g u m (ts, rs) (oB (fa it.2.1 hp) fun x h1 => oB (fb it.2.2.1 h1) fun y h2 => some (mkI h2 2 (0, x, y, .num 0, -1))) := by
  obtain ⟨h1, h0, hts', hrs'⟩ := hr
  have hts : tsR v ts := hts'
  have hrs : rsR v rs := hrs'
  have noH : ∀ c i, wH c i → ¬ wT' c i := fun c i h1 h2 => by unfold wH at h1; unfold wT' at h2; omega
  have noR : ∀ c i, wR' c i → ¬ wT' c i := fun c i h1 h2 => by unfold wR' at h1; unfold wT' at h2; omega
  have noA : ∀ c i, wB c i → ¬ wT' c i := fun c i h1 => (nB c i h1).1
  have noO : ∀ c i, (c = 64 ∧ i = 96) → ¬ wT' c i := fun c i h1 h2 => by unfold wT' at h2; omega
  obtain ⟨w1, a1, a2, a3⟩ := r_ask g hts (by omega) (9, 0, 0, 0, 0)
  have b1 := hR_ag h1 (a3 _ noH)
  obtain ⟨w2, a1', a2', a3'⟩ := r_ask g a2 (by rw [List.length_append]; show ts.length + 1 < 8000; omega) (x.1, ie (r : Nat), x.2.2.1, ie (it.2.2.1.1 : Nat), it.2.2.1.2)
  have b2 := hR_ag b1 (a3' _ noH)
  obtain ⟨w3, a1'', a2'', a3''⟩ := r_ask g a2' (by rw [List.length_append, List.length_append]; show ts.length + 1 + 1 < 8000; omega) (x.1, ie (l : Nat), x.2.2.1, ie (it.2.1.1 : Nat), it.2.1.2)
  have gA : ag wB v w3 := ag_t (a3 _ noA) (ag_t (a3' _ noA) (a3'' _ noA))
  have b3 : rdR Y w3 hp (((ts ++ [((9 : Int32), (0 : Int32), (0 : Int32), (0 : Int32), (0 : Int64))]) ++ [(x.1, ie (r : Nat), x.2.2.1, ie (it.2.2.1.1 : Nat), it.2.2.1.2)]) ++ [(x.1, ie (l : Nat), x.2.2.1, ie (it.2.1.1 : Nat), it.2.1.2)], rs) := by
    refine ⟨hR_ag b2 (a3'' _ noH), ?_, a2'', rsR_ag hrs (ag_t (a3 _ noR) (ag_t (a3' _ noR) (a3'' _ noR)))⟩
    rw [(ag_t (a3 _ noO) (ag_t (a3' _ noO) (a3'' _ noO)) 64 96 ⟨rfl, rfl⟩).1]; exact h0
  have hT' := hT w1 w2 w3 a1 (a3 _ noA) b1 a1' (ag_t (a3 _ noA) (a3' _ noA)) b2 a1''
  have hK' : ∀ f, K_Md_convert_25 N g (f + 1) u = K_Md_convert_25 N g f w3 := fun f => by rw [hK f, hT', Option.bind_some]
  refine rdG_pre hK' (ag_t ha gA) (m := ma + (mb + 1)) ?_ (by omega)
  refine rdG_b (hA w3 hp _ rs gA (by rw [List.length_append, List.length_append]; show ts.length + 1 + 1 ≤ _; omega) (Nat.le_refl _) b3) (fun xx h' z hz hq => ?_) (Nat.le_refl _)
  refine rdG_b (hB z h' _ _ (ag_t gA hz) (by rw [List.length_append]; show ts.length + 1 ≤ _; omega) (by rw [List.length_append]; exact Nat.le_refl _) hq) (fun yy h'' z' hz' hq' => ?_) (Nat.le_refl _)
  obtain ⟨p, p1, p2, p3⟩ := r_turnJ N g hq'
  obtain ⟨o1, o2, o3, o4⟩ := id p2
  obtain ⟨q1, q2⟩ := r_makePair g xx yy o1 o2
  unfold mkI
  by_cases e : h''.1.length < 4000
  · rw [if_pos e]
    obtain ⟨s, s1, s2, s3, s4, s5⟩ := q1 e
    obtain ⟨k, k1, k2, k3⟩ := r_answer g (rsR_ag o4 (ag_m s5 (fun c i hc => by unfold wR' at hc; unfold wH; omega))) (by show rs.length < 8000; omega) (2, je (h''.1.length : Nat))
    refine rd_one 1 (Nat.le_refl _) (w := k) (fun f => ?_) (2, je (h''.1.length : Nat)) ⟨hR_ag s2 (k3 _ (fun c i h1 h2 => by unfold wH at h1; unfold wR' at h2; omega)), ?_, tsR_ag o3 (ag_t (ag_m s5 (fun c i hc => by unfold wT' at hc; unfold wH; omega)) (k3 _ (fun c i h1 h2 => by unfold wT' at h1; unfold wR' at h2; omega))), k2⟩ (ag_t p3 (ag_t (ag_m s5 (fun c i hc => by unfold wB at hc; unfold wH; omega)) (k3 _ (fun c i h1 => (nB c i h1).2.1))))
    · have k1' : F_Md_answer (ie ((2 : Nat) : Int)) (je (h''.1.length : Nat)) g s = some k := k1
      rw [p1 f, s1, Option.bind_some, s3, s4, k1', Option.bind_some]
    · rw [(k3 (fun c i => c = 64 ∧ i = 96) (fun c i h1 h2 => by unfold wR' at h2; omega) 64 96 ⟨rfl, rfl⟩).1, (s5 64 96 (by unfold wH; omega)).1]; exact o2
  · rw [if_neg e]
    obtain ⟨s, s1, s2, s3, s4⟩ := q2 (by omega)
    have hans : ∃ k, F_Md_answer (s.1 64 108) (s.2 64 109) g s = some k ∧ ag (fun c i => ¬ wR' c i) s k := by
      have o4' := rsR_ag o4 (ag_m s4 (fun c i hc => by unfold wR' at hc; omega))
      have ok := okn rs.length 9000 (by omega) (by omega)
      refine ⟨_, by unfold F_Md_answer; rw [(show s.1 64 118 = ie (rs.length : Nat) from o4'.1), if_pos ok, if_pos ok], ?_⟩
      exact ag_wi (ag_wj (ag_wi (ag_r _ s) _ _ _ (by unfold wR'; omega)) _ _ _ (by unfold wR'; omega)) _ _ _ (by unfold wR'; omega)
    obtain ⟨k, k1, k2⟩ := hans
    refine rd_none 1 (Nat.le_refl _) (w := k) (fun f => ?_) (hR_ag s2 (ag_m k2 (fun c i hc => by unfold wH at hc; unfold wR'; omega))) ?_ (ag_t p3 (ag_t (ag_m s4 (fun c i hc => by unfold wB at hc; omega)) (ag_m k2 (fun c i hc => (nB c i hc).2.1))))
    · rw [p1 f, s1, Option.bind_some, k1, Option.bind_some]
    · rw [(k2 64 96 (by unfold wR'; omega)).1]; exact s3
