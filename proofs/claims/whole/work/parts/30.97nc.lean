set_option maxRecDepth 100000
theorem adG_pre {N : Nat} {Y : List Ty} {g : pm_s} {bo : Bool} {u v : pm_J} {turn k m m' : Nat} {q : AdX} {z : Option (Option Va × Hp)} (hK : ∀ f, K_Adapter_adapt_21 N g (f + k) (ib bo) (ie (turn : Nat)) u = K_Adapter_adapt_21 N g f (ib bo) (ie ((turn + k : Nat) : Int)) v) (ha : ag qA u v) (h : adG N Y g bo v (turn + k) m q z) (hm : k + m ≤ m') : adG N Y g bo u turn m' q z := by
  cases z with
  | none => exact trivial
  | some z =>
    obtain ⟨x, h'⟩ := z
    cases x with
    | some y =>
      obtain ⟨w, k', k1, k2, k3, k4⟩ := h
      refine ⟨w, k' + k, by omega, fun f => ?_, k3, ag_t ha k4⟩
      rw [← Nat.add_assoc, hK, k2, show turn + k + k' = turn + (k' + k) by omega]
    | none =>
      obtain ⟨w, k', y, k1, k2, k3, k4, k5⟩ := h
      refine ⟨w, k' + k, y, by omega, fun f => ?_, k3, k4, ag_t ha k5⟩
      rw [show f + (k' + k) + 1 = (f + k' + 1) + k by omega, hK, k2]
theorem adG_b {N : Nat} {Y : List Ty} {g : pm_s} {bo : Bool} {u : pm_J} {turn m m1 m2 : Nat} {q q' : AdX} {z : Option (Option Va × Hp)} {f : Va → Hp → Option (Option Va × Hp)} (h : adG N Y g bo u turn m1 q z) (hf : ∀ (y : Va) (h' : Hp) (v : pm_J) (k : Nat), k ≤ m1 → ag qA u v → adR Y v h' (q.1, q.2 ++ [y.2]) → adG N Y g bo v (turn + k) m2 q' (f y h')) (hm : m1 + m2 ≤ m) : adG N Y g bo u turn m q' (oB z f) := by
  cases z with
  | none => exact trivial
  | some z =>
    obtain ⟨x, h'⟩ := z
    cases x with
    | some y =>
      obtain ⟨w, k, k1, k2, k3, k4⟩ := h
      exact adG_pre k2 k4 (hf y h' w k k1 k4 k3) (by omega)
    | none =>
      obtain ⟨w, k', y, k1, k2, k3, k4, k5⟩ := h
      exact ⟨w, k', y, by omega, k2, k3, k4, k5⟩
theorem qA_S {u v : pm_J} (h : ag qA u v) : ag qS u v := ag_m h (fun c i hc => by unfold qS at hc; unfold qA; omega)
theorem nA (c i : Nat) : qA c i → ¬ qTs c i ∧ ¬ qRs c i := fun h => by unfold qA at h; unfold qTs qRs; omega
theorem hAt_s {H : List It} {v : Va} {it : It} (h : hAt H v = some it) (hl : H.length ≤ 4000) : ∃ i : Nat, v.2 = je (i : Nat) ∧ i < H.length ∧ H[i]? = some it := by
  unfold hAt at h
  by_cases e : 0 ≤ v.2.toInt
  · rw [if_pos e] at h
    refine ⟨v.2.toInt.toNat, ?_, (List.getElem?_eq_some_iff.mp h).1, h⟩
    rw [show ((v.2.toInt.toNat : Nat) : Int) = v.2.toInt by omega]; exact (je_of v.2).symm
  · rw [if_neg e] at h; cases h
theorem ad_mkK {Y : List Ty} {u v : pm_J} {hp : Hp} {ts : List (Int32 × Int32 × Int64)} {rs : List Int64} (N : Nat) (g : pm_s) (bo : Bool) (turn m tag : Nat) (it : It) (w2 : Int64) (site : Int32) (hm : 1 ≤ m) (ht : turn < 900000) (hrl : rs.length < 1000)
    (hK : ∀ f, K_Adapter_adapt_21 N g (f + 1) (ib bo) (ie (turn : Nat)) u = ((F_Heap_make (ie (it.1 : Nat)) it.2.1.2 w2 site g v).bind fun q => (F_Adapter_addResult q.1 g q.2).bind fun z => some z).bind fun q => K_Adapter_adapt_21 N g f (ib bo) (ie ((turn + 1 : Nat) : Int)) q) (ha : ag qA u v) (hr : adR Y v hp (ts, rs))
    (h6 : it.1 < 6) (h2 : it.1 ≤ 1 → w2 = it.2.2.1.2) (h4 : 4 ≤ it.1 → (∃ k : Nat, w2 = je (k : Nat) ∧ k < 65536 ∧ Y[k]? = some it.2.2.2.1) ∧ site = ie it.2.2.2.2) : adG N Y g bo u turn m (ts, rs) (some (mkI hp tag it)) := by
  obtain ⟨h1, ho, hts, hrs⟩ := hr
  unfold mkI
  by_cases e : hp.1.length < 4000
  · rw [if_pos e]
    have mk := hp_mk g it.2.1.2 w2 site h1.1 e h6
    have hA : ∀ P : Nat → Nat → Prop, (∀ c i, P c i → ¬ ((46 ≤ c ∧ c ≤ 50) ∨ (c = 45 ∧ i = 5))) → ag P v (mkC v hp.1.length it.1 it.2.1.2 w2 site) := fun P hP => mkC_ag P v _ _ _ _ _ hP
    obtain ⟨w, w1, w3, w4⟩ := ad_res g (rsC_ag hrs (hA _ (fun c i hh => by unfold qRs at hh; omega))) hrl (je (hp.1.length : Nat))
    have hT : ((F_Heap_make (ie (it.1 : Nat)) it.2.1.2 w2 site g v).bind fun q => (F_Adapter_addResult q.1 g q.2).bind fun z => some z) = some w := by
      rw [mk, Option.bind_some]; show (F_Adapter_addResult (je (hp.1.length : Nat)) g _).bind _ = _; rw [w1]; rfl
    refine ad_one' N g bo turn m hm (fun f => by rw [hK f, hT]; rfl) (tag, je (hp.1.length : Nat)) ⟨hC_ag (mkC_h h1 e h6 rfl h2 h4) (w4 _ (fun c i h1 h2 => by unfold qH at h1; unfold qRs at h2; omega)), ?_, ?_, w3⟩ ?_
    · rw [(w4 (fun c i => c = 45 ∧ i = 9) (fun c i h1 h2 => by unfold qRs at h2; omega) 45 9 ⟨rfl, rfl⟩).1, (hA (fun c i => c = 45 ∧ i = 9) (fun c i h1 => by omega) 45 9 ⟨rfl, rfl⟩).1]; exact ho
    · exact tsC_ag hts (ag_t (hA _ (fun c i hh => by unfold qTs at hh; omega)) (w4 _ (fun c i h1 h2 => by unfold qTs at h1; unfold qRs at h2; omega)))
    · exact ag_t ha (ag_t (hA _ (fun c i hh => by unfold qA at hh; omega)) (w4 _ (fun c i h1 => (nA c i h1).2)))
  · rw [if_neg e]
    have hl : hp.1.length = 4000 := by have := h1.2.1; omega
    have h5 := h1.1
    rw [hl] at h5
    have mk := hp_full g (ie (it.1 : Nat)) it.2.1.2 w2 site h5
    have hA : ∀ P : Nat → Nat → Prop, ¬ P 45 9 → ag P v (wi v 45 9 1) := fun P hP => ag_wi (ag_r P v) _ _ _ hP
    obtain ⟨w, w1, w3, w4⟩ := ad_res g (rsC_ag hrs (hA _ (by unfold qRs; omega))) hrl (-1)
    have hT : ((F_Heap_make (ie (it.1 : Nat)) it.2.1.2 w2 site g v).bind fun q => (F_Adapter_addResult q.1 g q.2).bind fun z => some z) = some w := by
      rw [mk, Option.bind_some]; show (F_Adapter_addResult (-1) g _).bind _ = _; rw [w1]; rfl
    refine ad_none' N g bo turn m hm ht (fun f => by rw [hK f, hT]; rfl) (-1) (hC_ag (hC_ag h1 (hA _ (by unfold qH; omega))) (w4 _ (fun c i h1 h2 => by unfold qH at h1; unfold qRs at h2; omega))) ?_ (tsC_ag hts (ag_t (hA _ (by unfold qTs; omega)) (w4 _ (fun c i h1 h2 => by unfold qTs at h1; unfold qRs at h2; omega)))) w3 (ag_t ha (ag_t (hA _ (by unfold qA; omega)) (w4 _ (fun c i h1 => (nA c i h1).2))))
    · rw [(w4 (fun c i => c = 45 ∧ i = 9) (fun c i h1 h2 => by unfold qRs at h2; omega) 45 9 ⟨rfl, rfl⟩).1, wi_at]; rfl
theorem ad_mk {Y : List Ty} {u v : pm_J} {hp : Hp} {ts : List (Int32 × Int32 × Int64)} {rs : List Int64} (N : Nat) (g : pm_s) (bo : Bool) (turn m tag : Nat) {x : Int32 × Int32 × Int64} (it : It) (w2 : Int64) (site : Int32) (hm : 1 ≤ m) (ht : turn < 900000) (hrl : rs.length < 1000)
    (hK : ∀ f, K_Adapter_adapt_21 N g (f + 1) (ib bo) (ie (turn : Nat)) u = (F_Adapter_doTask N x.1 x.2.1 x.2.2 (ib bo) g v).bind fun q => K_Adapter_adapt_21 N g f (ib bo) (ie ((turn + 1 : Nat) : Int)) q) (ha : ag qA u v) (hr : adR Y v hp (ts, rs))
    (hT : F_Adapter_doTask N x.1 x.2.1 x.2.2 (ib bo) g v = (F_Heap_make (ie (it.1 : Nat)) it.2.1.2 w2 site g v).bind fun q => (F_Adapter_addResult q.1 g q.2).bind fun z => some z)
    (h6 : it.1 < 6) (h2 : it.1 ≤ 1 → w2 = it.2.2.1.2) (h4 : 4 ≤ it.1 → (∃ k : Nat, w2 = je (k : Nat) ∧ k < 65536 ∧ Y[k]? = some it.2.2.2.1) ∧ site = ie it.2.2.2.2) : adG N Y g bo u turn m (ts, rs) (some (mkI hp tag it)) :=
  ad_mkK N g bo turn m tag it w2 site hm ht hrl (fun f => by rw [hK f, hT]) ha hr h6 h2 h4
theorem ad_same {Y : List Ty} {u v : pm_J} {hp : Hp} {ts : List (Int32 × Int32 × Int64)} {rs : List Int64} (N : Nat) (g : pm_s) (bo : Bool) (turn m : Nat) {x : Int32 × Int32 × Int64} (y : Va) (hm : 1 ≤ m) (hrl : rs.length < 1000)
    (hK : ∀ f, K_Adapter_adapt_21 N g (f + 1) (ib bo) (ie (turn : Nat)) u = (F_Adapter_doTask N x.1 x.2.1 x.2.2 (ib bo) g v).bind fun q => K_Adapter_adapt_21 N g f (ib bo) (ie ((turn + 1 : Nat) : Int)) q) (ha : ag qA u v) (hr : adR Y v hp (ts, rs))
    (hT : F_Adapter_doTask N x.1 x.2.1 x.2.2 (ib bo) g v = (F_Adapter_addResult y.2 g v).bind fun z => some z) : adG N Y g bo u turn m (ts, rs) (some (some y, hp)) := by
  obtain ⟨h1, ho, hts, hrs⟩ := hr
  obtain ⟨w, w1, w3, w4⟩ := ad_res g hrs hrl y.2
  refine ad_one' N g bo turn m hm (w := w) (fun f => by rw [hK f, hT, w1]; rfl) y ⟨hC_ag h1 (w4 _ (fun c i h1 h2 => by unfold qH at h1; unfold qRs at h2; omega)), ?_, tsC_ag hts (w4 _ (fun c i h1 h2 => by unfold qTs at h1; unfold qRs at h2; omega)), w3⟩ (ag_t ha (w4 _ (fun c i h1 => (nA c i h1).2)))
  rw [(w4 (fun c i => c = 45 ∧ i = 9) (fun c i h1 h2 => by unfold qRs at h2; omega) 45 9 ⟨rfl, rfl⟩).1]; exact ho
theorem ik_2 (k : Nat) (hk : k < 65536) : ¬ (ie (k : Nat) = (-2 : Int32)) := fun h => by
  have := ie_inj (b := -2) h (by omega) (by omega) (by omega) (by omega); omega
theorem ik_1 (k : Nat) (hk : k < 65536) : ¬ (ie (k : Nat) = (-1 : Int32)) := fun h => by
  have := ie_inj (b := -1) h (by omega) (by omega) (by omega) (by omega); omega
theorem in_n (a b : Nat) (ha : a < 65536) (hb : b < 65536) (h : a ≠ b) : ¬ (ie (a : Nat) = ie (b : Nat)) := fun hh => h (ien_inj hh (by omega) (by omega))
theorem ad_pair {Y : List Ty} {u v : pm_J} {hp : Hp} {ts : List (Int32 × Int32 × Int64)} {rs : List Int64} (N : Nat) (g : pm_s) (bo : Bool) (turn m ma mb l r : Nat) {x : Int32 × Int32 × Int64} (site : Int32) (it : It) (fa fb : Va → Hp → Option (Option Va × Hp)) (hm : ma + mb + 2 ≤ m) (ht : turn + m < 900000) (hts3 : ts.length + 3 ≤ 1000) (hrs2 : rs.length + 2 ≤ 1000)
    (hK : ∀ f, K_Adapter_adapt_21 N g (f + 1) (ib bo) (ie (turn : Nat)) u = (F_Adapter_doTask N x.1 x.2.1 x.2.2 (ib bo) g v).bind fun q => K_Adapter_adapt_21 N g f (ib bo) (ie ((turn + 1 : Nat) : Int)) q) (ha : ag qA u v) (hr : adR Y v hp (ts, rs))
    (hT : F_Adapter_doTask N x.1 x.2.1 x.2.2 (ib bo) g v = (F_Adapter_addTask (-2) (-1) 0 g v).bind fun q17 => (F_Types_right x.1 g q17).bind fun q18 => (F_Heap_second x.2.2 g q17).bind fun q19 => (F_Adapter_addTask q18 site q19 g q17).bind fun q20 => (F_Types_left x.1 g q20).bind fun q21 => (F_Heap_first x.2.2 g q20).bind fun q22 => (F_Adapter_addTask q21 site q22 g q20).bind fun q23 => some q23)
    (hrd : ∀ z, ag qA v z → hC Y z hp → F_Types_right x.1 g z = some (ie (r : Nat)) ∧ F_Types_left x.1 g z = some (ie (l : Nat)) ∧ F_Heap_first x.2.2 g z = some it.2.1.2 ∧ F_Heap_second x.2.2 g z = some it.2.2.1.2)
    (hA : ∀ (z : pm_J) (h' : Hp) (tn : Nat) (ts' : List (Int32 × Int32 × Int64)) (rs' : List Int64), ag qA v z → tn ≤ turn + 1 → ts'.length ≤ ts.length + 2 → rs'.length ≤ rs.length → adR Y z h' (ts' ++ [(ie (l : Nat), site, it.2.1.2)], rs') → adG N Y g bo z tn ma (ts', rs') (fa it.2.1 h'))
    (hB : ∀ (z : pm_J) (h' : Hp) (tn : Nat) (ts' : List (Int32 × Int32 × Int64)) (rs' : List Int64), ag qA v z → tn ≤ turn + 1 + ma → ts'.length ≤ ts.length + 1 → rs'.length ≤ rs.length + 1 → adR Y z h' (ts' ++ [(ie (r : Nat), site, it.2.2.1.2)], rs') → adG N Y g bo z tn mb (ts', rs') (fb it.2.2.1 h')) :
    adG N Y g bo u turn m (ts, rs) (oB (fa it.2.1 hp) fun x h1 => oB (fb it.2.2.1 h1) fun y h2 => some (mkI h2 2 (0, x, y, .num 0, -1))) := by
  obtain ⟨h1, ho, hts', hrs'⟩ := hr
  have hts : tsC v ts := hts'
  have hrs : rsC v rs := hrs'
  have noH : ∀ c i, qH c i → ¬ qTs c i := fun c i h1 h2 => by unfold qH at h1; unfold qTs at h2; omega
  have noR : ∀ c i, qRs c i → ¬ qTs c i := fun c i h1 h2 => by unfold qRs at h1; unfold qTs at h2; omega
  have noA : ∀ c i, qA c i → ¬ qTs c i := fun c i h1 => (nA c i h1).1
  have noO : ∀ c i, (c = 45 ∧ i = 9) → ¬ qTs c i := fun c i h1 h2 => by unfold qTs at h2; omega
  obtain ⟨w1, a1, a2, a3⟩ := ad_task g hts (by omega) (-2, -1, 0)
  have b1 := hC_ag h1 (a3 _ noH)
  obtain ⟨r1, _, _, r4⟩ := hrd w1 (a3 _ noA) b1
  obtain ⟨w2, a1', a2', a3'⟩ := ad_task g a2 (by rw [List.length_append]; show ts.length + 1 < 1000; omega) (ie (r : Nat), site, it.2.2.1.2)
  have b2 := hC_ag b1 (a3' _ noH)
  obtain ⟨_, r2, r3, _⟩ := hrd w2 (ag_t (a3 _ noA) (a3' _ noA)) b2
  obtain ⟨w3, a1'', a2'', a3''⟩ := ad_task g a2' (by rw [List.length_append, List.length_append]; show ts.length + 1 + 1 < 1000; omega) (ie (l : Nat), site, it.2.1.2)
  have gA : ag qA v w3 := ag_t (a3 _ noA) (ag_t (a3' _ noA) (a3'' _ noA))
  have b3 : adR Y w3 hp (((ts ++ [((-2 : Int32), (-1 : Int32), (0 : Int64))]) ++ [(ie (r : Nat), site, it.2.2.1.2)]) ++ [(ie (l : Nat), site, it.2.1.2)], rs) := by
    refine ⟨hC_ag b2 (a3'' _ noH), ?_, a2'', rsC_ag hrs (ag_t (a3 _ noR) (ag_t (a3' _ noR) (a3'' _ noR)))⟩
    rw [(ag_t (a3 _ noO) (ag_t (a3' _ noO) (a3'' _ noO)) 45 9 ⟨rfl, rfl⟩).1]; exact ho
  have hT' : F_Adapter_doTask N x.1 x.2.1 x.2.2 (ib bo) g v = some w3 := by
    rw [hT, a1, Option.bind_some, r1, Option.bind_some, r4, Option.bind_some, a1', Option.bind_some, r2, Option.bind_some, r3, Option.bind_some, a1'']; rfl
  have hK' : ∀ f, K_Adapter_adapt_21 N g (f + 1) (ib bo) (ie (turn : Nat)) u = K_Adapter_adapt_21 N g f (ib bo) (ie ((turn + 1 : Nat) : Int)) w3 := fun f => by rw [hK f, hT', Option.bind_some]
  refine adG_pre hK' (ag_t ha gA) (m := ma + (mb + 1)) ?_ (by omega)
  refine adG_b (hA w3 hp (turn + 1) _ rs gA (Nat.le_refl _) (by rw [List.length_append, List.length_append]; show ts.length + 1 + 1 ≤ _; omega) (Nat.le_refl _) b3) (fun xx h' z k hk hz hq => ?_) (Nat.le_refl _)
  refine adG_b (hB z h' (turn + 1 + k) _ _ (ag_t gA hz) (by omega) (by rw [List.length_append]; show ts.length + 1 ≤ _; omega) (by rw [List.length_append]; exact Nat.le_refl _) hq) (fun yy h'' z' k' hk' hz' hq' => ?_) (Nat.le_refl _)
  obtain ⟨p, p1, p2, p3, _⟩ := ad_turn N g bo (turn + 1 + k + k') hq' (by omega)
  obtain ⟨o1, o2, o3, o4⟩ := p2
  obtain ⟨q1, q2, q3, q4⟩ := ad_pop g o4
  obtain ⟨q1', q2', q3', q4'⟩ := ad_pop g q3
  have nH : ∀ c i, qH c i → ¬ qRs c i := fun c i h1 h2 => by unfold qH at h1; unfold qRs at h2; omega
  have nT : ∀ c i, qTs c i → ¬ qRs c i := fun c i h1 h2 => by unfold qTs at h1; unfold qRs at h2; omega
  have nO : ∀ c i, (c = 45 ∧ i = 9) → ¬ qRs c i := fun c i h1 h2 => by unfold qRs at h2; omega
  have nA' : ∀ c i, qA c i → ¬ qRs c i := fun c i h1 => (nA c i h1).2
  have hq1 : adR Y q1' h'' (ts, rs) := by
    refine ⟨hC_ag (hC_ag o1 (q4 _ nH)) (q4' _ nH), ?_, tsC_ag (tsC_ag o3 (q4 _ nT)) (q4' _ nT), q3'⟩
    rw [(q4' _ nO 45 9 ⟨rfl, rfl⟩).1, (q4 _ nO 45 9 ⟨rfl, rfl⟩).1]; exact o2
  have hlen := hq1.1.2.1
  have hKj : ∀ f, K_Adapter_adapt_21 N g (f + 1) (ib bo) (ie ((turn + 1 + k + k' : Nat) : Int)) z' = ((F_Heap_make (ie ((0 : Nat) : Int)) xx.2 yy.2 (-1) g q1').bind fun q => (F_Adapter_addResult q.1 g q.2).bind fun z => some z).bind fun q => K_Adapter_adapt_21 N g f (ib bo) (ie ((turn + 1 + k + k' + 1 : Nat) : Int)) q := fun f => by
    rw [p1 f]
    have : F_Adapter_doTask N (-2) (-1) 0 (ib bo) g p = (F_Heap_make (ie ((0 : Nat) : Int)) xx.2 yy.2 (-1) g q1').bind fun q => (F_Adapter_addResult q.1 g q.2).bind fun z => some z := by
      unfold F_Adapter_doTask
      rw [if_pos rfl, q2, Option.bind_some]
      show (F_Adapter_popResult g q1).bind _ = _
      rw [q2', Option.bind_some]; rfl
    show (F_Adapter_doTask N (-2) (-1) 0 (ib bo) g p).bind _ = _
    rw [this]
  have agz : ag qA z' q1' := ag_t p3 (ag_t (q4 _ nA') (q4' _ nA'))
  exact ad_mkK N g bo (turn + 1 + k + k') 1 2 (0, xx, yy, .num 0, -1) yy.2 (-1) (Nat.le_refl _) (by omega) (by omega) hKj agz hq1 (by show 0 < 6; omega) (fun _ => rfl) (fun hh => by (have : 4 ≤ 0 := hh); omega)
