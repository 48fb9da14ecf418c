set_option maxRecDepth 100000
theorem tyM_lt {s : Ty} (h : tyG s) : tyM s < 16 := by
  induction s with
  | num k =>
    have hk : k < 6 := h
    show (if k < 2 then 0 else 2 ^ (k - 2)) < 16
    by_cases e : k < 2
    · rw [if_pos e]; omega
    · rw [if_neg e]
      rcases (show k = 2 ∨ k = 3 ∨ k = 4 ∨ k = 5 by omega) with rfl | rfl | rfl | rfl <;> decide
  | var k => exact h.elim
  | add a b iha ihb => exact Nat.or_lt_two_pow (n := 4) (iha h.1) (ihb h.2)
  | mul a b iha ihb => exact Nat.or_lt_two_pow (n := 4) (iha h.1) (ihb h.2)
theorem Y_lt {g : pm_s} {u : pm_J} {Y : List Ty} (h : tyC g u Y) {k : Nat} {s : Ty} (hk : Y[k]? = some s) : k < 65536 := by
  have := (List.getElem?_eq_some_iff.mp hk).1
  have := h.2.1.2.1; omega
theorem dt_n (N k : Nat) (hk : k < 65536) (w : Int64) (bo : Bool) (g : pm_s) (v : pm_J) : F_Adapter_doTask N (ie (k : Nat)) (-1) w (ib bo) g v = K_Adapter_doTask_54 N g (ie (k : Nat)) (-1) w (ib bo) v := by
  unfold F_Adapter_doTask
  rw [if_neg (ik_2 k hk), if_pos rfl]
theorem adR_t {Y : List Ty} {v : pm_J} {hp : Hp} {ts : List (Int32 × Int32 × Int64)} {rs : List Int64} (h : adR Y v hp (ts, rs)) : hC Y v hp ∧ tsC v ts ∧ rsC v rs := ⟨h.1, h.2.2.1, h.2.2.2⟩
theorem c_bx01 {Y : List Ty} {u v : pm_J} {hp : Hp} {ts : List (Int32 × Int32 × Int64)} {rs : List Int64} (N : Nat) (g : pm_s) (bo : Bool) (turn m j k : Nat) (site : Int32) (y : Va) (hm : 1 ≤ m) (ht : turn < 900000) (hrl : rs.length < 1000) (hj : j < 2)
    (hK : ∀ f, K_Adapter_adapt_21 N g (f + 1) (ib bo) (ie (turn : Nat)) u = (F_Adapter_doTask N (ie (k : Nat)) site y.2 (ib bo) g v).bind fun q => K_Adapter_adapt_21 N g f (ib bo) (ie ((turn + 1 : Nat) : Int)) q) (ha : ag qA u v) (hr : adR Y v hp (ts, rs))
    (hD : F_Adapter_doTask N (ie (k : Nat)) site y.2 (ib bo) g v = K_Adapter_doTask_54 N g (ie (k : Nat)) site y.2 (ib bo) v) (hk : F_Types_kind (ie (k : Nat)) g v = some (ie (j : Nat))) : adG N Y g bo u turn m (ts, rs) (bxA bo (.num j) y hp) := by
  have hD' : F_Adapter_doTask N (ie (k : Nat)) site y.2 (ib bo) g v = if ib bo = 0 then (F_Heap_openBox y.2 g v).bind fun q6 => (F_Adapter_addResult q6.1 g q6.2).bind fun q7 => some q7 else (F_Heap_make (ie ((2 + j : Nat) : Int)) y.2 0 (-1) g v).bind fun q8 => (F_Adapter_addResult q8.1 g q8.2).bind fun q9 => some q9 := by
    rw [hD]
    unfold K_Adapter_doTask_54
    rw [hk, Option.bind_some]
    rcases (show j = 0 ∨ j = 1 by omega) with rfl | rfl
    · rw [if_pos (by decide)]; rfl
    · rw [if_neg (by decide), if_pos (by decide)]; rfl
  unfold bxA
  rw [if_neg (by omega)]
  cases bo with
  | true =>
    rw [if_pos rfl]
    refine ad_mk (x := (ie (k : Nat), site, y.2)) N g true turn m 4 (2 + j, y, v0, .num 0, -1) 0 (-1) hm ht hrl hK ha hr ?_ (by show 2 + j < 6; omega) (fun hh => by (have : 2 + j ≤ 1 := hh); omega) (fun hh => by (have : 4 ≤ 2 + j := hh); omega)
    rw [hD', if_neg (by decide)]
  | false =>
    rw [if_neg (by decide)]
    cases hat : hAt hp.1 y with
    | none => exact trivial
    | some it =>
      show adG N Y g false u turn m (ts, rs) (if it.1 = 2 ∨ it.1 = 3 then some (some it.2.1, (hp.1, hp.2 + 1)) else none)
      by_cases e : it.1 = 2 ∨ it.1 = 3
      · rw [if_pos e]
        obtain ⟨h1, ho, hts, hrs⟩ := hr
        obtain ⟨i, i1, i2, i3⟩ := hAt_s hat h1.2.1
        obtain ⟨_, r2, _, _, r5⟩ := hp_rd g h1.1 h1.2.1 i2
        have hA : ∀ P : Nat → Nat → Prop, ¬ P 45 6 → ag P v (wi v 45 6 (v.1 45 6 + 1)) := fun P hP => ag_wi (ag_r P v) _ _ _ hP
        have hh' : hC Y (wi v 45 6 (v.1 45 6 + 1)) (hp.1, hp.2 + 1) := by
          have := hC_ag (v := wi v 45 6 (v.1 45 6 + 1)) (hp := hp) (Y := Y) (u := v) h1
          obtain ⟨a1, a2, a3, a4, a5⟩ := h1
          refine ⟨(wi_ne _ _ _ _ _ _ (by omega)).trans a1, a2, fun i it hi => ?_, fun k hk => (wi_ne _ _ _ _ _ _ (by omega)).trans (a4 k hk), ?_⟩
          · obtain ⟨b0, b1, b2, b3, b4⟩ := a3 i it hi
            refine ⟨b0, (wi_ne _ _ _ _ _ _ (by omega)).trans b1, b2, b3, fun hh => ?_⟩
            obtain ⟨k1, k3⟩ := b4 hh
            exact ⟨k1, (wi_ne _ _ _ _ _ _ (by omega)).trans k3⟩
          · rw [wi_at, a5]; exact iadd1 hp.2
        obtain ⟨w, w1, w3, w4⟩ := ad_res g (rsC_ag hrs (hA _ (by unfold qRs; omega))) hrl it.2.1.2
        have hf : v.2 47 i = it.2.1.2 := (h1.2.2.1 i it i3).2.2.1
        refine ad_one' N g false turn m hm (w := w) (fun f => ?_) it.2.1 ⟨hC_ag hh' (w4 _ (fun c i h1 h2 => by unfold qH at h1; unfold qRs at h2; omega)), ?_, tsC_ag hts (ag_t (hA _ (by unfold qTs; omega)) (w4 _ (fun c i h1 h2 => by unfold qTs at h1; unfold qRs at h2; omega))), w3⟩ (ag_t ha (ag_t (hA _ (by unfold qA; omega)) (w4 _ (fun c i h1 => (nA c i h1).2))))
        · rw [hK f, hD', if_pos (by decide), i1, r5, Option.bind_some]
          show ((F_Adapter_addResult (v.2 47 i) g _).bind _).bind _ = _
          rw [hf, w1]; rfl
        · rw [(w4 (fun c i => c = 45 ∧ i = 9) (fun c i h1 h2 => by unfold qRs at h2; omega) 45 9 ⟨rfl, rfl⟩).1, wi_ne _ _ _ _ _ _ (by omega)]; exact ho
      · rw [if_neg e]; exact trivial
theorem c_bx {T : List Tok} {n : Nat} {D : List Df} {t : Tr} {c : CS} {sT : Nat → Ta} {Y : List Ty} (N : Nat) (g : pm_s) (bo : Bool) (s : Ty) : ∀ (k : Nat) (y : Va) (hp : Hp) (u : pm_J) (ts : List (Int32 × Int32 × Int64)) (rs : List Int64) (turn : Nat), Y[k]? = some s → cF T n D t c sT g u Y → adR Y u hp (ts ++ [(ie (k : Nat), -1, y.2)], rs) → ts.length + 2 * tyL s ≤ 1000 → rs.length + tyL s ≤ 1000 → turn + 3 * tyL s ≤ 800000 → adG N Y g bo u turn (3 * tyL s - 2) (ts, rs) (bxA bo s y hp) := by
  induction s with
  | num j =>
    intro k y hp u ts rs turn hk hF hr h1 h2 h3
    have hl : tyL (.num j) = 1 := rfl
    rw [hl] at h1 h2 h3 ⊢
    obtain ⟨v, v1, v2, v3, v4⟩ := ad_turn N g bo turn hr (by omega)
    have hF' := cF_ag hF v4
    have hkl := Y_lt hF.2.1 hk
    obtain ⟨c1, _, _, _, _⟩ := c_row hF'.2.1 k _ hk
    have hj : k = j ∧ j < 6 := (hF'.2.1.2.2.2.1 k _ hk).2.2.2
    have hD := dt_n N k hkl y.2 bo g v
    by_cases e : j < 2
    · exact c_bx01 N g bo turn _ j k (-1) y (by omega) (by omega) (by omega) e v1 v3 v2 hD (by rw [c1]; show some (ie ((if j < 2 then j else 2 : Nat) : Int)) = _; rw [if_pos e])
    · unfold bxA
      rw [if_pos (by omega)]
      refine ad_same (x := (ie (k : Nat), -1, y.2)) N g bo turn _ y (by omega) (by omega) v1 v3 v2 ?_
      show F_Adapter_doTask N (ie (k : Nat)) (-1) y.2 (ib bo) g v = _
      rw [hD]
      unfold K_Adapter_doTask_54
      have hk2 : F_Types_kind (ie (k : Nat)) g v = some (ie ((2 : Nat) : Int)) := by rw [c1]; show some (ie ((if j < 2 then j else 2 : Nat) : Int)) = _; rw [if_neg e]
      rw [hk2, Option.bind_some, if_neg (by decide), if_neg (by decide), if_neg (by decide), if_neg (by decide)]
      rfl
  | var j =>
    intro k y hp u ts rs turn hk hF
    exact ((hF.2.1.2.2.2.1 k _ hk).2.2.2).elim
  | add a b iha ihb =>
    intro k y hp u ts rs turn hk hF hr h1 h2 h3
    have hl : tyL (.add a b) = tyL a + tyL b := rfl
    have la := tyL_pos a
    have lb := tyL_pos b
    rw [hl] at h1 h2 h3 ⊢
    obtain ⟨v, v1, v2, v3, v4⟩ := ad_turn N g bo turn hr (by omega)
    have hF' := cF_ag hF v4
    have hkl := Y_lt hF.2.1 hk
    obtain ⟨c1, _, _, _, _⟩ := c_row hF'.2.1 k _ hk
    have hD := dt_n N k hkl y.2 bo g v
    obtain ⟨l, r, l1, r1, _, _, _, _⟩ := c_parts hF'.2.1 false a b k hk
    unfold bxA
    cases hat : hAt hp.1 y with
    | none => exact trivial
    | some it =>
      show adG N Y g bo u turn _ (ts, rs) (if it.1 = 0 then _ else none)
      by_cases e : it.1 = 0
      · rw [if_pos e]
        obtain ⟨i, i1, i2, i3⟩ := hAt_s hat v2.1.2.1
        refine ad_pair (x := (ie (k : Nat), -1, y.2)) N g bo turn _ (3 * tyL a - 2) (3 * tyL b - 2) l r (-1) it (fun z h => bxA bo a z h) (fun z h => bxA bo b z h) (by omega) (by omega) (by omega) (by omega) v1 v3 v2 ?_ (fun z hz hh => ?_) (fun z h' tn ts' rs' hz q1 q2 q3 q4 => ?_) (fun z h' tn ts' rs' hz q1 q2 q3 q4 => ?_)
        · show F_Adapter_doTask N (ie (k : Nat)) (-1) y.2 (ib bo) g v = _
          rw [hD]
          unfold K_Adapter_doTask_54
          have hk3 : F_Types_kind (ie (k : Nat)) g v = some (ie ((3 : Nat) : Int)) := by rw [c1]; rfl
          rw [hk3, Option.bind_some, if_neg (by decide), if_neg (by decide), if_pos (by decide)]
        · have hFz := cF_ag hF' (qA_S hz)
          obtain ⟨l', r', l1', r1', l2', r2', _, _⟩ := c_parts hFz.2.1 false a b k hk
          have el : l' = l := hFz.2.1.2.2.2.2.1 l' l a l1' l1
          have er : r' = r := hFz.2.1.2.2.2.2.1 r' r b r1' r1
          subst el; subst er
          obtain ⟨_, g2, g3, _, _⟩ := hp_rd g hh.1 hh.2.1 i2
          obtain ⟨_, _, t2, t3, _⟩ := hh.2.2.1 i it i3
          refine ⟨r2', l2', ?_, ?_⟩
          · show F_Heap_first y.2 g z = _
            rw [i1, g2, t2]
          · show F_Heap_second y.2 g z = _
            rw [i1, g3, t3 (by omega)]
        · exact iha l it.2.1 h' z ts' rs' tn l1 (cF_ag hF' (qA_S hz)) q4 (by omega) (by omega) (by omega)
        · exact ihb r it.2.2.1 h' z ts' rs' tn r1 (cF_ag hF' (qA_S hz)) q4 (by omega) (by omega) (by omega)
      · rw [if_neg e]; exact trivial
  | mul a b _ _ =>
    intro k y hp u ts rs turn hk hF hr h1 h2 h3
    have la := tyL_pos (.mul a b)
    obtain ⟨v, v1, v2, v3, v4⟩ := ad_turn N g bo turn hr (by omega)
    have hF' := cF_ag hF v4
    have hkl := Y_lt hF.2.1 hk
    obtain ⟨c1, _, _, _, _⟩ := c_row hF'.2.1 k _ hk
    have hD := dt_n N k hkl y.2 bo g v
    unfold bxA
    have hk4 : F_Types_kind (ie (k : Nat)) g v = some (ie ((4 : Nat) : Int)) := by rw [c1]; rfl
    refine ad_mk (x := (ie (k : Nat), -1, y.2)) N g bo turn _ 3 (if bo = true then 4 else 5, y, v0, .mul a b, -1) (je (k : Nat)) (-1) (by omega) (by omega) (by omega) v1 v3 v2 ?_ (by show (if bo = true then 4 else 5) < 6; cases bo <;> decide) (fun hh => by cases bo <;> cases hh <;> contradiction) (fun _ => ⟨⟨k, rfl, hkl, hk⟩, rfl⟩)
    show F_Adapter_doTask N (ie (k : Nat)) (-1) y.2 (ib bo) g v = _
    rw [hD]
    unfold K_Adapter_doTask_54 K_Adapter_doTask_221
    rw [hk4, Option.bind_some, if_neg (by decide), if_neg (by decide), if_neg (by decide), if_pos (by decide), ie_je _ (by omega) (by omega)]
    cases bo with
    | true => rw [if_neg (by decide)]; rfl
    | false => rw [if_pos (by decide)]; rfl
