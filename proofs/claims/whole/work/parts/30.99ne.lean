set_option maxRecDepth 100000
theorem dt_e (N k e : Nat) (hk : k < 65536) (he : e < 65536) (w : Int64) (bo : Bool) (g : pm_s) (v : pm_J) (s : Ty) (hs : tyM s < 16) (hl : F_Types_letters (ie (k : Nat)) g v = some (ie (tyM s : Nat))) : F_Adapter_doTask N (ie (k : Nat)) (ie (e : Nat)) w (ib bo) g v = if tyM s = 0 then (F_Adapter_addResult w g v).bind fun q35 => some q35 else K_Adapter_doTask_54 N g (ie (k : Nat)) (ie (e : Nat)) w (ib bo) v := by
  unfold F_Adapter_doTask
  rw [if_neg (ik_2 k hk), if_neg (ik_1 e he), hl, Option.bind_some]
  by_cases h0 : tyM s = 0
  · rw [if_pos h0, h0, if_pos (by decide)]
  · rw [if_neg h0, if_neg (show ¬ (ie (tyM s : Nat) = (0 : Int32)) from fun hh => h0 ((ineq (tyM s) 0 (by omega) (by omega)).mp hh))]
theorem qA_f {T : List Tok} {n : Nat} {D : List Df} {t : Tr} {c : CS} {sT : Nat → Ta} {g : pm_s} {Y : List Ty} {u v : pm_J} (h : cF T n D t c sT g u Y) (ha : ag qA u v) : cF T n D t c sT g v Y := cF_ag h (qA_S ha)
theorem c_ad {T : List Tok} {n : Nat} {D : List Df} {t : Tr} {c : CS} {sT : Nat → Ta} {Y : List Ty} (N : Nat) (g : pm_s) (bo : Bool) {e : Nat} (he : e < t.1) (hfl : ∀ k r, c.2.2.1 e k = some r → tyL r ≤ 200) (s : Ty) : ∀ (k : Nat) (y : Va) (hp : Hp) (u : pm_J) (ts : List (Int32 × Int32 × Int64)) (rs : List Int64) (turn : Nat), Y[k]? = some s → cF T n D t c sT g u Y → adR Y u hp (ts ++ [(ie (k : Nat), ie (e : Nat), y.2)], rs) → ts.length + 2 * tyL s + 400 ≤ 1000 → rs.length + tyL s + 200 ≤ 1000 → turn + 603 * tyL s ≤ 800000 → adG N Y g bo u turn (603 * tyL s - 2) (ts, rs) (adA bo (c.2.2.1 e) e s y hp) := by
  induction s with
  | num j =>
    intro k y hp u ts rs turn hk hF hr h1 h2 h3
    have hl : tyL (.num j) = 1 := rfl
    rw [hl] at h1 h2 h3 ⊢
    obtain ⟨v, v1, v2, v3, v4⟩ := ad_turn N g bo turn hr (by omega)
    have hF' := cF_ag hF v4
    have hkl := Y_lt hF.2.1 hk
    obtain ⟨c1, _, c3, _, _⟩ := c_row hF'.2.1 k _ hk
    have hj : k = j ∧ j < 6 := (hF'.2.1.2.2.2.1 k _ hk).2.2.2
    have ht := hF'.2.2.1
    have hD := dt_e N k e hkl (by omega) y.2 bo g v (.num j) (tyM_lt (tyC_g hF'.2.1 k _ hk)) c3
    unfold adA
    by_cases e2 : j < 2
    · rw [if_pos e2]
      refine ad_same (x := (ie (k : Nat), ie (e : Nat), y.2)) N g bo turn _ y (by omega) (by omega) v1 v3 v2 ?_
      show F_Adapter_doTask N (ie (k : Nat)) (ie (e : Nat)) y.2 (ib bo) g v = _
      rw [hD, if_pos (show tyM (.num j) = 0 by show (if j < 2 then 0 else _) = 0; rw [if_pos e2])]
    · rw [if_neg e2]
      cases hf : c.2.2.1 e (j - 2) with
      | none => exact trivial
      | some r =>
        show adG N Y g bo u turn _ (ts, rs) (bxA bo r y hp)
        obtain ⟨h1', ho, hts', hrs'⟩ := v2
        have hts : tsC v ts := hts'
        have hrs : rsC v rs := hrs'
        have hfi := (hF'.2.2.2.2.2 e he).2.2.2.2.2.2.2.2.2 (j - 2) (by omega)
        rw [hf] at hfi
        obtain ⟨m, m1, m2⟩ := hfi
        have hml := Y_lt hF'.2.1 m2
        have hr2 := hfl _ _ hf
        obtain ⟨w, w1, w2, w3⟩ := ad_task g hts (by omega) (ie (m : Nat), -1, y.2)
        have noH : ∀ c i, qH c i → ¬ qTs c i := fun c i h1 h2 => by unfold qH at h1; unfold qTs at h2; omega
        have noR : ∀ c i, qRs c i → ¬ qTs c i := fun c i h1 h2 => by unfold qRs at h1; unfold qTs at h2; omega
        have noA : ∀ c i, qA c i → ¬ qTs c i := fun c i h1 => (nA c i h1).1
        have noO : ∀ c i, (c = 45 ∧ i = 9) → ¬ qTs c i := fun c i h1 h2 => by unfold qTs at h2; omega
        have hT : F_Adapter_doTask N (ie (k : Nat)) (ie (e : Nat)) y.2 (ib bo) g v = some w := by
          have hk2 : F_Types_kind (ie (k : Nat)) g v = some (ie ((2 : Nat) : Int)) := by rw [c1]; show some (ie ((if j < 2 then j else 2 : Nat) : Int)) = _; rw [if_neg e2]
          have hM : ¬ (tyM (.num j) = 0) := fun hh => by
            have hh' : (if j < 2 then 0 else 2 ^ (j - 2)) = 0 := hh
            rw [if_neg e2] at hh'
            have := Nat.pow_pos (n := j - 2) (show 0 < 2 by omega); omega
          rw [hD, if_neg hM]
          unfold K_Adapter_doTask_54 K_Adapter_doTask_241 F_Types_letterNumber
          rw [hk2, Option.bind_some, if_neg (by decide), if_neg (by decide), if_neg (by decide), if_neg (by decide), Option.bind_some]
          have e3 : ie (k : Nat) - 2 = ie ((j - 2 : Nat) : Int) := by
            rw [show (2 : Int32) = ie 2 from rfl, ie_sub]; congr 1; omega
          have hfit := (tr_set (g := g) ht e he).2.2.2.2.1 (j - 2) (by omega)
          rw [e3, hfit.1, Option.bind_some, m1, if_neg (ik_1 m hml)]
          show (F_Adapter_addTask (ie (m : Nat)) (-1) y.2 g v).bind _ = _
          have w1' : F_Adapter_addTask (ie (m : Nat)) (-1) y.2 g v = some w := w1
          rw [w1']; rfl
        refine adG_pre (k := 1) (fun f => by rw [v1 f]; show (F_Adapter_doTask N (ie (k : Nat)) (ie (e : Nat)) y.2 (ib bo) g v).bind _ = _; rw [hT, Option.bind_some]) (ag_t v3 (w3 _ noA)) (m := 3 * tyL r - 2) (c_bx N g bo r m y hp w ts rs (turn + 1) m2 (qA_f hF' (w3 _ noA)) ⟨hC_ag h1' (w3 _ noH), ?_, w2, rsC_ag hrs (w3 _ noR)⟩ (by omega) (by omega) (by omega)) (by omega)
        rw [(w3 _ noO 45 9 ⟨rfl, rfl⟩).1]; exact ho
  | var j =>
    intro k y hp u ts rs turn hk hF
    exact ((hF.2.1.2.2.2.1 k _ hk).2.2.2).elim
  | add a b iha ihb =>
    intro k y hp u ts rs turn hk hF hr h1 h2 h3
    have hl : tyL (.add a b) = tyL a + tyL b := rfl
    have la := tyL_pos a
    have lb := tyL_pos b
    rw [hl] at h1 h2 h3 ⊢
    obtain ⟨v, v1, v2, v3, v4⟩ := ad_turn N g bo turn hr (by omega)
    have hF' := cF_ag hF v4
    have hkl := Y_lt hF.2.1 hk
    obtain ⟨c1, _, c3, _, _⟩ := c_row hF'.2.1 k _ hk
    have ht := hF'.2.2.1
    have hD := dt_e N k e hkl (by omega) y.2 bo g v (.add a b) (tyM_lt (tyC_g hF'.2.1 k _ hk)) c3
    obtain ⟨l, r, l1, r1, _, _, _, _⟩ := c_parts hF'.2.1 false a b k hk
    unfold adA
    by_cases h0 : tyM (.add a b) = 0
    · rw [if_pos h0]
      refine ad_same (x := (ie (k : Nat), ie (e : Nat), y.2)) N g bo turn _ y (by omega) (by omega) v1 v3 v2 ?_
      show F_Adapter_doTask N (ie (k : Nat)) (ie (e : Nat)) y.2 (ib bo) g v = _
      rw [hD, if_pos h0]
    rw [if_neg h0]
    cases hat : hAt hp.1 y with
    | none => exact trivial
    | some it =>
      show adG N Y g bo u turn _ (ts, rs) (if it.1 = 0 then _ else none)
      by_cases e0 : it.1 = 0
      · rw [if_pos e0]
        obtain ⟨i, i1, i2, i3⟩ := hAt_s hat v2.1.2.1
        refine ad_pair (x := (ie (k : Nat), ie (e : Nat), y.2)) N g bo turn _ (603 * tyL a - 2) (603 * tyL b - 2) l r (ie (e : Nat)) it (fun z h => adA bo (c.2.2.1 e) e a z h) (fun z h => adA bo (c.2.2.1 e) e b z h) (by omega) (by omega) (by omega) (by omega) v1 v3 v2 ?_ (fun z hz hh => ?_) (fun z h' tn ts' rs' hz q1 q2 q3 q4 => ?_) (fun z h' tn ts' rs' hz q1 q2 q3 q4 => ?_)
        · show F_Adapter_doTask N (ie (k : Nat)) (ie (e : Nat)) y.2 (ib bo) g v = _
          rw [hD, if_neg h0]
          unfold K_Adapter_doTask_54
          have hk3 : F_Types_kind (ie (k : Nat)) g v = some (ie ((3 : Nat) : Int)) := by rw [c1]; rfl
          rw [hk3, Option.bind_some, if_neg (by decide), if_neg (by decide), if_pos (by decide)]
        · have hFz := cF_ag hF' (qA_S hz)
          obtain ⟨l', r', l1', r1', l2', r2', _, _⟩ := c_parts hFz.2.1 false a b k hk
          have el : l' = l := hFz.2.1.2.2.2.2.1 l' l a l1' l1
          have er : r' = r := hFz.2.1.2.2.2.2.1 r' r b r1' r1
          subst el; subst er
          obtain ⟨_, g2, g3, _, _⟩ := hp_rd g hh.1 hh.2.1 i2
          obtain ⟨_, _, t2, t3, _⟩ := hh.2.2.1 i it i3
          refine ⟨r2', l2', ?_, ?_⟩
          · show F_Heap_first y.2 g z = _
            rw [i1, g2, t2]
          · show F_Heap_second y.2 g z = _
            rw [i1, g3, t3 (by omega)]
        · exact iha l it.2.1 h' z ts' rs' tn l1 (cF_ag hF' (qA_S hz)) q4 (by omega) (by omega) (by omega)
        · exact ihb r it.2.2.1 h' z ts' rs' tn r1 (cF_ag hF' (qA_S hz)) q4 (by omega) (by omega) (by omega)
      · rw [if_neg e0]; exact trivial
  | mul a b _ _ =>
    intro k y hp u ts rs turn hk hF hr h1 h2 h3
    have la := tyL_pos (.mul a b)
    obtain ⟨v, v1, v2, v3, v4⟩ := ad_turn N g bo turn hr (by omega)
    have hF' := cF_ag hF v4
    have hkl := Y_lt hF.2.1 hk
    obtain ⟨c1, _, c3, _, _⟩ := c_row hF'.2.1 k _ hk
    have ht := hF'.2.2.1
    have hD := dt_e N k e hkl (by omega) y.2 bo g v (.mul a b) (tyM_lt (tyC_g hF'.2.1 k _ hk)) c3
    unfold adA
    by_cases h0 : tyM (.mul a b) = 0
    · rw [if_pos h0]
      refine ad_same (x := (ie (k : Nat), ie (e : Nat), y.2)) N g bo turn _ y (by omega) (by omega) v1 v3 v2 ?_
      show F_Adapter_doTask N (ie (k : Nat)) (ie (e : Nat)) y.2 (ib bo) g v = _
      rw [hD, if_pos h0]
    rw [if_neg h0]
    have hk4 : F_Types_kind (ie (k : Nat)) g v = some (ie ((4 : Nat) : Int)) := by rw [c1]; rfl
    refine ad_mk (x := (ie (k : Nat), ie (e : Nat), y.2)) N g bo turn _ 3 (if bo = true then 4 else 5, y, v0, .mul a b, (e : Int)) (je (k : Nat)) (ie (e : Nat)) (by omega) (by omega) (by omega) v1 v3 v2 ?_ (by show (if bo = true then 4 else 5) < 6; cases bo <;> decide) (fun hh => by cases bo <;> cases hh <;> contradiction) (fun _ => ⟨⟨k, rfl, hkl, hk⟩, rfl⟩)
    show F_Adapter_doTask N (ie (k : Nat)) (ie (e : Nat)) y.2 (ib bo) g v = _
    rw [hD, if_neg h0]
    unfold K_Adapter_doTask_54 K_Adapter_doTask_221
    rw [hk4, Option.bind_some, if_neg (by decide), if_neg (by decide), if_neg (by decide), if_pos (by decide), ie_je _ (by omega) (by omega)]
    cases bo with
    | true => rw [if_neg (by decide)]; rfl
    | false => rw [if_pos (by decide)]; rfl
theorem c_adaptG {T : List Tok} {n : Nat} {D : List Df} {t : Tr} {c : CS} {sT : Nat → Ta} {Y : List Ty} {g : pm_s} {u : pm_J} {hp : Hp} {site : Int} {k : Nat} (N : Nat) (hN : 200000 ≤ N) (bo : Bool) (y : Va) (hF : cF T n D t c sT g u Y) (hh : hC Y u hp) (ho : u.1 45 9 = ie 0) {x : Option Va} {h' : Hp} (hGG : ∀ w, cF T n D t c sT g w Y → adR Y w hp ([] ++ [(ie (k : Nat), ie site, y.2)], []) → adG N Y g bo w 0 100000 ([], []) (some (x, h'))) : ∃ w v, F_Adapter_adapt N y.2 (ie (k : Nat)) (ie site) (ib bo) g u = some (w, v) ∧ hC Y v h' ∧ ag qA u v ∧ (∀ z, x = some z → w = z.2 ∧ v.1 45 9 = ie 0) ∧ (x = none → v.1 45 9 = ie 1) := by
  have ag0 : ∀ P : Nat → Nat → Prop, ¬ P 52 6 → ¬ P 52 8 → ag P u (wi (wi u 52 6 0) 52 8 0) := fun P h1 h2 => ag_wi (ag_wi (ag_r P u) _ _ _ h1) _ _ _ h2
  have ht0 : tsC (wi (wi u 52 6 0) 52 8 0) [] := ⟨by rw [wi_ne _ _ _ _ _ _ (by omega), wi_at]; rfl, by show 0 ≤ 1000; omega, fun i x hi => by cases hi⟩
  have hr0 : rsC (wi (wi u 52 6 0) 52 8 0) [] := ⟨by rw [wi_at]; rfl, by show 0 ≤ 1000; omega, fun i x hi => by cases hi⟩
  obtain ⟨w, w1, w2, w3⟩ := ad_task g ht0 (by show 0 < 1000; omega) (ie (k : Nat), ie site, y.2)
  have gA : ag qA u w := ag_t (ag0 _ (by unfold qA; omega) (by unfold qA; omega)) (w3 _ (fun c i h1 => (nA c i h1).1))
  have hF' := qA_f hF gA
  have hw : adR Y w hp ([] ++ [(ie (k : Nat), ie site, y.2)], []) := by
    refine ⟨hC_ag (hC_ag hh (ag0 _ (by unfold qH; omega) (by unfold qH; omega))) (w3 _ (fun c i h1 h2 => by unfold qH at h1; unfold qTs at h2; omega)), ?_, w2, rsC_ag hr0 (w3 _ (fun c i h1 h2 => by unfold qRs at h1; unfold qTs at h2; omega))⟩
    rw [(w3 (fun c i => c = 45 ∧ i = 9) (fun c i h1 h2 => by unfold qTs at h2; omega) 45 9 ⟨rfl, rfl⟩).1, wi_ne _ _ _ _ _ _ (by omega), wi_ne _ _ _ _ _ _ (by omega)]; exact ho
  have hG := hGG w hF' hw
  have hst : F_Adapter_adapt N y.2 (ie (k : Nat)) (ie site) (ib bo) g u = K_Adapter_adapt_21 N g N (ib bo) (ie ((0 : Nat) : Int)) w := by
    unfold F_Adapter_adapt
    have w1' : F_Adapter_addTask (ie (k : Nat)) (ie site) y.2 g (wi (wi u 52 6 0) 52 8 0) = some w := w1
    rw [w1']; rfl
  cases x with
  | some z =>
    obtain ⟨v, m, m1, m2, ⟨m3, m4, m5, m6⟩, m7⟩ := hG
    obtain ⟨p, p1, p2, p3⟩ := ad_pop (rs := []) (x := z.2) g m6
    have c1 : ¬ ((1000000 : Int32) ≤ ie ((0 + m : Nat) : Int)) := fun hh => by have := (inle 1000000 (0 + m) (by omega) (by omega)).mp hh; omega
    refine ⟨z.2, p, ?_, hC_ag m3 (p3 _ (fun c i h1 h2 => by unfold qH at h1; unfold qRs at h2; omega)), ag_t gA (ag_t m7 (p3 _ (fun c i h1 => (nA c i h1).2))), fun z' hz' => ⟨by cases hz'; rfl, ?_⟩, fun hz => by cases hz⟩
    · have q := m2 (N - m - 1 + 1)
      rw [show N - m - 1 + 1 + m = N by omega] at q
      rw [hst, q, K_Adapter_adapt_21, if_neg c1, (show v.1 52 6 = ie ((0 : Nat) : Int) from m5.1), if_pos (by decide), p1]; rfl
    · rw [(p3 (fun c i => c = 45 ∧ i = 9) (fun c i h1 h2 => by unfold qRs at h2; omega) 45 9 ⟨rfl, rfl⟩).1]; exact m4
  | none =>
    obtain ⟨v, m, wd, m1, m2, m3, m4, m5⟩ := hG
    refine ⟨wd, v, ?_, m3, ag_t gA m5, (fun z hz => by cases hz), fun _ => m4⟩
    have q := m2 (N - m - 1)
    rw [show N - m - 1 + m + 1 = N by omega] at q
    rw [hst, q]
theorem c_adapt {T : List Tok} {n : Nat} {D : List Df} {t : Tr} {c : CS} {sT : Nat → Ta} {Y : List Ty} {g : pm_s} {u : pm_J} {hp : Hp} {site : Int} {s : Ty} {k : Nat} (N : Nat) (hN : 200000 ≤ N) (bo : Bool) (y : Va) (hF : cF T n D t c sT g u Y) (hk : Y[k]? = some s) (hh : hC Y u hp) (ho : u.1 45 9 = ie 0) (ha : aOK t c site s) {x : Option Va} {h' : Hp} (hx : adp c bo site s y hp = some (x, h')) : ∃ w v, F_Adapter_adapt N y.2 (ie (k : Nat)) (ie site) (ib bo) g u = some (w, v) ∧ hC Y v h' ∧ ag qA u v ∧ (∀ z, x = some z → w = z.2 ∧ v.1 45 9 = ie 0) ∧ (x = none → v.1 45 9 = ie 1) := by
  refine c_adaptG N hN bo y hF hh ho (fun w hF' hw => ?_)
  rw [← hx]
  obtain ⟨hg, ⟨rfl, hl⟩ | ⟨e, rfl, he, hl, hf, hr⟩⟩ := ha
  · unfold adp; rw [if_pos rfl]
    have := c_bx N g bo s k y hp w [] [] 0 hk hF' hw (by show 0 + 2 * tyL s ≤ 1000; omega) (by show 0 + tyL s ≤ 1000; omega) (by omega)
    exact adG_pre (k := 0) (fun f => rfl) (ag_r _ _) this (by omega)
  · unfold adp; rw [if_neg (by omega)]
    have := c_ad N g bo he (fun k r h => (hf k r h).1) s k y hp w [] [] 0 hk hF' hw (by show 0 + 2 * tyL s + 400 ≤ 1000; omega) (by show 0 + tyL s + 200 ≤ 1000; omega) (by omega)
    exact adG_pre (k := 0) (fun f => rfl) (ag_r _ _) this (by omega)
theorem c_adapt0 {T : List Tok} {n : Nat} {D : List Df} {t : Tr} {c : CS} {sT : Nat → Ta} {Y : List Ty} {g : pm_s} {u : pm_J} {hp : Hp} {e : Nat} {s : Ty} {k : Nat} (N : Nat) (hN : 200000 ≤ N) (bo : Bool) (y : Va) (hF : cF T n D t c sT g u Y) (he : e < t.1) (hk : Y[k]? = some s) (hM : tyM s = 0) (hh : hC Y u hp) (ho : u.1 45 9 = ie 0) : ∃ v, F_Adapter_adapt N y.2 (ie (k : Nat)) (ie (e : Nat)) (ib bo) g u = some (y.2, v) ∧ hC Y v hp ∧ ag qA u v ∧ v.1 45 9 = ie 0 := by
  obtain ⟨w, v, w1, w2, w3, w4, _⟩ := c_adaptG (site := (e : Int)) (k := k) N hN bo y hF hh ho (x := some y) (h' := hp) (fun w hF' hw => by
    obtain ⟨v, v1, v2, v3, v4⟩ := ad_turn (ts := []) N g bo 0 hw (by omega)
    have hF'' := cF_ag hF' v4
    have hkl := Y_lt hF''.2.1 hk
    obtain ⟨_, _, c3, _, _⟩ := c_row hF''.2.1 k _ hk
    have ht := hF''.2.2.1.2
    have hD := dt_e N k e hkl (by omega) y.2 bo g v s (by rw [hM]; omega) c3
    refine ad_same (x := (ie (k : Nat), ie (e : Nat), y.2)) N g bo 0 _ y (by omega) (by show 0 < 1000; omega) v1 v3 v2 ?_
    show F_Adapter_doTask N (ie (k : Nat)) (ie (e : Nat)) y.2 (ib bo) g v = _
    rw [hD, if_pos hM])
  obtain ⟨rfl, w5⟩ := w4 y rfl
  exact ⟨v, w1, w2, w3, w5⟩
