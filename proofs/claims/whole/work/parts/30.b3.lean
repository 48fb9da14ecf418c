set_option maxRecDepth 100000
theorem co_n (N : Nat) (bo : Bool) (x2 x3 x4 : Int32) (y : Int64) (g : pm_s) (v : pm_J) : F_Md_convertOne N (ie (hwR bo (-1) : Nat)) x2 x3 x4 y g v = K_Md_convertOne_42 N g (ie (hwR bo (-1) : Nat)) x2 x3 x4 y 0 v := by
  unfold F_Md_convertOne K_Md_convertOne_15
  cases bo with
  | true => rw [if_neg (by decide), if_neg (by decide), if_pos rfl]
  | false => rw [if_neg (by decide), if_neg (by decide), if_pos rfl]
theorem hwR_e (bo : Bool) (e : Nat) : hwR bo (e : Int) = if bo = true then 2 else 3 := by unfold hwR; rw [if_neg (by omega)]
theorem co_e {Y : List Ty} {v : pm_J} (N : Nat) (bo : Bool) (e k : Nat) (s : Ty) (x4 : Int32) (y : Int64) (g : pm_s) (hy : tyR v Y) (hk : Y[k]? = some s) : F_Md_convertOne N (ie (hwR bo (e : Int) : Nat)) (ie (k : Nat)) (ie (e : Nat)) x4 y g v = if tyM s = 0 then (F_Md_answer x4 y g v).bind fun q => some q else K_Md_convertOne_42 N g (ie (hwR bo (e : Int) : Nat)) (ie (k : Nat)) (ie (e : Nat)) x4 y 1 v := by
  have hkl := (List.getElem?_eq_some_iff.mp hk).1
  have hl := hy.2.1.2
  have hm := (hy.2.2.1 k s hk).2.2.1
  have hlt := tyM_lt (tyR_g hy k s hk)
  unfold F_Md_convertOne K_Md_convertOne_15
  rw [hwR_e]
  have c0 : ∀ b : Bool, (if ie ((if b = true then 2 else 3 : Nat) : Int) = 2 then (1 : Int32) else if ie ((if b = true then 2 else 3 : Nat) : Int) = 3 then 1 else 0) = 1 := fun b => by cases b <;> rfl
  have fin : (if (1 : Int32) = 0 then K_Md_convertOne_42 N g (ie ((if bo = true then 2 else 3 : Nat) : Int)) (ie (k : Nat)) (ie (e : Nat)) x4 y 1 v else if pm_ok (ie (k : Nat)) 100000 = true then (if v.1 73 (ie (k : Nat)).toNatClampNeg = 0 then (F_Md_answer x4 y g v).bind fun q27 => some q27 else K_Md_convertOne_42 N g (ie ((if bo = true then 2 else 3 : Nat) : Int)) (ie (k : Nat)) (ie (e : Nat)) x4 y 1 v) else none) = if tyM s = 0 then (F_Md_answer x4 y g v).bind fun q => some q else K_Md_convertOne_42 N g (ie ((if bo = true then 2 else 3 : Nat) : Int)) (ie (k : Nat)) (ie (e : Nat)) x4 y 1 v := by
    rw [if_neg (by decide), if_pos (okn k 100000 (by omega) (by omega)), ntn k (by omega), hm]
    by_cases h0 : tyM s = 0
    · rw [if_pos h0, h0, if_pos (by decide)]
    · rw [if_neg h0, if_neg (show ¬ (ie (tyM s : Nat) = (0 : Int32)) from fun hh => h0 ((ineq (tyM s) 0 (by omega) (by omega)).mp hh))]
  cases bo with
  | true => rw [if_pos (by decide)]; exact fin
  | false => rw [if_neg (by decide), if_pos (by decide)]; exact fin
theorem ty_num {u : pm_J} {Y : List Ty} (h : tyR u Y) {k j : Nat} (hk : Y[k]? = some (.num j)) : k = j ∧ j < 6 := (h.2.2.1 k _ hk).2.2.2
theorem ty_two {u : pm_J} {Y : List Ty} (h : tyR u Y) {k : Nat} (f : Bool) {A B : Ty} (hk : Y[k]? = some (tyP f A B)) : 6 ≤ k ∧ k < 100000 ∧ u.1 70 k = ib f ∧ ∃ l r : Nat, Y[l]? = some A ∧ Y[r]? = some B ∧ u.1 71 k = ie (l : Nat) ∧ u.1 72 k = ie (r : Nat) := by
  have hl := (List.getElem?_eq_some_iff.mp hk).1
  have h6 := (ty_6 h k _ hk).mpr ⟨f, A, B, rfl⟩
  obtain ⟨a1, _, _, a4⟩ := h.2.2.1 k _ hk
  obtain ⟨l, r, _, _, l1, r1, l2, r2⟩ := (tyP_row Y f A B k _ _).mp a4
  refine ⟨h6, by have := h.2.1.2; omega, ?_, l, r, l1, r1, l2, r2⟩
  rw [a1 h6, tyK_P]; cases f <;> rfl
theorem r_bx01 {N : Nat} {Y : List Ty} {g : pm_s} {u v : pm_J} {hp : Hp} {ts : List RTk} {rs : List Va} (bo : Bool) (m j : Nat) (y : Va) (x : RTk) (hm : 1 ≤ m) (hrl : rs.length < 8000) (hj : j < 2)
    (hK : ∀ f, K_Md_convert_25 N g (f + 1) u = (F_Md_convertOne N x.1 x.2.1 x.2.2.1 x.2.2.2.1 x.2.2.2.2 g v).bind fun q => K_Md_convert_25 N g f q) (ha : ag wB u v) (hr : rdR Y v hp (ts, rs))
    (hT : F_Md_convertOne N x.1 x.2.1 x.2.2.1 x.2.2.2.1 x.2.2.2.2 g v = if bo = true then F_Md_boxOne 1 (ie (y.1 : Nat)) y.2 g v else F_Md_boxOne 0 (ie (y.1 : Nat)) y.2 g v) : rdG N Y g u m (ts, rs) (bxA bo (.num j) y hp) := by
  unfold bxA
  rw [if_neg (by omega)]
  cases bo with
  | true =>
    rw [if_pos rfl]
    rw [if_pos rfl] at hT
    obtain ⟨k1, k0, kts, krs⟩ := id hr
    obtain ⟨b1, b2⟩ := r_box g j hj y k1 k0 krs hrl
    exact rd_mk m 4 _ (F_Md_boxOne 1 (ie (y.1 : Nat)) y.2 g v) hm (fun f => by rw [hK f, hT]) ha hr b1 b2
  | false =>
    rw [if_neg (by decide)]
    rw [if_neg (by decide)] at hT
    cases hat : hAt hp.1 y with
    | none => exact trivial
    | some it =>
      show rdG N Y g u m (ts, rs) (if it.1 = 2 ∨ it.1 = 3 then some (some it.2.1, (hp.1, hp.2 + 1)) else none)
      by_cases e : it.1 = 2 ∨ it.1 = 3
      · rw [if_pos e]
        obtain ⟨k1, k0, kts, krs⟩ := hr
        obtain ⟨i, i1, i2, i3⟩ := hAt_s hat k1.2.1
        have hle := k1.2.1
        obtain ⟨t1, t2⟩ := (k1.2.2.1 i it i3).2.2.1 e
        have aw : ag (fun c i => ¬ (c = 64 ∧ i = 100)) v (wi v 64 100 (v.1 64 100 + 1)) := ag_wi (ag_r _ v) _ _ _ (by omega)
        have hh' : hR Y (wi v 64 100 (v.1 64 100 + 1)) (hp.1, hp.2 + 1) := by
          obtain ⟨a1, a2, a3, ⟨c1, c2, c3, c4⟩, a5⟩ := k1
          exact ⟨(aw _ _ (by omega)).1.trans a1, a2, fun i it hi => itR_e (a3 i it hi) (fun c _ _ => aw c i (by omega)), ⟨(aw _ _ (by omega)).1.trans c1, (aw _ _ (by omega)).1.trans c2, (aw _ _ (by omega)).1.trans c3, (aw _ _ (by omega)).1.trans c4⟩, by rw [wi_at, a5]; exact iadd1 hp.2⟩
        obtain ⟨w, w1, w3, w4⟩ := r_answer g (rsR_ag krs (ag_m aw (fun c i hc => by unfold wR' at hc; omega))) hrl it.2.1
        refine rd_one m hm (w := w) (fun f => ?_) it.2.1 ⟨hR_ag hh' (w4 _ (fun c i h1 h2 => by unfold wH at h1; unfold wR' at h2; omega)), ?_, tsR_ag kts (ag_t (ag_m aw (fun c i hc => by unfold wT' at hc; omega)) (w4 _ (fun c i h1 h2 => by unfold wT' at h1; unfold wR' at h2; omega))), w3⟩ (ag_t ha (ag_t (ag_m aw (fun c i hc => by unfold wB at hc; omega)) (w4 _ (fun c i h1 => (nB c i h1).2.1))))
        · rw [hK f, hT]
          unfold F_Md_boxOne
          rw [if_pos rfl, i1, je_i32 i (by omega), if_pos (okn i 4000 (by omega) (by omega)), if_pos (okn i 4000 (by omega) (by omega)), ntn i (by omega), t1, t2, w1]; rfl
        · rw [(w4 (fun c i => c = 64 ∧ i = 96) (fun c i h1 h2 => by unfold wR' at h2; omega) 64 96 ⟨rfl, rfl⟩).1, (aw 64 96 (by omega)).1]; exact k0
      · rw [if_neg e]; exact trivial
theorem pair_T {T : List Tok} {n : Nat} {D : List Df} {t : Tr} {c : CS} {w : Nat → Option Ty} {Y : List Ty} {v : pm_J} {hp : Hp} (N : Nat) (g : pm_s) (h : Nat) (k l r i : Nat) (site : Int32) (a b : Ty) (y : Va) (it : It) (x7 : Int32) (H : rC T n D t c w v Y) (hh : hR Y v hp) (hk : Y[k]? = some (.add a b)) (l1 : Y[l]? = some a) (r1 : Y[r]? = some b) (i1 : y.2 = je (i : Nat)) (i2 : i < hp.1.length) (i3 : hp.1[i]? = some it) (e : it.1 = 0) : ∀ z1 z2 z3 : pm_J, F_Md_ask 9 0 0 0 0 g v = some z1 → ag wB v z1 → hR Y z1 hp → F_Md_ask (ie (h : Nat)) (ie (r : Nat)) site (ie (it.2.2.1.1 : Nat)) it.2.2.1.2 g z1 = some z2 → ag wB v z2 → hR Y z2 hp → F_Md_ask (ie (h : Nat)) (ie (l : Nat)) site (ie (it.2.1.1 : Nat)) it.2.1.2 g z2 = some z3 → K_Md_convertOne_42 N g (ie (h : Nat)) (ie (k : Nat)) site (ie (y.1 : Nat)) y.2 x7 v = some z3 := fun z1 z2 z3 p1 p2 p3 q1 q2 q3 s1 => by
  have hle := hh.2.1
  obtain ⟨t1, t2, t3, _, _⟩ := ty_two H.2.2.2.2.1 false hk
  have ok := okn k 100000 t2 (by omega)
  have nt := ntn k (by omega)
  have oki := okn i 4000 (by omega) (by omega)
  have nti := ntn i (by omega)
  have Hz := H.2.2.2.2.1
  have rd : ∀ z, ag wB v z → z.1 72 k = ie (r : Nat) ∧ z.1 71 k = ie (l : Nat) := fun z hz => by
    obtain ⟨_, _, _, l', r', l1', r1', l2', r2'⟩ := ty_two Hz false hk
    have el : l' = l := Hz.2.2.2.1 l' l a l1' l1
    have er : r' = r := Hz.2.2.2.1 r' r b r1' r1
    subst el; subst er
    exact ⟨(hz 72 k (by unfold wB; omega)).1.trans r2', (hz 71 k (by unfold wB; omega)).1.trans l2'⟩
  obtain ⟨a1, a2, a3, a4⟩ := (p3.2.2.1 i it i3).1 e
  obtain ⟨b1, b2, b3, b4⟩ := (q3.2.2.1 i it i3).1 e
  unfold K_Md_convertOne_42
  rw [if_pos (show (2 : Int32) ≤ ie (k : Nat) from (inle 2 k (by omega) (by omega)).mpr (by omega)), if_pos (show (6 : Int32) ≤ ie (k : Nat) from (inle 6 k (by omega) (by omega)).mpr t1), if_pos ok, nt, t3, if_pos (show ib false = (0 : Int32) from rfl), p1, Option.bind_some, if_pos ok, i1, je_i32 i (by omega), if_pos oki, if_pos oki, nti, (rd z1 p2).1, a3, a4, q1, Option.bind_some, if_pos ok, if_pos oki, if_pos oki, (rd z2 q2).2, b1, b2, s1]; rfl
theorem r_bx {T : List Tok} {n : Nat} {D : List Df} {t : Tr} {c : CS} {wt : Nat → Option Ty} {Y : List Ty} (N : Nat) (g : pm_s) (bo : Bool) (s : Ty) : ∀ (k : Nat) (y : Va) (hp : Hp) (u : pm_J) (ts : List RTk) (rs : List Va), Y[k]? = some s → rC T n D t c wt u Y → rdR Y u hp (ts ++ [(ie (hwR bo (-1) : Nat), ie (k : Nat), ie (-1), ie (y.1 : Nat), y.2)], rs) → ts.length + 2 * tyL s ≤ 8000 → rs.length + tyL s ≤ 8000 → rdG N Y g u (3 * tyL s - 2) (ts, rs) (bxA bo s y hp) := by
  have h9 : ∀ b : Bool, ¬ (ie (hwR b (-1) : Nat) = (9 : Int32)) := fun b => by cases b <;> decide
  induction s with
  | num j =>
    intro k y hp u ts rs hk H hr h1 h2
    have hl : tyL (.num j) = 1 := rfl
    rw [hl] at h1 h2 ⊢
    obtain ⟨v, v1, v2, v3⟩ := r_turn N g hr (h9 bo)
    have H' := rC_ag H (wB_Z v3)
    obtain ⟨rfl, hj⟩ := ty_num H'.2.2.2.2.1 hk
    have hD := co_n N bo (ie (k : Nat)) (ie (-1)) (ie (y.1 : Nat)) y.2 g v
    by_cases e : k < 2
    · refine r_bx01 bo _ k y _ (by omega) (by omega) e v1 v3 v2 ?_
      show F_Md_convertOne N (ie (hwR bo (-1) : Nat)) (ie (k : Nat)) (ie (-1)) (ie (y.1 : Nat)) y.2 g v = _
      rw [hD]; unfold K_Md_convertOne_42
      rw [if_neg (show ¬ ((2 : Int32) ≤ ie (k : Nat)) from fun hh => by have := (inle 2 k (by omega) (by omega)).mp hh; omega)]
      cases bo with
      | true => rw [if_pos (by decide), if_pos rfl, obd]
      | false => rw [if_neg (by decide), if_neg (by decide), obd]
    · unfold bxA
      rw [if_pos (by omega)]
      refine rd_same _ y (by omega) (by omega) v1 v3 v2 ?_
      show F_Md_convertOne N (ie (hwR bo (-1) : Nat)) (ie (k : Nat)) (ie (-1)) (ie (y.1 : Nat)) y.2 g v = _
      rw [hD]; unfold K_Md_convertOne_42
      rw [if_pos (show (2 : Int32) ≤ ie (k : Nat) from (inle 2 k (by omega) (by omega)).mpr (by omega)), if_neg (show ¬ ((6 : Int32) ≤ ie (k : Nat)) from fun hh => by have := (inle 6 k (by omega) (by omega)).mp hh; omega), if_pos rfl]
  | var j =>
    intro k y hp u ts rs hk H
    exact ((H.2.2.2.2.1.2.2.1 k _ hk).2.2.2).elim
  | add a b iha ihb =>
    intro k y hp u ts rs hk H hr h1 h2
    have hl : tyL (.add a b) = tyL a + tyL b := rfl
    have la := tyL_pos a
    have lb := tyL_pos b
    rw [hl] at h1 h2 ⊢
    obtain ⟨v, v1, v2, v3⟩ := r_turn N g hr (h9 bo)
    have H' := rC_ag H (wB_Z v3)
    obtain ⟨_, _, _, l, r, l1, r1, _, _⟩ := ty_two H'.2.2.2.2.1 false hk
    unfold bxA
    cases hat : hAt hp.1 y with
    | none => exact trivial
    | some it =>
      show rdG N Y g u _ (ts, rs) (if it.1 = 0 then _ else none)
      by_cases e : it.1 = 0
      · rw [if_pos e]
        obtain ⟨i, i1, i2, i3⟩ := hAt_s hat v2.1.2.1
        refine rd_pair _ (3 * tyL a - 2) (3 * tyL b - 2) l r it (fun z h => bxA bo a z h) (fun z h => bxA bo b z h) (by omega) (by omega) (by omega) v1 v3 v2 (fun z1 z2 z3 p1 p2 p3 q1 q2 q3 s1 => ?_) (fun z h' ts' rs' hz q2 q3 q4 => ?_) (fun z h' ts' rs' hz q2 q3 q4 => ?_)
        · show F_Md_convertOne N (ie (hwR bo (-1) : Nat)) (ie (k : Nat)) (ie (-1)) (ie (y.1 : Nat)) y.2 g v = _
          rw [co_n]
          exact pair_T N g (hwR bo (-1)) k l r i (ie (-1)) a b y it 0 H' v2.1 hk l1 r1 i1 i2 i3 e z1 z2 z3 p1 p2 p3 q1 q2 q3 s1
        · exact iha l it.2.1 h' z ts' rs' l1 (rC_ag H' (wB_Z hz)) q4 (by omega) (by omega)
        · exact ihb r it.2.2.1 h' z ts' rs' r1 (rC_ag H' (wB_Z hz)) q4 (by omega) (by omega)
      · rw [if_neg e]; exact trivial
  | mul a b _ _ =>
    intro k y hp u ts rs hk H hr h1 h2
    have la := tyL_pos (.mul a b)
    obtain ⟨v, v1, v2, v3⟩ := r_turn N g hr (h9 bo)
    have H' := rC_ag H (wB_Z v3)
    obtain ⟨t1, t2, t3, _⟩ := ty_two H'.2.2.2.2.1 true hk
    obtain ⟨k1, k0, kts, krs⟩ := id v2
    obtain ⟨b1, b2⟩ := r_coverOf g bo (-1) y k1 k0 krs (by show rs.length < 8000; omega) t2 hk
    unfold bxA
    refine rd_mk _ 3 _ (F_Md_coverOf (ie (hwR bo (-1) : Nat)) (ie (k : Nat)) (ie (-1)) (ie (y.1 : Nat)) y.2 g v) (by omega) (fun f => ?_) v3 v2 b1 b2
    rw [v1 f]
    show (F_Md_convertOne N (ie (hwR bo (-1) : Nat)) (ie (k : Nat)) (ie (-1)) (ie (y.1 : Nat)) y.2 g v).bind _ = _
    rw [co_n]; unfold K_Md_convertOne_42
    rw [if_pos (show (2 : Int32) ≤ ie (k : Nat) from (inle 2 k (by omega) (by omega)).mpr (by omega)), if_pos (show (6 : Int32) ≤ ie (k : Nat) from (inle 6 k (by omega) (by omega)).mpr t1), if_pos (okn k 100000 t2 (by omega)), ntn k (by omega), t3, if_neg (show ¬ (ib true = (0 : Int32)) by decide), obd]
theorem r_ad {T : List Tok} {n : Nat} {D : List Df} {t : Tr} {c : CS} {wt : Nat → Option Ty} {Y : List Ty} (N : Nat) (g : pm_s) (bo : Bool) {e : Nat} (he : e < t.1) (hfl : ∀ k r, c.2.2.1 e k = some r → tyL r ≤ 200) (s : Ty) : ∀ (k : Nat) (y : Va) (hp : Hp) (u : pm_J) (ts : List RTk) (rs : List Va), Y[k]? = some s → rC T n D t c wt u Y → rdR Y u hp (ts ++ [(ie (hwR bo (e : Int) : Nat), ie (k : Nat), ie (e : Nat), ie (y.1 : Nat), y.2)], rs) → ts.length + 2 * tyL s + 400 ≤ 8000 → rs.length + tyL s + 200 ≤ 8000 → rdG N Y g u (603 * tyL s - 2) (ts, rs) (adA bo (c.2.2.1 e) e s y hp) := by
  have h9 : ¬ (ie (hwR bo (e : Int) : Nat) = (9 : Int32)) := by rw [hwR_e]; cases bo <;> decide
  induction s with
  | num j =>
    intro k y hp u ts rs hk H hr h1 h2
    have hl : tyL (.num j) = 1 := rfl
    rw [hl] at h1 h2 ⊢
    obtain ⟨v, v1, v2, v3⟩ := r_turn N g hr h9
    have H' := rC_ag H (wB_Z v3)
    have hD := co_e N bo e k (.num j) (ie (y.1 : Nat)) y.2 g H'.2.2.2.2.1 hk
    obtain ⟨rfl, hj⟩ := ty_num H'.2.2.2.2.1 hk
    have ht := H'.2.2.2.1
    unfold adA
    by_cases e2 : k < 2
    · rw [if_pos e2]
      refine rd_same _ y (by omega) (by omega) v1 v3 v2 ?_
      show F_Md_convertOne N (ie (hwR bo (e : Int) : Nat)) (ie (k : Nat)) (ie (e : Nat)) (ie (y.1 : Nat)) y.2 g v = _
      rw [hD, if_pos (show tyM (.num k) = 0 by show (if k < 2 then 0 else _) = 0; rw [if_pos e2])]
    · rw [if_neg e2]
      cases hf : c.2.2.1 e (k - 2) with
      | none => exact trivial
      | some r =>
        show rdG N Y g u _ (ts, rs) (bxA bo r y hp)
        obtain ⟨h1', h0, hts', hrs'⟩ := v2
        have hts : tsR v ts := hts'
        have hrs : rsR v rs := hrs'
        have hfi := (H'.2.2.2.2.2.2 e he).2.2.2.2.2.2.2.2.2.2.2.2.2 (k - 2) (by omega)
        rw [hf] at hfi
        obtain ⟨m, m1, m2⟩ := hfi
        have hr2 := hfl _ _ hf
        obtain ⟨w, w1, w2, w3⟩ := r_ask g hts (by omega) (ie (hwR bo (-1) : Nat), ie (m : Nat), ie (-1), ie (y.1 : Nat), y.2)
        have noH : ∀ c i, wH c i → ¬ wT' c i := fun c i h1 h2 => by unfold wH at h1; unfold wT' at h2; omega
        have noR : ∀ c i, wR' c i → ¬ wT' c i := fun c i h1 h2 => by unfold wR' at h1; unfold wT' at h2; omega
        have noA : ∀ c i, wB c i → ¬ wT' c i := fun c i h1 => (nB c i h1).1
        have noO : ∀ c i, (c = 64 ∧ i = 96) → ¬ wT' c i := fun c i h1 h2 => by unfold wT' at h2; omega
        have hT : F_Md_convertOne N (ie (hwR bo (e : Int) : Nat)) (ie (k : Nat)) (ie (e : Nat)) (ie (y.1 : Nat)) y.2 g v = some w := by
          have hM : ¬ (tyM (.num k) = 0) := fun hh => by
            have hh' : (if k < 2 then 0 else 2 ^ (k - 2)) = 0 := hh
            rw [if_neg e2] at hh'
            have := Nat.pow_pos (n := k - 2) (show 0 < 2 by omega); omega
          have h18 := ht.2
          have e3 : 4 * ie (e : Nat) + ie (k : Nat) - 2 = ie ((4 * e + (k - 2) : Nat) : Int) := by
            rw [show (4 : Int32) = ie 4 from rfl, show (2 : Int32) = ie 2 from rfl, ie_mul, ie_add, ie_sub]; congr 1; omega
          rw [hD, if_neg hM]
          unfold K_Md_convertOne_42 K_Md_convertOne_89
          rw [if_pos (show (2 : Int32) ≤ ie (k : Nat) from (inle 2 k (by omega) (by omega)).mpr (by omega)), if_neg (show ¬ ((6 : Int32) ≤ ie (k : Nat)) from fun hh => by have := (inle 6 k (by omega) (by omega)).mp hh; omega), if_neg (by decide), hwR_e, e3, if_pos (okn _ 9600 (by omega) (by omega)), ntn _ (by omega), m1]
          cases bo with
          | true => rw [if_pos (by decide)]; have w1' : F_Md_ask 0 (ie (m : Nat)) (-1) (ie (y.1 : Nat)) y.2 g v = some w := w1; rw [w1']; rfl
          | false => rw [if_neg (by decide), if_pos (okn _ 9600 (by omega) (by omega))]; have w1' : F_Md_ask 1 (ie (m : Nat)) (-1) (ie (y.1 : Nat)) y.2 g v = some w := w1; rw [w1']; rfl
        refine rdG_pre (k := 1) (fun f => by rw [v1 f]; show (F_Md_convertOne N (ie (hwR bo (e : Int) : Nat)) (ie (k : Nat)) (ie (e : Nat)) (ie (y.1 : Nat)) y.2 g v).bind _ = _; rw [hT, Option.bind_some]) (ag_t v3 (w3 _ noA)) (m := 3 * tyL r - 2) (r_bx N g bo r m y hp w ts rs m2 (rC_ag H' (wB_Z (w3 _ noA))) ⟨hR_ag h1' (w3 _ noH), ?_, w2, rsR_ag hrs (w3 _ noR)⟩ (by omega) (by omega)) (by omega)
        rw [(w3 _ noO 64 96 ⟨rfl, rfl⟩).1]; exact h0
  | var j =>
    intro k y hp u ts rs hk H
    exact ((H.2.2.2.2.1.2.2.1 k _ hk).2.2.2).elim
  | add a b iha ihb =>
    intro k y hp u ts rs hk H hr h1 h2
    have hl : tyL (.add a b) = tyL a + tyL b := rfl
    have la := tyL_pos a
    have lb := tyL_pos b
    rw [hl] at h1 h2 ⊢
    obtain ⟨v, v1, v2, v3⟩ := r_turn N g hr h9
    have H' := rC_ag H (wB_Z v3)
    have hD := co_e N bo e k (.add a b) (ie (y.1 : Nat)) y.2 g H'.2.2.2.2.1 hk
    obtain ⟨_, _, _, l, r, l1, r1, _, _⟩ := ty_two H'.2.2.2.2.1 false hk
    unfold adA
    by_cases h0 : tyM (.add a b) = 0
    · rw [if_pos h0]
      refine rd_same _ y (by omega) (by omega) v1 v3 v2 ?_
      show F_Md_convertOne N (ie (hwR bo (e : Int) : Nat)) (ie (k : Nat)) (ie (e : Nat)) (ie (y.1 : Nat)) y.2 g v = _
      rw [hD, if_pos h0]
    rw [if_neg h0]
    cases hat : hAt hp.1 y with
    | none => exact trivial
    | some it =>
      show rdG N Y g u _ (ts, rs) (if it.1 = 0 then _ else none)
      by_cases e0 : it.1 = 0
      · rw [if_pos e0]
        obtain ⟨i, i1, i2, i3⟩ := hAt_s hat v2.1.2.1
        refine rd_pair _ (603 * tyL a - 2) (603 * tyL b - 2) l r it (fun z h => adA bo (c.2.2.1 e) e a z h) (fun z h => adA bo (c.2.2.1 e) e b z h) (by omega) (by omega) (by omega) v1 v3 v2 (fun z1 z2 z3 p1 p2 p3 q1 q2 q3 s1 => ?_) (fun z h' ts' rs' hz q2 q3 q4 => ?_) (fun z h' ts' rs' hz q2 q3 q4 => ?_)
        · show F_Md_convertOne N (ie (hwR bo (e : Int) : Nat)) (ie (k : Nat)) (ie (e : Nat)) (ie (y.1 : Nat)) y.2 g v = _
          rw [hD, if_neg h0]
          exact pair_T N g (hwR bo (e : Int)) k l r i (ie (e : Nat)) a b y it 1 H' v2.1 hk l1 r1 i1 i2 i3 e0 z1 z2 z3 p1 p2 p3 q1 q2 q3 s1
        · exact iha l it.2.1 h' z ts' rs' l1 (rC_ag H' (wB_Z hz)) q4 (by omega) (by omega)
        · exact ihb r it.2.2.1 h' z ts' rs' r1 (rC_ag H' (wB_Z hz)) q4 (by omega) (by omega)
      · rw [if_neg e0]; exact trivial
  | mul a b _ _ =>
    intro k y hp u ts rs hk H hr h1 h2
    have la := tyL_pos (.mul a b)
    obtain ⟨v, v1, v2, v3⟩ := r_turn N g hr h9
    have H' := rC_ag H (wB_Z v3)
    have hD := co_e N bo e k (.mul a b) (ie (y.1 : Nat)) y.2 g H'.2.2.2.2.1 hk
    obtain ⟨t1, t2, t3, _⟩ := ty_two H'.2.2.2.2.1 true hk
    unfold adA
    by_cases h0 : tyM (.mul a b) = 0
    · rw [if_pos h0]
      refine rd_same _ y (by omega) (by omega) v1 v3 v2 ?_
      show F_Md_convertOne N (ie (hwR bo (e : Int) : Nat)) (ie (k : Nat)) (ie (e : Nat)) (ie (y.1 : Nat)) y.2 g v = _
      rw [hD, if_pos h0]
    rw [if_neg h0]
    obtain ⟨k1, k0, kts, krs⟩ := id v2
    obtain ⟨b1, b2⟩ := r_coverOf g bo (e : Int) y k1 k0 krs (by show rs.length < 8000; omega) t2 hk
    refine rd_mk _ 3 _ (F_Md_coverOf (ie (hwR bo (e : Int) : Nat)) (ie (k : Nat)) (ie (e : Nat)) (ie (y.1 : Nat)) y.2 g v) (by omega) (fun f => ?_) v3 v2 b1 b2
    rw [v1 f]
    show (F_Md_convertOne N (ie (hwR bo (e : Int) : Nat)) (ie (k : Nat)) (ie (e : Nat)) (ie (y.1 : Nat)) y.2 g v).bind _ = _
    rw [hD, if_neg h0]; unfold K_Md_convertOne_42
    rw [if_pos (show (2 : Int32) ≤ ie (k : Nat) from (inle 2 k (by omega) (by omega)).mpr (by omega)), if_pos (show (6 : Int32) ≤ ie (k : Nat) from (inle 6 k (by omega) (by omega)).mpr t1), if_pos (okn k 100000 t2 (by omega)), ntn k (by omega), t3, if_neg (show ¬ (ib true = (0 : Int32)) by decide), obd]
theorem r_convert {T : List Tok} {n : Nat} {D : List Df} {t : Tr} {c : CS} {wt : Nat → Option Ty} {Y : List Ty} {u : pm_J} {hp : Hp} {site : Int} {s : Ty} {k : Nat} (N : Nat) (hN : 200000 ≤ N) (g : pm_s) (bo : Bool) (y : Va) (H : rC T n D t c wt u Y) (hk : Y[k]? = some s) (hh : hR Y u hp) (h0 : u.1 64 96 = ie 0) (hy1 : u.1 64 108 = ie (y.1 : Nat)) (hy2 : u.2 64 109 = y.2) (ha : aOK t c site s) {x : Option Va} {h' : Hp} (hx : adp c bo site s y hp = some (x, h')) : ∃ v, F_Md_convert N (ie (hwR bo site : Nat)) (ie (k : Nat)) (ie site) g u = some v ∧ hR Y v h' ∧ ag wB u v ∧ (∀ z, x = some z → v.1 64 96 = ie 0 ∧ v.1 64 108 = ie (z.1 : Nat) ∧ v.2 64 109 = z.2) ∧ (x = none → v.1 64 96 = ie 4) := by
  have ag0 : ∀ P : Nat → Nat → Prop, ¬ P 64 115 → ¬ P 64 118 → ag P u (wi (wi u 64 115 0) 64 118 0) := fun P h1 h2 => ag_wi (ag_wi (ag_r P u) _ _ _ h1) _ _ _ h2
  have ht0 : tsR (wi (wi u 64 115 0) 64 118 0) [] := ⟨by rw [wi_ne _ _ _ _ _ _ (by omega), wi_at]; rfl, by show 0 ≤ 8000; omega, fun i x hi => by cases hi⟩
  have hr0 : rsR (wi (wi u 64 115 0) 64 118 0) [] := ⟨by rw [wi_at]; rfl, by show 0 ≤ 8000; omega, fun i x hi => by cases hi⟩
  obtain ⟨w, w1, w2, w3⟩ := r_ask g ht0 (by show 0 < 8000; omega) (ie (hwR bo site : Nat), ie (k : Nat), ie site, ie (y.1 : Nat), y.2)
  have gA : ag wB u w := ag_t (ag0 _ (by unfold wB; omega) (by unfold wB; omega)) (w3 _ (fun c i h1 => (nB c i h1).1))
  have H' := rC_ag H (wB_Z gA)
  have hw : rdR Y w hp ([] ++ [(ie (hwR bo site : Nat), ie (k : Nat), ie site, ie (y.1 : Nat), y.2)], []) := by
    refine ⟨hR_ag (hR_ag hh (ag0 _ (by unfold wH; omega) (by unfold wH; omega))) (w3 _ (fun c i h1 h2 => by unfold wH at h1; unfold wT' at h2; omega)), ?_, w2, rsR_ag hr0 (w3 _ (fun c i h1 h2 => by unfold wR' at h1; unfold wT' at h2; omega))⟩
    rw [(w3 (fun c i => c = 64 ∧ i = 96) (fun c i h1 h2 => by unfold wT' at h2; omega) 64 96 ⟨rfl, rfl⟩).1, wi_ne _ _ _ _ _ _ (by omega), wi_ne _ _ _ _ _ _ (by omega)]; exact h0
  have hG : rdG N Y g w 100000 ([], []) (adp c bo site s y hp) := by
    obtain ⟨hg, ⟨rfl, hl⟩ | ⟨e, rfl, he, hl, hf, hr⟩⟩ := ha
    · unfold adp; rw [if_pos rfl]
      have := r_bx N g bo s k y hp w [] [] hk H' hw (by show 0 + 2 * tyL s ≤ 8000; omega) (by show 0 + tyL s ≤ 8000; omega)
      exact rdG_pre (k := 0) (fun f => rfl) (ag_r _ _) this (by omega)
    · unfold adp; rw [if_neg (by omega)]
      have := r_ad N g bo he (fun k r h => (hf k r h).1) s k y hp w [] [] hk H' hw (by show 0 + 2 * tyL s + 400 ≤ 8000; omega) (by show 0 + tyL s + 200 ≤ 8000; omega)
      exact rdG_pre (k := 0) (fun f => rfl) (ag_r _ _) this (by omega)
  have hst : F_Md_convert N (ie (hwR bo site : Nat)) (ie (k : Nat)) (ie site) g u = K_Md_convert_25 N g N w := by
    unfold F_Md_convert
    have w1' : F_Md_ask (ie (hwR bo site : Nat)) (ie (k : Nat)) (ie site) (ie (y.1 : Nat)) y.2 g (wi (wi u 64 115 0) 64 118 0) = some w := w1
    rw [hy1, hy2, w1']; rfl
  rw [hx] at hG
  cases x with
  | some z =>
    obtain ⟨v, m, m1, m2, ⟨m3, m4, m5, m6⟩, m7⟩ := hG
    obtain ⟨q1, q2⟩ := m6.2.2 0 z rfl
    have aw : ag (fun c i => ¬ (c = 64 ∧ (i = 108 ∨ i = 109))) v (wj (wi v 64 108 (ie (z.1 : Nat))) 64 109 z.2) := ag_wj (ag_wi (ag_r _ v) _ _ _ (by omega)) _ _ _ (by omega)
    refine ⟨wj (wi v 64 108 (ie (z.1 : Nat))) 64 109 z.2, ?_, hR_ag m3 (ag_m aw (fun c i hc => by unfold wH at hc; omega)), ag_t gA (ag_t m7 (ag_m aw (fun c i hc => by unfold wB at hc; omega))), fun z' hz' => ?_, fun hz => by cases hz⟩
    · have q := m2 (N - m - 1 + 1)
      rw [show N - m - 1 + 1 + m = N by omega] at q
      rw [hst, q, K_Md_convert_25, (show v.1 64 115 = ie ((0 : Nat) : Int) from m5.1), if_pos (by decide)]
      unfold K_Md_convert_184
      rw [m4, if_pos (show ie 0 = (0 : Int32) from rfl), if_pos (by decide), if_pos (by decide), q1, q2]
    · cases hz'
      exact ⟨(aw 64 96 (by omega)).1.trans m4, by rw [wj_1, wi_at], wj_at _ _ _ _⟩
  | none =>
    obtain ⟨v, m, m1, m2, m3, m4, m5⟩ := hG
    refine ⟨v, ?_, m3, ag_t gA m5, (fun z hz => by cases hz), fun _ => m4⟩
    have q := m2 (N - m - 1)
    rw [show N - m - 1 + m + 1 = N by omega] at q
    rw [hst, q]
