set_option maxRecDepth 100000
theorem frD_row {d : Nat} {u v : pm_J} (h : fr (cS_D d) u v) (c i : Nat) (hc : ((30 ≤ c ∧ c ≤ 34) ∧ i ≠ d) ∨ (30 ≤ c ∧ c ≤ 31) ∨ (c = 35 ∧ i ≠ d) ∨ ((c = 36 ∨ c = 37) ∧ ¬ (d * 24 ≤ i ∧ i < d * 24 + 24)) ∨ (c = 38 ∧ ¬ (d * 6 ≤ i ∧ i < d * 6 + 6))) : v.1 c i = u.1 c i ∧ v.2 c i = u.2 c i := h c i (by
  cases hb : cS_D d c i with
  | false => rfl
  | true =>
    exfalso
    unfold cS_D cS_E cS_T at hb
    rw [csy_no (by omega)] at hb
    simp only [Bool.or_eq_true, Bool.and_eq_true, Nat.beq_eq, Nat.ble_eq, Nat.blt_eq, Bool.false_eq_true, false_or] at hb
    omega)
theorem cDf_fr {T : List Tok} {n d : Nat} {u v : pm_J} {Y : List Ty} {i : Nat} {x : Df} (Z : List Ty) (hi : i < d) (h : cDf T n u Y i x) (hf : fr (cS_D d) u v) : cDf T n v (Y ++ Z) i x := by
  obtain ⟨a1, a2, ⟨k, a3, a4⟩, a5, a6, a7, a8, a9, a10⟩ := h
  refine ⟨(frD_row hf 30 i (by omega)).2.trans a1, (frD_row hf 31 i (by omega)).1.trans a2, ⟨k, (frD_row hf 32 i (by omega)).1.trans a3, by rw [List.getElem?_append_left (List.getElem?_eq_some_iff.mp a4).1]; exact a4⟩, (frD_row hf 33 i (by omega)).1.trans a5, (frD_row hf 34 i (by omega)).1.trans a6, ?_, (frD_row hf 38 _ (by omega)).1.trans a8, (frD_row hf 38 _ (by omega)).1.trans a9, fun k k2 k6 => (frD_row hf 38 _ (by omega)).1.trans (a10 k k2 k6)⟩
  exact cLoc_cong Z a7 (frD_row hf 35 i (by omega)).1 (fun l hl => ⟨(frD_row hf 36 _ (by omega)).1, (frD_row hf 37 _ (by omega)).1⟩)
def cS_Q : Nat → Nat → Bool := fun c i => cS_T c i || (Nat.ble 18 c && Nat.ble c 42)
theorem fr_DQ {d : Nat} {u v : pm_J} (h : fr (cS_D d) u v) : fr cS_Q u v := fr_sub h (fun c i hh => by
  cases hb : cS_D d c i with
  | false => rfl
  | true =>
    exfalso
    unfold cS_Q at hh
    unfold cS_D cS_E at hb
    rw [Bool.or_eq_false_iff] at hh
    rw [hh.1] at hb
    have h2 := hh.2
    simp only [Bool.or_eq_true, Bool.and_eq_true, Nat.beq_eq, Nat.ble_eq, Nat.blt_eq, Bool.false_eq_true, false_or] at hb
    rw [Bool.and_eq_false_iff] at h2
    have h3 : ¬ (18 ≤ c ∧ c ≤ 42) := by
      rintro ⟨p1, p2⟩
      rcases h2 with h2 | h2
      · rw [Nat.ble_eq.mpr p1] at h2; cases h2
      · rw [Nat.ble_eq.mpr p2] at h2; cases h2
    omega)
theorem frQ_wi {u v : pm_J} (a k : Nat) (x : Int32) (h : 18 ≤ a ∧ a ≤ 42) (hv : fr cS_Q u v) : fr cS_Q u (wi v a k x) := fr_wi _ _ _ _ _ _ (by unfold cS_Q; rw [Nat.ble_eq.mpr h.1, Nat.ble_eq.mpr h.2]; simp) hv
theorem frQ_wj {u v : pm_J} (a k : Nat) (x : Int64) (h : 18 ≤ a ∧ a ≤ 42) (hv : fr cS_Q u v) : fr cS_Q u (wj v a k x) := fr_wj _ _ _ _ _ _ (by unfold cS_Q; rw [Nat.ble_eq.mpr h.1, Nat.ble_eq.mpr h.2]; simp) hv
theorem fr_TQ {u v : pm_J} (h : fr cS_T u v) : fr cS_Q u v := fr_sub h (fun c i hh => by
  unfold cS_Q at hh
  rw [Bool.or_eq_false_iff] at hh; exact hh.1)
def dBeg (u : pm_J) (d : Nat) (v : Int64) (p : Int32) : pm_J := wi (wi (wi (wi (wi (wi (wi (wi (wi (wj u 30 d v) 31 d p) 32 d (-1)) 33 d (-1)) 34 d 0) 35 d 0) 29 9 (ie ((d + 1 : Nat) : Int))) 39 12 (ie d)) 39 8 0) 39 13 0
theorem dBeg_o (u : pm_J) (d : Nat) (v : Int64) (p : Int32) (c i : Nat) (h : ¬ ((30 ≤ c ∧ c ≤ 35) ∧ i = d) ∧ ¬ (c = 29 ∧ i = 9) ∧ ¬ (c = 39 ∧ (i = 12 ∨ i = 8 ∨ i = 13))) : (dBeg u d v p).1 c i = u.1 c i ∧ (dBeg u d v p).2 c i = u.2 c i := by
  unfold dBeg
  constructor
  · simp only [wi_1, wj_1]
    repeat (rw [if_neg (by omega)])
  · simp only [wi_2, wj_2]
    rw [if_neg (by omega)]
theorem c_88 {T : List Tok} {n : Nat} {D : List Df} {g : pm_s} {u : pm_J} (N : Nat) (a : Nat) (hc : u.1 29 9 = ie D.length) (h30 : D.length < 30) (hT : cTok u T) (h6 : u.1 5 6 = ie n) (ha : a ≤ T.length) : K_Parser_readDef_88 N (ie a) g u = K_Parser_readDef_127 N N 0 g (dBeg u D.length (tkV T a) (ie (tkP T n a : Nat))) := by
  unfold K_Parser_readDef_88
  rw [k_value hT ha g, Option.bind_some, k_place hT h6 ha g, Option.bind_some]
  unfold F_Table_add
  rw [hc, if_pos (show ie (D.length : Int) < 30 from (inlt _ 30 (by omega) (by omega)).mpr h30)]
  have ok : pm_ok (ie (D.length : Int)) 30 = true := okn _ 30 h30 (by omega)
  have hs : ie (D.length : Int) + 1 - 1 = ie (D.length : Int) := by rw [show (1 : Int32) = ie 1 from rfl, ie_add, ie_sub]; congr 1; omega
  simp only [ok, if_true, ntn D.length (by omega), Option.bind_some, hs]
  rw [iadd1]
  rfl
theorem cP_beg {T : List Tok} {n : Nat} {D : List Df} {t : Tr} {g : pm_s} {u : pm_J} {Y : List Ty} (a : Nat) (cl0 : Option Nat) (h1 : cTk T n (a + 1) u) (h2 : tyC g u Y) (h3 : cNd T n u t) (h4 : cBI u) (h30 : D.length < 30) (h38 : ∀ i, D.length * 6 ≤ i → i < 180 → u.1 38 i = ie 0) (hcl : cCl T n cl0 u) (v : Int64) (p : Int32) : cP T n D.length cl0 [] [] (a + 1, none, lc0, t) g (dBeg u D.length v p) Y := by
  have o := dBeg_o u D.length v p
  refine ⟨⟨cTk_at h1 (o 3 0 (by omega)).1 (fun i => (o 5 i (by omega)).1) (fun i => ⟨(o 6 i (by omega)).1, (o 7 i (by omega)).1, (o 8 i (by omega)).2⟩) ((o 39 11 (by omega)).1.trans h1.2.2.2), ⟨rfl, rfl, h30, by decide, rfl⟩, ⟨trivial, rfl, Nat.le_refl _⟩, ?_, tyC_fr h2 (fun c i hc => (o c i (by have := csy_lo hc; omega)).1), ⟨?_, Nat.zero_le _, fun l hl => absurd hl (Nat.not_lt_zero l)⟩, cNd_cong h3 (o 18 10 (by omega)).1 (fun c j c1 c2 => o c j (by omega)), ?_⟩, ?_, by decide, rfl, rfl, ?_⟩
  · rw [show oE cl0 ((a + 1, (none : Option Nat), lc0, t) : PS).2.1 = cl0 from oE_none cl0]
    exact cCl_cong hcl (o 4 0 (by omega)).1 (o 4 1 (by omega)).1
  · show (dBeg u D.length v p).1 35 D.length = ie 0
    unfold dBeg; simp [wi_1]; rfl
  · obtain ⟨b1, b2, b3, b4, b5, b6⟩ := h4
    obtain ⟨x1, x2, x3⟩ := b1
    obtain ⟨z1, z2, z3⟩ := b3
    obtain ⟨q1, q2, q3⟩ := b6
    refine ⟨⟨x1, x2, (o 39 10 (by omega)).1.trans x3⟩, ⟨0, by omega, rfl⟩, ⟨z1, z2, (o 18 10 (by omega)).1.trans z3⟩, ⟨D.length + 1, by omega, rfl⟩, fun k hk => ?_, ⟨q1, q2, (o 5 5 (by omega)).1.trans q3⟩⟩
    by_cases hkd : k = D.length
    · refine ⟨0, by omega, ?_⟩
      rw [hkd]; unfold dBeg; simp [wi_1]; rfl
    · obtain ⟨b, hb1, hb2⟩ := b5 k hk
      exact ⟨b, hb1, (o 35 k (by omega)).1.trans hb2⟩
  · rw [(o 38 _ (by omega)).1, h38 _ (by omega) (by omega)]; rfl
  · intro k k1 k2
    rw [(o 38 _ (by omega)).1, h38 _ (by omega) (by omega)]
theorem c_def {T : List Tok} {n : Nat} {D : List Df} {a : Nat} {t : Tr} {g : pm_s} {u : pm_J} {Y : List Ty} (N : Nat) (hN : 100000 ≤ N) (hG : tkG T) (h : cQ T n D a t g u Y) (ha : a ≤ T.length) (hY : Y.length + (T.length - a) ≤ 60000) (hnn : t.1 ≤ 2 * a) :
    ∃ (g' : pm_s) (v : pm_J), F_Parser_readDef N g u = some ((), g', v) ∧ fr cS_Q u v ∧ gL g g' ∧
      (match pDef T D.length a t with
       | .error q => fl T n q g' v
       | .ok q => ∃ Z : List Ty, cQ T n (D ++ [q.1]) q.2.1 q.2.2 g' v (Y ++ Z) ∧ Y.length + Z.length ≤ Y.length + (q.2.1 - a) ∧ a < q.2.1 ∧ q.2.1 ≤ T.length ∧ q.2.2.1 ≤ 2 * q.2.1) := by
  obtain ⟨h1, h2, h3, h4, ⟨h5, h30⟩, h6, h7, h8⟩ := h
  have h9 := h1.2.1.2.1
  have hgI := h2.2.2.1
  have k1 : (ie (tkK T a : Int) = 1) ↔ tkK T a = 1 := kq (hG.1 a) 1 (by omega)
  have tell : ∀ q, 1 ≤ q → q ≤ 7 → F_Fault_tell_3 (ie (q : Nat)) (ie (tkP T n a)) g u = some (cTell u q (tkP T n a)) ∧ fl T n (q, a) g (cTell u q (tkP T n a)) := by
    intro q q1 q7
    obtain ⟨x1, x2⟩ := k_tell (T := T) (n := n) h1.1 q a q1 q7 g
    exact ⟨x1, x2, cBI_wi _ _ _ _ (cBI_wi _ _ _ _ h4 (by omega)) (by omega), Y, tyC_fr (tyC_fr h2 (wi_csy _ _ _ _ (by omega))) (wi_csy _ _ _ _ (by omega))⟩
  unfold F_Parser_readDef pDef
  rw [k_kind h1 ha g, Option.bind_some]
  simp only [k1]
  by_cases e1 : tkK T a = 1
  · have hlt := tkK_lt (show tkK T a ≠ 0 by omega)
    rw [if_pos e1, if_pos e1]
    unfold F_Table_size
    rw [Option.bind_some, h5]
    by_cases e30 : D.length = 30
    · rw [if_pos e30, if_neg (show ¬ (ie (D.length : Int) < 30) from fun hh => by have := (inlt _ 30 (by omega) (by omega)).mp hh; omega), k_here h1 ha g, Option.bind_some]
      obtain ⟨x1, x2⟩ := tell 4 (by omega) (by omega)
      have x1' : F_Fault_tell_3 4 (ie (tkP T n a)) g u = some (cTell u 4 (tkP T n a)) := x1
      have x2' : fl T n (4, a) g (cTell u 4 (tkP T n a)) := x2
      unfold K_Parser_readDef_32
      rw [x1', Option.bind_some, f_expect x2'.1 x2'.2.1 1 (by decide) g, Option.bind_some, f_told x2'.1 g, Option.bind_some, if_neg (show ¬ ((1 : Int32) = 0) by decide), pmS_some _ _ _ _ (Nat.le_refl _) (Nat.le_refl _)]
      exact ⟨g, _, rfl, fr_TQ (frT_tell u _ _), gL_refl hgI, x2'⟩
    · rw [if_neg e30, if_pos (show ie (D.length : Int) < 30 from (inlt _ 30 (by omega) (by omega)).mpr (by omega))]
      unfold K_Parser_readDef_32
      have hx : F_Parser_expect 1 g u = some (wi u 39 11 (ie ((a + 1 : Nat) : Int))) := by
        unfold F_Parser_expect
        rw [k_kind h1 ha g, Option.bind_some, if_pos (k1.mpr e1), h1.2.2.2, iadd1]
      have hTk : cTk T n (a + 1) (wi u 39 11 (ie ((a + 1 : Nat) : Int))) := cTk_at h1 rfl (fun _ => rfl) (fun _ => ⟨rfl, rfl, rfl⟩) rfl
      have hfind : F_Table_find N (tkV T a) g (wi u 39 11 (ie ((a + 1 : Nat) : Int))) = some (ie (fDef T (tkV T a) D 0)) := by
        unfold F_Table_find
        have := c_tfind (n := n) (Y := Y) N g (tkV T a) D (u := wi u 39 11 (ie ((a + 1 : Nat) : Int))) h5 h30 (fun i x hi => (h6 i x hi).1) D.length N 0 (by omega) (by omega)
        exact this
      rw [hx, Option.bind_some, c_told0 _ g hTk.1, Option.bind_some, if_pos (show ie 0 = 0 from rfl), h1.2.2.2, k_value hTk.2.1 (by omega) g, Option.bind_some, hfind, Option.bind_some]
      have hdup : ∃ w, (if ie (fDef T (tkV T a) D 0) = (-1) then K_Parser_readDef_88 N (ie a) g (wi u 39 11 (ie ((a + 1 : Nat) : Int))) else (F_Tokens_placeOf (ie a) g (wi u 39 11 (ie ((a + 1 : Nat) : Int)))).bind fun q33 => (F_Fault_tell_4 5 q33 g (wi u 39 11 (ie ((a + 1 : Nat) : Int)))).bind fun q34 => K_Parser_readDef_88 N (ie a) g q34) = K_Parser_readDef_88 N (ie a) g w ∧ fr cS_T u w ∧ cTk T n (a + 1) w ∧ tyC g w Y ∧ cNd T n w t ∧ cBI w ∧ (∀ c i, 29 ≤ c → c ≤ 38 → w.1 c i = u.1 c i ∧ w.2 c i = u.2 c i) ∧ cCl T n (oE (clash T [] D) (if (D.any fun y => tkV T y.1 == tkV T a) = true then some a else none)) w := by
        have hrg := fDef_rg T (tkV T a) D 0
        have hany := fDef_any T (tkV T a) D 0
        have hty := tyC_fr h2 (wi_csy u 39 11 (ie ((a + 1 : Nat) : Int)) (by omega))
        have hnd := cNd_cong (v := wi u 39 11 (ie ((a + 1 : Nat) : Int))) h3 rfl (fun c j c1 c2 => ⟨by rw [wi_1, if_neg (by omega)], rfl⟩)
        have hbi := cBI_wi u 39 11 (ie ((a + 1 : Nat) : Int)) h4 (by omega)
        have hcl := cCl_cong (v := wi u 39 11 (ie ((a + 1 : Nat) : Int))) h8 rfl rfl
        have hfr : fr cS_T u (wi u 39 11 (ie ((a + 1 : Nat) : Int))) := fr_wi _ _ _ _ _ _ rfl (fr_refl _ _)
        have hcells : ∀ c i, 29 ≤ c → c ≤ 38 → (wi u 39 11 (ie ((a + 1 : Nat) : Int))).1 c i = u.1 c i ∧ (wi u 39 11 (ie ((a + 1 : Nat) : Int))).2 c i = u.2 c i := fun c i c1 c2 => ⟨by rw [wi_1, if_neg (by omega)], rfl⟩
        generalize wi u 39 11 (ie ((a + 1 : Nat) : Int)) = u1 at hTk hty hnd hbi hcl hfr hcells
        by_cases hd : fDef T (tkV T a) D 0 = -1
        · have hna : ¬ ((D.any fun y => tkV T y.1 == tkV T a) = true) := fun hh => (hany.mp hh) hd
          rw [hd, if_pos (show ie (-1) = -1 from rfl)]
          refine ⟨u1, rfl, hfr, hTk, hty, hnd, hbi, hcells, ?_⟩
          rw [if_neg hna, oE_none]; exact hcl
        · have hya : (D.any fun y => tkV T y.1 == tkV T a) = true := hany.mpr hd
          have hne : ¬ (ie (fDef T (tkV T a) D 0) = -1) := fun hh => hd (ie_inj (show ie (fDef T (tkV T a) D 0) = ie (-1) from hh) (by omega) (by omega) (by omega) (by omega))
          rw [if_neg hne, k_place hTk.2.1 hTk.2.2.1 (by omega) g, Option.bind_some, if_pos hya]
          unfold F_Fault_tell_4
          cases hc : clash T [] D with
          | none =>
            rw [hc] at hcl
            rw [if_pos (show u1.1 4 0 = 0 from hcl), Option.bind_some]
            refine ⟨_, rfl, fr_wi _ _ _ _ _ _ rfl (fr_wi _ _ _ _ _ _ rfl hfr), cTk_at hTk rfl (fun _ => rfl) (fun _ => ⟨rfl, rfl, rfl⟩) hTk.2.2.2, tyC_fr (tyC_fr hty (wi_csy _ _ _ _ (by omega))) (wi_csy _ _ _ _ (by omega)), cNd_cong hnd rfl (fun c j c1 c2 => ⟨by rw [wi_1, if_neg (by omega), wi_1, if_neg (by omega)], rfl⟩), cBI_wi _ _ _ _ (cBI_wi _ _ _ _ hbi (by omega)) (by omega), ?_, ⟨rfl, rfl⟩⟩
            intro c i c1 c2
            refine ⟨?_, (hcells c i c1 c2).2⟩
            rw [wi_1, if_neg (by omega), wi_1, if_neg (by omega)]; exact (hcells c i c1 c2).1
          | some x =>
            rw [hc] at hcl
            rw [if_neg (show ¬ (u1.1 4 0 = 0) by rw [hcl.1]; decide), Option.bind_some]
            exact ⟨u1, rfl, hfr, hTk, hty, hnd, hbi, hcells, hcl⟩
      obtain ⟨w, w1, w2, w3, w4, w5, w6, w7, w8⟩ := hdup
      rw [w1, c_88 N a ((w7 29 9 (by omega) (by omega)).1.trans h5) (by omega) w3.2.1 w3.2.2.1 (by omega)]
      have hP := cP_beg (D := D) (t := t) a (oE (clash T [] D) (if (D.any fun y => tkV T y.1 == tkV T a) = true then some a else none)) w3 w4 w5 w6 (by omega) (fun i i1 i2 => (w7 38 i (by omega) (by omega)).1.trans (h7 i i1 i2)) w8 (tkV T a) (ie (tkP T n a : Nat))
      have o := dBeg_o w D.length (tkV T a) (ie (tkP T n a : Nat))
      have fr0 : fr cS_Q u (dBeg w D.length (tkV T a) (ie (tkP T n a : Nat))) := by
        unfold dBeg
        exact frQ_wi _ _ _ (by omega) (frQ_wi _ _ _ (by omega) (frQ_wi _ _ _ (by omega) (frQ_wi _ _ _ (by omega) (frQ_wi _ _ _ (by omega) (frQ_wi _ _ _ (by omega) (frQ_wi _ _ _ (by omega) (frQ_wi _ _ _ (by omega) (frQ_wi _ _ _ (by omega) (frQ_wj _ _ _ (by omega) (fr_TQ w2))))))))))
      have b30 : (dBeg w D.length (tkV T a) (ie (tkP T n a : Nat))).2 30 D.length = tkV T a := by unfold dBeg; simp [wi_2, wj_2]
      have b31 : (dBeg w D.length (tkV T a) (ie (tkP T n a : Nat))).1 31 D.length = ie (tkP T n a : Nat) := by unfold dBeg; simp [wi_1]
      have hold : ∀ (i : Nat) (x : Df), D[i]? = some x → cDf T n (dBeg w D.length (tkV T a) (ie (tkP T n a : Nat))) Y i x := by
        intro i x hi
        have hil := (List.getElem?_eq_some_iff.mp hi).1
        have pu_W : ∀ c j, ((30 ≤ c ∧ c ≤ 35) ∧ j ≠ D.length) ∨ (36 ≤ c ∧ c ≤ 38) → (dBeg w D.length (tkV T a) (ie (tkP T n a : Nat))).1 c j = u.1 c j ∧ (dBeg w D.length (tkV T a) (ie (tkP T n a : Nat))).2 c j = u.2 c j := by
          intro c j hc
          have e1 := o c j (by omega)
          have e2 := w7 c j (by omega) (by omega)
          exact ⟨e1.1.trans e2.1, e1.2.trans e2.2⟩
        obtain ⟨a1, a2, ⟨k, a3, a4⟩, a5, a6, a7, a8, a9, a10⟩ := h6 i x hi
        refine ⟨(pu_W 30 i (by omega)).2.trans a1, (pu_W 31 i (by omega)).1.trans a2, ⟨k, (pu_W 32 i (by omega)).1.trans a3, a4⟩, (pu_W 33 i (by omega)).1.trans a5, (pu_W 34 i (by omega)).1.trans a6, cLoc_c0 a7 (pu_W 35 i (by omega)).1 (fun l hl => ⟨(pu_W 36 _ (by omega)).1, (pu_W 37 _ (by omega)).1⟩), (pu_W 38 _ (by omega)).1.trans a8, (pu_W 38 _ (by omega)).1.trans a9, fun k k2 k6 => (pu_W 38 _ (by omega)).1.trans (a10 k k2 k6)⟩
      have hz : ∀ i, (D.length + 1) * 6 ≤ i → i < 180 → (dBeg w D.length (tkV T a) (ie (tkP T n a : Nat))).1 38 i = ie 0 := by
        intro i i1 i2
        rw [(o 38 i (by omega)).1, (w7 38 i (by omega) (by omega)).1]; exact h7 i (by omega) i2
      generalize dBeg w D.length (tkV T a) (ie (tkP T n a : Nat)) = u2 at hP fr0 b30 b31 hold hz
      obtain ⟨g1, v1, y1, y2, y3, y4⟩ := c_pars N hN hG 6 N 0 [] [] (a + 1, none, lc0, t) g u2 Y rfl (by omega) (by omega) hP (by show a + 1 ≤ _; omega) (by show _ + (T.length - (a + 1)) ≤ _; omega)
      have hd30 : D.length < 30 := by omega
      cases hp : pPar T 6 [] [] (a + 1, none, lc0, t) with
      | error q =>
        rw [hp] at y4
        obtain ⟨y5, y6⟩ := y4
        obtain ⟨g2, v2, z1, z2, z3, z4⟩ := f_157 N hN hd30 y6 y5
        have hall := y1 g2 v2 z1 z4.2.1 z4.2.2.1
        have hall' : K_Parser_readDef_127 N N 0 g u2 = some ((), g2, v2) := hall
        have gl := gL_trans y3 z4
        rw [hall', pmS_some _ _ _ _ gl.2.1 gl.2.2.1]
        exact ⟨g2, v2, rfl, fr_trans fr0 (fr_trans (fr_DQ y2) (fr_DQ z3)), gl, z2⟩
      | ok p =>
        rw [hp] at y4
        obtain ⟨Z, y5, y6, y7, y8, y9⟩ := y4
        have y6' : Y.length + Z.length ≤ Y.length + (p.2.2.1 - (a + 1)) := y6
        have y7' : a + 1 ≤ p.2.2.1 := y7
        have y9' : p.2.2.2.2.2 = t := y9
        have b30' : v1.2 30 D.length = tkV T a := (frD_row y2 30 D.length (by omega)).2.trans b30
        have b31' : v1.1 31 D.length = ie (tkP T n a : Nat) := (frD_row y2 31 D.length (by omega)).1.trans b31
        obtain ⟨g2, v2, z1, z2, z3, z4⟩ := c_157 N hN hG a y5 y8 (by rw [List.length_append]; omega) (by rw [y9']; omega) b30' b31'
        have hall := y1 g2 v2 z1 z3.2.1 z3.2.2.1
        have hall' : K_Parser_readDef_127 N N 0 g u2 = some ((), g2, v2) := hall
        have gl := gL_trans y3 z3
        rw [hall', pmS_some _ _ _ _ gl.2.1 gl.2.2.1]
        have frD := fr_trans y2 z2
        refine ⟨g2, v2, rfl, fr_trans fr0 (fr_DQ frD), gl, ?_⟩
        rw [pB_o]
        have he : (pB (pX T 17 p.2.2) fun x => pB (pTy T 20 x.1 0) fun y => pB (pX T 18 (sAt (sWr x (oE x.2.1 (badL T (pmM p.2.1) x.1 (y.2.1 - x.1)))) y.2.1)) fun z => pB (pE T D.length (pmM p.2.1) 20 p.1 z) fun q => pB (pX T 19 q.2) fun w => (.ok ((a, p.2.1, y.1, q.1, t.1, w.2.1, w.2.2.1), w.1, w.2.2.2) : PE (Df × Nat × Tr))) = (pB (pX T 17 p.2.2) fun x => pB (pTy T 20 x.1 0) fun y => pB (pX T 18 (sAt (sWr x (oE x.2.1 (badL T (pmM p.2.1) x.1 (y.2.1 - x.1)))) y.2.1)) fun z => pB (pE T D.length (pmM p.2.1) 20 p.1 z) fun q => pB (pX T 19 q.2) fun w => (.ok ((a, p.2.1, y.1, q.1, p.2.2.2.2.2.1, w.2.1, w.2.2.1), w.1, w.2.2.2) : PE (Df × Nat × Tr))) := by rw [y9']
        rw [he]
        cases hr : (pB (pX T 17 p.2.2) fun x => pB (pTy T 20 x.1 0) fun y => pB (pX T 18 (sAt (sWr x (oE x.2.1 (badL T (pmM p.2.1) x.1 (y.2.1 - x.1)))) y.2.1)) fun z => pB (pE T D.length (pmM p.2.1) 20 p.1 z) fun q => pB (pX T 19 q.2) fun w => (.ok ((a, p.2.1, y.1, q.1, p.2.2.2.2.2.1, w.2.1, w.2.2.1), w.1, w.2.2.2) : PE (Df × Nat × Tr))) with
        | error e' => rw [hr] at z4; exact z4
        | ok q =>
          rw [hr] at z4
          obtain ⟨Z2, m', ⟨sc', wr, x1, x2⟩, x3, x4, x5, x6, x7⟩ := z4
          have hq1 : q.1.1 = a := by
            obtain ⟨_, _, hr⟩ := pB_ok hr
            obtain ⟨_, _, hr⟩ := pB_ok hr
            obtain ⟨_, _, hr⟩ := pB_ok hr
            obtain ⟨_, _, hr⟩ := pB_ok hr
            obtain ⟨_, _, hr⟩ := pB_ok hr
            cases hr; rfl
          refine ⟨Z ++ Z2, ⟨x1.1, by rw [← List.append_assoc]; exact x1.2.2.2.2.1, x1.2.2.2.2.2.2.1, x1.2.2.2.2.2.2.2, ⟨?_, by rw [List.length_append]; show D.length + 1 ≤ 30; omega⟩, ?_, ?_, ?_⟩, ?_, by omega, x6, x7⟩
          · rw [List.length_append]; exact x1.2.1.2.2.2.2
          · intro i x hi
            rcases getE_app hi with ⟨hlt2, hi⟩ | ⟨rfl, rfl⟩
            · exact cDf_fr (Z ++ Z2) hlt2 (hold i x hi) frD
            · rw [← List.append_assoc]; exact x3
          · intro i i1 i2
            rw [List.length_append] at i1
            have i1' : (D.length + 1) * 6 ≤ i := i1
            rw [(frD_row frD 38 i (by omega)).1]; exact hz i i1' i2
          · rw [clash_app, ← x2, List.nil_append, hq1]
            have := x1.2.2.2.1
            by_cases hya : (D.any fun y => tkV T y.1 == tkV T a) = true
            · rw [if_pos hya] at this ⊢
              have hh : oE (oE (clash T [] D) (some a)) wr = oE (clash T [] D) (some a) := by rw [oE_assoc]; rfl
              rw [show ((q.2.1, wr, q.1.2.2.2.2.2.2, q.2.2) : PS).2.1 = wr from rfl, hh] at this
              exact this
            · rw [if_neg hya] at this ⊢
              rw [show ((q.2.1, wr, q.1.2.2.2.2.2.2, q.2.2) : PS).2.1 = wr from rfl, oE_none] at this
              exact this
          · rw [List.length_append] at x4 ⊢; omega
  · rw [if_neg e1, if_neg e1]
    unfold K_Parser_readDef_32
    have hx : F_Parser_expect 1 g u = some (cTell u 2 (tkP T n a)) := by
      obtain ⟨x1, x2⟩ := tell 2 (by omega) (by omega)
      have x1' : F_Fault_tell_3 2 (ie (tkP T n a)) g u = some (cTell u 2 (tkP T n a)) := x1
      unfold F_Parser_expect
      rw [k_kind h1 ha g, Option.bind_some, if_neg (fun hh => e1 (k1.mp hh)), k_here h1 ha g, Option.bind_some, x1', Option.bind_some]
    obtain ⟨x1, x2⟩ := tell 2 (by omega) (by omega)
    have x2' : fl T n (2, a) g (cTell u 2 (tkP T n a)) := x2
    rw [hx, Option.bind_some, f_told x2'.1 g, Option.bind_some, if_neg (show ¬ ((1 : Int32) = 0) by decide), pmS_some _ _ _ _ (Nat.le_refl _) (Nat.le_refl _)]
    exact ⟨g, _, rfl, fr_TQ (frT_tell u _ _), gL_refl hgI, x2'⟩
