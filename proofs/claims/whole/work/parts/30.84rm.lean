set_option maxRecDepth 100000
def rSMp (c i : Nat) : Prop := (c = 64 ∧ (i = 2 ∨ i = 3 ∨ i = 4 ∨ i = 5 ∨ i = 10 ∨ i = 18 ∨ i = 33 ∨ i = 44 ∨ i = 45 ∨ i = 46 ∨ i = 51 ∨ i = 52 ∨ i = 56 ∨ i = 58 ∨ i = 60 ∨ i = 61 ∨ i = 62 ∨ i = 63 ∨ i = 64 ∨ i = 67 ∨ i = 69)) ∨ (66 ≤ c ∧ c ≤ 112)
def frM (u v : pm_J) : Prop := ∀ c i, ¬ rSMp c i → v.1 c i = u.1 c i ∧ v.2 c i = u.2 c i
theorem frM_t {u v w : pm_J} (h : frM u v) (h' : frM v w) : frM u w := fun c i hc => ⟨(h' c i hc).1.trans (h c i hc).1, (h' c i hc).2.trans (h c i hc).2⟩
theorem frM_wi {u v : pm_J} (h : frM u v) (a k : Nat) (x : Int32) (ha : rSMp a k) : frM u (wi v a k x) := fun c i hc => ⟨(wi_ne _ _ _ _ _ _ (fun hh => hc (by rw [hh.1, hh.2]; exact ha))).trans (h c i hc).1, (h c i hc).2⟩
theorem frM_r (u : pm_J) : frM u u := fun _ _ _ => ⟨rfl, rfl⟩
theorem frM_Q {u v : pm_J} (h : frQ u v) : frM u v := fun c i hc => h c i (by unfold rSMp at hc; unfold rSTp; omega) (by unfold rSMp at hc; omega)
theorem frM_P {u v : pm_J} (h : frP u v) : frM u v := fun c i hc => h c i (by unfold rSMp at hc; unfold rSTp; omega)
theorem frM_D {u v : pm_J} (h : fr rS_D u v) : frM u v := fun c i hc => h c i (rSD_no (by unfold rSMp at hc; unfold rSDp; omega))
theorem frM_s {u v : pm_J} (h : fr rS_t u v) : frM u v := fun c i hc => h c i (by
  cases hb : rS_t c i with
  | false => rfl
  | true =>
    exfalso
    unfold rSMp at hc
    unfold rS_t at hb
    simp only [Bool.or_eq_true, Bool.and_eq_true, Nat.beq_eq] at hb
    omega)
def rKp (c i : Nat) : Prop := (c = 64 ∧ (i = 1 ∨ i = 4 ∨ i = 5 ∨ i = 10 ∨ i = 18 ∨ i = 33 ∨ i = 44)) ∨ (65 ≤ c ∧ c ≤ 112)
theorem rC_cg {T : List Tok} {n : Nat} {D : List Df} {t : Tr} {c : CS} {w : Nat → Option Ty} {u v : pm_J} {Y : List Ty} (H : rC T n D t c w u Y) (hv : ∀ c i, rKp c i → v.1 c i = u.1 c i ∧ v.2 c i = u.2 c i) : rC T n D t c w v Y := by
  obtain ⟨h1, ⟨h2, hG, o, ho, hx, hok⟩, h3, h4, h5, h6, h7⟩ := H
  have e : ∀ c i, 65 ≤ c → c ≤ 112 → v.1 c i = u.1 c i := fun c i h1 h2 => (hv c i (by unfold rKp; omega)).1
  have s : ∀ i, (i = 1 ∨ i = 4 ∨ i = 5 ∨ i = 10 ∨ i = 18 ∨ i = 33 ∨ i = 44) → v.1 64 i = u.1 64 i := fun i h => (hv 64 i (by unfold rKp; omega)).1
  refine ⟨(s _ (by omega)).trans h1, ⟨rK_fr h2 (s _ (by omega)) (fun c i h1 h2 => hv c i (by unfold rKp; omega)) (r5_e (s _ (by omega)) (s _ (by omega))), hG, o, ho, ⟨(s _ (by omega)).trans hx.1, fun i hi => (e _ _ (by omega) (by omega)).trans (hx.2 i hi)⟩, hok⟩, ⟨(s _ (by omega)).trans h3.1, h3.2⟩, ⟨(s _ (by omega)).trans h4.1, h4.2⟩, tyR_w h5 (s _ (by omega)) (fun c i h1 h2 => e _ _ (by omega) (by omega)), fun i x hi => ?_, fun j hj => ?_⟩
  · obtain ⟨⟨a1, ⟨b1, b2, b3⟩, a3, a4, a5, a6⟩, a7⟩ := h6 i x hi
    refine ⟨⟨?_, ⟨?_, b2, fun j y hj => ?_⟩, ?_, ?_, ?_, ?_⟩, fun l hl => ?_⟩
    · rw [e _ _ (by omega) (by omega)]; exact a1
    · rw [e _ _ (by omega) (by omega)]; exact b1
    · rw [e _ _ (by omega) (by omega), e _ _ (by omega) (by omega)]; exact b3 j y hj
    · rw [e _ _ (by omega) (by omega)]; exact a3
    · rw [e _ _ (by omega) (by omega)]; exact a4
    · rw [e _ _ (by omega) (by omega)]; exact a5
    · rw [e _ _ (by omega) (by omega)]; exact a6
    · rw [e _ _ (by omega) (by omega)]; exact a7 l hl
  · unfold rCe
    rw [e 77 _ (by omega) (by omega), e 78 _ (by omega) (by omega), e 79 _ (by omega) (by omega), e 80 _ (by omega) (by omega), e 81 _ (by omega) (by omega), e 82 _ (by omega) (by omega), e 83 _ (by omega) (by omega), e 84 _ (by omega) (by omega), e 86 _ (by omega) (by omega), e 112 _ (by omega) (by omega), e 87 _ (by omega) (by omega), e 88 _ (by omega) (by omega), e 89 _ (by omega) (by omega)]
    obtain ⟨b1, b2, b3, b4, b5, b6, b7, b8, b9, b10, b11, b12, b13, b14⟩ := h7 j hj
    exact ⟨b1, b2, b3, b4, b5, b6, b7, b8, b9, b10, b11, b12, b13, fun l hl => by rw [e _ _ (by omega) (by omega)]; exact b14 l hl⟩
def rCp (n : Nat) (r : Sum (Nat × Nat) (List Tok × List Df × Tr × CS)) (v : pm_J) : Prop := v.1 64 2 = ie 0 ∧ rBs v ∧ match r with
  | .inl q => v.1 64 3 = ie 0 ∧ v.1 64 44 = ie 0 ∧ v.1 64 4 = ie (q.1 : Nat) ∧ v.1 64 5 = ie (q.2 : Nat)
  | .inr q => v.1 64 3 = ie 1 ∧ v.1 64 5 = ie (-1) ∧ ∃ Y, rC q.1 n q.2.1 q.2.2.1 q.2.2.2 q.2.2.2.1 v Y
theorem r_54 {N : Nat} {g : pm_s} {u : pm_J} (q : Nat × Nat) (h4 : u.1 64 4 = ie (q.1 : Nat)) : K_Md_compile_54 N g 0 u = some (- ie (q.1 : Nat), wi (wi u 64 3 0) 64 44 0) := by
  unfold K_Md_compile_54
  rw [if_pos (by decide), if_pos rfl, h4]
theorem rCp_l {n : Nat} {q : Nat × Nat} {u : pm_J} (h2 : u.1 64 2 = ie 0) (hb : rBs u) (h4 : u.1 64 4 = ie (q.1 : Nat)) (h5 : u.1 64 5 = ie (q.2 : Nat)) : rCp n (.inl q) (wi (wi u 64 3 0) 64 44 0) := by
  refine ⟨by rw [wi_ne _ _ _ _ _ _ (by omega), wi_ne _ _ _ _ _ _ (by omega)]; exact h2, fun k hk => ?_, ?_, ?_, ?_, ?_⟩
  · rw [wi_ne _ _ _ _ _ _ (by omega), wi_ne _ _ _ _ _ _ (by omega), wi_ne _ _ _ _ _ _ (by omega), wi_ne _ _ _ _ _ _ (by omega)]; exact hb k hk
  · rw [wi_ne _ _ _ _ _ _ (by omega), wi_at]; rfl
  · rw [wi_at]; rfl
  · rw [wi_ne _ _ _ _ _ _ (by omega), wi_ne _ _ _ _ _ _ (by omega)]; exact h4
  · rw [wi_ne _ _ _ _ _ _ (by omega), wi_ne _ _ _ _ _ _ (by omega)]; exact h5
theorem frM_54 {u v : pm_J} (h : frM u v) : frM u (wi (wi v 64 3 0) 64 44 0) := frM_wi (frM_wi h _ _ _ (by unfold rSMp; omega)) _ _ _ (by unfold rSMp; omega)
theorem r_comp {o : Nat → Int} {n : Nat} {u : pm_J} (g : pm_s) (ho : tx_o o n) (hu : rTx o n u) (hb : rBs u) (hgd : gdS (cmpS o n)) : ∃ (v : pm_J) (n0 : Nat), (∀ N, n0 ≤ N → F_Md_compile N g u = some (retS (cmpS o n), v)) ∧ frM u v ∧ rCp n (cmpS o n) v := by
  have hn := ho.1
  let u0 : pm_J := wi (wi (wi (wi u 64 2 0) 64 4 0) 64 5 (-1)) 64 44 0
  have f0 : frM u u0 := frM_wi (frM_wi (frM_wi (frM_wi (frM_r u) _ _ _ (by unfold rSMp; omega)) _ _ _ (by unfold rSMp; omega)) _ _ _ (by unfold rSMp; omega)) _ _ _ (by unfold rSMp; omega)
  have e2 : u0.1 64 2 = ie 0 := by
    show (wi (wi (wi (wi u 64 2 0) 64 4 0) 64 5 (-1)) 64 44 0).1 64 2 = _
    rw [wi_ne _ _ _ _ _ _ (by omega), wi_ne _ _ _ _ _ _ (by omega), wi_ne _ _ _ _ _ _ (by omega), wi_at]; rfl
  have e4 : u0.1 64 4 = ie 0 := by
    show (wi (wi (wi (wi u 64 2 0) 64 4 0) 64 5 (-1)) 64 44 0).1 64 4 = _
    rw [wi_ne _ _ _ _ _ _ (by omega), wi_ne _ _ _ _ _ _ (by omega), wi_at]; rfl
  have e5 : u0.1 64 5 = ie (-1) := by
    show (wi (wi (wi (wi u 64 2 0) 64 4 0) 64 5 (-1)) 64 44 0).1 64 5 = _
    rw [wi_ne _ _ _ _ _ _ (by omega), wi_at]; rfl
  have en : ∀ c i, c ≠ 64 → u0.1 c i = u.1 c i := fun c i hc => by
    show (wi (wi (wi (wi u 64 2 0) 64 4 0) 64 5 (-1)) 64 44 0).1 c i = _
    rw [wi_ne _ _ _ _ _ _ (by omega), wi_ne _ _ _ _ _ _ (by omega), wi_ne _ _ _ _ _ _ (by omega), wi_ne _ _ _ _ _ _ (by omega)]
  have hx0 : rTx o n u0 := ⟨(f0 64 1 (by unfold rSMp; omega)).1.trans hu.1, fun i hi => (en _ _ (by omega)).trans (hu.2 i hi)⟩
  have hb0 : rBs u0 := fun k hk => by rw [en _ _ (by omega), en _ _ (by omega)]; exact hb k hk
  obtain ⟨v1, s1, s2⟩ := r_scanU g u0 ho hx0 e4
  have fs : frM u v1 := frM_t f0 (frM_s s2)
  have st : ∀ c i, ¬ (c = 64 ∧ (i = 4 ∨ i = 5 ∨ i = 10 ∨ i = 45 ∨ i = 46)) → ¬ (66 ≤ c ∧ c ≤ 69) → v1.1 c i = u0.1 c i := fun c i h1 h2 => (s2 c i (by
    cases hb' : rS_t c i with
    | false => rfl
    | true =>
      exfalso
      unfold rS_t at hb'
      simp only [Bool.or_eq_true, Bool.and_eq_true, Nat.beq_eq] at hb'
      omega)).1
  have hb1 : rBs v1 := fun k hk => by rw [st _ _ (by omega) (by omega), st _ _ (by omega) (by omega)]; exact hb0 k hk
  have e21 : v1.1 64 2 = ie 0 := (st _ _ (by omega) (by omega)).trans e2
  have hst : ∀ N, F_Md_compile N g u = (F_Md_scan N g u0).bind fun q1 => if q1.1 = 0 then K_Md_compile_54 N g 0 q1.2 else (F_Md_readAll N g q1.2).bind fun q6 => if q6.1 = 0 then K_Md_compile_54 N g 0 q6.2 else (F_Md_names N g q6.2).bind fun q8 => if q8.1 = 0 then K_Md_compile_54 N g 0 q8.2 else (F_Md_typeAll N g q8.2).bind fun q10 => if q10.1 = 0 then K_Md_compile_54 N g 0 q10.2 else K_Md_compile_54 N g 1 q10.2 := fun N => rfl
  cases hsc : scS o n 3001 0 [] with
  | inl p =>
    have hres : cmpS o n = .inl (1, p) := by unfold cmpS; rw [hsc]
    rw [hres]
    rw [hsc] at s1
    refine ⟨_, 10000, fun N hN => ?_, frM_54 fs, rCp_l (q := (1, p)) e21 hb1 s1.2.1 s1.2.2⟩
    rw [hst, s1.1 N hN, Option.bind_some, if_pos (show ib false = 0 from rfl), r_54 (1, p) s1.2.1]; rfl
  | inr T =>
    rw [hsc] at s1
    have hok := scS_ok o n 3001 0 [] T (fun t ht => (by cases ht)) hsc
    have hG := tkG_of hok
    obtain ⟨s1, t1, t2, t3, t4, t5⟩ := s1
    have hK : rK T n v1 := ⟨t1, t2, t3, fun _ => t5.trans e5⟩
    have hx1 : rTx o n v1 := ⟨(st _ _ (by omega) (by omega)).trans hx0.1, fun i hi => (st _ _ (by omega) (by omega)).trans (hx0.2 i hi)⟩
    have hC : ∀ d, rCn (T, n, d, v1) := fun d => ⟨hG, o, ho, hx1, hok⟩
    obtain ⟨q, n1, z1, z2⟩ := z_readAll g hC hK t4 hb1
    have hr1 : cmpS o n = match pProg T 31 [] 0 tr0 with
      | .error q => .inl (q.1, tkP T n q.2)
      | .ok q => match clash T [] q.1 with
        | some w => .inl (5, tkP T n w)
        | none => match ckA T q.1 q.2 q.1 cs0 with
          | .error f => .inl (f.1, tkP T n f.2)
          | .ok c => .inr (T, q.1, q.2, c) := by unfold cmpS; rw [hsc]; rfl
    have st1 : ∀ N, 10000 ≤ N → n1 ≤ N → F_Md_compile N g u = if q.1 = 0 then K_Md_compile_54 N g 0 q.2 else (F_Md_names N g q.2).bind fun q8 => if q8.1 = 0 then K_Md_compile_54 N g 0 q8.2 else (F_Md_typeAll N g q8.2).bind fun q10 => if q10.1 = 0 then K_Md_compile_54 N g 0 q10.2 else K_Md_compile_54 N g 1 q10.2 := fun N h1 h2 => by
      have z1' : F_Md_readAll N g v1 = some q := z1 N h2
      rw [hst, s1 N h1, Option.bind_some, if_neg (show ¬ (ib true = 0) by decide)]
      show (F_Md_readAll N g v1).bind _ = _
      rw [z1', Option.bind_some]
    cases hp : pProg T 31 [] 0 tr0 with
    | error e =>
      have hres : cmpS o n = .inl (e.1, tkP T n e.2) := by rw [hr1, hp]
      rw [hres]
      rw [hp] at z2
      obtain ⟨y1, d, ⟨_, y2, _, y3, _, Yy, y4⟩, _, _, y5⟩ := z2
      refine ⟨_, 10000 + n1, fun N hN => ?_, frM_54 (frM_t fs (frM_D y5)), rCp_l (q := (e.1, tkP T n e.2)) ((y5 64 2 (rSD_no (by unfold rSDp; omega))).1.trans e21) (tyR_bs y4) y2 y3⟩
      rw [st1 N (by omega) (by omega), if_pos y1, r_54 (e.1, tkP T n e.2) y2]; rfl
    | ok pd =>
      rw [hp] at z2
      obtain ⟨y1, Y, a, hB⟩ := z2
      have y1n : ¬ (q.1 = 0) := by rw [y1]; decide
      have fB : fr rS_D v1 q.2 := hB.2.2.2.2.2.2.2.2.2.2.1
      have fb2 := frM_t fs (frM_D fB)
      have e22 : q.2.1 64 2 = ie 0 := (fB 64 2 (rSD_no (by unfold rSDp; omega))).1.trans e21
      have hC2 : rC T n pd.1 pd.2 (cz cs0) cs0.1 q.2 Y := rC_0 (hC 0) hB
      obtain ⟨qn, n2, x1, x2⟩ := z_names g hC hB
      have st2 : ∀ N, 10000 ≤ N → n1 ≤ N → n2 ≤ N → F_Md_compile N g u = if qn.1 = 0 then K_Md_compile_54 N g 0 qn.2 else (F_Md_typeAll N g qn.2).bind fun q10 => if q10.1 = 0 then K_Md_compile_54 N g 0 q10.2 else K_Md_compile_54 N g 1 q10.2 := fun N h1 h2 h3 => by
        have x1' : F_Md_names N g q.2 = some qn := x1 N h3
        rw [st1 N h1 h2, if_neg y1n, x1', Option.bind_some]
      cases hcc : clash T [] pd.1 with
      | some w =>
        have hres : cmpS o n = .inl (5, tkP T n w) := by rw [hr1, hp]; show (match clash T [] pd.1 with | some w => _ | none => _) = _; rw [hcc]
        rw [hres]
        rw [hcc] at x2
        have x2' : qn = (0, rFail q.2 5 (tkP T n w)) := x2
        have h4 : (rFail q.2 5 (tkP T n w)).1 64 4 = ie ((5 : Nat) : Int) := by unfold rFail; rw [wi_ne _ _ _ _ _ _ (by omega), wi_at]; rfl
        have h5 : (rFail q.2 5 (tkP T n w)).1 64 5 = ie (tkP T n w : Nat) := by unfold rFail; rw [wi_at]
        refine ⟨_, 10000 + n1 + n2, fun N hN => ?_, frM_54 (u := u) (v := rFail q.2 5 (tkP T n w)) ?_, rCp_l (q := (5, tkP T n w)) (u := rFail q.2 5 (tkP T n w)) ?_ ?_ h4 h5⟩
        · rw [st2 N (by omega) (by omega) (by omega), x2', if_pos rfl, r_54 (5, tkP T n w) h4]; rfl
        · unfold rFail; exact frM_wi (frM_wi fb2 _ _ _ (by unfold rSMp; omega)) _ _ _ (by unfold rSMp; omega)
        · unfold rFail; rw [wi_ne _ _ _ _ _ _ (by omega), wi_ne _ _ _ _ _ _ (by omega)]; exact e22
        · refine tyR_bs (Y := Y) (tyR_w hC2.2.2.2.2.1 ?_ (fun c i h1 h2 => ?_)) <;> (unfold rFail; rw [wi_ne _ _ _ _ _ _ (by omega), wi_ne _ _ _ _ _ _ (by omega)])
      | none =>
        rw [hcc] at x2
        have x2' : qn = (1, q.2) := x2
        obtain ⟨hpW, hkT⟩ := w_all hp
        have h9 := hK.1.2.1
        have hlet := pW_let hpW hcc
        have hI0 : kI0 pd.1 pd.2 (dF pd.1 0) cs0 := ⟨fun i d h => (by cases h), fun i d h => (by cases h), fun j _ => ⟨rfl, rfl, rfl⟩⟩
        have hYl : Y.length ≤ 1000 := by have := hB.2.2.2.2.2.2.1.2; have := hB.2.2.2.1; omega
        obtain ⟨v2, m1, m2⟩ := r_ckA g hpW hlet (by omega) pd.1 0 cs0 q.2 Y rfl (Nat.zero_le _) hC2 hI0 (by omega)
        have hr2 : cmpS o n = match ckA T pd.1 pd.2 pd.1 cs0 with
          | .error f => .inl (f.1, tkP T n f.2)
          | .ok c => .inr (T, pd.1, pd.2, c) := by rw [hr1, hp]; show (match clash T [] pd.1 with | some w => _ | none => _) = _; rw [hcc]
        have st3 : ∀ N, 10000 ≤ N → n1 ≤ N → n2 ≤ N → F_Md_compile N g u = (K_Md_typeAll_2 N g N (ie ((0 : Nat) : Int)) q.2).bind fun q10 => if q10.1 = 0 then K_Md_compile_54 N g 0 q10.2 else K_Md_compile_54 N g 1 q10.2 := fun N h1 h2 h3 => by
          rw [st2 N h1 h2 h3, x2', if_neg (show ¬ ((1 : Int32) = 0) by decide)]; rfl
        have fb3 := frM_t fb2 (frM_Q m1)
        have e23 : v2.1 64 2 = ie 0 := (m1 64 2 (by unfold rSTp; omega) (by omega)).1.trans e22
        have h30 := hB.2.2.2.2.2.1
        cases hA : ckA T pd.1 pd.2 pd.1 cs0 with
        | error f =>
          have hres : cmpS o n = .inl (f.1, tkP T n f.2) := by rw [hr2, hA]
          rw [hres]
          rw [hA] at m2
          obtain ⟨⟨y2, _, y3, Yy, y4⟩, m3⟩ := m2
          refine ⟨_, 200000 + n1 + n2, fun N hN => ?_, frM_54 fb3, rCp_l (q := (f.1, tkP T n f.2)) e23 (tyR_bs y4) y2 y3⟩
          rw [st3 N (by omega) (by omega) (by omega), m3 N (by omega) N (by omega), Option.bind_some, if_pos rfl, r_54 (f.1, tkP T n f.2) y2]; rfl
        | ok c =>
          have hres : cmpS o n = .inr (T, pd.1, pd.2, c) := by rw [hr2, hA]
          rw [hres] at hgd ⊢
          rw [hA] at m2
          obtain ⟨Z, m3, _, m4⟩ := m2
          obtain ⟨_, _, _, g4, g5⟩ := hgd
          have g4' : kI0 pd.1 pd.2 pd.2.1 c := g4
          have g5' : cOK T pd.1 pd.2 pd.1.length pd.2.1 c := g5
          have m5 : rC T n pd.1 pd.2 (c.1, c.2.1, c.2.2.1, shN pd.1 pd.2 c 0) c.1 (wi v2 64 3 1) (Y ++ Z) := rC_cg m3 (fun a i h => ⟨wi_ne _ _ _ _ _ _ (by unfold rKp at h; omega), rfl⟩)
          obtain ⟨v3, l1, l2, l3⟩ := r_shA g hpW g4' (kJ_of hpW g5') hlet pd.2.1 0 (wi v2 64 3 1) (Nat.zero_add _) m5
          rw [shN_all hpW g5'.2.2] at l2
          have l2' : rC T n pd.1 pd.2 c c.1 v3 (Y ++ Z) := l2
          have h18 := l2'.2.2.2.1.2
          refine ⟨v3, 200000 + n1 + n2, fun N hN => ?_, frM_t (frM_wi fb3 _ _ _ (by unfold rSMp; omega)) (frM_P l3), ?_, tyR_bs l2'.2.2.2.2.1, ?_, l2'.2.1.1.2.2.2 l2'.1, _, l2'⟩
          · have l1' : K_Md_shorten_2 N g N 0 (wi v2 64 3 1) = some v3 := l1 N N (by omega) (by omega)
            rw [st3 N (by omega) (by omega) (by omega), m4 N (by omega) N (by omega), Option.bind_some, if_neg (show ¬ ((1 : Int32) = 0) by decide)]
            unfold K_Md_compile_54 F_Md_shorten
            rw [if_pos (by decide), if_neg (show ¬ ((1 : Int32) = 0) by decide), l1', Option.bind_some, l2'.2.2.1.1]; rfl
          · rw [(l3 64 2 (by unfold rSTp; omega)).1, wi_ne _ _ _ _ _ _ (by omega)]; exact e23
          · rw [(l3 64 3 (by unfold rSTp; omega)).1, wi_at]; rfl
