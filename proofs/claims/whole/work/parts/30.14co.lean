set_option maxRecDepth 100000
theorem bse {c i d : Nat} (h : (18 ≤ c ∧ c ≤ 28) ∨ (c = 39 ∧ (i = 8 ∨ i = 10 ∨ i = 11 ∨ i = 13 ∨ i = 14)) ∨ c = 40 ∨ c = 41 ∨ (c = 35 ∧ i = d) ∨ ((c = 36 ∨ c = 37) ∧ d * 24 ≤ i ∧ i < d * 24 + 24)) : cS_E d c i = true := by
  unfold cS_E
  simp only [Bool.or_eq_true, Bool.and_eq_true, Nat.beq_eq, Nat.ble_eq, Nat.blt_eq]
  omega
theorem frE_wi {d : Nat} {u v : pm_J} (a k : Nat) (x : Int32) (h : (18 ≤ a ∧ a ≤ 28) ∨ (a = 39 ∧ (k = 8 ∨ k = 10 ∨ k = 11 ∨ k = 13 ∨ k = 14)) ∨ a = 40 ∨ a = 41 ∨ (a = 35 ∧ k = d) ∨ ((a = 36 ∨ a = 37) ∧ d * 24 ≤ k ∧ k < d * 24 + 24)) (hv : fr (cS_E d) u v) : fr (cS_E d) u (wi v a k x) := fr_wi _ _ _ _ _ _ (bse h) hv
theorem frE_wj {d : Nat} {u v : pm_J} (a k : Nat) (x : Int64) (h : (18 ≤ a ∧ a ≤ 28) ∨ (a = 39 ∧ (k = 8 ∨ k = 10 ∨ k = 11 ∨ k = 13 ∨ k = 14)) ∨ a = 40 ∨ a = 41 ∨ (a = 35 ∧ k = d) ∨ ((a = 36 ∨ a = 37) ∧ d * 24 ≤ k ∧ k < d * 24 + 24)) (hv : fr (cS_E d) u v) : fr (cS_E d) u (wj v a k x) := fr_wj _ _ _ _ _ _ (bse h) hv
theorem cCl_cong {T : List Tok} {n : Nat} {cl : Option Nat} {u v : pm_J} (h : cCl T n cl u) (h0 : v.1 4 0 = u.1 4 0) (h1 : v.1 4 1 = u.1 4 1) : cCl T n cl v := by
  cases cl with
  | none => exact h0.trans h
  | some x => exact ⟨h0.trans h.1, h1.trans h.2⟩
theorem cLoc_c0 {d : Nat} {L : Lc} {u v : pm_J} {Y : List Ty} (h : cLoc d L u Y) (h1 : v.1 35 d = u.1 35 d) (h2 : ∀ l, l < 24 → v.1 36 (d * 24 + l) = u.1 36 (d * 24 + l) ∧ v.1 37 (d * 24 + l) = u.1 37 (d * 24 + l)) : cLoc d L v Y := by
  have := cLoc_cong (v := v) [] h h1 h2
  rw [List.append_nil] at this; exact this
theorem e_local {T : List Tok} {n d m : Nat} {cl0 : Option Nat} {sc : Sc} {s : PS} {g : pm_s} {u : pm_J} {Y : List Ty} (N : Nat) (hG : tkG T) (h : cE T n d m cl0 sc s g u Y) (hs : s.1 ≤ T.length) :
    ∃ z v, F_Parser_readLocal N g u = some (z, v) ∧ fr (cS_E d) u v ∧ (match pDecl T s with
      | .error q => fl T n q g v
      | .ok q => z = ie (q.1 : Nat) ∧ cE T n d m cl0 sc q.2 g v Y) := by
  have k1 : (ie (tkK T s.1 : Int) = 1) ↔ tkK T s.1 = 1 := kq (hG.1 s.1) 1 (by omega)
  have h24 := h.2.2.2.2.2.1.2.1
  have hd := h.2.1.2.2.1
  unfold F_Parser_readLocal pDecl
  rw [k_kind h.1 hs g, Option.bind_some]
  simp only [k1]
  by_cases e : tkK T s.1 = 1
  · rw [if_pos e, if_pos e, h.2.1.1]
    unfold F_Table_locals
    rw [if_neg (nlt0 d (by omega)), h.2.1.2.2.2.2, if_neg (fun hh => by have := (inle (d + 1) d (by omega) (by omega)).mp hh; omega), if_pos (okn d 30 (by omega) (by omega)), ntn d (by omega), Option.bind_some, h.2.2.2.2.2.1.1]
    by_cases e24 : s.2.2.1.1 = 24
    · rw [if_pos e24, if_neg (show ¬ (ie (s.2.2.1.1 : Int) < 24) from fun hh => by have := (inlt s.2.2.1.1 24 (by omega) (by omega)).mp hh; omega), k_here h.1 hs g, Option.bind_some]
      obtain ⟨t1, t2⟩ := e_tell h 4 s.1 (by omega) (by omega)
      have t1' : F_Fault_tell_3 4 (ie (tkP T n s.1)) g u = some (cTell u 4 (tkP T n s.1)) := t1
      have t2' : fl T n (4, s.1) g (cTell u 4 (tkP T n s.1)) := t2
      rw [t1', Option.bind_some]
      unfold K_Parser_readLocal_36
      rw [f_expect t2'.1 t2'.2.1 1 (by decide) g, Option.bind_some, f_told t2'.1 g, Option.bind_some, if_neg (show ¬ ((1 : Int32) = 0) by decide)]
      exact ⟨_, _, rfl, fr_TE (frT_tell u _ _), t2'⟩
    · rw [if_neg e24, if_pos (show (ie (s.2.2.1.1 : Int) < 24) from (inlt s.2.2.1.1 24 (by omega) (by omega)).mpr (by omega))]
      unfold K_Parser_readLocal_36
      have hx : F_Parser_expect 1 g u = some (wi u 39 11 (ie ((s.1 + 1 : Nat) : Int))) := by
        unfold F_Parser_expect
        rw [k_kind h.1 hs g, Option.bind_some, if_pos (k1.mpr e), h.1.2.2.2, iadd1]
      rw [hx, Option.bind_some, c_told0 _ g (show (wi u 39 11 (ie ((s.1 + 1 : Nat) : Int))).1 3 0 = ie 0 from h.1.1), Option.bind_some, if_pos (show ie 0 = 0 from rfl)]
      have hat := cE_at h (s.1 + 1)
      unfold F_Table_addLocal
      rw [hat.2.1.1, if_neg (nlt0 d (by omega)), hat.2.1.2.2.2.2, if_neg (fun hh => by have := (inle (d + 1) d (by omega) (by omega)).mp hh; omega), ntn d (by omega), hat.2.2.2.2.2.1.1]
      have e1 : ie (d : Int) * 24 + ie ((sAt s (s.1 + 1)).2.2.1.1 : Int) = ie ((d * 24 + s.2.2.1.1 : Nat) : Int) := by rw [show (24 : Int32) = ie 24 from rfl, ie_mul, ie_add]; rfl
      rw [e1]
      have lt24 : ie ((sAt s (s.1 + 1)).2.2.1.1 : Int) < 24 := (inlt s.2.2.1.1 24 (by omega) (by omega)).mpr (by omega)
      simp only [okn d 30 (by omega) (by omega), okn (d * 24 + s.2.2.1.1) 720 (by omega) (by omega), lt24, if_true, ntn (d * 24 + s.2.2.1.1) (by omega), Option.bind_some]
      refine ⟨_, _, rfl, ?_, rfl, ?_⟩
      · exact frE_wi _ _ _ (by omega) (frE_wi _ _ _ (by omega) (frE_wi _ _ _ (by omega) (frE_wi _ _ _ (by omega) (fr_refl _ _))))
      · obtain ⟨a1, a2, a3, a4, a5, a6, a7, a8⟩ := hat
        have e2 : ie ((sAt s (s.1 + 1)).2.2.1.1 : Int) + 1 = ie ((s.2.2.1.1 + 1 : Nat) : Int) := iadd1 _
        rw [e2]
        refine ⟨cTk_at a1 rfl (fun _ => rfl) (fun _ => ⟨rfl, rfl, rfl⟩) a1.2.2.2, a2, ⟨scR_cong sc a3.1 (fun _ _ => ⟨rfl, rfl⟩), a3.2.1, ?_⟩, cCl_cong a4 rfl rfl, ?_, ?_, ?_, ?_⟩
        · show List.length sc ≤ s.2.2.1.1 + 1
          have : List.length sc ≤ s.2.2.1.1 := a3.2.2
          omega
        · exact tyC_fr (tyC_fr (tyC_fr a5 (wi_csy _ _ _ _ (by omega))) (wi_csy _ _ _ _ (by omega))) (wi_csy _ _ _ _ (by omega))
        · refine ⟨?_, by show s.2.2.1.1 + 1 ≤ 24; omega, ?_⟩
          · rw [wi_1, if_pos ⟨rfl, rfl⟩]; rfl
          · intro l hl
            have hl' : l < s.2.2.1.1 + 1 := hl
            by_cases hll : l = s.2.2.1.1
            · subst hll
              show (match pu_upd s.2.2.1.2.1 s.2.2.1.1 none s.2.2.1.1 with | some t => _ | none => _) ∧ _ = ie (pu_upd s.2.2.1.2.2 s.2.2.1.1 (-1) s.2.2.1.1)
              rw [upd_same, upd_same]
              simp [wi_1]
              rfl
            · obtain ⟨b1, b2⟩ := a6.2.2 l (by show l < s.2.2.1.1; omega)
              show (match pu_upd s.2.2.1.2.1 s.2.2.1.1 none l with | some t => _ | none => _) ∧ _ = ie (pu_upd s.2.2.1.2.2 s.2.2.1.1 (-1) l)
              rw [upd_ne _ _ _ _ hll, upd_ne _ _ _ _ hll]
              have hne : ¬ (d * 24 + l = d * 24 + s.2.2.1.1) := by omega
              simp only [wi_1, hne, show ¬ ((36 : Nat) = 35) by decide, show ¬ ((37 : Nat) = 35) by decide, show ¬ ((36 : Nat) = 37) by decide, show ¬ ((37 : Nat) = 36) by decide, show ¬ ((36 : Nat) = 39) by decide, show ¬ ((37 : Nat) = 39) by decide, false_and, and_false, if_false]
              exact ⟨b1, b2⟩
        · exact cNd_cong a7 rfl (fun c j h1 h2 => ⟨by rw [wi_1, if_neg (by omega), wi_1, if_neg (by omega), wi_1, if_neg (by omega)], rfl⟩)
        · obtain ⟨b1, b2, b3, b4, b5, b6⟩ := a8
          refine ⟨b1, b2, b3, b4, ?_, b6⟩
          intro k hk
          by_cases hkd : k = d
          · subst hkd
            refine ⟨s.2.2.1.1 + 1, by omega, ?_⟩
            rw [wi_1, if_pos ⟨rfl, rfl⟩]
          · obtain ⟨b, hb1, hb2⟩ := b5 k hk
            refine ⟨b, hb1, ?_⟩
            rw [wi_1, if_neg (fun hh => hkd hh.2)]; exact hb2
  · rw [if_neg e, if_neg e]
    unfold K_Parser_readLocal_36
    obtain ⟨v, v1, v2, v3⟩ := e_expect hG h hs 1 (by omega)
    have v1' : F_Parser_expect 1 g u = some v := v1
    unfold pX at v3
    rw [if_neg e] at v3
    have v3' : fl T n (2, s.1) g v := v3
    rw [v1', Option.bind_some, f_told v3'.1 g, Option.bind_some, if_neg (show ¬ ((1 : Int32) = 0) by decide)]
    exact ⟨_, _, rfl, fr_TE v2, v3'⟩
theorem e_bind {T : List Tok} {n d m : Nat} {cl0 : Option Nat} {sc : Sc} {s : PS} {g : pm_s} {u : pm_J} {Y : List Ty} (h : cE T n d m cl0 sc s g u Y) (x : Int64) (l : Nat) (hl24 : l ≤ 24) (hl : sc.length < s.2.2.1.1) :
    ∃ v, F_Parser_bind x (ie l) g u = some v ∧ fr (cS_E d) u v ∧ cE T n d m cl0 ((x, l) :: sc) s g v Y := by
  have h24 := h.2.2.2.2.2.1.2.1
  have e24 : Nat.toInt32 24 = ie ((24 : Nat) : Int) := rfl
  have hl' : List.length sc < s.2.2.1.1 := hl
  unfold F_Parser_bind
  rw [h.2.2.1.2.1, e24, if_neg (fun hh => by have := (inle 24 (List.length sc) (by omega) (by omega)).mp hh; omega), if_pos (okn _ 24 (by omega) (by omega)), if_pos (okn _ 24 (by omega) (by omega)), ntn _ (by omega), iadd1]
  refine ⟨_, rfl, frE_wi _ _ _ (by omega) (frE_wi _ _ _ (by omega) (frE_wj _ _ _ (by omega) (fr_refl _ _))), ?_⟩
  obtain ⟨a1, a2, a3, a4, a5, a6, a7, a8⟩ := h
  refine ⟨cTk_at a1 rfl (fun _ => rfl) (fun _ => ⟨rfl, rfl, rfl⟩) a1.2.2.2, a2, ⟨⟨?_, ?_, ?_⟩, rfl, hl⟩, cCl_cong a4 rfl rfl, ?_, cLoc_c0 a6 rfl (fun _ _ => ⟨rfl, rfl⟩), ?_, ?_⟩
  · simp [wi_2, wj_2]
  · exact ⟨by simp [wi_1], hl24⟩
  · refine scR_cong sc a3.1 (fun i hi => ?_)
    have hne : i ≠ List.length sc := by omega
    simp [wi_1, wi_2, wj_1, wj_2, hne]
  · exact tyC_fr (tyC_fr (tyC_fr (v := wj u 40 (List.length sc) x) a5 (fun _ _ _ => rfl)) (wi_csy _ _ _ _ (by omega))) (wi_csy _ _ _ _ (by omega))
  · refine cNd_cong a7 rfl (fun c j h1 h2 => ⟨?_, ?_⟩)
    · rw [wi_1, if_neg (by omega), wi_1, if_neg (by omega), wj_1]
    · rw [wi_2, wi_2, wj_2, if_neg (by omega)]
  · obtain ⟨b1, b2, b3, b4, b5, b6⟩ := a8
    exact ⟨b1, ⟨List.length sc + 1, by omega, rfl⟩, b3, b4, b5, b6⟩
theorem e_unbind {T : List Tok} {n d m : Nat} {cl0 : Option Nat} {x : Int64 × Nat} {sc : Sc} {s : PS} {g : pm_s} {u : pm_J} {Y : List Ty} (h : cE T n d m cl0 (x :: sc) s g u Y) :
    ∃ v, F_Parser_unbind g u = some v ∧ fr (cS_E d) u v ∧ cE T n d m cl0 sc s g v Y := by
  have h24 := h.2.2.2.2.2.1.2.1
  have hlen : List.length (x :: sc) = List.length sc + 1 := rfl
  have hle := h.2.2.1.2.2
  rw [hlen] at hle
  unfold F_Parser_unbind
  have e1 : ie (List.length (x :: sc) : Int) - 1 = ie (List.length sc : Int) := by rw [show (1 : Int32) = ie 1 from rfl, ie_sub, hlen]; congr 1; omega
  have e2 : (if 0 < ie (List.length sc : Int) then ie (List.length sc : Int) else 0) = ie (List.length sc : Int) := by
    by_cases hh : 0 < List.length sc
    · rw [if_pos (show (0 : Int32) < ie (List.length sc : Int) from (inlt 0 _ (by omega) (by omega)).mpr hh)]
    · rw [if_neg (show ¬ ((0 : Int32) < ie (List.length sc : Int)) from fun h2 => hh ((inlt 0 _ (by omega) (by omega)).mp h2)), show List.length sc = 0 by omega]; rfl
  rw [h.2.2.1.2.1, e1, e2]
  refine ⟨_, rfl, frE_wi _ _ _ (by omega) (fr_refl _ _), ?_⟩
  obtain ⟨a1, a2, a3, a4, a5, a6, a7, a8⟩ := h
  refine ⟨cTk_at a1 rfl (fun _ => rfl) (fun _ => ⟨rfl, rfl, rfl⟩) a1.2.2.2, a2, ⟨scR_cong sc a3.1.2.2 (fun _ _ => ⟨rfl, rfl⟩), rfl, by omega⟩, cCl_cong a4 rfl rfl, tyC_fr a5 (wi_csy _ _ _ _ (by omega)), cLoc_c0 a6 rfl (fun _ _ => ⟨rfl, rfl⟩), ?_, ?_⟩
  · exact cNd_cong a7 rfl (fun c j h1 h2 => ⟨by rw [wi_1, if_neg (by omega)], rfl⟩)
  · obtain ⟨b1, b2, b3, b4, b5, b6⟩ := a8
    exact ⟨b1, ⟨List.length sc, by omega, rfl⟩, b3, b4, b5, b6⟩
def fndI (o : Option Nat) : Int32 := match o with
  | some l => ie (l : Nat)
  | none => ie (-1)
theorem e_findL {u : pm_J} (N : Nat) (g : pm_s) (v : Int64) (sc : Sc) : ∀ f, scR u sc → sc.length ≤ 24 → sc.length < f → K_Parser_findLocal_7 N g u f v (ie ((List.length sc : Int) - 1)) = some (fndI (fnd sc v)) := by
  induction sc with
  | nil =>
    intro f h hl hf
    obtain ⟨f, rfl⟩ : ∃ f', f = f' + 1 := ⟨f - 1, by omega⟩
    rw [K_Parser_findLocal_7]; rfl
  | cons x s ih =>
    intro f h hl hf
    obtain ⟨f, rfl⟩ : ∃ f', f = f' + 1 := ⟨f - 1, by omega⟩
    have hlen : List.length (x :: s) = List.length s + 1 := rfl
    have hl' : List.length s + 1 ≤ 24 := hl
    rw [K_Parser_findLocal_7, show ((List.length (x :: s) : Int) - 1) = (List.length s : Nat) by rw [hlen]; omega, if_neg (nlt0 _ (by omega)), if_pos (okn _ 24 (by omega) (by omega)), ntn _ (by omega), h.1]
    simp only [lg_eq0]
    unfold fnd
    by_cases hx : x.1 = v
    · rw [if_pos hx, if_pos hx, if_pos (okn _ 24 (by omega) (by omega)), h.2.1.1]; rfl
    · rw [if_neg hx, if_neg hx, show ie (List.length s : Int) + -1 = ie ((List.length s : Int) - 1) by rw [show (-1 : Int32) = ie (-1) from rfl, ie_add]; rfl]
      exact ih f h.2.2 (by omega) (by have : List.length s + 1 < f + 1 := hf; omega)
theorem e_find {T : List Tok} {n d m : Nat} {cl0 : Option Nat} {sc : Sc} {s : PS} {g : pm_s} {u : pm_J} {Y : List Ty} (N : Nat) (hN : 100 ≤ N) (h : cE T n d m cl0 sc s g u Y) (v : Int64) : F_Parser_findLocal N v g u = some (fndI (fnd sc v)) := by
  have h24 := h.2.2.2.2.2.1.2.1
  have hle := h.2.2.1.2.2
  unfold F_Parser_findLocal
  rw [h.2.2.1.2.1, show (1 : Int32) = ie 1 from rfl, ie_sub]
  exact e_findL N g v sc N h.2.2.1.1 (by omega) (by omega)
theorem c_fill4 (N : Nat) (g : pm_s) (b : Nat) (hb : b ≤ 7200) (j : Nat) : ∀ (f a : Nat) (u : pm_J), a + j = b → j < f → ∃ v, K_Arrays_fill_1_28_10 N g f (ie b) (ie (-1)) (ie a) u = some v ∧ (∀ c i, (c ≠ 28 ∨ i < a ∨ b ≤ i) → v.1 c i = u.1 c i) ∧ v.2 = u.2 ∧ (∀ i, a ≤ i → i < b → v.1 28 i = ie (-1)) := by
  induction j with
  | zero =>
    intro f a u ha hf
    obtain ⟨f, rfl⟩ : ∃ f', f = f' + 1 := ⟨f - 1, by omega⟩
    refine ⟨u, ?_, fun _ _ _ => rfl, rfl, fun i h1 h2 => by omega⟩
    rw [K_Arrays_fill_1_28_10, if_pos ((inle b a (by omega) (by omega)).mpr (by omega))]
  | succ j ih =>
    intro f a u ha hf
    obtain ⟨f, rfl⟩ : ∃ f', f = f' + 1 := ⟨f - 1, by omega⟩
    obtain ⟨v, v1, v2, v3, v4⟩ := ih f (a + 1) (wi u 28 a (ie (-1))) (by omega) (by omega)
    refine ⟨v, ?_, ?_, v3, ?_⟩
    · rw [K_Arrays_fill_1_28_10, if_neg (fun hh => by have := (inle b a (by omega) (by omega)).mp hh; omega), if_pos (okn a 7200 (by omega) (by omega)), ntn a (by omega), iadd1]; exact v1
    · intro c i hc
      rw [v2 c i (by omega), wi_1, if_neg (by omega)]
    · intro i h1 h2
      by_cases hi : i = a
      · rw [v2 28 i (by omega), wi_1, if_pos ⟨rfl, hi⟩]
      · exact v4 i (by omega) h2
theorem s_add {u : pm_J} (N : Nat) (hN : 100 ≤ N) (g : pm_s) (b : Nat) (hc : u.1 18 10 = ie b) (hb : b < 1800) (k p x y z : Int32) : ∃ v, F_Tree_add N k p x y z g u = some (ie b, v) ∧ v.1 18 10 = ie ((b + 1 : Nat) : Int) ∧ (∀ c i, ¬ (18 ≤ c ∧ c ≤ 28) → v.1 c i = u.1 c i ∧ v.2 c i = u.2 c i) ∧ v.1 18 = (fun i => if i = 10 then ie ((b + 1 : Nat) : Int) else u.1 18 i) ∧
    (∀ c i, 19 ≤ c → c ≤ 27 → i ≠ b → v.1 c i = u.1 c i ∧ v.2 c i = u.2 c i) ∧ (∀ i, (i < 4 * b ∨ 4 * b + 4 ≤ i) → v.1 28 i = u.1 28 i) ∧ v.1 19 b = k ∧ v.1 20 b = p ∧ v.1 21 b = x ∧ v.1 22 b = y ∧ v.1 23 b = z ∧ v.1 24 b = ie (-1) ∧ v.1 25 b = ie (-1) ∧ v.2 26 b = 0 ∧ v.1 27 b = ie 0 ∧ (∀ l : Nat, l < 4 → v.1 28 (4 * b + l) = ie (-1)) := by
  unfold F_Tree_add
  rw [hc, if_pos (show ie (b : Int) < 1800 from (inlt b 1800 (by omega) (by omega)).mpr hb)]
  simp only [okn b 1800 hb (by omega), ntn b (by omega), if_true]
  have e4 : ie (b : Int) * 4 = ie ((4 * b : Nat) : Int) := by rw [show (4 : Int32) = ie 4 from rfl, ie_mul]; congr 1; omega
  have e5 : (ie (b : Int) + 1) * 4 = ie ((4 * b + 4 : Nat) : Int) := by rw [iadd1, show (4 : Int32) = ie 4 from rfl, ie_mul]; congr 1; omega
  rw [e4, e5]
  unfold F_Arrays_fill_1_28 F_Arrays_rangeCheck
  rw [if_pos ((inle _ _ (by omega) (by omega)).mpr (by omega)), if_pos (show (0 : Int32) ≤ ie ((4 * b : Nat) : Int) from (inle 0 _ (by omega) (by omega)).mpr (by omega)), if_pos (show ie ((4 * b + 4 : Nat) : Int) ≤ Nat.toInt32 7200 from (inle _ 7200 (by omega) (by omega)).mpr (by omega)), Option.bind_some]
  obtain ⟨v, v1, v2, v3, v4⟩ := c_fill4 N g (4 * b + 4) (by omega) 4 N (4 * b) (wi (wj (wi (wi (wi (wi (wi (wi (wi u 19 b k) 20 b p) 21 b x) 22 b y) 23 b z) 24 b (-1)) 25 b (-1)) 26 b 0) 27 b 0) (by omega) (by omega)
  have v1' : K_Arrays_fill_1_28_10 N g N (ie ((4 * b + 4 : Nat) : Int)) (-1) (ie ((4 * b : Nat) : Int)) (wi (wj (wi (wi (wi (wi (wi (wi (wi u 19 b k) 20 b p) 21 b x) 22 b y) 23 b z) 24 b (-1)) 25 b (-1)) 26 b 0) 27 b 0) = some v := v1
  rw [v1', Option.bind_some]
  have h10 : v.1 18 10 = ie b := by rw [v2 18 10 (by omega)]; exact hc
  have hs : ie (b : Int) + 1 - 1 = ie (b : Int) := by rw [show (1 : Int32) = ie 1 from rfl, ie_add, ie_sub]; congr 1; omega
  rw [h10, hs, iadd1]
  refine ⟨_, rfl, ?_, ?_, ?_, ?_, ?_, ?_, ?_, ?_, ?_, ?_, ?_, ?_, ?_, ?_, ?_⟩
  · rw [wi_1, if_pos ⟨rfl, rfl⟩]
  · intro c i hci
    constructor
    · rw [wi_1, if_neg (by omega), v2 c i (by omega)]
      simp only [wi_1, wj_1]
      repeat (rw [if_neg (by omega)])
    · rw [wi_2, v3]
      simp only [wi_2, wj_2]
      rw [if_neg (by omega)]
  · funext i
    rw [wi_1]
    by_cases hi : i = 10
    · rw [if_pos ⟨rfl, hi⟩, if_pos hi]
    · rw [if_neg (fun hh => hi hh.2), if_neg hi, v2 18 i (by omega)]; rfl
  · intro c i h1 h2 hi
    constructor
    · rw [wi_1, if_neg (by omega), v2 c i (by omega)]
      simp only [wi_1, wj_1, hi, and_false, if_false]
    · rw [wi_2, v3]
      simp only [wi_2, wj_2, hi, and_false, if_false]
  · intro i hi
    rw [wi_1, if_neg (by omega), v2 28 i (by omega)]
    simp [wi_1, wj_1]
  · rw [wi_1, if_neg (by omega), v2 19 b (by omega)]; simp [wi_1, wj_1]
  · rw [wi_1, if_neg (by omega), v2 20 b (by omega)]; simp [wi_1, wj_1]
  · rw [wi_1, if_neg (by omega), v2 21 b (by omega)]; simp [wi_1, wj_1]
  · rw [wi_1, if_neg (by omega), v2 22 b (by omega)]; simp [wi_1, wj_1]
  · rw [wi_1, if_neg (by omega), v2 23 b (by omega)]; simp [wi_1, wj_1]
  · rw [wi_1, if_neg (by omega), v2 24 b (by omega)]; simp [wi_1, wj_1]; rfl
  · rw [wi_1, if_neg (by omega), v2 25 b (by omega)]; simp [wi_1, wj_1]; rfl
  · rw [wi_2, v3]; simp [wi_2, wj_2]
  · rw [wi_1, if_neg (by omega), v2 27 b (by omega)]; simp [wi_1, wj_1]; rfl
  · intro l hl
    rw [wi_1, if_neg (by omega)]; exact v4 _ (by omega) (by omega)
theorem e_add {T : List Tok} {n d m : Nat} {cl0 : Option Nat} {sc : Sc} {s : PS} {g : pm_s} {u : pm_J} {Y : List Ty} (N : Nat) (hN : 100 ≤ N) (h : cE T n d m cl0 sc s g u Y) (hn : s.2.2.2.1 < 1800) (k t : Nat) (x y z : Int) (as : List Nat) :
    ∃ v, F_Tree_add N (ie k) (ie (tkP T n t)) (ie x) (ie y) (ie z) g u = some (ie (s.2.2.2.1 : Nat), v) ∧ fr (cS_E d) u v ∧ cE T n d m cl0 sc (sNode s (k, t, x, y, z, 0, as)) g v Y := by
  obtain ⟨a1, a2, a3, a4, a5, a6, a7, a8⟩ := h
  obtain ⟨v, v1, v2, v3, v4, v5, v6, w1, w2, w3, w4, w5, w6, w7, w8, w9, w10⟩ := s_add N hN g s.2.2.2.1 a7.1 hn (ie k) (ie (tkP T n t)) (ie x) (ie y) (ie z)
  refine ⟨v, v1, ?_, ?_⟩
  · intro c i hs
    apply v3
    intro hc
    rw [bse (Or.inl hc)] at hs; cases hs
  · refine ⟨cTk_at a1 (v3 3 0 (by omega)).1 (fun i => (v3 5 i (by omega)).1) (fun i => ⟨(v3 6 i (by omega)).1, (v3 7 i (by omega)).1, (v3 8 i (by omega)).2⟩) ((v3 39 11 (by omega)).1.trans a1.2.2.2), ⟨(v3 39 12 (by omega)).1.trans a2.1, (v3 39 13 (by omega)).1.trans a2.2.1, a2.2.2.1, a2.2.2.2.1, (v3 29 9 (by omega)).1.trans a2.2.2.2.2⟩, ⟨scR_cong sc a3.1 (fun i _ => ⟨(v3 40 i (by omega)).2, (v3 41 i (by omega)).1⟩), (v3 39 8 (by omega)).1.trans a3.2.1, a3.2.2⟩, cCl_cong a4 (v3 4 0 (by omega)).1 (v3 4 1 (by omega)).1, tyC_fr a5 (fun c i hc => (v3 c i (by have := csy_lo hc; omega)).1), cLoc_c0 a6 (v3 35 d (by omega)).1 (fun l _ => ⟨(v3 36 _ (by omega)).1, (v3 37 _ (by omega)).1⟩), ?_, ?_⟩
    · refine ⟨v2, by show s.2.2.2.1 + 1 ≤ 1800; omega, ?_⟩
      intro i hi
      have hi' : i < s.2.2.2.1 + 1 := hi
      by_cases hin : i = s.2.2.2.1
      · subst hin
        show cNode T n v s.2.2.2.1 (pu_upd s.2.2.2.2.1 s.2.2.2.1 (k, t, x, y, z, 0, as) s.2.2.2.1) (pu_upd s.2.2.2.2.2.1 s.2.2.2.1 (-1) s.2.2.2.1)
        rw [upd_same, upd_same]
        exact ⟨w1, w2, w3, w4, w5, w8, w6, w7, w9, w10⟩
      · show cNode T n v i (pu_upd s.2.2.2.2.1 s.2.2.2.1 (k, t, x, y, z, 0, as) i) (pu_upd s.2.2.2.2.2.1 s.2.2.2.1 (-1) i)
        rw [upd_ne _ _ _ _ hin, upd_ne _ _ _ _ hin]
        obtain ⟨b1, b2, b3, b4, b5, b6, b7, b8, b9, b10⟩ := a7.2.2 i (by omega)
        exact ⟨(v5 19 i (by omega) (by omega) hin).1.trans b1, (v5 20 i (by omega) (by omega) hin).1.trans b2, (v5 21 i (by omega) (by omega) hin).1.trans b3, (v5 22 i (by omega) (by omega) hin).1.trans b4, (v5 23 i (by omega) (by omega) hin).1.trans b5, (v5 26 i (by omega) (by omega) hin).2.trans b6, (v5 24 i (by omega) (by omega) hin).1.trans b7, (v5 25 i (by omega) (by omega) hin).1.trans b8, (v5 27 i (by omega) (by omega) hin).1.trans b9, fun l hl => (v6 _ (by omega)).trans (b10 l hl)⟩
    · obtain ⟨b1, b2, b3, b4, b5, b6⟩ := a8
      obtain ⟨x1, x2, x3⟩ := b1
      obtain ⟨y1, y2, y3⟩ := b2
      obtain ⟨z1, z2, z3⟩ := b4
      obtain ⟨q1, q2, q3⟩ := b6
      refine ⟨⟨x1, x2, (v3 39 10 (by omega)).1.trans x3⟩, ⟨y1, y2, (v3 39 8 (by omega)).1.trans y3⟩, ⟨s.2.2.2.1 + 1, by omega, v2⟩, ⟨z1, z2, (v3 29 9 (by omega)).1.trans z3⟩, fun k hk => ?_, ⟨q1, q2, (v3 5 5 (by omega)).1.trans q3⟩⟩
      obtain ⟨b, hb1, hb2⟩ := b5 k hk
      exact ⟨b, hb1, (v3 35 k (by omega)).1.trans hb2⟩
theorem cE_set {T : List Tok} {n d m : Nat} {cl0 : Option Nat} {sc : Sc} {s : PS} {g : pm_s} {u v : pm_J} {Y : List Ty} (t : Tr) (h : cE T n d m cl0 sc s g u Y) (ho : ∀ c i, ¬ (19 ≤ c ∧ c ≤ 28) → v.1 c i = u.1 c i ∧ v.2 c i = u.2 c i) (ht : cNd T n v t) : cE T n d m cl0 sc (sTr s t) g v Y := by
  obtain ⟨a1, a2, a3, a4, a5, a6, a7, a8⟩ := h
  refine ⟨cTk_at a1 (ho 3 0 (by omega)).1 (fun i => (ho 5 i (by omega)).1) (fun i => ⟨(ho 6 i (by omega)).1, (ho 7 i (by omega)).1, (ho 8 i (by omega)).2⟩) ((ho 39 11 (by omega)).1.trans a1.2.2.2), ⟨(ho 39 12 (by omega)).1.trans a2.1, (ho 39 13 (by omega)).1.trans a2.2.1, a2.2.2.1, a2.2.2.2.1, (ho 29 9 (by omega)).1.trans a2.2.2.2.2⟩, ⟨scR_cong sc a3.1 (fun i _ => ⟨(ho 40 i (by omega)).2, (ho 41 i (by omega)).1⟩), (ho 39 8 (by omega)).1.trans a3.2.1, a3.2.2⟩, cCl_cong a4 (ho 4 0 (by omega)).1 (ho 4 1 (by omega)).1, tyC_fr a5 (fun c i hc => (ho c i (by have := csy_lo hc; omega)).1), cLoc_c0 a6 (ho 35 d (by omega)).1 (fun l _ => ⟨(ho 36 _ (by omega)).1, (ho 37 _ (by omega)).1⟩), ht, ?_⟩
  exact cBI_cong a8 (ho 39 10 (by omega)).1 (ho 39 8 (by omega)).1 (ho 18 10 (by omega)).1 (ho 29 9 (by omega)).1 (fun d => (ho 35 d (by omega)).1) (ho 5 5 (by omega)).1
theorem g_node {u : pm_J} (b x : Nat) (hc : u.1 18 10 = ie b) (hx : x < b) (hb : b ≤ 1800) : ¬ (ie (x : Int) < 0) ∧ ¬ (u.1 18 10 ≤ ie (x : Int)) ∧ pm_ok (ie x) 1800 = true ∧ (ie (x : Int)).toNatClampNeg = x :=
  ⟨nlt0 x (by omega), by rw [hc]; exact fun hh => by have := (inle b x (by omega) (by omega)).mp hh; omega, okn x 1800 (by omega) (by omega), ntn x (by omega)⟩
theorem e_setV {T : List Tok} {n d m : Nat} {cl0 : Option Nat} {sc : Sc} {s : PS} {g : pm_s} {u : pm_J} {Y : List Ty} {k t : Nat} {x y z : Int} {as : List Nat} (h : cE T n d m cl0 sc (sNode s (k, t, x, y, z, 0, as)) g u Y) (w : Int64) :
    ∃ v, F_Tree_setValue (ie (s.2.2.2.1 : Nat)) w g u = some v ∧ fr (cS_E d) u v ∧ cE T n d m cl0 sc (sNode s (k, t, x, y, z, w, as)) g v Y := by
  have hc := h.2.2.2.2.2.2.1
  have hle : s.2.2.2.1 + 1 ≤ 1800 := hc.2.1
  obtain ⟨g1, g2, g3, g4⟩ := g_node (s.2.2.2.1 + 1) s.2.2.2.1 hc.1 (by omega) hle
  unfold F_Tree_setValue
  rw [if_neg g1, if_neg g2, if_pos g3, g4]
  refine ⟨_, rfl, frE_wj _ _ _ (by omega) (fr_refl _ _), ?_⟩
  refine cE_set (s := sNode s (k, t, x, y, z, 0, as)) (tAdd s.2.2.2 (k, t, x, y, z, w, as)) h (fun c i hci => ⟨rfl, by rw [wj_2, if_neg (by omega)]⟩) ⟨hc.1, hle, ?_⟩
  intro i hi
  have hi' : i < s.2.2.2.1 + 1 := hi
  obtain ⟨b1, b2, b3, b4, b5, b6, b7, b8, b9, b10⟩ := hc.2.2 i hi
  by_cases hin : i = s.2.2.2.1
  · subst hin
    have e0 : (sNode s (k, t, x, y, z, 0, as)).2.2.2.2.1 s.2.2.2.1 = (k, t, x, y, z, 0, as) := upd_same _ _ _
    rw [e0] at b1 b2 b3 b4 b5 b6
    have e1 : (tAdd s.2.2.2 (k, t, x, y, z, w, as)).2.1 s.2.2.2.1 = (k, t, x, y, z, w, as) := upd_same _ _ _
    unfold cNode
    rw [e1]
    exact ⟨b1, b2, b3, b4, b5, by rw [wj_2, if_pos ⟨rfl, rfl⟩], b7, b8, b9, b10⟩
  · have e0 : (sNode s (k, t, x, y, z, 0, as)).2.2.2.2.1 i = s.2.2.2.2.1 i := upd_ne _ _ _ _ hin
    rw [e0] at b1 b2 b3 b4 b5 b6
    have e1 : (tAdd s.2.2.2 (k, t, x, y, z, w, as)).2.1 i = s.2.2.2.2.1 i := upd_ne _ _ _ _ hin
    unfold cNode
    rw [e1]
    exact ⟨b1, b2, b3, b4, b5, by rw [wj_2, if_neg (fun hh => hin hh.2)]; exact b6, b7, b8, b9, b10⟩
theorem e_chain {T : List Tok} {n d m : Nat} {cl0 : Option Nat} {sc : Sc} {s : PS} {g : pm_s} {u : pm_J} {Y : List Ty} (h : cE T n d m cl0 sc s g u Y) (last x : Nat) (hl : last < s.2.2.2.1) :
    ∃ v, F_Tree_chain (ie last) (ie x) g u = some v ∧ fr (cS_E d) u v ∧ cE T n d m cl0 sc (sTr s (tNx s.2.2.2 last x)) g v Y := by
  have hc := h.2.2.2.2.2.2.1
  obtain ⟨g1, g2, g3, g4⟩ := g_node s.2.2.2.1 last hc.1 hl hc.2.1
  unfold F_Tree_chain
  rw [if_neg g1, if_neg g2, if_pos g3, g4]
  refine ⟨_, rfl, frE_wi _ _ _ (by omega) (fr_refl _ _), ?_⟩
  refine cE_set (tNx s.2.2.2 last x) h (fun c i hci => ⟨by rw [wi_1, if_neg (by omega)], rfl⟩) ⟨hc.1, hc.2.1, ?_⟩
  intro i hi
  obtain ⟨b1, b2, b3, b4, b5, b6, b7, b8, b9, b10⟩ := hc.2.2 i hi
  refine ⟨b1, b2, b3, b4, b5, b6, ?_, b8, b9, b10⟩
  show _ = ie (pu_upd s.2.2.2.2.2.1 last x i)
  by_cases hil : i = last
  · rw [hil, upd_same, wi_1, if_pos ⟨rfl, rfl⟩]
  · rw [upd_ne _ _ _ _ hil, wi_1, if_neg (fun hh => hil hh.2)]; exact b7
theorem e_turn {T : List Tok} {n d m : Nat} {cl0 : Option Nat} {sc : Sc} {s : PS} {g : pm_s} {u : pm_J} {Y : List Ty} {a k k' t : Nat} {x y z : Int} {w : Int64} {as : List Nat} (h : cE T n d m cl0 sc (sAt (sNode s (k, t, x, y, z, w, as)) a) g u Y) :
    ∃ v, F_Tree_turnInto (ie (s.2.2.2.1 : Nat)) (ie k') g u = some v ∧ fr (cS_E d) u v ∧ cE T n d m cl0 sc (sAt (sNode s (k', t, x, y, z, w, as)) a) g v Y := by
  have hc := h.2.2.2.2.2.2.1
  have hle : s.2.2.2.1 + 1 ≤ 1800 := hc.2.1
  obtain ⟨g1, g2, g3, g4⟩ := g_node (s.2.2.2.1 + 1) s.2.2.2.1 hc.1 (by omega) hle
  unfold F_Tree_turnInto
  rw [if_neg g1, if_neg g2, if_pos g3, g4]
  refine ⟨_, rfl, frE_wi _ _ _ (by omega) (fr_refl _ _), ?_⟩
  refine cE_set (s := sAt (sNode s (k, t, x, y, z, w, as)) a) (tAdd s.2.2.2 (k', t, x, y, z, w, as)) h (fun c i hci => ⟨by rw [wi_1, if_neg (by omega)], rfl⟩) ⟨hc.1, hle, ?_⟩
  intro i hi
  have hi' : i < s.2.2.2.1 + 1 := hi
  obtain ⟨b1, b2, b3, b4, b5, b6, b7, b8, b9, b10⟩ := hc.2.2 i hi
  by_cases hin : i = s.2.2.2.1
  · subst hin
    have e0 : (sAt (sNode s (k, t, x, y, z, w, as)) a).2.2.2.2.1 s.2.2.2.1 = (k, t, x, y, z, w, as) := upd_same _ _ _
    rw [e0] at b1 b2 b3 b4 b5 b6
    have e1 : (tAdd s.2.2.2 (k', t, x, y, z, w, as)).2.1 s.2.2.2.1 = (k', t, x, y, z, w, as) := upd_same _ _ _
    unfold cNode
    rw [e1]
    exact ⟨by rw [wi_1, if_pos ⟨rfl, rfl⟩], b2, b3, b4, b5, b6, b7, b8, b9, b10⟩
  · have e0 : (sAt (sNode s (k, t, x, y, z, w, as)) a).2.2.2.2.1 i = s.2.2.2.2.1 i := upd_ne _ _ _ _ hin
    rw [e0] at b1 b2 b3 b4 b5 b6
    have e1 : (tAdd s.2.2.2 (k', t, x, y, z, w, as)).2.1 i = s.2.2.2.2.1 i := upd_ne _ _ _ _ hin
    unfold cNode
    rw [e1]
    exact ⟨by rw [wi_1, if_neg (fun hh => hin hh.2)]; exact b1, b2, b3, b4, b5, b6, b7, b8, b9, b10⟩
def flE (T : List Tok) (n d : Nat) (q : Nat × Nat) (g : pm_s) (u v : pm_J) : Prop := fl T n q g v ∧ fr (cS_E d) u v
theorem fl_o {T : List Tok} {n : Nat} {q : Nat × Nat} {g : pm_s} {u v : pm_J} (h : fl T n q g u) (h3 : ∀ i, v.1 3 i = u.1 3 i) (hb : cBI v) (hf : ∀ c i, cS_y c i = true → v.1 c i = u.1 c i) : fl T n q g v := fl_of h (h3 0) (h3 1) hb hf
theorem f_bind {T : List Tok} {n d : Nat} {q : Nat × Nat} {g : pm_s} {u : pm_J} (h : fl T n q g u) (x : Int64) (l : Int32) : ∃ v, F_Parser_bind x l g u = some v ∧ flE T n d q g u v := by
  obtain ⟨b, hb, hc⟩ := h.2.1.2.1
  unfold F_Parser_bind
  have e24 : Nat.toInt32 24 = ie ((24 : Nat) : Int) := rfl
  rw [hc, e24]
  by_cases h24 : 24 ≤ b
  · rw [if_pos ((inle 24 b (by omega) (by omega)).mpr h24)]; exact ⟨u, rfl, h, fr_refl _ _⟩
  · rw [if_neg (fun hh => h24 ((inle 24 b (by omega) (by omega)).mp hh)), if_pos (okn b 24 (by omega) (by omega)), if_pos (okn b 24 (by omega) (by omega)), iadd1]
    refine ⟨_, rfl, fl_o h (fun _ => rfl) ?_ ?_, frE_wi _ _ _ (by omega) (frE_wi _ _ _ (by omega) (frE_wj _ _ _ (by omega) (fr_refl _ _)))⟩
    · obtain ⟨b1, b2, b3, b4, b5, b6⟩ := h.2.1
      exact ⟨b1, ⟨b + 1, by omega, rfl⟩, b3, b4, b5, b6⟩
    · intro c i hci
      have := csy_lo hci
      rw [wi_1, if_neg (by omega), wi_1, if_neg (by omega), wj_1]
theorem f_unbind {T : List Tok} {n d : Nat} {q : Nat × Nat} {g : pm_s} {u : pm_J} (h : fl T n q g u) : ∃ v, F_Parser_unbind g u = some v ∧ flE T n d q g u v := by
  obtain ⟨b, hb, hc⟩ := h.2.1.2.1
  unfold F_Parser_unbind
  rw [hc]
  have e2 : ∃ k : Nat, k ≤ 24 ∧ (if 0 < ie (b : Int) - 1 then ie (b : Int) - 1 else 0) = ie (k : Int) := by
    have e1 : ie (b : Int) - 1 = ie ((b : Int) - 1) := by rw [show (1 : Int32) = ie 1 from rfl, ie_sub]
    rw [e1]
    by_cases hh : 0 < ie ((b : Int) - 1)
    · rw [if_pos hh]
      have : (0 : Int) < (b : Int) - 1 := (ie_lt 0 ((b : Int) - 1) (by omega) (by omega) (by omega) (by omega)).mp hh
      exact ⟨b - 1, by omega, by congr 1; omega⟩
    · rw [if_neg hh]; exact ⟨0, by omega, rfl⟩
  obtain ⟨k, k1, k2⟩ := e2
  rw [k2]
  refine ⟨_, rfl, fl_o h (fun _ => rfl) ?_ (wi_csy _ _ _ _ (by omega)), frE_wi _ _ _ (by omega) (fr_refl _ _)⟩
  obtain ⟨b1, b2, b3, b4, b5, b6⟩ := h.2.1
  exact ⟨b1, ⟨k, k1, rfl⟩, b3, b4, b5, b6⟩
theorem f_add {T : List Tok} {n d : Nat} {q : Nat × Nat} {g : pm_s} {u : pm_J} (N : Nat) (hN : 100 ≤ N) (h : fl T n q g u) (k p x y z : Int32) : ∃ w v, F_Tree_add N k p x y z g u = some (w, v) ∧ flE T n d q g u v := by
  obtain ⟨b, hb, hc⟩ := h.2.1.2.2.1
  by_cases hb8 : b < 1800
  · obtain ⟨v, v1, v2, v3, v4⟩ := s_add N hN g b hc hb8 k p x y z
    refine ⟨_, v, v1, fl_o h (fun i => (v3 3 i (by omega)).1) ?_ (fun c i hci => (v3 c i (by have := csy_lo hci; omega)).1), ?_⟩
    · obtain ⟨b1, b2, b3, b4, b5, b6⟩ := h.2.1
      obtain ⟨x1, x2, x3⟩ := b1
      obtain ⟨y1, y2, y3⟩ := b2
      obtain ⟨z1, z2, z3⟩ := b4
      obtain ⟨q1, q2, q3⟩ := b6
      refine ⟨⟨x1, x2, (v3 39 10 (by omega)).1.trans x3⟩, ⟨y1, y2, (v3 39 8 (by omega)).1.trans y3⟩, ⟨b + 1, by omega, v2⟩, ⟨z1, z2, (v3 29 9 (by omega)).1.trans z3⟩, fun k hk => ?_, ⟨q1, q2, (v3 5 5 (by omega)).1.trans q3⟩⟩
      obtain ⟨b', hb1, hb2⟩ := b5 k hk
      exact ⟨b', hb1, (v3 35 k (by omega)).1.trans hb2⟩
    · intro c i hs
      apply v3
      intro hc
      rw [bse (Or.inl hc)] at hs; cases hs
  · unfold F_Tree_add
    rw [hc, if_neg (show ¬ (ie (b : Int) < 1800) from fun hh => hb8 ((inlt b 1800 (by omega) (by omega)).mp hh))]
    exact ⟨_, u, rfl, h, fr_refl _ _⟩
theorem f_guard {u : pm_J} (b : Nat) (hb : b ≤ 1800) (hc : u.1 18 10 = ie b) (x : Int32) (h0 : ¬ x < 0) (h1 : ¬ (u.1 18 10 ≤ x)) : pm_ok x 1800 = true ∧ ∃ k : Nat, k < 1800 ∧ x.toNatClampNeg = k := by
  rw [hc] at h1
  obtain ⟨k, rfl, hk⟩ := i_lt (by omega) h0 h1
  exact ⟨okn k 1800 (by omega) (by omega), k, by omega, ntn k (by omega)⟩
theorem f_w1 {T : List Tok} {n d : Nat} {q : Nat × Nat} {g : pm_s} {u : pm_J} (h : fl T n q g u) (c i : Nat) (x : Int32) (hc : 19 ≤ c ∧ c ≤ 28) : flE T n d q g u (wi u c i x) :=
  ⟨fl_wi h c i x (by omega) (by omega) (by omega), frE_wi _ _ _ (by omega) (fr_refl _ _)⟩
theorem f_setV {T : List Tok} {n d : Nat} {q : Nat × Nat} {g : pm_s} {u : pm_J} (h : fl T n q g u) (x : Int32) (w : Int64) : ∃ v, F_Tree_setValue x w g u = some v ∧ flE T n d q g u v := by
  obtain ⟨b, hb, hc⟩ := h.2.1.2.2.1
  unfold F_Tree_setValue
  by_cases h0 : x < 0
  · rw [if_pos h0]; exact ⟨u, rfl, h, fr_refl _ _⟩
  rw [if_neg h0]
  by_cases h1 : u.1 18 10 ≤ x
  · rw [if_pos h1]; exact ⟨u, rfl, h, fr_refl _ _⟩
  rw [if_neg h1, if_pos (f_guard b hb hc x h0 h1).1]
  exact ⟨_, rfl, fl_o h (fun _ => rfl) (cBI_cong h.2.1 rfl rfl rfl rfl (fun _ => rfl) rfl) (fun _ _ _ => rfl), frE_wj _ _ _ (by omega) (fr_refl _ _)⟩
theorem f_chain {T : List Tok} {n d : Nat} {q : Nat × Nat} {g : pm_s} {u : pm_J} (h : fl T n q g u) (x y : Int32) : ∃ v, F_Tree_chain x y g u = some v ∧ flE T n d q g u v := by
  obtain ⟨b, hb, hc⟩ := h.2.1.2.2.1
  unfold F_Tree_chain
  by_cases h0 : x < 0
  · rw [if_pos h0]; exact ⟨u, rfl, h, fr_refl _ _⟩
  rw [if_neg h0]
  by_cases h1 : u.1 18 10 ≤ x
  · rw [if_pos h1]; exact ⟨u, rfl, h, fr_refl _ _⟩
  rw [if_neg h1, if_pos (f_guard b hb hc x h0 h1).1]
  exact ⟨_, rfl, f_w1 h _ _ _ (by omega)⟩
theorem f_turn {T : List Tok} {n d : Nat} {q : Nat × Nat} {g : pm_s} {u : pm_J} (h : fl T n q g u) (x y : Int32) : ∃ v, F_Tree_turnInto x y g u = some v ∧ flE T n d q g u v := by
  obtain ⟨b, hb, hc⟩ := h.2.1.2.2.1
  unfold F_Tree_turnInto
  by_cases h0 : x < 0
  · rw [if_pos h0]; exact ⟨u, rfl, h, fr_refl _ _⟩
  rw [if_neg h0]
  by_cases h1 : u.1 18 10 ≤ x
  · rw [if_pos h1]; exact ⟨u, rfl, h, fr_refl _ _⟩
  rw [if_neg h1, if_pos (f_guard b hb hc x h0 h1).1]
  exact ⟨_, rfl, f_w1 h _ _ _ (by omega)⟩
theorem f_place {T : List Tok} {n : Nat} {q : Nat × Nat} {g : pm_s} {u : pm_J} (h : fl T n q g u) (x : Int32) : ∃ v, F_Tree_placeOf x g u = some v := by
  obtain ⟨b, hb, hc⟩ := h.2.1.2.2.1
  unfold F_Tree_placeOf
  by_cases h0 : x < 0
  · rw [if_pos h0]; exact ⟨_, rfl⟩
  rw [if_neg h0]
  by_cases h1 : u.1 18 10 ≤ x
  · rw [if_pos h1]; exact ⟨_, rfl⟩
  rw [if_neg h1, if_pos (f_guard b hb hc x h0 h1).1]; exact ⟨_, rfl⟩
theorem f_nkind {T : List Tok} {n : Nat} {q : Nat × Nat} {g : pm_s} {u : pm_J} (h : fl T n q g u) (x : Int32) : ∃ v, F_Tree_kind x g u = some v := by
  obtain ⟨b, hb, hc⟩ := h.2.1.2.2.1
  unfold F_Tree_kind
  by_cases h0 : x < 0
  · rw [if_pos h0]; exact ⟨_, rfl⟩
  rw [if_neg h0]
  by_cases h1 : u.1 18 10 ≤ x
  · rw [if_pos h1]; exact ⟨_, rfl⟩
  rw [if_neg h1, if_pos (f_guard b hb hc x h0 h1).1]; exact ⟨_, rfl⟩
theorem f_hasL {T : List Tok} {n : Nat} {q : Nat × Nat} {g : pm_s} {u : pm_J} (h : fl T n q g u) (d : Nat) (hd : d < 30) (x : Int32) : ∃ v, F_Table_hasLocal (ie d) x g u = some v ∧ (v ≠ 0 → ∃ l : Nat, l < 24 ∧ x = ie l) := by
  obtain ⟨b, hb, hc⟩ := h.2.1.2.2.2.1
  obtain ⟨k, hk, hkc⟩ := h.2.1.2.2.2.2.1 d hd
  unfold F_Table_hasLocal
  rw [hc, if_neg (nlt0 d (by omega))]
  by_cases h1 : ie (b : Int) ≤ ie (d : Int)
  · rw [if_pos h1]; exact ⟨_, rfl, fun hh => absurd rfl hh⟩
  rw [if_neg h1]
  by_cases h2 : x < 0
  · rw [if_pos h2]; exact ⟨_, rfl, fun hh => absurd rfl hh⟩
  rw [if_neg h2, if_pos (okn d 30 hd (by omega)), ntn d (by omega), hkc]
  by_cases h3 : ie (k : Int) ≤ x
  · rw [if_pos h3]; exact ⟨_, rfl, fun hh => absurd rfl hh⟩
  rw [if_neg h3]
  obtain ⟨l, rfl, hl⟩ := i_lt (by omega) h2 h3
  exact ⟨_, rfl, fun _ => ⟨l, by omega, rfl⟩⟩
theorem f_setLT {T : List Tok} {n d : Nat} {q : Nat × Nat} {g : pm_s} {u : pm_J} (hd : d < 30) (h : fl T n q g u) (x y : Int32) : ∃ v, F_Table_setLocalType (ie d) x y g u = some v ∧ flE T n d q g u v := by
  obtain ⟨v, v1, v2⟩ := f_hasL h d hd x
  unfold F_Table_setLocalType
  rw [v1, Option.bind_some]
  by_cases h0 : v = 0
  · rw [if_pos h0]; exact ⟨u, rfl, h, fr_refl _ _⟩
  rw [if_neg h0]
  obtain ⟨l, hl, rfl⟩ := v2 h0
  have e1 : ie (d : Int) * 24 + ie (l : Int) = ie ((d * 24 + l : Nat) : Int) := by rw [show (24 : Int32) = ie 24 from rfl, ie_mul, ie_add]; rfl
  rw [e1, if_pos (okn _ 720 (by omega) (by omega)), ntn _ (by omega)]
  exact ⟨_, rfl, fl_wi h _ _ _ (by omega) (by omega) (by omega), frE_wi _ _ _ (by omega) (fr_refl _ _)⟩
theorem f_setLB {T : List Tok} {n d : Nat} {q : Nat × Nat} {g : pm_s} {u : pm_J} (hd : d < 30) (h : fl T n q g u) (x y : Int32) : ∃ v, F_Table_setLocalBound (ie d) x y g u = some v ∧ flE T n d q g u v := by
  obtain ⟨v, v1, v2⟩ := f_hasL h d hd x
  unfold F_Table_setLocalBound
  rw [v1, Option.bind_some]
  by_cases h0 : v = 0
  · rw [if_pos h0]; exact ⟨u, rfl, h, fr_refl _ _⟩
  rw [if_neg h0]
  obtain ⟨l, hl, rfl⟩ := v2 h0
  have e1 : ie (d : Int) * 24 + ie (l : Int) = ie ((d * 24 + l : Nat) : Int) := by rw [show (24 : Int32) = ie 24 from rfl, ie_mul, ie_add]; rfl
  rw [e1, if_pos (okn _ 720 (by omega) (by omega)), ntn _ (by omega)]
  exact ⟨_, rfl, fl_wi h _ _ _ (by omega) (by omega) (by omega), frE_wi _ _ _ (by omega) (fr_refl _ _)⟩
