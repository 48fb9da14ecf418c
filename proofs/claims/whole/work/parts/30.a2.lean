set_option maxRecDepth 100000
theorem obd {α : Type} (x : Option α) : (x.bind fun q => some q) = x := by cases x <;> rfl
theorem tr_all {T : List Tok} {n : Nat} {D : List Df} {t : Tr} {c : CS} {sT : Nat → Ta} {g : pm_s} {u : pm_J} {Y : List Ty} (H : cF T n D t c sT g u Y) {e : Nat} (he : e < t.1) : F_Tree_kind (ie (e : Nat)) g u = some (ie (kk D c (t.2.1 e) e : Nat)) ∧ F_Tree_first (ie (e : Nat)) g u = some (ie (t.2.1 e).2.2.1) ∧ F_Tree_second (ie (e : Nat)) g u = some (ie (t.2.1 e).2.2.2.1) ∧ F_Tree_third (ie (e : Nat)) g u = some (ie (t.2.1 e).2.2.2.2.1) ∧ F_Tree_next (ie (e : Nat)) g u = some (ie (t.2.2.1 e)) ∧ F_Tree_value (ie (e : Nat)) g u = some (match c.2.1 e with | none => (t.2.1 e).2.2.2.2.2.1 | some d => je (d : Nat)) ∧ F_Tree_isShort (ie (e : Nat)) g u = some (ib (c.2.2.2 e)) := by
  obtain ⟨a1, _, a3, a4, a5, a6, _, a8⟩ := tr_row (g := g) H.2.2.1 e he
  obtain ⟨k1, _, k3, k4, k5, k6, _, k8, k9, _⟩ := H.2.2.2.2.2 e he
  refine ⟨by rw [a1, k1], by rw [a3, k3], by rw [a4, k4], by rw [a5, k5], by rw [a6, k6], (by rw [a8, k8]; rfl), ?_⟩
  have h1 := H.2.2.1.1
  have h2 := H.2.2.1.2
  unfold F_Tree_isShort
  rw [if_neg (show ¬ (ie (e : Nat) < (0 : Int32)) from fun hh => by have := (inlt e 0 (by omega) (by omega)).mp hh; omega), h1, if_neg (show ¬ (ie (t.1 : Nat) ≤ ie (e : Nat)) from fun hh => by have := (inle t.1 e (by omega) (by omega)).mp hh; omega), if_pos (okn e 1800 (by omega) (by omega)), ntn e (by omega), k9]
  cases c.2.2.2 e <;> rfl
theorem c_disp {g : pm_s} {u : pm_J} {e k : Nat} (N : Nat) (hn : F_Frames_node g u = some (ie (e : Nat))) (hk : F_Tree_kind (ie (e : Nat)) g u = some (ie (k : Nat))) :
    (k ≤ 1 → F_Machine_resume N g u = (F_Tree_value (ie (e : Nat)) g u).bind fun q => F_Machine_finish q g u) ∧
    (k = 2 → F_Machine_resume N g u = (F_Frames_base g u).bind fun q12 => (F_Tree_first (ie (e : Nat)) g u).bind fun q13 => (F_Heap_local q12 q13 g u).bind fun q14 => F_Machine_finish q14 g u) ∧
    (k = 9 → F_Machine_resume N g u = (F_Frames_base g u).bind fun q23 => (F_Heap_make 1 (ie (e : Nat)).toInt64 q23.toInt64 (-1) g u).bind fun q24 => F_Machine_finish q24.1 g q24.2) ∧
    (k = 7 → F_Machine_resume N g u = F_Machine_workLet (ie (e : Nat)) g u) ∧ (k = 8 → F_Machine_resume N g u = F_Machine_workIf (ie (e : Nat)) g u) ∧
    (k = 14 ∨ k = 15 → F_Machine_resume N g u = F_Machine_workHalf (ie (e : Nat)) g u) ∧ (10 ≤ k ∧ k ≤ 13 → F_Machine_resume N g u = F_Machine_workBoth (ie (e : Nat)) g u) ∧
    (k = 6 ∨ k = 16 ∨ k = 17 → F_Machine_resume N g u = F_Machine_workCall N (ie (e : Nat)) g u) := by
  unfold F_Machine_resume
  rw [hn, Option.bind_some, hk, Option.bind_some]
  refine ⟨fun h => ?_, fun h => ?_, fun h => ?_, fun h => ?_, fun h => ?_, fun h => ?_, fun h => ?_, fun h => ?_⟩
  · rcases (show k = 0 ∨ k = 1 by omega) with rfl | rfl
    · rw [if_neg (by decide), if_pos (by decide)]; simp only [obd]
    · rw [if_neg (by decide), if_neg (by decide), if_pos (by decide)]; simp only [obd]
  · subst h; rw [if_neg (by decide), if_neg (by decide), if_neg (by decide), if_pos (by decide)]
    simp only [obd]
  · subst h; rw [if_neg (by decide), if_neg (by decide), if_neg (by decide), if_neg (by decide), if_neg (by decide), if_neg (by decide), if_neg (by decide), if_pos (by decide)]
    simp only [obd]
  · subst h; rw [if_neg (by decide), if_neg (by decide), if_neg (by decide), if_neg (by decide), if_neg (by decide), if_pos (by decide)]; exact obd _
  · subst h; rw [if_neg (by decide), if_neg (by decide), if_neg (by decide), if_neg (by decide), if_neg (by decide), if_neg (by decide), if_pos (by decide)]; exact obd _
  · rcases h with rfl | rfl
    · rw [if_neg (by decide), if_neg (by decide), if_neg (by decide), if_neg (by decide), if_neg (by decide), if_neg (by decide), if_neg (by decide), if_neg (by decide), if_pos (by decide)]; exact obd _
    · rw [if_neg (by decide), if_neg (by decide), if_neg (by decide), if_neg (by decide), if_neg (by decide), if_neg (by decide), if_neg (by decide), if_neg (by decide), if_neg (by decide), if_pos (by decide)]; exact obd _
  · rcases (show k = 10 ∨ k = 11 ∨ k = 12 ∨ k = 13 by omega) with rfl | rfl | rfl | rfl <;>
      (rw [if_neg (by decide), if_neg (by decide), if_neg (by decide), if_neg (by decide), if_neg (by decide), if_neg (by decide), if_neg (by decide), if_neg (by decide), if_neg (by decide), if_neg (by decide), if_neg (by decide), if_neg (by decide)]; exact obd _)
  · rcases h with rfl | rfl | rfl
    · rw [if_neg (by decide), if_neg (by decide), if_neg (by decide), if_neg (by decide), if_pos (by decide)]; exact obd _
    · rw [if_neg (by decide), if_neg (by decide), if_neg (by decide), if_neg (by decide), if_neg (by decide), if_neg (by decide), if_neg (by decide), if_neg (by decide), if_neg (by decide), if_neg (by decide), if_pos (by decide)]; exact obd _
    · rw [if_neg (by decide), if_neg (by decide), if_neg (by decide), if_neg (by decide), if_neg (by decide), if_neg (by decide), if_neg (by decide), if_neg (by decide), if_neg (by decide), if_neg (by decide), if_neg (by decide), if_pos (by decide)]; exact obd _
def rcM (u0 : pm_J) (t : Tr) (Y : List Ty) (bx : Bool) (lim : Nat) (rk : Int32) (u : pm_J) (s : Ms) : Prop := rc0 u0 t Y bx lim rk (ie 0) u s.1 s.2.1 s.2.2.1 s.2.2.2.1 s.2.2.2.2.1 s.2.2.2.2.2.1 s.2.2.2.2.2.2.1 s.2.2.2.2.2.2.2.1 ∧ mdC u s.2.2.2.2.2.2.2.2
def gC (u0 : pm_J) (t : Tr) (Y : List Ty) (bx : Bool) (lim : Nat) (rk : Int32) (o : Option pm_J) (r : Nat) (s' : Ms) : Prop := (r = 0 ∧ ∃ w, o = some w ∧ rcM u0 t Y bx lim rk w s') ∨ (r = 4 ∧ ∃ w, o = some w ∧ fn4 u0 Y rk w s'.1 s'.2.2.2.2.2.1 s'.2.2.2.2.2.2.1 s'.2.2.2.2.2.2.2.1)
theorem gC_fin {u0 u : pm_J} {t : Tr} {Y : List Ty} {bx : Bool} {lim : Nat} {rk : Int32} {hp : Hp} {L : Lo} {lc : Nat} {F : List Fr} {v : Va} {st cc dp : Nat} {n : Option Nat} {b q r : Nat} {a : Int} {hd : List Va} {s' : Ms} {x : Va} {g : pm_s} (h : rcT u0 t Y bx lim rk (ie 0) u hp L lc n b q a hd F v st cc dp) (hs : oFin hp L lc F x st cc dp r s') : gC u0 t Y bx lim rk (F_Machine_finish x.2 g u) r s' := by
  obtain ⟨rfl, rfl⟩ := hs
  obtain ⟨w, w1, w2, w3⟩ := c_wFin g x h
  exact Or.inl ⟨rfl, w, w1, w2, w3⟩
theorem gC_pt {u0 u : pm_J} {t : Tr} {Y : List Ty} {bx : Bool} {lim : Nat} {rk : Int32} {hp : Hp} {L : Lo} {lc : Nat} {F : List Fr} {v : Va} {st cc dp : Nat} {e b q q' j r : Nat} {a : Int} {hd : List Va} {s' : Ms} {x : Int} {g : pm_s} (h : rcT u0 t Y bx lim rk (ie 0) u hp L lc (some e) b q a hd F v st cc dp) (he : e < t.1) (ha : a = atm t (some e, b, q', j, hd)) (hs : oPt t hp L lc e b q' j hd F v st cc dp x r s') : gC u0 t Y bx lim rk (F_Machine_workPart (ie x) (ie (q' : Nat)) g u) r s' := by
  obtain ⟨y, rfl, hy, rfl, rfl⟩ := hs
  obtain ⟨w, w1, w2, w3⟩ := c_wPart g y q' h
  exact Or.inl ⟨rfl, w, w1, rcT_0 w2 ha (fun e' h' => by cases h'; exact he), w3⟩
theorem atm_o {t : Tr} {e : Nat} (h : (t.2.1 e).1 ≠ 16) (b q j : Nat) (hd : List Va) : atm t (some e, b, q, j, hd) = -1 := by
  unfold atm; show (if (t.2.1 e).1 = 16 ∧ q ≠ 0 then _ else _) = _; rw [if_neg (fun hh => h hh.1)]
theorem mk_gC {u0 u : pm_J} {t : Tr} {Y : List Ty} {bx : Bool} {lim : Nat} {rk : Int32} {hp : Hp} {L : Lo} {lc : Nat} {F : List Fr} {v : Va} {st cc dp : Nat} {n : Option Nat} {b q r : Nat} {a : Int} {hd : List Va} {s' : Ms} {F' : List Fr} (tag : Nat) (it : It) (w2 : Int64) {g : pm_s} (h : rcT u0 t Y bx lim rk (ie 0) u hp L lc n b q a hd F v st cc dp) (h6 : it.1 < 4) (h2 : it.1 ≤ 1 → w2 = it.2.2.1.2) (hs : oMk hp L lc F F' tag it v st cc dp r s') : gC u0 t Y bx lim rk ((F_Heap_make (ie (it.1 : Nat)) it.2.1.2 w2 (-1) g u).bind fun q => F_Machine_finish q.1 g q.2) r s' := by
  obtain ⟨m1, m2⟩ := c_wMk g it w2 h h6 h2
  rcases hs with ⟨hl, rfl, rfl⟩ | ⟨hl, rfl, rfl⟩
  · obtain ⟨w, w1, w2⟩ := m1 hl
    obtain ⟨z, z1, z2, z3⟩ := c_wFin g (tag, je (hp.1.length : Nat)) w2
    refine Or.inl ⟨rfl, z, ?_, z2, z3⟩
    rw [w1, Option.bind_some]; exact z1
  · obtain ⟨w, w1, w2⟩ := m2 hl
    obtain ⟨z, z1, z2, z3⟩ := c_wFin g (0, -1) w2
    refine Or.inr ⟨rfl, z, ?_, rc0_4 z2⟩
    rw [w1, Option.bind_some]; exact z1
theorem c_node1 {T : List Tok} {n : Nat} {D : List Df} {t : Tr} {c : CS} {sT : Nat → Ta} {g : pm_s} {Y : List Ty} {bx : Bool} {lim : Nat} {rk : Int32} {u0 : pm_J} {u : pm_J} {hp : Hp} {L : Lo} {lc : Nat} {F : List Fr} {v : Va} {st cc dp : Nat} {e b q j r : Nat} {hd : List Va} {s' : Ms} (N : Nat) (H0 : cF T n D t c sT g u0 Y) (h : rc0 u0 t Y bx lim rk (ie 0) u hp L lc ((some e, b, q, j, hd) :: F) v st cc dp) (h16 : ¬ ((t.2.1 e).1 = 3 ∨ (t.2.1 e).1 = 4 ∨ (t.2.1 e).1 = 16)) (hs : oNd D t c bx hp L lc e b q j hd F v st cc dp r s') : gC u0 t Y bx lim rk (F_Machine_resume N g u) r s' := by
  have he : e < t.1 := (rc_T h).2 e rfl
  have hT : rcT u0 t Y bx lim rk (ie 0) u hp L lc (some e) b q (-1) hd F v st cc dp := by
    have := (rc_T h).1
    rw [atm_o (by omega)] at this; exact this
  clear h
  obtain ⟨k1, k2, k3, k4, k5, k6, ⟨k7, k7'⟩, k8⟩ := id hT
  have H := cF_ag H0 k1
  obtain ⟨r1, r2, r3, r4, _, r6⟩ := fr_rd g k7 k7' k5
  have r2 := r2 (by intro hh; cases hh)
  obtain ⟨t1, t2, t3, t4, _, t6, _⟩ := tr_all H he
  have hv : u.2 44 15 = v.2 := k8.1
  obtain ⟨d1, d2, d9, d7, d8, d14, d10, _⟩ := c_disp N r1 t1
  rcases hs with ⟨k, hk, hs⟩ | ⟨k, hk, l, y, hl, hL, hlc, hs⟩ | ⟨k, hk, hs⟩ | ⟨k, hk, hs⟩ | ⟨k, hk, hs⟩ | ⟨k, hk, hs⟩ | ⟨k, hk, hs⟩ | ⟨k, _⟩ | ⟨k, _⟩
  · rw [d1 (by omega), t6]
    have hc : c.2.1 e = none := by
      cases hc : c.2.1 e with
      | none => rfl
      | some d => unfold kk at hk; rw [hc] at hk; have hk' : (if (t.2.1 e).1 = 16 then 17 else if (dPs D d).length = 0 then 6 else 5) = (t.2.1 e).1 := hk; rw [if_neg (by omega)] at hk'; split at hk' <;> omega
    rw [hc, Option.bind_some]
    exact gC_fin (x := ((t.2.1 e).1, (t.2.1 e).2.2.2.2.2.1)) hT hs
  · rw [d2 hk, r3, Option.bind_some, t2, Option.bind_some, hl, (lo_rd g k4.1 k4.2.1 hlc).1, Option.bind_some, k4.2.2 _ y hlc hL]
    exact gC_fin hT hs
  · have hb := k5.2.2.1
    have ht := H.2.2.1.2
    rw [d9 hk, r3, Option.bind_some, ie_je _ (by omega) (by omega), ie_je _ (by omega) (by omega)]
    exact mk_gC 3 (1, (0, je (e : Nat)), (0, je (b : Nat)), .num 0, -1) (je (b : Nat)) hT (by show 1 < 4; omega) (fun _ => rfl) hs
  · rw [d7 hk]
    unfold F_Machine_workLet
    rw [r2, Option.bind_some]
    rcases hs with ⟨rfl, hs⟩ | ⟨rfl, l, hl, hlc, hs⟩ | ⟨rfl, hs⟩
    · rw [if_pos (by decide), t2, Option.bind_some, obd]
      exact gC_pt hT he (atm_o (by omega) _ _ _ _).symm hs
    · have a1 : ag (fun c i => ¬ ((c = 45 ∧ i = 8) ∨ c = 51)) u (wj u 51 (b + l) v.2) := ag_wj (ag_r _ u) _ _ _ (by omega)
      have hT' : rcT u0 t Y bx lim rk (ie 0) (wj u 51 (b + l) v.2) hp (pu_upd L (b + l) (some v)) lc (some e) b 1 (-1) hd F v st cc dp := rcT_lo hT a1 (loC_set k4 _ v)
      have t3' := (tr_all (cF_ag H (ag_m a1 (fun c i hc => by unfold qS at hc; omega))) he).2.2.1
      rw [if_neg (by decide), Option.bind_some, if_pos (by decide), r3, Option.bind_some, t4, Option.bind_some, hl, hv, (lo_rd g k4.1 k4.2.1 hlc).2, Option.bind_some, t3', Option.bind_some, obd]
      exact gC_pt hT' he (atm_o (by omega) _ _ _ _).symm hs
    · rw [if_neg (by decide), Option.bind_some, if_neg (by decide), obd, hv]
      exact gC_fin hT hs
  · rw [d8 hk]
    unfold F_Machine_workIf
    rw [r2, Option.bind_some]
    rcases hs with ⟨rfl, hs⟩ | ⟨rfl, hs⟩ | ⟨rfl, hs⟩
    · rw [if_pos (by decide), t2, Option.bind_some, obd]
      exact gC_pt hT he (atm_o (by omega) _ _ _ _).symm hs
    · rw [if_neg (by decide), Option.bind_some, if_pos (by decide), hv]
      by_cases ev : v.2 = 0
      · rw [if_pos ((lg_eq0 _ _).mpr ev), t4, Option.bind_some, obd]
        rw [if_pos ev] at hs
        exact gC_pt hT he (atm_o (by omega) _ _ _ _).symm hs
      · rw [if_neg (fun hh => ev ((lg_eq0 _ _).mp hh)), t3, Option.bind_some, obd]
        rw [if_neg ev] at hs
        exact gC_pt hT he (atm_o (by omega) _ _ _ _).symm hs
    · rw [if_neg (by decide), Option.bind_some, if_neg (by decide), obd, hv]
      exact gC_fin hT hs
  · rw [d14 (by rw [hk]; exact k)]
    unfold F_Machine_workHalf
    rw [r2, Option.bind_some]
    rcases hs with ⟨rfl, hs⟩ | ⟨rfl, i, it, i1, i2, i3, hs⟩
    · rw [if_pos (by decide), t2, Option.bind_some, obd]
      exact gC_pt hT he (atm_o (by omega) _ _ _ _).symm hs
    · obtain ⟨_, g2, g3, _, _⟩ := hp_rd g k2.1 k2.2.1 (List.getElem?_eq_some_iff.mp i2).1
      obtain ⟨_, _, q2, q3, _⟩ := k2.2.2.1 i it i2
      rw [if_neg (by decide), t1, Option.bind_some, hk, hv, i1]
      rcases k with k | k
      · rw [k, if_pos (by decide), g2, Option.bind_some, obd, q2]
        rw [if_pos k] at hs
        exact gC_fin hT hs
      · rw [k, if_neg (by decide), g3, Option.bind_some, obd, q3 (by omega)]
        rw [if_neg (by omega)] at hs
        exact gC_fin hT hs
  · rw [d10 (by omega)]
    unfold F_Machine_workBoth
    rw [r2, Option.bind_some]
    rcases hs with ⟨rfl, hs⟩ | ⟨rfl, rfl, hs⟩ | ⟨rfl, A, rfl, hs⟩
    · rw [if_pos (by decide), t2, Option.bind_some, obd]
      exact gC_pt hT he (atm_o (by omega) _ _ _ _).symm hs
    · obtain ⟨w, w1, w2, w3⟩ := c_hold g v hT (by show 0 < 6; omega)
      have t3' := (tr_all (cF_ag H0 w2.1) he).2.2.1
      rw [if_neg (by decide), Option.bind_some, if_pos (by decide), hv, w1, Option.bind_some, t3', Option.bind_some, obd]
      exact gC_pt w2 he (atm_o (by omega) _ _ _ _).symm hs
    · have hA : F_Frames_held 0 g u = some A.2 := r6 0 A rfl
      rw [if_neg (by decide), Option.bind_some, if_neg (by decide), t1, Option.bind_some, hA, Option.bind_some, hk, hv]
      unfold F_Machine_join
      rcases hs with ⟨k', hs⟩ | ⟨k', hs⟩ | ⟨k', hs⟩ | ⟨k', hs⟩
      · rw [k', if_pos (by decide), Option.bind_some, obd]; exact gC_fin hT hs
      · rw [k', if_neg (by decide), if_pos (by decide), Option.bind_some, obd]; exact gC_fin hT hs
      · rw [k', if_neg (by decide), if_neg (by decide), if_pos (by decide)]
        by_cases ev : A.2 < v.2
        · rw [if_neg (fun hh => (lg_ge0 _ _).mp hh ev), Option.bind_some, obd]
          rw [if_pos ev] at hs; exact gC_fin (x := (0, 1)) hT hs
        · rw [if_pos ((lg_ge0 _ _).mpr ev), Option.bind_some, obd]
          rw [if_neg ev] at hs; exact gC_fin (x := (0, 0)) hT hs
      · rw [k', if_neg (by decide), if_neg (by decide), if_neg (by decide)]
        have := mk_gC (g := g) 2 (0, A, v, .num 0, -1) v.2 hT (by show 0 < 4; omega) (fun _ => rfl) hs
        have e0 : (((F_Heap_make 0 A.2 v.2 (-1) g u).bind fun q5 => some (q5.1, q5.2)).bind fun q7 => (F_Machine_finish q7.1 g q7.2).bind fun q8 => some q8) = ((F_Heap_make (ie ((0 : Nat) : Int)) A.2 v.2 (-1) g u).bind fun q => F_Machine_finish q.1 g q.2) := by
          show (((F_Heap_make (ie ((0 : Nat) : Int)) A.2 v.2 (-1) g u).bind fun q5 => some (q5.1, q5.2)).bind fun q7 => (F_Machine_finish q7.1 g q7.2).bind fun q8 => some q8) = _
          cases F_Heap_make (ie ((0 : Nat) : Int)) A.2 v.2 (-1) g u with
          | none => rfl
          | some z => show ((F_Machine_finish z.1 g z.2).bind fun q8 => some q8) = F_Machine_finish z.1 g z.2; exact obd _
        rw [e0]; exact this
  · exfalso; omega
  · exfalso; omega
