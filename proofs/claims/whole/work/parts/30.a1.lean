set_option maxRecDepth 100000
def mdC (u : pm_J) (m : Mo) : Prop := (m.1 = 0 → u.1 44 11 = ie 0 ∧ u.1 44 12 = ie (m.2.1 : Nat) ∧ u.1 44 13 = ie (m.2.2.1 : Nat) ∧ m.2.2.1 ≤ 60000) ∧ (m.1 = 1 → u.1 44 11 = ie 1 ∧ u.2 44 14 = m.2.2.2.2) ∧ (m.1 = 2 → u.1 44 11 = ie 2)
theorem mdC_0 {u : pm_J} {a b : Nat} (h1 : u.1 44 11 = ie 0) (h2 : u.1 44 12 = ie (a : Nat)) (h3 : u.1 44 13 = ie (b : Nat)) (h4 : b ≤ 60000) : mdC u (0, a, b, v0) := ⟨fun _ => ⟨h1, h2, h3, h4⟩, (fun h => by cases h), (fun h => by cases h)⟩
theorem mdC_2 {u : pm_J} (h1 : u.1 44 11 = ie 2) : mdC u rM := ⟨(fun h => by cases h), (fun h => by cases h), fun _ => h1⟩
theorem mdC_1 {u : pm_J} {f : Va} (h1 : u.1 44 11 = ie 1) (h2 : u.2 44 14 = f.2) : mdC u (1, 0, 0, f) := ⟨(fun h => by cases h), fun _ => ⟨h1, h2⟩, (fun h => by cases h)⟩
theorem rgC_w {u w : pm_J} {bx : Bool} {lim : Nat} {rk : Int32} {v : Va} {st cc dp : Nat} (h : rgC u bx lim rk v st cc dp) (ha : ag (fun c i => (c = 44 ∧ (i = 6 ∨ i = 7 ∨ i = 8 ∨ i = 9 ∨ i = 10 ∨ i = 16)) ∨ (c = 57 ∧ i = 7)) u w) (x : Va) (hx : w.2 44 15 = x.2) : rgC w bx lim rk x st cc dp := by
  obtain ⟨h1, h2, h3, h4, h5, h6, h7, h8, h9⟩ := h
  exact ⟨hx, (ha _ _ (by omega)).1.trans h2, (ha _ _ (by omega)).1.trans h3, (ha _ _ (by omega)).1.trans h4, (ha _ _ (by omega)).1.trans h5, (ha _ _ (by omega)).1.trans h6, (ha _ _ (by omega)).1.trans h7, (ha _ _ (by omega)).1.trans h8, h9⟩
theorem c_wPart {u0 u : pm_J} {t : Tr} {Y : List Ty} {bx : Bool} {lim : Nat} {rk ov : Int32} {hp : Hp} {L : Lo} {lc : Nat} {F : List Fr} {v : Va} {st cc dp : Nat} {n : Option Nat} {b q : Nat} {a : Int} {hd : List Va} (g : pm_s) (x q' : Nat) (h : rcT u0 t Y bx lim rk ov u hp L lc n b q a hd F v st cc dp) : ∃ w, F_Machine_workPart (ie (x : Nat)) (ie (q' : Nat)) g u = some w ∧ rcT u0 t Y bx lim rk ov w hp L lc n b q' a hd F v st cc dp ∧ mdC w (0, x, b, v0) := by
  obtain ⟨w, w1, w2, _⟩ := c_setState g q' h
  have a1 : ag (fun c i => ¬ (c = 44 ∧ (i = 11 ∨ i = 12 ∨ i = 13))) w (wi w 44 12 (ie (x : Nat))) := ag_wi (ag_r _ w) _ _ _ (by omega)
  have w3 : rcT u0 t Y bx lim rk ov (wi w 44 12 (ie (x : Nat))) hp L lc n b q' a hd F v st cc dp := rcT_rg w2 (ag_m a1 (fun c i hc => by omega)) (rgC_ag w2.2.2.2.2.2.2.2 (ag_m a1 (fun c i hc => by unfold qR at hc; omega)))
  obtain ⟨_, _, _, _, h5, _, ⟨h8, h8'⟩, _⟩ := id w3
  have hb := (fr_rd g h8 h8' h5).2.2.1
  have a2 : ag (fun c i => ¬ (c = 44 ∧ (i = 11 ∨ i = 12 ∨ i = 13))) (wi w 44 12 (ie (x : Nat))) (wi (wi (wi w 44 12 (ie (x : Nat))) 44 13 (ie (b : Nat))) 44 11 0) := ag_wi (ag_wi (ag_r _ _) _ _ _ (by omega)) _ _ _ (by omega)
  refine ⟨_, ?_, rcT_rg w3 (ag_m a2 (fun c i hc => by omega)) (rgC_ag w3.2.2.2.2.2.2.2 (ag_m a2 (fun c i hc => by unfold qR at hc; omega))), mdC_0 (by rw [wi_at]; rfl) (by rw [wi_ne _ _ _ _ _ _ (by omega), wi_ne _ _ _ _ _ _ (by omega), wi_at]) (by rw [wi_ne _ _ _ _ _ _ (by omega), wi_at]) h5.2.2.1⟩
  unfold F_Machine_workPart
  rw [w1, Option.bind_some, hb]; rfl
theorem c_wFin {u0 u : pm_J} {t : Tr} {Y : List Ty} {bx : Bool} {lim : Nat} {rk ov : Int32} {hp : Hp} {L : Lo} {lc : Nat} {F : List Fr} {v : Va} {st cc dp : Nat} {n : Option Nat} {b q : Nat} {a : Int} {hd : List Va} (g : pm_s) (x : Va) (h : rcT u0 t Y bx lim rk ov u hp L lc n b q a hd F v st cc dp) : ∃ w, F_Machine_finish x.2 g u = some w ∧ rc0 u0 t Y bx lim rk ov w hp L lc F x st cc dp ∧ mdC w rM := by
  obtain ⟨h1, h2, h3, h4, h5, h7, ⟨h8, h8'⟩, h9⟩ := h
  have e1 : (if (0 : Int32) < ie ((F.length + 1 : Nat) : Int) - 1 then ie ((F.length + 1 : Nat) : Int) - 1 else 0) = ie (F.length : Nat) := by
    rw [isub1]
    by_cases e : F.length = 0
    · rw [e, if_neg (by decide)]; rfl
    · rw [if_pos (show (0 : Int32) < ie (F.length : Nat) from (inlt 0 F.length (by omega) (by omega)).mpr (by omega))]
  have aw : ag (fun c i => ¬ (c = 44 ∧ (i = 11 ∨ i = 15)) ∧ ¬ (c = 57 ∧ i = 6)) u (wi (wi (wj u 44 15 x.2) 57 6 (ie (F.length : Nat))) 44 11 2) := ag_wi (ag_wi (ag_wj (ag_r _ u) _ _ _ (by omega)) _ _ _ (by omega)) _ _ _ (by omega)
  refine ⟨wi (wi (wj u 44 15 x.2) 57 6 (ie (F.length : Nat))) 44 11 2, ?_, ⟨ag_t h1 (ag_m aw (fun c i hc => by unfold qS at hc; omega)), hC_ag h2 (ag_m aw (fun c i hc => by unfold qH at hc; omega)), (aw 45 9 (by omega)).1.trans h3, loC_ag h4 (ag_m aw (fun c i hc => by unfold qL at hc; omega)), fCs_ag h7 (ag_m aw (fun c i hc => by unfold qF at hc; omega)), ⟨by rw [wi_ne _ _ _ _ _ _ (by omega), wi_at], by omega⟩, rgC_w h9 (ag_m aw (fun c i hc => by omega)) x (by rw [wi_2, wi_2, wj_at])⟩, mdC_2 (by rw [wi_at]; rfl)⟩
  unfold F_Machine_finish F_Frames_pop
  rw [Option.bind_some, wj_1, h8, e1]
theorem c_wPush {u0 u : pm_J} {t : Tr} {Y : List Ty} {bx : Bool} {lim : Nat} {rk ov : Int32} {hp : Hp} {L : Lo} {lc : Nat} {F : List Fr} {v : Va} {st cc dp : Nat} (g : pm_s) (n : Option Nat) (b : Nat) (hb : b ≤ 60000) (h : rc0 u0 t Y bx lim rk ov u hp L lc F v st cc dp) (hl : F.length < 150) : ∃ w, F_Frames_push (ie (nIx n)) (ie (b : Nat)) g u = some w ∧ rcT u0 t Y bx lim rk ov w hp L lc n b 0 (-1) [] F v st cc (max dp (F.length + 1)) ∧ ∀ c i, c = 44 → w.1 c i = u.1 c i ∧ w.2 c i = u.2 c i := by
  obtain ⟨h1, h2, h3, h4, h7, ⟨h8, h8'⟩, h9⟩ := h
  have c1 : ie (F.length : Nat) < (150 : Int32) := (inlt F.length 150 (by omega) (by omega)).mpr hl
  have ok := okn F.length 150 hl (by omega)
  have nt := ntn F.length (by omega)
  have hdp : dp ≤ 150 := h9.2.2.2.2.2.2.2.2.2.2
  have e7 : (if ie (dp : Nat) < ie ((F.length + 1 : Nat) : Int) then ie ((F.length + 1 : Nat) : Int) else ie (dp : Nat)) = ie ((max dp (F.length + 1) : Nat) : Int) := by
    by_cases e : dp < F.length + 1
    · rw [if_pos ((inlt dp (F.length + 1) (by omega) (by omega)).mpr e), Nat.max_eq_right (by omega)]
    · rw [if_neg (fun hh => e ((inlt dp (F.length + 1) (by omega) (by omega)).mp hh)), Nat.max_eq_left (by omega)]
  have aw : ag (fun c i => ¬ (c = 57 ∧ (i = 6 ∨ i = 7)) ∧ ¬ qT F.length c i) u (wi (wi (wi (wi (wi (wi (wi u 58 F.length (ie (nIx n))) 59 F.length 0) 60 F.length (ie (b : Nat))) 61 F.length (-1)) 62 F.length 0) 57 6 (ie ((F.length + 1 : Nat) : Int))) 57 7 (ie ((max dp (F.length + 1) : Nat) : Int))) := by
    refine ag_wi (ag_wi (ag_wi (ag_wi (ag_wi (ag_wi (ag_wi (ag_r _ u) _ _ _ ?_) _ _ _ ?_) _ _ _ ?_) _ _ _ ?_) _ _ _ ?_) _ _ _ ?_) _ _ _ ?_ <;> (unfold qT; omega)
  refine ⟨_, ?_, ⟨ag_t h1 (ag_m aw (fun c i hc => by unfold qS at hc; unfold qT; omega)), hC_ag h2 (ag_m aw (fun c i hc => by unfold qH at hc; unfold qT; omega)), (aw 45 9 (by unfold qT; omega)).1.trans h3, loC_ag h4 (ag_m aw (fun c i hc => by unfold qL at hc; unfold qT; omega)), ⟨?_, ?_, hb, fun _ => ?_, ?_, ?_, by show 0 ≤ 6; omega, fun i x hi => by cases hi⟩, fCs_ag h7 (ag_m aw (fun c i hc => by unfold qF at hc; unfold qT; omega)), ⟨?_, by omega⟩, ?_⟩, fun c i hc => aw c i (by unfold qT; omega)⟩
  · unfold F_Frames_push
    rw [h8, if_pos c1, if_pos ok, if_pos ok, if_pos ok, if_pos ok, if_pos ok, nt, iadd1, h9.2.2.2.1, e7]
  · rw [wi_ne _ _ _ _ _ _ (by omega), wi_ne _ _ _ _ _ _ (by omega), wi_ne _ _ _ _ _ _ (by omega), wi_ne _ _ _ _ _ _ (by omega), wi_ne _ _ _ _ _ _ (by omega), wi_ne _ _ _ _ _ _ (by omega), wi_at]
  · rw [wi_ne _ _ _ _ _ _ (by omega), wi_ne _ _ _ _ _ _ (by omega), wi_ne _ _ _ _ _ _ (by omega), wi_ne _ _ _ _ _ _ (by omega), wi_at]
  · rw [wi_ne _ _ _ _ _ _ (by omega), wi_ne _ _ _ _ _ _ (by omega), wi_ne _ _ _ _ _ _ (by omega), wi_ne _ _ _ _ _ _ (by omega), wi_ne _ _ _ _ _ _ (by omega), wi_at]; rfl
  · rw [wi_ne _ _ _ _ _ _ (by omega), wi_ne _ _ _ _ _ _ (by omega), wi_ne _ _ _ _ _ _ (by omega), wi_at]; rfl
  · rw [wi_ne _ _ _ _ _ _ (by omega), wi_ne _ _ _ _ _ _ (by omega), wi_at]; rfl
  · rw [wi_ne _ _ _ _ _ _ (by omega), wi_at]
  · obtain ⟨r1, r2, r3, r4, r5, r6, r7, r8, r9, r10, r11⟩ := h9
    exact ⟨(aw 44 15 (by unfold qT; omega)).2.trans r1, (aw 44 8 (by unfold qT; omega)).1.trans r2, (aw 44 9 (by unfold qT; omega)).1.trans r3, wi_at _ _ _ _, (aw 44 7 (by unfold qT; omega)).1.trans r5, (aw 44 6 (by unfold qT; omega)).1.trans r6, (aw 44 10 (by unfold qT; omega)).1.trans r7, (aw 44 16 (by unfold qT; omega)).1.trans r8, r9, r10, by omega⟩
theorem lo_has {u : pm_J} {lc : Nat} (g : pm_s) (h8 : u.1 45 8 = ie (lc : Nat)) (hlc : lc ≤ 60000) {b l : Nat} (hl : b + l < lc) : F_Heap_hasLocal (ie (b : Nat)) (ie (l : Nat)) g u = some 1 ∧ ie (b : Nat) + ie (l : Nat) = ie ((b + l : Nat) : Int) ∧ pm_ok (ie ((b + l : Nat) : Int)) 60000 = true ∧ (ie ((b + l : Nat) : Int)).toNatClampNeg = b + l := by
  refine ⟨?_, by rw [ie_add]; rfl, okn _ _ (by omega) (by omega), ntn _ (by omega)⟩
  unfold F_Heap_hasLocal
  have e : ie (lc : Nat) - ie (b : Nat) = ie ((lc - b : Nat) : Int) := by rw [ie_sub]; congr 1; omega
  rw [if_neg (show ¬ (ie (b : Nat) < (0 : Int32)) from fun hh => by have := (inlt b 0 (by omega) (by omega)).mp hh; omega), if_neg (show ¬ (ie (l : Nat) < (0 : Int32)) from fun hh => by have := (inlt l 0 (by omega) (by omega)).mp hh; omega), h8, e, if_neg (fun hh => by have := (inle (lc - b) l (by omega) (by omega)).mp hh; omega)]
theorem lo_rd {u : pm_J} {lc : Nat} (g : pm_s) (h8 : u.1 45 8 = ie (lc : Nat)) (hlc : lc ≤ 60000) {b l : Nat} (hl : b + l < lc) : F_Heap_local (ie (b : Nat)) (ie (l : Nat)) g u = some (u.2 51 (b + l)) ∧ ∀ w, F_Heap_setLocal (ie (b : Nat)) (ie (l : Nat)) w g u = some (wj u 51 (b + l) w) := by
  obtain ⟨a1, a2, a3, a4⟩ := lo_has g h8 hlc hl
  refine ⟨?_, fun w => ?_⟩
  · unfold F_Heap_local; rw [a1, Option.bind_some, if_neg (by decide), a2, if_pos a3, a4]
  · unfold F_Heap_setLocal; rw [a1, Option.bind_some, if_neg (by decide), a2, if_pos a3, a4]
theorem rcT_lo {u0 u w : pm_J} {t : Tr} {Y : List Ty} {bx : Bool} {lim : Nat} {rk ov : Int32} {hp : Hp} {L L' : Lo} {lc lc' : Nat} {F : List Fr} {v : Va} {st cc dp : Nat} {n : Option Nat} {b q : Nat} {a : Int} {hd : List Va} (h : rcT u0 t Y bx lim rk ov u hp L lc n b q a hd F v st cc dp) (ha : ag (fun c i => ¬ ((c = 45 ∧ i = 8) ∨ c = 51)) u w) (hl : loC w L' lc') : rcT u0 t Y bx lim rk ov w hp L' lc' n b q a hd F v st cc dp := by
  obtain ⟨h1, h2, h3, h4, h5, h7, ⟨h8, h8'⟩, h9⟩ := h
  refine ⟨ag_t h1 (ag_m ha (fun c i hc => by unfold qS at hc; omega)), hC_ag h2 (ag_m ha (fun c i hc => by unfold qH at hc; omega)), (ha 45 9 (by omega)).1.trans h3, hl, fqC_ag h5 (ag_m ha (fun c i hc => by unfold qT at hc; omega)), fCs_ag h7 (ag_m ha (fun c i hc => by unfold qF at hc; omega)), ⟨(ha 57 6 (by omega)).1.trans h8, h8'⟩, rgC_ag h9 (ag_m ha (fun c i hc => by unfold qR at hc; omega))⟩
theorem rc0_lo {u0 u w : pm_J} {t : Tr} {Y : List Ty} {bx : Bool} {lim : Nat} {rk ov : Int32} {hp : Hp} {L L' : Lo} {lc lc' : Nat} {F : List Fr} {v : Va} {st cc dp : Nat} (h : rc0 u0 t Y bx lim rk ov u hp L lc F v st cc dp) (ha : ag (fun c i => ¬ ((c = 45 ∧ i = 8) ∨ c = 51)) u w) (hl : loC w L' lc') : rc0 u0 t Y bx lim rk ov w hp L' lc' F v st cc dp := by
  obtain ⟨h1, h2, h3, h4, h7, ⟨h8, h8'⟩, h9⟩ := h
  refine ⟨ag_t h1 (ag_m ha (fun c i hc => by unfold qS at hc; omega)), hC_ag h2 (ag_m ha (fun c i hc => by unfold qH at hc; omega)), (ha 45 9 (by omega)).1.trans h3, hl, fCs_ag h7 (ag_m ha (fun c i hc => by unfold qF at hc; omega)), ⟨(ha 57 6 (by omega)).1.trans h8, h8'⟩, rgC_ag h9 (ag_m ha (fun c i hc => by unfold qR at hc; omega))⟩
theorem rc0_rg {u0 u w : pm_J} {t : Tr} {Y : List Ty} {bx : Bool} {lim : Nat} {rk ov : Int32} {hp : Hp} {L : Lo} {lc : Nat} {F : List Fr} {v v' : Va} {st cc dp st' cc' dp' : Nat} (h : rc0 u0 t Y bx lim rk ov u hp L lc F v st cc dp) (ha : ag (fun c i => ¬ (c = 44 ∨ (c = 57 ∧ i = 7))) u w) (hr : rgC w bx lim rk v' st' cc' dp') : rc0 u0 t Y bx lim rk ov w hp L lc F v' st' cc' dp' := by
  obtain ⟨h1, h2, h3, h4, h7, ⟨h8, h8'⟩, h9⟩ := h
  refine ⟨ag_t h1 (ag_m ha (fun c i hc => by unfold qS at hc; omega)), hC_ag h2 (ag_m ha (fun c i hc => by unfold qH at hc; omega)), (ha 45 9 (by omega)).1.trans h3, loC_ag h4 (ag_m ha (fun c i hc => by unfold qL at hc; omega)), fCs_ag h7 (ag_m ha (fun c i hc => by unfold qF at hc; omega)), ⟨(ha 57 6 (by omega)).1.trans h8, h8'⟩, hr⟩
theorem loC_set {u : pm_J} {L : Lo} {lc : Nat} (h : loC u L lc) (k : Nat) (x : Va) : loC (wj u 51 k x.2) (pu_upd L k (some x)) lc := by
  refine ⟨h.1, h.2.1, fun i w hi hw => ?_⟩
  by_cases e : i = k
  · rw [e, upd_same] at hw; cases hw; rw [e, wj_at]
  · rw [upd_ne _ _ _ _ e] at hw; rw [wj_ne _ _ _ _ _ _ (by omega)]; exact h.2.2 i w hi hw
theorem hp_claim {u : pm_J} {lc : Nat} (g : pm_s) (w : Nat) (hw : w ≤ 24) (h8 : u.1 45 8 = ie (lc : Nat)) (hlc : lc ≤ 60000) : (lc + w ≤ 60000 → F_Heap_claim (ie (w : Nat)) g u = some (ie (lc : Nat), wi u 45 8 (ie ((lc + w : Nat) : Int)))) ∧ (60000 < lc + w → F_Heap_claim (ie (w : Nat)) g u = some (-1, wi u 45 9 1)) := by
  have e1 : ie (lc : Nat) + ie (w : Nat) = ie ((lc + w : Nat) : Int) := by rw [ie_add]; rfl
  have e2 : ie ((lc + w : Nat) : Int) - ie (w : Nat) = ie (lc : Nat) := by rw [ie_sub]; congr 1; omega
  refine ⟨fun h => ?_, fun h => ?_⟩
  · unfold F_Heap_claim; rw [h8, e1, if_pos (show ie ((lc + w : Nat) : Int) ≤ (60000 : Int32) from (inle (lc + w) 60000 (by omega) (by omega)).mpr h), e2]
  · unfold F_Heap_claim; rw [h8, e1, if_neg (show ¬ (ie ((lc + w : Nat) : Int) ≤ (60000 : Int32)) from fun hh => by have := (inle (lc + w) 60000 (by omega) (by omega)).mp hh; omega)]
def fn4 (u0 : pm_J) (Y : List Ty) (rk : Int32) (u : pm_J) (hp : Hp) (st cc dp : Nat) : Prop := ag qS u0 u ∧ hC Y u hp ∧ u.1 45 9 = ie 1 ∧ u.1 44 8 = ie (st : Nat) ∧ u.1 44 9 = ie (cc : Nat) ∧ u.1 57 7 = ie (dp : Nat) ∧ u.1 44 16 = rk
theorem rcT_4 {u0 u : pm_J} {t : Tr} {Y : List Ty} {bx : Bool} {lim : Nat} {rk : Int32} {hp : Hp} {L : Lo} {lc : Nat} {F : List Fr} {v : Va} {st cc dp : Nat} {n : Option Nat} {b q : Nat} {a : Int} {hd : List Va} (h : rcT u0 t Y bx lim rk (ie 1) u hp L lc n b q a hd F v st cc dp) : fn4 u0 Y rk u hp st cc dp := by
  obtain ⟨h1, h2, h3, h4, h5, h7, _, r1, r2, r3, r4, r5, r6, r7, r8, r9⟩ := h
  exact ⟨h1, h2, h3, r2, r3, r4, r8⟩
theorem rc0_4 {u0 u : pm_J} {t : Tr} {Y : List Ty} {bx : Bool} {lim : Nat} {rk : Int32} {hp : Hp} {L : Lo} {lc : Nat} {F : List Fr} {v : Va} {st cc dp : Nat} (h : rc0 u0 t Y bx lim rk (ie 1) u hp L lc F v st cc dp) : fn4 u0 Y rk u hp st cc dp := by
  obtain ⟨h1, h2, h3, h4, h7, _, r1, r2, r3, r4, r5, r6, r7, r8, r9⟩ := h
  exact ⟨h1, h2, h3, r2, r3, r4, r8⟩
theorem c_wMk {u0 u : pm_J} {t : Tr} {Y : List Ty} {bx : Bool} {lim : Nat} {rk : Int32} {hp : Hp} {L : Lo} {lc : Nat} {F : List Fr} {v : Va} {st cc dp : Nat} {n : Option Nat} {b q : Nat} {a : Int} {hd : List Va} (g : pm_s) (it : It) (w2 : Int64) (h : rcT u0 t Y bx lim rk (ie 0) u hp L lc n b q a hd F v st cc dp) (h6 : it.1 < 4) (h2 : it.1 ≤ 1 → w2 = it.2.2.1.2) : (hp.1.length < 4000 → ∃ w, F_Heap_make (ie (it.1 : Nat)) it.2.1.2 w2 (-1) g u = some (je (hp.1.length : Nat), w) ∧ rcT u0 t Y bx lim rk (ie 0) w (hp.1 ++ [it], hp.2) L lc n b q a hd F v st cc dp) ∧ (4000 ≤ hp.1.length → ∃ w, F_Heap_make (ie (it.1 : Nat)) it.2.1.2 w2 (-1) g u = some (-1, w) ∧ rcT u0 t Y bx lim rk (ie 1) w hp L lc n b q a hd F v st cc dp) := by
  obtain ⟨_, k2, k3, _⟩ := id h
  refine ⟨fun hl => ?_, fun hl => ?_⟩
  · refine ⟨_, hp_mk g it.2.1.2 w2 (-1) k2.1 hl (by omega), rcT_hp h (mkC_ag _ u _ _ _ _ _ (fun c i hc => by unfold qA at hc; omega)) (mkC_h k2 hl (by omega) rfl h2 (fun hh => by omega)) ?_⟩
    rw [(mkC_ag (fun c i => c = 45 ∧ i = 9) u hp.1.length it.1 it.2.1.2 w2 (-1) (fun c i hc => by omega) 45 9 ⟨rfl, rfl⟩).1]; exact k3
  · have e : hp.1.length = 4000 := by have := k2.2.1; omega
    have k5 := k2.1
    rw [e] at k5
    have aw : ag (fun c i => ¬ (c = 45 ∧ i = 9)) u (wi u 45 9 1) := ag_wi (ag_r _ u) _ _ _ (by omega)
    exact ⟨_, hp_full g _ _ _ _ k5, rcT_hp h (ag_m aw (fun c i hc => by unfold qA at hc; omega)) (hC_ag k2 (ag_m aw (fun c i hc => by unfold qH at hc; omega))) (by rw [wi_at]; rfl)⟩
