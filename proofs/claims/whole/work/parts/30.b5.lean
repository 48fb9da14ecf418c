set_option maxRecDepth 100000
theorem oR_m {D : List Df} {t : Tr} {c : CS} {Y : List Ty} {bx : Bool} {lim : Nat} {u0 : pm_J} {k k' : Nat} {w : pm_J} {r : Nat} {sf : Ms} (h : oR u0 D t c Y bx lim k w r sf) (hk : k ≤ k') : oR u0 D t c Y bx lim k' w r sf := by
  rcases h with ⟨a, s', h1, h2⟩ | h
  · exact Or.inl ⟨a, s', by omega, h2⟩
  · exact Or.inr h
theorem aS_n {fr : Fr} (F : List Fr) (h : fr.2.2.1 ≠ 3) : aS (fr :: F) = aS F := by
  show aS F ++ (if fr.2.2.1 = 3 then _ else []) = _
  rw [if_neg h, List.append_nil]
theorem r_finish {u0 u : pm_J} {t : Tr} {Y : List Ty} {bx : Bool} {lim : Nat} {hp : Hp} {L : Lo} {lc : Nat} {F : List Fr} {st cc dp : Nat} {fr : Fr} (g : pm_s) (x : Va) (h : rr0 u0 t Y bx lim u hp L lc (fr :: F) st cc dp) (hq : fr.2.2.1 ≠ 3) : ∃ w, F_Md_finish (ie (x.1 : Nat)) x.2 g u = some w ∧ rr0 u0 t Y bx lim w hp L lc F st cc dp ∧ bkR w x := by
  obtain ⟨h1, h2, h3, ⟨_, h4⟩, h5, ⟨h6, h6'⟩, h7⟩ := h
  rw [aS_n F hq] at h5
  have h6 : u.1 64 88 = ie ((F.length + 1 : Nat) : Int) := h6
  have h6' : F.length + 1 ≤ 150 := h6'
  have aw : ag (fun c i => ¬ (c = 64 ∧ (i = 88 ∨ i = 93 ∨ i = 94))) u (wj (wi (wi u 64 88 (ie (F.length : Nat))) 64 93 (ie (x.1 : Nat))) 64 94 x.2) := ag_wj (ag_wi (ag_wi (ag_r _ u) _ _ _ (by omega)) _ _ _ (by omega)) _ _ _ (by omega)
  refine ⟨_, ?_, ⟨ag_t h1 (ag_m aw (fun c i hc => by unfold wZ at hc; omega)), hR_ag h2 (ag_m aw (fun c i hc => by unfold wH at hc; omega)), loR_ag h3 (ag_m aw (fun c i hc => by unfold wL at hc; omega)), fRs_ag h4 (ag_m aw (fun c i hc => by unfold wFr at hc; omega)), akR_ag h5 (ag_m aw (fun c i hc => by unfold wA at hc; omega)), ⟨?_, by omega⟩, rgR_ag h7 (ag_m aw (fun c i hc => by unfold wG at hc; omega))⟩, ?_, wj_at _ _ _ _⟩
  · unfold F_Md_finish; rw [h6, isub1]
  · rw [wj_1, wi_ne _ _ _ _ _ _ (by omega), wi_at]
  · rw [wj_1, wi_at]
theorem fin_oR {D : List Df} {t : Tr} {c : CS} {Y : List Ty} {bx : Bool} {lim : Nat} {u0 : pm_J} {u : pm_J} {hp : Hp} {L : Lo} {lc : Nat} {F : List Fr} {st cc dp : Nat} {k r : Nat} {sf : Ms} {fr : Fr} (g : pm_s) (x : Va) (h : rr0 u0 t Y bx lim u hp L lc (fr :: F) st cc dp) (hq : fr.2.2.1 ≠ 3) (hr : rch D t c bx lim k (hp, L, lc, F, x, st, cc, dp, rM) r sf) : ∃ w, F_Md_finish (ie (x.1 : Nat)) x.2 g u = some w ∧ oR u0 D t c Y bx lim (k + 1) w r sf := by
  obtain ⟨w, w1, w2, w3⟩ := r_finish g x h hq
  exact ⟨w, w1, Or.inl ⟨k, _, Nat.lt_succ_self _, hr, w2, Or.inl ⟨rfl, Or.inl w3⟩⟩⟩
theorem go_nd {u : pm_J} {k e op : Nat} (N : Nat) (g : pm_s) (h88 : u.1 64 88 = ie ((k + 1 : Nat) : Int)) (hk : k + 1 ≤ 150) (h96 : u.1 64 96 = ie 0) (h123 : u.1 123 k = ie 0) (h124 : u.1 124 k = ie (e : Nat)) (he : e < 2400) (hop : u.1 77 e = ie (op : Nat)) (f : Nat) :
    (op = 1 → K_Md_go_0 N g (f + 1) u = (F_Md_workName N (ie (k : Nat)) (ie (e : Nat)) g u).bind fun q => K_Md_go_0 N g f q) ∧
    (op = 4 ∨ op = 6 → K_Md_go_0 N g (f + 1) u = (F_Md_workChoice (ie (k : Nat)) (ie (e : Nat)) g u).bind fun q => K_Md_go_0 N g f q) ∧
    (op = 9 → K_Md_go_0 N g (f + 1) u = (F_Md_workFunction (ie (k : Nat)) (ie (e : Nat)) g u).bind fun q => K_Md_go_0 N g f q) ∧
    (op = 10 ∨ op = 11 → K_Md_go_0 N g (f + 1) u = (F_Md_workHalf (ie (k : Nat)) (ie (e : Nat)) g u).bind fun q => K_Md_go_0 N g f q) ∧
    (op = 30 → K_Md_go_0 N g (f + 1) u = (F_Md_workRow N (ie (k : Nat)) (ie (e : Nat)) g u).bind fun q => K_Md_go_0 N g f q) ∧
    (op = 23 ∨ op = 24 ∨ op = 25 ∨ op = 32 → K_Md_go_0 N g (f + 1) u = (F_Md_workTwo N (ie (k : Nat)) (ie (e : Nat)) g u).bind fun q => K_Md_go_0 N g f q) ∧
    (op = 12 ∨ op = 13 → K_Md_go_0 N g (f + 1) u = K_Md_go_184 N g (K_Md_go_0 N g f) (ie (e : Nat)) u) := by
  have c1 : ¬ (ie ((k + 1 : Nat) : Int) ≤ (0 : Int32)) := fun hh => by have := (inle (k + 1) 0 (by omega) (by omega)).mp hh; omega
  have ok := okn k 150 (by omega) (by omega)
  have nt := ntn k (by omega)
  have oke := okn e 2400 he (by omega)
  have nte := ntn e (by omega)
  rw [K_Md_go_0, h88, if_neg c1, h96, if_pos (show ie 0 = (0 : Int32) from rfl), isub1, if_pos ok, if_pos ok, nt, h123, if_pos (show ie 0 = (0 : Int32) from rfl), h124, if_pos oke, nte, hop]
  refine ⟨fun h => ?_, fun h => ?_, fun h => ?_, fun h => ?_, fun h => ?_, fun h => ?_, fun h => ?_⟩
  · subst h; rw [if_pos (by decide)]
  · rcases h with rfl | rfl
    · rw [if_neg (by decide), if_pos (by decide)]
    · rw [if_neg (by decide), if_neg (by decide), if_pos (by decide)]
  · subst h; rw [if_neg (by decide), if_neg (by decide), if_neg (by decide), if_pos (by decide)]
  · rcases h with rfl | rfl
    · rw [if_neg (by decide), if_neg (by decide), if_neg (by decide), if_neg (by decide), if_pos (by decide)]
    · rw [if_neg (by decide), if_neg (by decide), if_neg (by decide), if_neg (by decide), if_neg (by decide), if_pos (by decide)]
  · subst h; rw [if_neg (by decide), if_neg (by decide), if_neg (by decide), if_neg (by decide), if_neg (by decide), if_neg (by decide), if_neg (by decide), if_neg (by decide), if_pos (by decide)]
  · rcases h with rfl | rfl | rfl | rfl <;> rw [if_neg (by decide), if_neg (by decide), if_neg (by decide), if_neg (by decide), if_neg (by decide), if_neg (by decide), if_neg (by decide), if_neg (by decide), if_neg (by decide)]
  · rcases h with rfl | rfl
    · rw [if_neg (by decide), if_neg (by decide), if_neg (by decide), if_neg (by decide), if_neg (by decide), if_neg (by decide), if_pos (by decide)]
    · rw [if_neg (by decide), if_neg (by decide), if_neg (by decide), if_neg (by decide), if_neg (by decide), if_neg (by decide), if_neg (by decide), if_pos (by decide)]
def gRf (u0 : pm_J) (D : List Df) (t : Tr) (c : CS) (Y : List Ty) (bx : Bool) (lim : Nat) (N : Nat) (g : pm_s) (u : pm_J) (k r : Nat) (sf : Ms) : Prop := ∃ w, (∀ f, K_Md_go_0 N g (f + 1) u = K_Md_go_0 N g f w) ∧ oR u0 D t c Y bx lim k w r sf
theorem gRf_of {D : List Df} {t : Tr} {c : CS} {Y : List Ty} {bx : Bool} {lim : Nat} {u0 : pm_J} {N : Nat} {g : pm_s} {u : pm_J} {k r : Nat} {sf : Ms} {o : Option pm_J} (hK : ∀ f, K_Md_go_0 N g (f + 1) u = o.bind fun q => K_Md_go_0 N g f q) (h : ∃ w, o = some w ∧ oR u0 D t c Y bx lim k w r sf) : gRf u0 D t c Y bx lim N g u k r sf := by
  obtain ⟨w, w1, w2⟩ := h
  exact ⟨w, fun f => by rw [hK f, w1]; rfl, w2⟩
theorem top_R {u0 u : pm_J} {t : Tr} {Y : List Ty} {bx : Bool} {lim : Nat} {hp : Hp} {L : Lo} {lc : Nat} {F : List Fr} {st cc dp : Nat} {e b q j : Nat} {hd : List Va} (h : rr0 u0 t Y bx lim u hp L lc ((some e, b, q, j, hd) :: F) st cc dp) : u.1 64 88 = ie ((F.length + 1 : Nat) : Int) ∧ F.length + 1 ≤ 150 ∧ u.1 64 96 = ie 0 ∧ u.1 123 F.length = ie 0 ∧ u.1 124 F.length = ie (e : Nat) ∧ u.1 125 F.length = ie (b : Nat) ∧ u.1 126 F.length = ie (sCd t (some e, b, q, j, hd) : Nat) ∧ b ≤ 60000 ∧ j ≤ 8 ∧ e < t.1 ∧ (q = 2 → 10 ≤ (t.2.1 e).1 → ∀ x, hd = [x] → u.1 127 F.length = ie (x.1 : Nat) ∧ u.2 128 F.length = x.2) ∧ pm_ok (ie (F.length : Nat)) 150 = true ∧ (ie (F.length : Nat)).toNatClampNeg = F.length ∧ (q = 3 → hd.length ≤ 6 ∧ (t.2.1 e).1 = 16) := by
  obtain ⟨h1, h2, h3, ⟨⟨f1, f2, f3, f4, f5, f6, f7, f8, f9⟩, h4⟩, h5, ⟨h6, h6'⟩, h7⟩ := h
  have h6' : F.length + 1 ≤ 150 := h6'
  exact ⟨h6, h6', h7.2.2.2.2.2.1, f6, f7, f8, f1, f2, f3, f5, f9, okn _ 150 (by omega) (by omega), ntn _ (by omega), fun hq => ⟨(f4 hq).1, (f4 hq).2 e rfl⟩⟩
theorem pt_oR {D : List Df} {t : Tr} {c : CS} {Y : List Ty} {bx : Bool} {lim : Nat} {u0 : pm_J} {u w : pm_J} {hp : Hp} {L : Lo} {lc : Nat} {F : List Fr} {v : Va} {st cc dp : Nat} {e b q q' j j' k r a : Nat} {hd hd' : List Va} {sf : Ms} (g : pm_s) (h : rr0 u0 t Y bx lim u hp L lc ((some e, b, q, j, hd) :: F) st cc dp) (hw : ag (fun c i => ¬ (126 ≤ c ∧ c ≤ 128 ∧ i = F.length)) u w) (h126 : w.1 126 F.length = ie (sCd t (some e, b, q', j', hd') : Nat)) (hj : j' ≤ 8) (h2 : q' = 2 → 10 ≤ (t.2.1 e).1 → ∀ x, hd' = [x] → w.1 127 F.length = ie (x.1 : Nat) ∧ w.2 128 F.length = x.2) (h3 : q' ≠ 3) (h3' : q ≠ 3) (hr : rch D t c bx lim k (hp, L, lc, (some e, b, q', j', hd') :: F, v, st, cc, dp, (0, a, b, v0)) r sf) : ∃ z, F_Md_begin (ie (a : Nat)) (ie (b : Nat)) g w = some z ∧ oR u0 D t c Y bx lim (k + 1) z r sf := by
  obtain ⟨t1, t2, t3, t4, t5, t6, t7, t8, t9, t10, t11, t12, t13, _⟩ := top_R h
  have h' : rr0 u0 t Y bx lim w hp L lc ((some e, b, q', j', hd') :: F) st cc dp := by
    refine rr_fr h (ag_m hw (fun c i hc => by omega)) ⟨h126, t8, hj, fun hh => absurd hh h3, t10, (hw _ _ (by omega)).1.trans t4, (hw _ _ (by omega)).1.trans t5, (hw _ _ (by omega)).1.trans t6, h2⟩ ?_
    rw [aS_n F (show q' ≠ 3 from h3), aS_n F (show q ≠ 3 from h3')]
  obtain ⟨z, z1, z2⟩ := r_begin g t8 h' hr
  exact ⟨z, z1, oR_m z2 (by omega)⟩
