set_option maxRecDepth 100000
def aT (c i : Nat) : Prop := (c = 44 ∨ c = 45 ∨ c = 50 ∨ c = 57) ∨ (c = 64 ∧ (i = 89 ∨ 97 ≤ i ∧ i ≤ 104))
theorem tdR_ag2 {u v : pm_J} (h : tdR u) (ha : ag aT u v) : tdR v := by
  have e : ∀ c i, (c = 44 ∨ c = 45 ∨ c = 50 ∨ c = 57) ∨ (c = 64 ∧ (i = 89 ∨ 97 ≤ i ∧ i ≤ 104)) → v.1 c i = u.1 c i := fun c i hc => (ha c i hc).1
  obtain ⟨h1, h2, h3, h4, h5, h6, h7, h8⟩ := h
  refine ⟨?_, ?_, ?_, ?_, ?_, ?_, ?_, ?_⟩
  · rw [e _ _ (by omega), e 64 _ (by omega)]; exact h1
  · rw [e _ _ (by omega), e 50 3 (by omega), e 64 _ (by omega)]; exact h2
  · rw [e _ _ (by omega), e 64 _ (by omega)]; exact h3
  · rw [e _ _ (by omega), e 50 5 (by omega), e 64 _ (by omega)]; exact h4
  · rw [e _ _ (by omega), e 64 _ (by omega)]; exact h5
  · rw [e _ _ (by omega), e 64 _ (by omega)]; exact h6
  · rw [e _ _ (by omega), e 64 _ (by omega)]; exact h7
  · rw [e _ _ (by omega), e 64 _ (by omega)]; exact h8
theorem cCp_ag {n : Nat} {r : Cmp} {g : pm_s} {u v : pm_J} (h : cCp n r g u) (ha : ag qK u v) : cCp n r g v := by
  cases r with
  | inl q =>
    obtain ⟨a1, a2, a3, a4, Y, a5⟩ := h
    exact ⟨(ha _ _ (by unfold qK; omega)).1.trans a1, a2, a3, (ha _ _ (by unfold qK; omega)).1.trans a4, Y, tyC_ag a5 (ag_m ha (fun c i hc => by unfold qY at hc; unfold qK; omega))⟩
  | inr q =>
    obtain ⟨Y, a1, a2⟩ := h
    exact ⟨Y, cF_agK a1 ha, a2⟩
theorem rCp_q {n : Nat} {r : Cmp} {v : pm_J} (h : rCp n r v) : rBs v ∧ rCq n r v := by
  cases r with
  | inl q => obtain ⟨_, h1, h2, h3, h4, h5⟩ := h; exact ⟨h1, h3, h5⟩
  | inr q => obtain ⟨_, h1, h2, h3, h4⟩ := h; exact ⟨h1, h3, h4⟩
theorem okA_ag {pu_W : List Int64} {u v : pm_J} (h : okA pu_W u) (ha : ag (fun c i => (c = 0 ∧ i = 4) ∨ (c = 64 ∧ i = 107) ∨ c = 2 ∨ c = 131) u v) : okA pu_W v := by
  obtain ⟨a1, a2, a3, a4⟩ := h
  exact ⟨a1, (ha _ _ (by omega)).1.trans a2, (ha _ _ (by omega)).1.trans a3, fun i x hi => ⟨(ha _ _ (by omega)).2.trans (a4 i x hi).1, (ha _ _ (by omega)).2.trans (a4 i x hi).2⟩⟩
theorem liT_ag2 {o : Nat → Int} {n : Nat} {u v : pm_J} (h : liT o n u) (ha : ag (fun c i => (c = 0 ∧ i = 1) ∨ c = 1 ∨ (c = 64 ∧ i = 1) ∨ c = 65) u v) : liT o n v := by
  obtain ⟨h1, h2, h3, h4, h5⟩ := h
  exact ⟨h1, (ha _ _ (by omega)).1.trans h2, fun i hi => (ha _ _ (by omega)).1.trans (h3 i hi), (ha _ _ (by omega)).1.trans h4, fun i hi => (ha _ _ (by omega)).1.trans (h5 i hi)⟩
theorem ag_frC {u v : pm_J} (h : frC u v) : ag (fun c i => ¬ cSCp c i) u v := h
theorem ag_frM {u v : pm_J} (h : frM u v) : ag (fun c i => ¬ rSMp c i) u v := h
theorem o_compile {N : Nat} (hN : 100000 ≤ N) {g : pm_s} {u : pm_J} (h : LI g u) : ∃ M, gLB g ((F_BC_compile N g u).bind fun q16 => if sh_Tb q16.2.1 = true then pm_S q16.2.1 ((F_Md_compile M q16.2.1 q16.2.2).bind fun q19 => if q16.1 = q19.1 then some ((), q16.2.1, q19.2) else none) else none) := by
  obtain ⟨o, n, pu_W, h1, h2, h3, h4, h5, h6, h7⟩ := id h
  obtain ⟨t1, t2, t3, t4⟩ := id h1
  have fol : ∀ (g' : pm_s) (v : pm_J), F_BC_compile N g u = some (retS (cmpS o n), g', v) → gL g g' → liT o n v → liB v → okA pu_W v → tdR v → liW g' v → v.1 0 2 = ie 1 → cCp n (cmpS o n) g' v → gdS (cmpS o n) → ∃ M, gLB g ((F_BC_compile N g u).bind fun q16 => if sh_Tb q16.2.1 = true then pm_S q16.2.1 ((F_Md_compile M q16.2.1 q16.2.2).bind fun q19 => if q16.1 = q19.1 then some ((), q16.2.1, q19.2) else none) else none) := by
    intro g' v k1 k2 k3 k4 k5 k6 k7 k8 k9 k10
    obtain ⟨w, n0, w1, w2, w3⟩ := r_comp g' k3.1 k3.2.2.2 k4.2.2 k10
    obtain ⟨w4, w5⟩ := rCp_q w3
    have aw := ag_frM w2
    refine ⟨n0, ?_⟩
    rw [k1, Option.bind_some, if_pos (gI_Tb k2.1)]
    have hin : ((F_Md_compile n0 g' v).bind fun q19 => if retS (cmpS o n) = q19.1 then some ((), g', q19.2) else none) = some ((), g', w) := by
      rw [w1 n0 (Nat.le_refl _), Option.bind_some, if_pos rfl]
    have hl : LI g' w := by
      refine ⟨o, n, pu_W, liT_ag2 k3 (ag_m aw (fun c i hc => by unfold rSMp; omega)), ⟨?_, ?_, w4⟩, okA_ag k5 (ag_m aw (fun c i hc => by unfold rSMp; omega)), tdR_ag2 k6 (ag_m aw (fun c i hc => by unfold aT at hc; unfold rSMp; omega)), liW_ag k7 (ag_m aw (fun c i hc => by unfold aR at hc; unfold rSMp; omega)), Or.inr ⟨(aw 0 2 (by unfold rSMp; omega)).1.trans k8, cCp_ag k9 (ag_m aw (fun c i hc => by unfold qK at hc; unfold rSMp; omega)), k10, w5⟩, k2.1⟩
      · exact (liB_ag2 (u := (v.1, v.2)) (v := (fun c i => if c = 73 ∨ c = 74 then v.1 c i else w.1 c i, fun c i => if c = 73 ∨ c = 74 then v.2 c i else w.2 c i)) k4 (fun c i hc => by
          by_cases e : c = 73 ∨ c = 74
          · exact ⟨if_pos e, if_pos e⟩
          · have := aw c i (by unfold aB at hc; unfold rSMp; omega)
            exact ⟨(if_neg e).trans this.1, (if_neg e).trans this.2⟩)).1
      · have := (liB_ag2 (u := (v.1, v.2)) (v := (fun c i => if c = 73 ∨ c = 74 then v.1 c i else w.1 c i, fun c i => if c = 73 ∨ c = 74 then v.2 c i else w.2 c i)) k4 (fun c i hc => by
          by_cases e : c = 73 ∨ c = 74
          · exact ⟨if_pos e, if_pos e⟩
          · have := aw c i (by unfold aB at hc; unfold rSMp; omega)
            exact ⟨(if_neg e).trans this.1, (if_neg e).trans this.2⟩)).2.1
        exact this
    show gLB g (pm_S g' ((F_Md_compile n0 g' v).bind fun q19 => if retS (cmpS o n) = q19.1 then some ((), g', q19.2) else none))
    rw [pmS_ok hin (Nat.le_refl _) (Nat.le_refl _)]
    exact ⟨g', w, rfl, hl, k2.2.1, k2.2.2.1, fun c s hg => gA_s (k2.2.2.2 c s hg)⟩
  rcases h6 with ⟨⟨a1, a2, a3, a4⟩, a5, a6⟩ | ⟨a1, a2, a3, a4⟩
  · obtain ⟨g', v, v1, v2, v3, v4, v5, v6, v7⟩ := c_compB N hN t1 t2 t3 a1 h2.1 a4 h2.2.1
    have av := ag_frC v3
    refine fol g' v v1 v2 (liT_ag2 h1 (ag_m av (fun c i hc => by unfold cSCp; omega))) ⟨?_, v5, fun k hk => ⟨(av _ _ (by unfold cSCp; omega)).1.trans (h2.2.2 k hk).1, (av _ _ (by unfold cSCp; omega)).1.trans (h2.2.2 k hk).2⟩⟩ (okA_ag h3 (ag_m av (fun c i hc => by unfold cSCp; omega))) (tdR_ag2 h4 (ag_m av (fun c i hc => by unfold aT at hc; unfold cSCp; omega))) (Or.inl ⟨?_, (av _ _ (by unfold cSCp; omega)).1.trans a6⟩) v4 v6 v7
    · obtain ⟨w0, w1, w2, w3, w4, w5, w6, w7, w8, w9⟩ := h2.1
      have e : ∀ i, v.2 9 i = u.2 9 i := fun i => (av 9 i (by unfold cSCp; omega)).2
      exact ⟨(e _).trans w0, (e _).trans w1, (e _).trans w2, (e _).trans w3, (e _).trans w4, (e _).trans w5, (e _).trans w6, (e _).trans w7, (e _).trans w8, (e _).trans w9⟩
    · rw [(av 44 10 (by unfold cSCp; omega)).1, a5]; decide
  · have hk : K_BC_compile_101 N g u = some (retS (cmpS o n), g, u) := by
      unfold K_BC_compile_101 F_Fault_isTold_3 F_Fault_what_3 F_Table_size
      revert a2
      generalize cmpS o n = r
      intro a2
      cases r with
      | inl q =>
        obtain ⟨b1, b2, b3, b4, _⟩ := a2
        rw [b1, if_neg (show ¬ (ie (q.1 : Nat) = (0 : Int32)) from fun hh => by have := (ineq q.1 0 (by omega) (by omega)).mp hh; omega), Option.bind_some, if_neg (by decide)]; rfl
      | inr q =>
        obtain ⟨Y, b1, _⟩ := a2
        rw [b1.1, if_pos (by decide), Option.bind_some, if_pos rfl, b1.2.2.2.1.1]; rfl
    refine fol g u ?_ (gL_refl h7) h1 h2 h3 h4 h5 a1 a2 a3
    unfold F_BC_compile
    rw [a1, if_neg (by decide)]
    exact pmS_ok hk (Nat.le_refl _) (Nat.le_refl _)
