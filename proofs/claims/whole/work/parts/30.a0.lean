set_option maxRecDepth 100000
def nIx (n : Option Nat) : Int := match n with
  | none => -1
  | some e => (e : Int)
def rAt (t : Tr) (e j : Nat) : Int := match (row (t.2.1 e))[j]? with
  | some a => (a : Int)
  | none => -1
def atm (t : Tr) (fr : Fr) : Int := match fr.1 with
  | none => -1
  | some e => if (t.2.1 e).1 = 16 ∧ fr.2.2.1 ≠ 0 then rAt t e fr.2.2.2.1 else -1
def fqC (u : pm_J) (k : Nat) (n : Option Nat) (b q : Nat) (a : Int) (hd : List Va) : Prop :=
  u.1 58 k = ie (nIx n) ∧ u.1 60 k = ie (b : Nat) ∧ b ≤ 60000 ∧ (n ≠ none → u.1 59 k = ie (q : Nat)) ∧ u.1 61 k = ie a ∧ u.1 62 k = ie (hd.length : Nat) ∧ hd.length ≤ 6 ∧ ∀ (i : Nat) (x : Va), hd[i]? = some x → u.2 63 (6 * k + i) = x.2
def fCs (t : Tr) (u : pm_J) : List Fr → Prop
  | [] => True
  | fr :: F => fqC u F.length fr.1 fr.2.1 fr.2.2.1 (atm t fr) fr.2.2.2.2 ∧ (∀ e, fr.1 = some e → e < t.1) ∧ fCs t u F
theorem fqC_ag {u v : pm_J} {k : Nat} {n : Option Nat} {b q : Nat} {a : Int} {hd : List Va} (h : fqC u k n b q a hd) (ha : ag (qT k) u v) : fqC v k n b q a hd := by
  have e : ∀ c i, (58 ≤ c ∧ c ≤ 62 ∧ i = k) ∨ (c = 63 ∧ 6 * k ≤ i ∧ i < 6 * k + 6) → v.1 c i = u.1 c i ∧ v.2 c i = u.2 c i := ha
  obtain ⟨h1, h2, h3, h4, h5, h6, h7, h8⟩ := h
  refine ⟨(e _ _ (by omega)).1.trans h1, (e _ _ (by omega)).1.trans h2, h3, fun hn => (e _ _ (by omega)).1.trans (h4 hn), (e _ _ (by omega)).1.trans h5, (e _ _ (by omega)).1.trans h6, h7, fun i x hi => ?_⟩
  have := (List.getElem?_eq_some_iff.mp hi).1
  exact (e _ _ (by omega)).2.trans (h8 i x hi)
theorem fCs_ag {t : Tr} {u v : pm_J} : ∀ {F : List Fr}, fCs t u F → ag (qF F.length) u v → fCs t v F
  | [], _, _ => trivial
  | fr :: F, ⟨h1, h2, h3⟩, ha => ⟨fqC_ag h1 (ag_m ha (fun c i hc => by unfold qT at hc; unfold qF; rw [List.length_cons]; omega)), h2, fCs_ag h3 (ag_m ha (fun c i hc => by unfold qF at hc ⊢; rw [List.length_cons]; omega))⟩
def loC (u : pm_J) (L : Lo) (lc : Nat) : Prop := u.1 45 8 = ie (lc : Nat) ∧ lc ≤ 60000 ∧ ∀ i v, i < lc → L i = some v → u.2 51 i = v.2
theorem loC_ag {u v : pm_J} {L : Lo} {lc : Nat} (h : loC u L lc) (ha : ag qL u v) : loC v L lc := by
  have e : ∀ c i, (c = 45 ∧ i = 8) ∨ c = 51 → v.1 c i = u.1 c i ∧ v.2 c i = u.2 c i := ha
  exact ⟨(e _ _ (by omega)).1.trans h.1, h.2.1, fun i w hi hw => (e _ _ (by omega)).2.trans (h.2.2 i w hi hw)⟩
def rgC (u : pm_J) (bx : Bool) (lim : Nat) (rk : Int32) (v : Va) (st cc dp : Nat) : Prop := u.2 44 15 = v.2 ∧ u.1 44 8 = ie (st : Nat) ∧ u.1 44 9 = ie (cc : Nat) ∧ u.1 57 7 = ie (dp : Nat) ∧ u.1 44 7 = ie (lim : Nat) ∧ u.1 44 6 = ib bx ∧ u.1 44 10 = ie 0 ∧ u.1 44 16 = rk ∧ st ≤ 20000 ∧ lim ≤ 20000 ∧ dp ≤ 150
theorem rgC_ag {u w : pm_J} {bx : Bool} {lim : Nat} {rk : Int32} {v : Va} {st cc dp : Nat} (h : rgC u bx lim rk v st cc dp) (ha : ag qR u w) : rgC w bx lim rk v st cc dp := by
  have e : ∀ c i, (c = 44 ∧ (i = 6 ∨ i = 7 ∨ i = 8 ∨ i = 9 ∨ i = 10 ∨ i = 15 ∨ i = 16)) ∨ (c = 57 ∧ i = 7) → w.1 c i = u.1 c i ∧ w.2 c i = u.2 c i := ha
  obtain ⟨h1, h2, h3, h4, h5, h6, h7, h8, h9⟩ := h
  exact ⟨(e _ _ (by omega)).2.trans h1, (e _ _ (by omega)).1.trans h2, (e _ _ (by omega)).1.trans h3, (e _ _ (by omega)).1.trans h4, (e _ _ (by omega)).1.trans h5, (e _ _ (by omega)).1.trans h6, (e _ _ (by omega)).1.trans h7, (e _ _ (by omega)).1.trans h8, h9⟩
def rc0 (u0 : pm_J) (t : Tr) (Y : List Ty) (bx : Bool) (lim : Nat) (rk ov : Int32) (u : pm_J) (hp : Hp) (L : Lo) (lc : Nat) (F : List Fr) (v : Va) (st cc dp : Nat) : Prop :=
  ag qS u0 u ∧ hC Y u hp ∧ u.1 45 9 = ov ∧ loC u L lc ∧ fCs t u F ∧ (u.1 57 6 = ie (F.length : Nat) ∧ F.length ≤ 150) ∧ rgC u bx lim rk v st cc dp
def rcT (u0 : pm_J) (t : Tr) (Y : List Ty) (bx : Bool) (lim : Nat) (rk ov : Int32) (u : pm_J) (hp : Hp) (L : Lo) (lc : Nat) (n : Option Nat) (b q : Nat) (a : Int) (hd : List Va) (F : List Fr) (v : Va) (st cc dp : Nat) : Prop :=
  ag qS u0 u ∧ hC Y u hp ∧ u.1 45 9 = ov ∧ loC u L lc ∧ fqC u F.length n b q a hd ∧ fCs t u F ∧ (u.1 57 6 = ie ((F.length + 1 : Nat) : Int) ∧ F.length + 1 ≤ 150) ∧ rgC u bx lim rk v st cc dp
theorem rc_T {u0 u : pm_J} {t : Tr} {Y : List Ty} {bx : Bool} {lim : Nat} {rk ov : Int32} {hp : Hp} {L : Lo} {lc : Nat} {F : List Fr} {v : Va} {st cc dp : Nat} {fr : Fr} (h : rc0 u0 t Y bx lim rk ov u hp L lc (fr :: F) v st cc dp) : rcT u0 t Y bx lim rk ov u hp L lc fr.1 fr.2.1 fr.2.2.1 (atm t fr) fr.2.2.2.2 F v st cc dp ∧ ∀ e, fr.1 = some e → e < t.1 := by
  obtain ⟨h1, h2, h3, h4, ⟨h5, h6, h7⟩, h8, h9⟩ := h
  exact ⟨⟨h1, h2, h3, h4, h5, h7, h8, h9⟩, h6⟩
theorem rcT_0 {u0 u : pm_J} {t : Tr} {Y : List Ty} {bx : Bool} {lim : Nat} {rk ov : Int32} {hp : Hp} {L : Lo} {lc : Nat} {F : List Fr} {v : Va} {st cc dp : Nat} {n : Option Nat} {b q j : Nat} {a : Int} {hd : List Va} (h : rcT u0 t Y bx lim rk ov u hp L lc n b q a hd F v st cc dp) (ha : a = atm t (n, b, q, j, hd)) (he : ∀ e, n = some e → e < t.1) : rc0 u0 t Y bx lim rk ov u hp L lc ((n, b, q, j, hd) :: F) v st cc dp := by
  obtain ⟨h1, h2, h3, h4, h5, h7, h8, h9⟩ := h
  subst ha
  exact ⟨h1, h2, h3, h4, ⟨h5, he, h7⟩, h8, h9⟩
theorem rcT_fr {u0 u w : pm_J} {t : Tr} {Y : List Ty} {bx : Bool} {lim : Nat} {rk ov : Int32} {hp : Hp} {L : Lo} {lc : Nat} {F : List Fr} {v : Va} {st cc dp : Nat} {n : Option Nat} {b q q' : Nat} {a a' : Int} {hd hd' : List Va} (h : rcT u0 t Y bx lim rk ov u hp L lc n b q a hd F v st cc dp) (ha : ag (fun c i => ¬ qT F.length c i) u w) (hf : fqC w F.length n b q' a' hd') : rcT u0 t Y bx lim rk ov w hp L lc n b q' a' hd' F v st cc dp := by
  obtain ⟨h1, h2, h3, h4, h5, h7, ⟨h8, h8'⟩, h9⟩ := h
  refine ⟨ag_t h1 (ag_m ha (fun c i hc => by unfold qS at hc; unfold qT; omega)), hC_ag h2 (ag_m ha (fun c i hc => by unfold qH at hc; unfold qT; omega)), ?_, loC_ag h4 (ag_m ha (fun c i hc => by unfold qL at hc; unfold qT; omega)), hf, fCs_ag h7 (ag_m ha (fun c i hc => by unfold qF at hc; unfold qT; omega)), ⟨?_, h8'⟩, rgC_ag h9 (ag_m ha (fun c i hc => by unfold qR at hc; unfold qT; omega))⟩
  · rw [(ha 45 9 (by unfold qT; omega)).1]; exact h3
  · rw [(ha 57 6 (by unfold qT; omega)).1]; exact h8
theorem rcT_rg {u0 u w : pm_J} {t : Tr} {Y : List Ty} {bx : Bool} {lim : Nat} {rk ov : Int32} {hp : Hp} {L : Lo} {lc : Nat} {F : List Fr} {v v' : Va} {st cc dp st' cc' dp' : Nat} {n : Option Nat} {b q : Nat} {a : Int} {hd : List Va} (h : rcT u0 t Y bx lim rk ov u hp L lc n b q a hd F v st cc dp) (ha : ag (fun c i => ¬ (c = 44 ∨ (c = 57 ∧ i = 7))) u w) (hr : rgC w bx lim rk v' st' cc' dp') : rcT u0 t Y bx lim rk ov w hp L lc n b q a hd F v' st' cc' dp' := by
  obtain ⟨h1, h2, h3, h4, h5, h7, ⟨h8, h8'⟩, h9⟩ := h
  refine ⟨ag_t h1 (ag_m ha (fun c i hc => by unfold qS at hc; omega)), hC_ag h2 (ag_m ha (fun c i hc => by unfold qH at hc; omega)), ?_, loC_ag h4 (ag_m ha (fun c i hc => by unfold qL at hc; omega)), fqC_ag h5 (ag_m ha (fun c i hc => by unfold qT at hc; omega)), fCs_ag h7 (ag_m ha (fun c i hc => by unfold qF at hc; omega)), ⟨?_, h8'⟩, hr⟩
  · rw [(ha 45 9 (by omega)).1]; exact h3
  · rw [(ha 57 6 (by omega)).1]; exact h8
theorem rcT_hp {u0 u w : pm_J} {t : Tr} {Y : List Ty} {bx : Bool} {lim : Nat} {rk ov ov' : Int32} {hp hp' : Hp} {L : Lo} {lc : Nat} {F : List Fr} {v : Va} {st cc dp : Nat} {n : Option Nat} {b q : Nat} {a : Int} {hd : List Va} (h : rcT u0 t Y bx lim rk ov u hp L lc n b q a hd F v st cc dp) (ha : ag qA u w) (hh : hC Y w hp') (ho : w.1 45 9 = ov') : rcT u0 t Y bx lim rk ov' w hp' L lc n b q a hd F v st cc dp := by
  obtain ⟨h1, h2, h3, h4, h5, h7, ⟨h8, h8'⟩, h9⟩ := h
  refine ⟨ag_t h1 (qA_S ha), hh, ho, loC_ag h4 (ag_m ha (fun c i hc => by unfold qL at hc; unfold qA; omega)), fqC_ag h5 (ag_m ha (fun c i hc => by unfold qT at hc; unfold qA; omega)), fCs_ag h7 (ag_m ha (fun c i hc => by unfold qF at hc; unfold qA; omega)), ⟨?_, h8'⟩, rgC_ag h9 (ag_m ha (fun c i hc => by unfold qR at hc; unfold qA; omega))⟩
  rw [(ha 57 6 (by unfold qA; omega)).1]; exact h8
theorem dep_1 {u : pm_J} {k : Nat} (h : u.1 57 6 = ie ((k + 1 : Nat) : Int)) (hk : k + 1 ≤ 150) : ¬ (u.1 57 6 ≤ (0 : Int32)) ∧ u.1 57 6 - 1 = ie (k : Nat) ∧ pm_ok (ie (k : Nat)) 150 = true ∧ (ie (k : Nat)).toNatClampNeg = k := by
  refine ⟨fun hh => ?_, by rw [h, isub1], okn k 150 (by omega) (by omega), ntn k (by omega)⟩
  rw [h] at hh
  have := (inle (k + 1) 0 (by omega) (by omega)).mp hh; omega
theorem fr_rd {u : pm_J} {k b q : Nat} {n : Option Nat} {a : Int} {hd : List Va} (g : pm_s) (h : u.1 57 6 = ie ((k + 1 : Nat) : Int)) (hk : k + 1 ≤ 150) (hf : fqC u k n b q a hd) : F_Frames_node g u = some (ie (nIx n)) ∧ (n ≠ none → F_Frames_state g u = some (ie (q : Nat))) ∧ F_Frames_base g u = some (ie (b : Nat)) ∧ F_Frames_atom g u = some (ie a) ∧ F_Frames_heldCount g u = some (ie (hd.length : Nat)) ∧ ∀ (i : Nat) (x : Va), hd[i]? = some x → F_Frames_held (ie (i : Nat)) g u = some x.2 := by
  obtain ⟨d1, d2, d3, d4⟩ := dep_1 h hk
  obtain ⟨h1, h2, h3, h4, h5, h6, h7, h8⟩ := hf
  have hc : F_Frames_heldCount g u = some (ie (hd.length : Nat)) := by
    unfold F_Frames_heldCount; rw [if_neg d1, d2, if_pos d3, d4, h6]
  refine ⟨?_, fun hn => ?_, ?_, ?_, hc, fun i x hi => ?_⟩
  · unfold F_Frames_node; rw [if_neg d1, d2, if_pos d3, d4, h1]
  · unfold F_Frames_state; rw [if_neg d1, d2, if_pos d3, d4, h4 hn]
  · unfold F_Frames_base; rw [if_neg d1, d2, if_pos d3, d4, h2]
  · unfold F_Frames_atom; rw [if_neg d1, d2, if_pos d3, d4, h5]
  · have hl := (List.getElem?_eq_some_iff.mp hi).1
    have e1 : ie (k : Nat) * 6 + ie (i : Nat) = ie ((6 * k + i : Nat) : Int) := by rw [show (6 : Int32) = ie 6 from rfl, ie_mul, ie_add]; congr 1; omega
    unfold F_Frames_held
    rw [if_neg (show ¬ (ie (i : Nat) < (0 : Int32)) from fun hh => by have := (inlt i 0 (by omega) (by omega)).mp hh; omega), hc, Option.bind_some, if_neg (show ¬ (ie (hd.length : Nat) ≤ ie (i : Nat)) from fun hh => by have := (inle hd.length i (by omega) (by omega)).mp hh; omega), d2, e1, if_pos (okn (6 * k + i) 900 (by omega) (by omega)), ntn _ (by omega), h8 i x hi]
theorem fr_st {u : pm_J} {k : Nat} (g : pm_s) (h : u.1 57 6 = ie ((k + 1 : Nat) : Int)) (hk : k + 1 ≤ 150) (x : Int32) : F_Frames_setState x g u = some (wi u 59 k x) ∧ F_Frames_setAtom x g u = some (wi u 61 k x) ∧ F_Frames_dropHeld g u = some (wi u 62 k 0) := by
  obtain ⟨d1, d2, d3, d4⟩ := dep_1 h hk
  refine ⟨?_, ?_, ?_⟩
  · unfold F_Frames_setState; rw [if_neg d1, d2, if_pos d3, d4]
  · unfold F_Frames_setAtom; rw [if_neg d1, d2, if_pos d3, d4]
  · unfold F_Frames_dropHeld; rw [if_neg d1, d2, if_pos d3, d4]
theorem c_setState {u0 u : pm_J} {t : Tr} {Y : List Ty} {bx : Bool} {lim : Nat} {rk ov : Int32} {hp : Hp} {L : Lo} {lc : Nat} {F : List Fr} {v : Va} {st cc dp : Nat} {n : Option Nat} {b q : Nat} {a : Int} {hd : List Va} (g : pm_s) (q' : Nat) (h : rcT u0 t Y bx lim rk ov u hp L lc n b q a hd F v st cc dp) : ∃ w, F_Frames_setState (ie (q' : Nat)) g u = some w ∧ rcT u0 t Y bx lim rk ov w hp L lc n b q' a hd F v st cc dp ∧ ∀ c i, c ≠ 59 → w.1 c i = u.1 c i ∧ w.2 c i = u.2 c i := by
  obtain ⟨_, _, _, _, h5, _, ⟨h8, h8'⟩, _⟩ := id h
  refine ⟨_, (fr_st g h8 h8' _).1, rcT_fr h (ag_wi (ag_r _ u) _ _ _ (by unfold qT; omega)) ?_, fun c i hc => ⟨wi_ne _ _ _ _ _ _ (by omega), rfl⟩⟩
  obtain ⟨a1, a2, a3, a4, a5, a6, a7, a8⟩ := h5
  exact ⟨(wi_ne _ _ _ _ _ _ (by omega)).trans a1, (wi_ne _ _ _ _ _ _ (by omega)).trans a2, a3, fun _ => wi_at _ _ _ _, (wi_ne _ _ _ _ _ _ (by omega)).trans a5, (wi_ne _ _ _ _ _ _ (by omega)).trans a6, a7, a8⟩
theorem c_setAtom {u0 u : pm_J} {t : Tr} {Y : List Ty} {bx : Bool} {lim : Nat} {rk ov : Int32} {hp : Hp} {L : Lo} {lc : Nat} {F : List Fr} {v : Va} {st cc dp : Nat} {n : Option Nat} {b q : Nat} {a : Int} {hd : List Va} (g : pm_s) (a' : Int) (h : rcT u0 t Y bx lim rk ov u hp L lc n b q a hd F v st cc dp) : ∃ w, F_Frames_setAtom (ie a') g u = some w ∧ rcT u0 t Y bx lim rk ov w hp L lc n b q a' hd F v st cc dp ∧ ∀ c i, c ≠ 61 → w.1 c i = u.1 c i ∧ w.2 c i = u.2 c i := by
  obtain ⟨_, _, _, _, h5, _, ⟨h8, h8'⟩, _⟩ := id h
  refine ⟨_, (fr_st g h8 h8' _).2.1, rcT_fr h (ag_wi (ag_r _ u) _ _ _ (by unfold qT; omega)) ?_, fun c i hc => ⟨wi_ne _ _ _ _ _ _ (by omega), rfl⟩⟩
  obtain ⟨a1, a2, a3, a4, a5, a6, a7, a8⟩ := h5
  exact ⟨(wi_ne _ _ _ _ _ _ (by omega)).trans a1, (wi_ne _ _ _ _ _ _ (by omega)).trans a2, a3, fun hn => (wi_ne _ _ _ _ _ _ (by omega)).trans (a4 hn), wi_at _ _ _ _, (wi_ne _ _ _ _ _ _ (by omega)).trans a6, a7, a8⟩
theorem c_drop {u0 u : pm_J} {t : Tr} {Y : List Ty} {bx : Bool} {lim : Nat} {rk ov : Int32} {hp : Hp} {L : Lo} {lc : Nat} {F : List Fr} {v : Va} {st cc dp : Nat} {n : Option Nat} {b q : Nat} {a : Int} {hd : List Va} (g : pm_s) (h : rcT u0 t Y bx lim rk ov u hp L lc n b q a hd F v st cc dp) : ∃ w, F_Frames_dropHeld g u = some w ∧ rcT u0 t Y bx lim rk ov w hp L lc n b q a [] F v st cc dp ∧ ∀ c i, c ≠ 62 → w.1 c i = u.1 c i ∧ w.2 c i = u.2 c i := by
  obtain ⟨_, _, _, _, h5, _, ⟨h8, h8'⟩, _⟩ := id h
  refine ⟨_, (fr_st g h8 h8' 0).2.2, rcT_fr h (ag_wi (ag_r _ u) _ _ _ (by unfold qT; omega)) ?_, fun c i hc => ⟨wi_ne _ _ _ _ _ _ (by omega), rfl⟩⟩
  obtain ⟨a1, a2, a3, a4, a5, a6, a7, a8⟩ := h5
  exact ⟨(wi_ne _ _ _ _ _ _ (by omega)).trans a1, (wi_ne _ _ _ _ _ _ (by omega)).trans a2, a3, fun hn => (wi_ne _ _ _ _ _ _ (by omega)).trans (a4 hn), (wi_ne _ _ _ _ _ _ (by omega)).trans a5, wi_at _ _ _ _, by show 0 ≤ 6; omega, fun i x hi => by cases hi⟩
theorem c_hold {u0 u : pm_J} {t : Tr} {Y : List Ty} {bx : Bool} {lim : Nat} {rk ov : Int32} {hp : Hp} {L : Lo} {lc : Nat} {F : List Fr} {v : Va} {st cc dp : Nat} {n : Option Nat} {b q : Nat} {a : Int} {hd : List Va} (g : pm_s) (x : Va) (h : rcT u0 t Y bx lim rk ov u hp L lc n b q a hd F v st cc dp) (hl : hd.length < 6) : ∃ w, F_Frames_hold x.2 g u = some w ∧ rcT u0 t Y bx lim rk ov w hp L lc n b q a (hd ++ [x]) F v st cc dp ∧ ∀ c i, c ≠ 62 → c ≠ 63 → w.1 c i = u.1 c i ∧ w.2 c i = u.2 c i := by
  obtain ⟨_, _, _, _, h5, _, ⟨h8, h8'⟩, _⟩ := id h
  obtain ⟨d1, d2, d3, d4⟩ := dep_1 h8 h8'
  obtain ⟨a1, a2, a3, a4, a5, a6, a7, a8⟩ := h5
  have e1 : ie (F.length : Nat) * 6 + ie (hd.length : Nat) = ie ((6 * F.length + hd.length : Nat) : Int) := by rw [show (6 : Int32) = ie 6 from rfl, ie_mul, ie_add]; congr 1; omega
  have c6 : ¬ ((6 : Int32) ≤ ie (hd.length : Nat)) := fun hh => by have := (inle 6 hd.length (by omega) (by omega)).mp hh; omega
  refine ⟨wi (wj u 63 (6 * F.length + hd.length) x.2) 62 F.length (ie ((hd.length + 1 : Nat) : Int)), ?_, rcT_fr h (ag_wi (ag_wj (ag_r _ u) _ _ _ (by unfold qT; omega)) _ _ _ (by unfold qT; omega)) ?_, fun c i hc hc' => ⟨wi_ne _ _ _ _ _ _ (by omega), wj_ne _ _ _ _ _ _ (by omega)⟩⟩
  · unfold F_Frames_hold
    rw [if_neg d1, d2, if_pos d3, d4, a6, if_neg c6, if_pos d3, e1, if_pos (okn _ 900 (by omega) (by omega)), if_pos d3, if_pos d3, ntn _ (by omega), iadd1]
  · refine ⟨(wi_ne _ _ _ _ _ _ (by omega)).trans a1, (wi_ne _ _ _ _ _ _ (by omega)).trans a2, a3, fun hn => (wi_ne _ _ _ _ _ _ (by omega)).trans (a4 hn), (wi_ne _ _ _ _ _ _ (by omega)).trans a5, ?_, by rw [List.length_append]; show hd.length + 1 ≤ 6; omega, fun i y hi => ?_⟩
    · rw [wi_at, List.length_append]; rfl
    · rw [wi_2]
      by_cases e : i < hd.length
      · rw [List.getElem?_append_left e] at hi
        rw [wj_ne _ _ _ _ _ _ (by omega)]; exact a8 i y hi
      · rw [List.getElem?_append_right (by omega)] at hi
        have i0 : i - hd.length = 0 := by
          have := (List.getElem?_eq_some_iff.mp hi).1
          rw [List.length_singleton] at this; omega
        rw [i0] at hi
        have hx : x = y := by cases hi; rfl
        subst hx
        have ei : i = hd.length := by omega
        subst ei
        rw [wj_at]
