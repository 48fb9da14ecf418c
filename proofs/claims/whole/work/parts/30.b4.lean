set_option maxRecDepth 100000
theorem chn_cov {R : (Nat → Prop) → Nat → Nat → Prop} {e : Nat} : ∀ {l : List ((Nat → Prop) × Nat)} {lo : Nat}, chn R lo l e → ∀ p, lo ≤ p → p < e → ∃ S lo' a, R S lo' a ∧ lo' ≤ p ∧ p ≤ a ∧ a < e
  | [], lo, h, p, h1, h2 => by (have h' : lo = e := h); omega
  | y :: l, lo, ⟨h1, h2, h3, h4⟩, p, p1, p2 => by
    by_cases hp : p ≤ y.2
    · exact ⟨y.1, lo, y.2, h3, p1, hp, h2⟩
    · exact chn_cov h4 p (by omega) p2
theorem sC_all {T : List Tok} {f : Nat → Nd} : ∀ (e : Nat) (S : Nat → Prop) (lo : Nat), sC T f S lo e → ∀ p, lo ≤ p → p ≤ e → ∃ S' lo', sC T f S' lo' p := by
  intro e
  induction e using Nat.strongRecOn with
  | ind e ih =>
    intro S lo h p p1 p2
    by_cases hp : p = e
    · subst hp; exact ⟨S, lo, h⟩
    · obtain ⟨S', lo', a, a1, a2, a3, a4⟩ := chn_cov (sC_out h).2.2 p p1 (by omega)
      exact ih a a4 S' lo' a1 p a2 a3
theorem lf_all {T : List Tok} {D : List Df} {t : Tr} (hW : pW T D t) (hS : pS T D t) {e : Nat} (he : e < t.1) (hk : (t.2.1 e).1 ≤ 1) : (t.2.1 e).2.2.2.2.2.1 = tkV T (t.2.1 e).2.1 ∧ tkK T (t.2.1 e).2.1 = (t.2.1 e).1 + 2 := by
  rw [hW.2.1] at he
  obtain ⟨i, x, _, hx, h1, h2⟩ := in_def hW D.length (Nat.le_refl _) e he
  have h3 := (hS i x hx).2
  rw [(hW.1 i x hx).1.2.1] at h3
  obtain ⟨S', lo', h4⟩ := sC_all _ _ _ h3 e h1 h2
  exact (sC_out h4).2.1.1 hk
def sCd (t : Tr) (fr : Fr) : Nat := match fr.1 with
  | none => fr.2.2.1
  | some e => if (t.2.1 e).1 = 16 then (if fr.2.2.1 = 0 then 0 else if fr.2.2.1 = 3 then 9 + fr.2.2.2.1 else if fr.2.2.1 = 4 then 1000 else if fr.2.2.1 = 1 then (if fr.2.2.2.1 = 0 then 1001 else 1999 + fr.2.2.2.1) else 2999 + fr.2.2.2.1) else if fr.2.2.1 = 4 then 1000 else fr.2.2.1
theorem sCd_o {t : Tr} {e : Nat} (h : (t.2.1 e).1 ≠ 16) (b q j : Nat) (hd : List Va) : sCd t (some e, b, q, j, hd) = if q = 4 then 1000 else q := by
  unfold sCd; show (if (t.2.1 e).1 = 16 then _ else _) = _; rw [if_neg h]
theorem sCd_c {t : Tr} {e : Nat} (h : (t.2.1 e).1 = 16) (b q j : Nat) (hd : List Va) : sCd t (some e, b, q, j, hd) = if q = 0 then 0 else if q = 3 then 9 + j else if q = 4 then 1000 else if q = 1 then (if j = 0 then 1001 else 1999 + j) else 2999 + j := by
  unfold sCd; show (if (t.2.1 e).1 = 16 then _ else _) = _; rw [if_pos h]
def fR (t : Tr) (u : pm_J) (k : Nat) (fr : Fr) : Prop := u.1 126 k = ie (sCd t fr : Nat) ∧ fr.2.1 ≤ 60000 ∧ fr.2.2.2.1 ≤ 8 ∧ (fr.2.2.1 = 3 → fr.2.2.2.2.length ≤ 6 ∧ ∀ e, fr.1 = some e → (t.2.1 e).1 = 16) ∧ match fr.1 with
  | some e => e < t.1 ∧ u.1 123 k = ie 0 ∧ u.1 124 k = ie (e : Nat) ∧ u.1 125 k = ie (fr.2.1 : Nat) ∧ (fr.2.2.1 = 2 → 10 ≤ (t.2.1 e).1 → ∀ x, fr.2.2.2.2 = [x] → u.1 127 k = ie (x.1 : Nat) ∧ u.2 128 k = x.2)
  | none => u.1 123 k = ie 1 ∧ ∃ (i : Nat) (f : Va), fr.2.2.2.2 = [f] ∧ f.2 = je (i : Nat) ∧ i < 4000 ∧ u.1 124 k = ie (i : Nat)
def wTp (k c i : Nat) : Prop := 123 ≤ c ∧ c ≤ 128 ∧ i = k
def wFr (k c i : Nat) : Prop := 123 ≤ c ∧ c ≤ 128 ∧ i < k
theorem fR_ag {t : Tr} {u v : pm_J} {k : Nat} {fr : Fr} (h : fR t u k fr) (ha : ag (wTp k) u v) : fR t v k fr := by
  have e : ∀ c, 123 ≤ c → c ≤ 128 → v.1 c k = u.1 c k ∧ v.2 c k = u.2 c k := fun c h1 h2 => ha c k ⟨h1, h2, rfl⟩
  obtain ⟨h1, h2, h3, h4, h5⟩ := h
  refine ⟨(e _ (by omega) (by omega)).1.trans h1, h2, h3, h4, ?_⟩
  obtain ⟨n, w⟩ := fr
  cases n with
  | some e' =>
    obtain ⟨a1, a2, a3, a4, a5⟩ := h5
    exact ⟨a1, (e _ (by omega) (by omega)).1.trans a2, (e _ (by omega) (by omega)).1.trans a3, (e _ (by omega) (by omega)).1.trans a4, fun hq h10 x hx => ⟨(e _ (by omega) (by omega)).1.trans (a5 hq h10 x hx).1, (e _ (by omega) (by omega)).2.trans (a5 hq h10 x hx).2⟩⟩
  | none =>
    obtain ⟨a1, i, f, a2, a3, a4, a5⟩ := h5
    exact ⟨(e _ (by omega) (by omega)).1.trans a1, i, f, a2, a3, a4, (e _ (by omega) (by omega)).1.trans a5⟩
def fRs (t : Tr) (u : pm_J) : List Fr → Prop
  | [] => True
  | fr :: F => fR t u F.length fr ∧ fRs t u F
theorem fRs_ag {t : Tr} {u v : pm_J} : ∀ {F : List Fr}, fRs t u F → ag (wFr F.length) u v → fRs t v F
  | [], _, _ => trivial
  | fr :: F, ⟨h1, h2⟩, ha => ⟨fR_ag h1 (ag_m ha (fun c i hc => by unfold wTp at hc; unfold wFr; rw [List.length_cons]; omega)), fRs_ag h2 (ag_m ha (fun c i hc => by unfold wFr at hc ⊢; rw [List.length_cons]; omega))⟩
def aS : List Fr → List Va
  | [] => []
  | fr :: F => aS F ++ (if fr.2.2.1 = 3 then fr.2.2.2.2 else [])
theorem aS_le {t : Tr} {u : pm_J} : ∀ {F : List Fr}, fRs t u F → (aS F).length ≤ 6 * F.length
  | [], _ => Nat.le_refl _
  | fr :: F, ⟨h1, h2⟩ => by
    have := aS_le h2
    show (aS F ++ _).length ≤ 6 * (F.length + 1)
    rw [List.length_append]
    by_cases e : fr.2.2.1 = 3
    · rw [if_pos e]; have := (h1.2.2.2.1 e).1; omega
    · rw [if_neg e]; show _ + 0 ≤ _; omega
def akR (u : pm_J) (A : List Va) : Prop := u.1 64 92 = ie (A.length : Nat) ∧ ∀ (i : Nat) (x : Va), A[i]? = some x → u.1 129 i = ie (x.1 : Nat) ∧ u.2 130 i = x.2
def wA (c i : Nat) : Prop := (c = 64 ∧ i = 92) ∨ c = 129 ∨ c = 130
theorem akR_ag {u v : pm_J} {A : List Va} (h : akR u A) (ha : ag wA u v) : akR v A := by
  have e : ∀ c i, (c = 64 ∧ i = 92) ∨ c = 129 ∨ c = 130 → v.1 c i = u.1 c i ∧ v.2 c i = u.2 c i := ha
  exact ⟨(e _ _ (by omega)).1.trans h.1, fun i x hi => ⟨(e _ _ (by omega)).1.trans (h.2 i x hi).1, (e _ _ (by omega)).2.trans (h.2 i x hi).2⟩⟩
def loR (u : pm_J) (L : Lo) (lc : Nat) : Prop := u.1 64 72 = ie (lc : Nat) ∧ lc ≤ 60000 ∧ ∀ i v, i < lc → L i = some v → u.1 113 i = ie (v.1 : Nat) ∧ u.2 114 i = v.2
def wL (c i : Nat) : Prop := (c = 64 ∧ i = 72) ∨ c = 113 ∨ c = 114
theorem loR_ag {u v : pm_J} {L : Lo} {lc : Nat} (h : loR u L lc) (ha : ag wL u v) : loR v L lc := by
  have e : ∀ c i, (c = 64 ∧ i = 72) ∨ c = 113 ∨ c = 114 → v.1 c i = u.1 c i ∧ v.2 c i = u.2 c i := ha
  exact ⟨(e _ _ (by omega)).1.trans h.1, h.2.1, fun i w hi hw => ⟨(e _ _ (by omega)).1.trans (h.2.2 i w hi hw).1, (e _ _ (by omega)).2.trans (h.2.2 i w hi hw).2⟩⟩
def rgR (u : pm_J) (bx : Bool) (lim st cc dp : Nat) : Prop := u.1 64 97 = ie (st : Nat) ∧ u.1 64 104 = ie (cc : Nat) ∧ u.1 64 89 = ie (dp : Nat) ∧ u.1 64 98 = ie (lim : Nat) ∧ u.1 64 95 = ib bx ∧ u.1 64 96 = ie 0 ∧ st ≤ lim ∧ lim ≤ 20000 ∧ dp ≤ 150
def wG (c i : Nat) : Prop := c = 64 ∧ (i = 97 ∨ i = 104 ∨ i = 89 ∨ i = 98 ∨ i = 95 ∨ i = 96)
theorem rgR_ag {u v : pm_J} {bx : Bool} {lim st cc dp : Nat} (h : rgR u bx lim st cc dp) (ha : ag wG u v) : rgR v bx lim st cc dp := by
  have e : ∀ i, (i = 97 ∨ i = 104 ∨ i = 89 ∨ i = 98 ∨ i = 95 ∨ i = 96) → v.1 64 i = u.1 64 i := fun i hi => (ha 64 i ⟨rfl, hi⟩).1
  obtain ⟨h1, h2, h3, h4, h5, h6, h7⟩ := h
  exact ⟨(e _ (by omega)).trans h1, (e _ (by omega)).trans h2, (e _ (by omega)).trans h3, (e _ (by omega)).trans h4, (e _ (by omega)).trans h5, (e _ (by omega)).trans h6, h7⟩
def rr0 (u0 : pm_J) (t : Tr) (Y : List Ty) (bx : Bool) (lim : Nat) (u : pm_J) (hp : Hp) (L : Lo) (lc : Nat) (F : List Fr) (st cc dp : Nat) : Prop :=
  ag wZ u0 u ∧ hR Y u hp ∧ loR u L lc ∧ fRs t u F ∧ akR u (aS F) ∧ (u.1 64 88 = ie (F.length : Nat) ∧ F.length ≤ 150) ∧ rgR u bx lim st cc dp
def bkR (u : pm_J) (v : Va) : Prop := u.1 64 93 = ie (v.1 : Nat) ∧ u.2 64 94 = v.2
def nwR (u : pm_J) (v : Va) : Prop := u.1 64 108 = ie (v.1 : Nat) ∧ u.2 64 109 = v.2
def rrH (u0 : pm_J) (t : Tr) (Y : List Ty) (bx : Bool) (lim : Nat) (u : pm_J) (s : Ms) : Prop := rr0 u0 t Y bx lim u s.1 s.2.1 s.2.2.1 s.2.2.2.1 s.2.2.2.2.2.1 s.2.2.2.2.2.2.1 s.2.2.2.2.2.2.2.1 ∧
  ((s.2.2.2.2.2.2.2.2 = rM ∧ (bkR u s.2.2.2.2.1 ∨ ∃ e b j hd F', s.2.2.2.1 = (some e, b, 0, j, hd) :: F')) ∨
   (∃ f F', s.2.2.2.2.2.2.2.2 = (3, 0, 0, f) ∧ s.2.2.2.1 = (none, 0, 0, 0, [f]) :: F' ∧ u.1 127 F'.length = ie (s.2.2.2.2.1.1 : Nat) ∧ u.2 128 F'.length = s.2.2.2.2.1.2))
def finR (u0 : pm_J) (Y : List Ty) (u : pm_J) (r : Nat) (hp : Hp) (v : Va) (st cc dp : Nat) : Prop := ag wZ u0 u ∧ hR Y u hp ∧ u.1 64 97 = ie (st : Nat) ∧ u.1 64 104 = ie (cc : Nat) ∧ u.1 64 89 = ie (dp : Nat) ∧ u.1 64 96 = ie ((if r = 1 then 0 else r : Nat) : Int) ∧ (r = 1 → bkR u v)
def oR (u0 : pm_J) (D : List Df) (t : Tr) (c : CS) (Y : List Ty) (bx : Bool) (lim : Nat) (k : Nat) (w : pm_J) (r : Nat) (sf : Ms) : Prop := (∃ k' s', k' < k ∧ rch D t c bx lim k' s' r sf ∧ rrH u0 t Y bx lim w s') ∨ (2 ≤ r ∧ r ≤ 4 ∧ finR u0 Y w r sf.1 sf.2.2.2.2.1 sf.2.2.2.2.2.1 sf.2.2.2.2.2.2.1 sf.2.2.2.2.2.2.2.1)
theorem rr_e {u0 u : pm_J} {t : Tr} {Y : List Ty} {bx : Bool} {lim : Nat} {hp : Hp} {L : Lo} {lc : Nat} {F : List Fr} {st cc dp : Nat} (r : Nat) (v : Va) (hr : 2 ≤ r) (h : rr0 u0 t Y bx lim u hp L lc F st cc dp) : finR u0 Y (wi u 64 96 (ie (r : Nat))) r hp v st cc dp := by
  have aw : ag (fun c i => ¬ (c = 64 ∧ i = 96)) u (wi u 64 96 (ie (r : Nat))) := ag_wi (ag_r _ u) _ _ _ (by omega)
  obtain ⟨h1, h2, h3, h4, h5, h6, h7⟩ := h
  exact ⟨ag_t h1 (ag_m aw (fun c i hc => by unfold wZ at hc; omega)), hR_ag h2 (ag_m aw (fun c i hc => by unfold wH at hc; omega)), (aw _ _ (by omega)).1.trans h7.1, (aw _ _ (by omega)).1.trans h7.2.1, (aw _ _ (by omega)).1.trans h7.2.2.1, by rw [wi_at, if_neg (by omega)], fun hh => by omega⟩
theorem rr_fr {u0 u w : pm_J} {t : Tr} {Y : List Ty} {bx : Bool} {lim : Nat} {hp : Hp} {L : Lo} {lc : Nat} {F : List Fr} {st cc dp : Nat} {fr fr' : Fr} (h : rr0 u0 t Y bx lim u hp L lc (fr :: F) st cc dp) (ha : ag (fun c i => ¬ (123 ≤ c ∧ c ≤ 128 ∧ i = F.length)) u w) (hf : fR t w F.length fr') (hA : aS (fr' :: F) = aS (fr :: F)) : rr0 u0 t Y bx lim w hp L lc (fr' :: F) st cc dp := by
  obtain ⟨h1, h2, h3, ⟨_, h4⟩, h5, ⟨h6, h6'⟩, h7⟩ := h
  refine ⟨ag_t h1 (ag_m ha (fun c i hc => by unfold wZ at hc; omega)), hR_ag h2 (ag_m ha (fun c i hc => by unfold wH at hc; omega)), loR_ag h3 (ag_m ha (fun c i hc => by unfold wL at hc; omega)), ⟨hf, fRs_ag h4 (ag_m ha (fun c i hc => by unfold wFr at hc; omega))⟩, ?_, ⟨(ha 64 88 (by omega)).1.trans h6, h6'⟩, rgR_ag h7 (ag_m ha (fun c i hc => by unfold wG at hc; omega))⟩
  rw [hA]; exact akR_ag h5 (ag_m ha (fun c i hc => by unfold wA at hc; omega))
theorem rr_ag {u0 u w : pm_J} {t : Tr} {Y : List Ty} {bx : Bool} {lim : Nat} {hp hp' : Hp} {L : Lo} {lc : Nat} {F : List Fr} {st cc dp : Nat} (h : rr0 u0 t Y bx lim u hp L lc F st cc dp) (ha : ag wB u w) (hh : hR Y w hp') (h0 : w.1 64 96 = ie 0) : rr0 u0 t Y bx lim w hp' L lc F st cc dp := by
  obtain ⟨h1, h2, h3, h4, h5, ⟨h6, h6'⟩, ⟨g1, g2, g3, g4, g5, g6, g7⟩⟩ := h
  exact ⟨ag_t h1 (wB_Z ha), hh, loR_ag h3 (ag_m ha (fun c i hc => by unfold wL at hc; unfold wB; omega)), fRs_ag h4 (ag_m ha (fun c i hc => by unfold wFr at hc; unfold wB; omega)), akR_ag h5 (ag_m ha (fun c i hc => by unfold wA at hc; unfold wB; omega)), ⟨(ha 64 88 (by unfold wB; omega)).1.trans h6, h6'⟩, (ha _ _ (by unfold wB; omega)).1.trans g1, (ha _ _ (by unfold wB; omega)).1.trans g2, (ha _ _ (by unfold wB; omega)).1.trans g3, (ha _ _ (by unfold wB; omega)).1.trans g4, (ha _ _ (by unfold wB; omega)).1.trans g5, h0, g7⟩
theorem r_begin {D : List Df} {t : Tr} {c : CS} {Y : List Ty} {bx : Bool} {lim : Nat} {u0 u : pm_J} {hp : Hp} {L : Lo} {lc : Nat} {F : List Fr} {v : Va} {st cc dp a b k r : Nat} {sf : Ms} (g : pm_s) (hb : b ≤ 60000) (h : rr0 u0 t Y bx lim u hp L lc F st cc dp) (hr : rch D t c bx lim k (hp, L, lc, F, v, st, cc, dp, (0, a, b, v0)) r sf) : ∃ w, F_Md_begin (ie (a : Nat)) (ie (b : Nat)) g u = some w ∧ oR u0 D t c Y bx lim k w r sf := by
  cases k with
  | zero => exact hr.elim
  | succ k =>
  obtain ⟨r', s', hs0, hcon⟩ := hr
  have hs : stp D t c bx lim hp L lc F v st cc dp (0, a, b, v0) r' s' := hs0
  clear hs0
  obtain ⟨h1, h2, h3, h4, h5, ⟨h6, h6'⟩, h7⟩ := id h
  have hlim := h7.2.2.2.2.2.2.1
  have hlim2 := h7.2.2.2.2.2.2.2.1
  have hdp := h7.2.2.2.2.2.2.2.2
  rcases hs with ⟨a', b', hm, ha, hs⟩ | ⟨_, hm, _⟩ | ⟨_, _, _, _, hm, _⟩ | ⟨hm, _⟩ | ⟨_, _, _, _, hm, _⟩ | ⟨_, _, _, _, _, _, hm, _⟩
  · cases hm
    rcases hs with ⟨l1, rfl, rfl⟩ | ⟨l1, l2, rfl, rfl⟩ | ⟨l1, l2, rfl, rfl⟩
    · rcases hcon with ⟨hh, _⟩ | ⟨_, rfl, rfl⟩
      · cases hh
      · refine ⟨wi u 64 96 3, ?_, Or.inr ⟨by omega, by omega, rr_e 3 v (by omega) h⟩⟩
        have hl : F.length = 150 := by omega
        unfold F_Md_begin F_Md_mayDeep
        rw [h6, hl, if_pos (by decide), Option.bind_some, if_pos rfl]
    · rcases hcon with ⟨hh, _⟩ | ⟨_, rfl, rfl⟩
      · cases hh
      · refine ⟨wi u 64 96 2, ?_, Or.inr ⟨by omega, by omega, rr_e 2 v (by omega) h⟩⟩
        have hl : st = lim := by omega
        unfold F_Md_begin F_Md_mayDeep
        rw [h6, if_neg (show ¬ (ie (F.length : Nat) = (150 : Int32)) from fun hh => by have := (ineq _ 150 (by omega) (by omega)).mp hh; omega), Option.bind_some, if_neg (show ¬ ((1 : Int32) = 0) by decide)]
        show (if u.1 64 97 = u.1 64 98 then some (wi u 64 96 2) else _) = _
        rw [h7.1, h7.2.2.2.1, hl, if_pos rfl]
    · rcases hcon with ⟨_, hcon⟩ | ⟨hh, _⟩
      · let w : pm_J := wi (wi (wi (wi (wi (wi (wi u 64 97 (ie ((st + 1 : Nat) : Int))) 123 F.length 0) 124 F.length (ie (a : Nat))) 125 F.length (ie (b : Nat))) 126 F.length 0) 64 88 (ie ((F.length + 1 : Nat) : Int))) 64 89 (ie ((max dp (F.length + 1) : Nat) : Int))
        have ok := okn F.length 150 l1 (by omega)
        have nt := ntn F.length (by omega)
        have aw : ag (fun c i => ¬ (c = 64 ∧ (i = 97 ∨ i = 88 ∨ i = 89)) ∧ ¬ (123 ≤ c ∧ c ≤ 126 ∧ i = F.length)) u w := by
          refine ag_wi (ag_wi (ag_wi (ag_wi (ag_wi (ag_wi (ag_wi (ag_r _ u) _ _ _ ?_) _ _ _ ?_) _ _ _ ?_) _ _ _ ?_) _ _ _ ?_) _ _ _ ?_) _ _ _ ?_ <;> omega
        have rd : ∀ c i, w.1 c i = if c = 64 ∧ i = 89 then ie ((max dp (F.length + 1) : Nat) : Int) else if c = 64 ∧ i = 88 then ie ((F.length + 1 : Nat) : Int) else if c = 126 ∧ i = F.length then 0 else if c = 125 ∧ i = F.length then ie (b : Nat) else if c = 124 ∧ i = F.length then ie (a : Nat) else if c = 123 ∧ i = F.length then 0 else if c = 64 ∧ i = 97 then ie ((st + 1 : Nat) : Int) else u.1 c i := fun c i => rfl
        have hw : F_Md_begin (ie (a : Nat)) (ie (b : Nat)) g u = some w := by
          unfold F_Md_begin F_Md_mayDeep F_Md_push
          rw [h6, if_neg (show ¬ (ie (F.length : Nat) = (150 : Int32)) from fun hh => by have := (ineq _ 150 (by omega) (by omega)).mp hh; omega), Option.bind_some, if_neg (show ¬ ((1 : Int32) = 0) by decide)]
          show (if u.1 64 97 = u.1 64 98 then some (wi u 64 96 2) else _) = _
          rw [h7.1, h7.2.2.2.1, if_neg (fun hh => by have := (ineq st lim (by omega) (by omega)).mp hh; omega), if_pos (by decide), iadd1, wi_ne _ _ _ _ _ _ (by omega), h6, if_pos ok, if_pos ok, if_pos ok, if_pos ok, nt, iadd1, wi_ne _ _ _ _ _ _ (by omega), h7.2.2.1]
          by_cases em : F.length + 1 ≤ dp
          · rw [if_pos ((inle _ _ (by omega) (by omega)).mpr em)]
            show some (wi (wi (wi (wi (wi (wi (wi u 64 97 (ie ((st + 1 : Nat) : Int))) 123 F.length 0) 124 F.length (ie (a : Nat))) 125 F.length (ie (b : Nat))) 126 F.length 0) 64 88 (ie ((F.length + 1 : Nat) : Int))) 64 89 (ie (dp : Nat))) = some w
            rw [show w = wi (wi (wi (wi (wi (wi (wi u 64 97 (ie ((st + 1 : Nat) : Int))) 123 F.length 0) 124 F.length (ie (a : Nat))) 125 F.length (ie (b : Nat))) 126 F.length 0) 64 88 (ie ((F.length + 1 : Nat) : Int))) 64 89 (ie ((max dp (F.length + 1) : Nat) : Int)) from rfl, Nat.max_eq_left em]
          · rw [if_neg (fun hh => em ((inle _ _ (by omega) (by omega)).mp hh))]
            show some (wi (wi (wi (wi (wi (wi (wi u 64 97 (ie ((st + 1 : Nat) : Int))) 123 F.length 0) 124 F.length (ie (a : Nat))) 125 F.length (ie (b : Nat))) 126 F.length 0) 64 88 (ie ((F.length + 1 : Nat) : Int))) 64 89 (ie ((F.length + 1 : Nat) : Int))) = some w
            rw [show w = wi (wi (wi (wi (wi (wi (wi u 64 97 (ie ((st + 1 : Nat) : Int))) 123 F.length 0) 124 F.length (ie (a : Nat))) 125 F.length (ie (b : Nat))) 126 F.length 0) 64 88 (ie ((F.length + 1 : Nat) : Int))) 64 89 (ie ((max dp (F.length + 1) : Nat) : Int)) from rfl, Nat.max_eq_right (by omega)]
        refine ⟨w, hw, Or.inl ⟨k, _, Nat.lt_succ_self _, hcon, ⟨ag_t h1 (ag_m aw (fun c i hc => by unfold wZ at hc; omega)), hR_ag h2 (ag_m aw (fun c i hc => by unfold wH at hc; omega)), loR_ag h3 (ag_m aw (fun c i hc => by unfold wL at hc; omega)), ⟨⟨?_, hb, by show 0 ≤ 8; omega, (fun hh => by cases hh), ha, ?_, ?_, ?_, (fun hh => by cases hh)⟩, fRs_ag h4 (ag_m aw (fun c i hc => by unfold wFr at hc; omega))⟩, ?_, ⟨?_, by show F.length + 1 ≤ 150; omega⟩, ?_⟩, Or.inl ⟨rfl, Or.inr ⟨a, b, 0, [], F, rfl⟩⟩⟩⟩
        · rw [rd, if_neg (by omega), if_neg (by omega), if_pos ⟨rfl, rfl⟩]
          by_cases e16 : (t.2.1 a).1 = 16
          · rw [sCd_c e16]; rfl
          · rw [sCd_o e16]; rfl
        · rw [rd, if_neg (by omega), if_neg (by omega), if_neg (by omega), if_neg (by omega), if_neg (by omega), if_pos ⟨rfl, rfl⟩]; rfl
        · rw [rd, if_neg (by omega), if_neg (by omega), if_neg (by omega), if_neg (by omega), if_pos ⟨rfl, rfl⟩]
        · rw [rd, if_neg (by omega), if_neg (by omega), if_neg (by omega), if_pos ⟨rfl, rfl⟩]
        · show akR w (aS F ++ [])
          rw [List.append_nil]
          exact akR_ag h5 (ag_m aw (fun c i hc => by unfold wA at hc; omega))
        · rw [rd, if_neg (by omega), if_pos ⟨rfl, rfl⟩]; rfl
        · obtain ⟨g1, g2, g3, g4, g5, g6, g7⟩ := h7
          exact ⟨by rw [rd, if_neg (by omega), if_neg (by omega), if_neg (by omega), if_neg (by omega), if_neg (by omega), if_neg (by omega), if_pos ⟨rfl, rfl⟩], (aw _ _ (by omega)).1.trans g2, by rw [rd, if_pos ⟨rfl, rfl⟩], (aw _ _ (by omega)).1.trans g4, (aw _ _ (by omega)).1.trans g5, (aw _ _ (by omega)).1.trans g6, by show st + 1 ≤ lim; omega, hlim2, by show max dp (F.length + 1) ≤ 150; omega⟩
      · exact absurd rfl hh
  · cases hm
  · cases hm
  · cases hm
  · cases hm
  · cases hm
