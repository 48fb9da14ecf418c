set_option maxRecDepth 100000
def fcs (t : Tr) (fr : Fr) : Nat := match fr.1 with
  | none => 1
  | some e => if (t.2.1 e).1 = 16 then (if fr.2.2.1 = 0 then 2 + 2 * (t.2.1 e).2.2.2.2.2.2.length else if fr.2.2.1 = 1 then 1 + 2 * ((t.2.1 e).2.2.2.2.2.2.length - fr.2.2.2.1) else if fr.2.2.1 = 3 then 3 + 2 * ((t.2.1 e).2.2.2.2.2.2.length - fr.2.2.2.1) else 2 + 2 * ((t.2.1 e).2.2.2.2.2.2.length - fr.2.2.2.1))
    else if fr.2.2.1 = 0 then 4 else if fr.2.2.1 = 1 then 2 else if fr.2.2.1 = 2 then 1 else 3
def fsm (t : Tr) : List Fr → Nat
  | [] => 0
  | fr :: F => fcs t fr + fsm t F
theorem fcs_pos (t : Tr) (fr : Fr) : 1 ≤ fcs t fr := by
  unfold fcs
  split
  · omega
  · (repeat' split) <;> omega
def mea (t : Tr) (lim st : Nat) (F : List Fr) (m : Mo) : Nat := 480 * (lim - st) + fsm t F + (if m.1 = 0 then 498 - 3 * F.length else if m.1 = 1 then 499 - 3 * F.length else if m.1 = 3 then 500 - 3 * F.length else 500)
theorem mea_le (t : Tr) (lim st : Nat) (F : List Fr) (m : Mo) : mea t lim st F m ≤ 480 * (lim - st) + fsm t F + 500 := by
  unfold mea
  repeat (first | (split; · omega) | omega)
def low (t : Tr) (st : Nat) (F0 : List Fr) (s' : Ms) : Prop := s'.2.2.2.2.2.1 = st ∧ fsm t s'.2.2.2.1 < fsm t F0 ∧ s'.2.2.2.1.length ≤ F0.length
theorem low_fin {t : Tr} {hp : Hp} {L : Lo} {lc : Nat} {F : List Fr} {v : Va} {st cc dp r : Nat} {s' : Ms} (fr : Fr) (h : oFin hp L lc F v st cc dp r s') : low t st (fr :: F) s' := by
  obtain ⟨_, rfl⟩ := h
  have := fcs_pos t fr
  refine ⟨rfl, ?_, by show F.length ≤ F.length + 1; omega⟩
  show fsm t F < fcs t fr + fsm t F; omega
theorem low_pt {t : Tr} {hp : Hp} {L : Lo} {lc e b q j : Nat} {hd : List Va} {F : List Fr} {v : Va} {st cc dp r : Nat} {x : Int} {s' : Ms} {fr : Fr} (h : oPt t hp L lc e b q j hd F v st cc dp x r s') (hf : fcs t (some e, b, q, j, hd) < fcs t fr) : low t st (fr :: F) s' := by
  obtain ⟨a, _, _, _, rfl⟩ := h
  refine ⟨rfl, ?_, Nat.le_refl _⟩
  show fcs t (some e, b, q, j, hd) + fsm t F < fcs t fr + fsm t F; omega
theorem low_mk {t : Tr} {hp : Hp} {L : Lo} {lc : Nat} {F F' : List Fr} {tag : Nat} {it : It} {v : Va} {st cc dp : Nat} {s' : Ms} (fr : Fr) (h : oMk hp L lc F F' tag it v st cc dp 0 s') : low t st (fr :: F) s' := by
  rcases h with ⟨_, _, rfl⟩ | ⟨_, h, _⟩
  · have := fcs_pos t fr
    refine ⟨rfl, ?_, by show F.length ≤ F.length + 1; omega⟩
    show fsm t F < fcs t fr + fsm t F; omega
  · cases h
theorem low_df {D : List Df} {t : Tr} {hp : Hp} {L : Lo} {lc e b j : Nat} {hd : List Va} {F : List Fr} {v : Va} {st cc dp d : Nat} {s' : Ms} {fr : Fr} (h : oDf D hp L lc e b j hd F v st cc dp d 0 s') (hf : fcs t (some e, b, 4, j, hd) < fcs t fr) : low t st (fr :: F) s' := by
  rcases h with ⟨_, ⟨_, _, rfl⟩ | ⟨_, h, _⟩⟩
  · refine ⟨rfl, ?_, Nat.le_refl _⟩
    show fcs t (some e, b, 4, j, hd) + fsm t F < fcs t fr + fsm t F; omega
  · cases h
theorem fcs_o {t : Tr} {e : Nat} (h : (t.2.1 e).1 ≠ 16) (b j q : Nat) (hd : List Va) : fcs t (some e, b, q, j, hd) = if q = 0 then 4 else if q = 1 then 2 else if q = 2 then 1 else 3 := by
  unfold fcs; show (if (t.2.1 e).1 = 16 then _ else _) = _; rw [if_neg h]
theorem fcs_c {t : Tr} {e : Nat} (h : (t.2.1 e).1 = 16) (b j q : Nat) (hd : List Va) : fcs t (some e, b, q, j, hd) = if q = 0 then 2 + 2 * (t.2.1 e).2.2.2.2.2.2.length else if q = 1 then 1 + 2 * ((t.2.1 e).2.2.2.2.2.2.length - j) else if q = 3 then 3 + 2 * ((t.2.1 e).2.2.2.2.2.2.length - j) else 2 + 2 * ((t.2.1 e).2.2.2.2.2.2.length - j) := by
  unfold fcs; show (if (t.2.1 e).1 = 16 then _ else _) = _; rw [if_pos h]
theorem low_nd {D : List Df} {t : Tr} {c : CS} {bx : Bool} {hp : Hp} {L : Lo} {lc e b q j : Nat} {hd : List Va} {F : List Fr} {v : Va} {st cc dp : Nat} {s' : Ms} (h : oNd D t c bx hp L lc e b q j hd F v st cc dp 0 s') : low t st ((some e, b, q, j, hd) :: F) s' := by
  rcases h with ⟨_, _, h⟩ | ⟨_, _, l, y, _, _, _, h⟩ | ⟨_, _, h⟩ | ⟨k, _, ⟨rfl, h⟩ | ⟨rfl, l, _, _, h⟩ | ⟨rfl, h⟩⟩ | ⟨k, _, ⟨rfl, h⟩ | ⟨rfl, h⟩ | ⟨rfl, h⟩⟩ | ⟨k, _, ⟨rfl, h⟩ | ⟨rfl, i, it, _, _, _, h⟩⟩ | ⟨k, _, ⟨rfl, h⟩ | ⟨rfl, _, h⟩ | ⟨rfl, a, _, h⟩⟩ | ⟨k, _, _, d, _, _, _, _, ⟨rfl, _, h⟩ | ⟨rfl, _, h⟩ | ⟨rfl, h⟩⟩ | ⟨k, _, h⟩
  · exact low_fin _ h
  · exact low_fin _ h
  · exact low_mk _ h
  · exact low_pt h (by rw [fcs_o (by omega), fcs_o (by omega)]; decide)
  · exact low_pt h (by rw [fcs_o (by omega), fcs_o (by omega)]; decide)
  · exact low_fin _ h
  · exact low_pt h (by rw [fcs_o (by omega), fcs_o (by omega)]; decide)
  · exact low_pt h (by rw [fcs_o (by omega), fcs_o (by omega)]; decide)
  · exact low_fin _ h
  · exact low_pt h (by rw [fcs_o (by omega), fcs_o (by omega)]; decide)
  · exact low_fin _ h
  · exact low_pt h (by rw [fcs_o (by omega), fcs_o (by omega)]; decide)
  · exact low_pt h (by rw [fcs_o (by omega), fcs_o (by omega)]; decide)
  · rcases h with ⟨_, h⟩ | ⟨_, h⟩ | ⟨_, h⟩ | ⟨_, h⟩
    · exact low_fin _ h
    · exact low_fin _ h
    · exact low_fin _ h
    · exact low_mk _ h
  · subst_vars; exact low_df h (by rw [fcs_o (by omega), fcs_o (by omega)]; decide)
  · subst h
    refine ⟨rfl, ?_, Nat.le_refl _⟩
    show fcs t (some e, b, 1, j, hd) + fsm t F < fcs t (some e, b, 4, j, hd) + fsm t F
    rw [fcs_o (by omega), fcs_o (by omega)]; show 2 + fsm t F < 3 + fsm t F; omega
  · exact low_fin _ h
  · rcases h with ⟨rfl, _, rfl, _, h⟩ | ⟨rfl, _, rfl, _, a, ha, h⟩ | ⟨rfl, _, h⟩ | ⟨rfl, a, ha, h⟩ | ⟨rfl, k1, k2, f, _, _, h⟩ | ⟨rfl, k1, d, a, p, y, h', _, _, k2, _, _, _, _, ⟨_, hr, _⟩ | ⟨x, _, _, a', k3, h⟩ | ⟨x, _, _, h⟩⟩ | ⟨rfl, d, y, h', _, _, k1, k2, _, _, ⟨_, hr, _⟩ | ⟨x, _, _, h⟩⟩
    · exact low_pt h (by rw [fcs_c k, fcs_c k, if_pos rfl, if_neg (by omega), if_pos rfl]; omega)
    · have := (List.getElem?_eq_some_iff.mp ha).1
      exact low_pt h (by rw [fcs_c k, fcs_c k, if_pos rfl, if_neg (by omega), if_neg (by omega), if_pos rfl]; omega)
    · exact low_fin _ h
    · have := (List.getElem?_eq_some_iff.mp ha).1
      exact low_pt h (by rw [fcs_c k, fcs_c k, if_neg (by omega), if_neg (by omega), if_neg (by omega), if_neg (by omega), if_pos rfl]; omega)
    · subst h
      refine ⟨rfl, ?_, Nat.le_refl _⟩
      show fcs t (some e, b, 1, j, hd) + fsm t F < fcs t (some e, b, 2, j, hd) + fsm t F
      rw [fcs_c k, fcs_c k, if_neg (by omega), if_pos rfl, if_neg (by omega), if_neg (by omega), if_neg (by omega)]; omega
    · cases hr
    · have := (List.getElem?_eq_some_iff.mp k3).1
      exact low_pt h (by rw [fcs_c k, fcs_c k, if_neg (by omega), if_neg (by omega), if_pos rfl, if_neg (by omega), if_neg (by omega), if_pos rfl]; omega)
    · exact low_df h (by rw [fcs_c k, fcs_c k, if_neg (by omega), if_neg (by omega), if_neg (by omega), if_neg (by omega), if_neg (by omega), if_pos rfl]; omega)
    · cases hr
    · subst h
      refine ⟨rfl, ?_, Nat.le_refl _⟩
      show fcs t (some e, b, 1, j, hd) + fsm t F < fcs t (some e, b, 4, j, hd) + fsm t F
      rw [fcs_c k, fcs_c k, if_neg (by omega), if_pos rfl, if_neg (by omega), if_neg (by omega), if_neg (by omega)]; omega
theorem mea_s {D : List Df} {t : Tr} {c : CS} {bx : Bool} {lim : Nat} {hp : Hp} {L : Lo} {lc : Nat} {F : List Fr} {v : Va} {st cc dp : Nat} {m : Mo} {s' : Ms} (h8 : ∀ e, e < t.1 → (t.2.1 e).1 = 16 → (t.2.1 e).2.2.2.2.2.2.length ≤ 8) (hF : F.length ≤ 150) (h : stp D t c bx lim hp L lc F v st cc dp m 0 s') : s'.2.2.2.1.length ≤ 150 ∧ mea t lim s'.2.2.2.2.2.1 s'.2.2.2.1 s'.2.2.2.2.2.2.2.2 < mea t lim st F m := by
  rcases h with ⟨a, b, rfl, ha, ⟨_, h, _⟩ | ⟨_, _, h, _⟩ | ⟨k1, k2, _, rfl⟩⟩ | ⟨f, rfl, i, it, _, _, ⟨_, e, b, d, l, a, _, _, _, _, _, _, _, _, _, _, _, _, _, _, ⟨_, _, rfl⟩ | ⟨_, h, _⟩⟩ | ⟨_, ⟨k1, _, rfl⟩ | ⟨_, h, _⟩⟩⟩ | ⟨f, F', it, x, rfl, rfl, _, ⟨y, _, _, rfl⟩ | ⟨_, h, _⟩⟩ | ⟨_, _, h, _⟩ | ⟨f, F', it, x, rfl, rfl, _, ⟨y, _, _, rfl⟩ | ⟨_, h, _⟩⟩ | ⟨e, b, q, j, hd, F', rfl, rfl, _, h⟩
  · cases h
  · cases h
  · refine ⟨by show F.length + 1 ≤ 150; omega, ?_⟩
    have hc : fcs t (some a, b, 0, 0, []) ≤ 18 := by
      by_cases e16 : (t.2.1 a).1 = 16
      · have := h8 a ha e16
        rw [fcs_c e16, if_pos rfl]; omega
      · rw [fcs_o e16, if_pos rfl]; omega
    have hs : lim - st = (lim - (st + 1)) + 1 := by omega
    show 480 * (lim - (st + 1)) + (fcs t (some a, b, 0, 0, []) + fsm t F) + 500 < 480 * (lim - st) + fsm t F + (498 - 3 * F.length)
    omega
  · refine ⟨hF, ?_⟩
    show 480 * (lim - st) + fsm t F + (498 - 3 * F.length) < 480 * (lim - st) + fsm t F + (499 - 3 * F.length)
    omega
  · cases h
  · refine ⟨by show F.length + 1 ≤ 150; omega, ?_⟩
    show 480 * (lim - st) + (1 + fsm t F) + (500 - 3 * (F.length + 1)) < 480 * (lim - st) + fsm t F + (499 - 3 * F.length)
    omega
  · cases h
  · refine ⟨hF, ?_⟩
    have hF' : F'.length + 1 ≤ 150 := hF
    show 480 * (lim - st) + (1 + fsm t F') + (499 - 3 * (F'.length + 1)) < 480 * (lim - st) + (1 + fsm t F') + (500 - 3 * (F'.length + 1))
    omega
  · cases h
  · cases h
  · have hF' : F'.length + 1 ≤ 150 := hF
    refine ⟨by show F'.length ≤ 150; omega, ?_⟩
    show 480 * (lim - st) + fsm t F' + 500 < 480 * (lim - st) + (1 + fsm t F') + 500
    omega
  · cases h
  · obtain ⟨l1, l2, l3⟩ := low_nd h
    refine ⟨Nat.le_trans l3 hF, ?_⟩
    have := mea_le t lim s'.2.2.2.2.2.1 s'.2.2.2.1 s'.2.2.2.2.2.2.2.2
    have e : mea t lim st ((some e, b, q, j, hd) :: F') rM = 480 * (lim - st) + fsm t ((some e, b, q, j, hd) :: F') + 500 := rfl
    rw [l1] at this ⊢
    omega
def rch (D : List Df) (t : Tr) (c : CS) (bx : Bool) (lim : Nat) : Nat → Ms → Nat → Ms → Prop
  | 0, _, _, _ => False
  | k + 1, s, r, sf => ∃ r' s', stp D t c bx lim s.1 s.2.1 s.2.2.1 s.2.2.2.1 s.2.2.2.2.1 s.2.2.2.2.2.1 s.2.2.2.2.2.2.1 s.2.2.2.2.2.2.2.1 s.2.2.2.2.2.2.2.2 r' s' ∧ ((r' = 0 ∧ rch D t c bx lim k s' r sf) ∨ (r' ≠ 0 ∧ r = r' ∧ sf = s'))
theorem rch_T {T : List Tok} {D : List Df} {t : Tr} {c : CS} {bx : Bool} {R : Ty} (G : gX T D t c) (lim : Nat) (h8 : ∀ e, e < t.1 → (t.2.1 e).1 = 16 → (t.2.1 e).2.2.2.2.2.2.length ≤ 8) (k : Nat) : ∀ (s : Ms), wS T D t c bx R s → s.2.2.2.1.length ≤ 150 → mea t lim s.2.2.2.2.2.1 s.2.2.2.1 s.2.2.2.2.2.2.2.2 < k → ∃ r sf, rch D t c bx lim k s r sf ∧ 1 ≤ r ∧ r ≤ 4 ∧ (r = 1 → ∃ τ M, hT T D t c τ (M, sf.2.1, sf.2.2.1) sf.1.1 ∧ vT τ sf.2.2.2.2.1 R) := by
  induction k with
  | zero => intro s _ _ h; omega
  | succ k ih =>
    intro s hs hF hk
    obtain ⟨r, s', p1, p2, p3, p4⟩ := stp_T G lim s.2.2.2.2.2.1 s.2.2.2.2.2.2.1 s.2.2.2.2.2.2.2.1 hs
    by_cases e : r = 0
    · subst e
      obtain ⟨m1, m2⟩ := mea_s h8 hF p1
      obtain ⟨r, sf, a1, a2⟩ := ih s' (p3 rfl) m1 (by omega)
      exact ⟨r, sf, ⟨0, s', p1, Or.inl ⟨rfl, a1⟩⟩, a2⟩
    · refine ⟨r, s', ⟨r, s', p1, Or.inr ⟨e, rfl, rfl⟩⟩, by omega, p2, fun h1 => ?_⟩
      obtain ⟨hf, τ, M, q1, q2⟩ := p4 h1
      subst h1
      have hs' : s' = s := by
        rcases p1 with ⟨a, b, _, _, ⟨_, h, _⟩ | ⟨_, _, h, _⟩ | ⟨_, _, h, _⟩⟩ | ⟨f, _, i, it, _, _, ⟨_, _, _, _, _, _, _, _, _, _, _, _, _, _, _, _, _, _, _, _, ⟨_, h, _⟩ | ⟨_, h, _⟩⟩ | ⟨_, ⟨_, h, _⟩ | ⟨_, h, _⟩⟩⟩ | ⟨f, F', it, x, _, h, _⟩ | ⟨_, _, _, h⟩ | ⟨f, F', it, x, _, h, _⟩ | ⟨e, b, q, j, hd, F', _, h, _⟩
        · cases h
        · cases h
        · cases h
        · cases h
        · cases h
        · cases h
        · cases h
        · rw [hf] at h; cases h
        · exact h
        · rw [hf] at h; cases h
        · rw [hf] at h; cases h
      rw [hs']; exact ⟨τ, M, q1, q2⟩
