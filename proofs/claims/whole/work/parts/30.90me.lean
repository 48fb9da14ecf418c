set_option maxRecDepth 100000
def To (P Q : Prop) : Prop := P → Q
theorem sh_16 {T : List Tok} {D : List Df} {t : Tr} {c : CS} (G : gX T D t c) {a : Nat} (h : (t.2.1 a).1 ≠ 16) : c.2.2.2 a = false := by
  cases hs : c.2.2.2 a with
  | false => rfl
  | true =>
    obtain ⟨e', d', i, p, k1, k2, k3, k4, k5, k6, k7, k8⟩ := G.2.2.2.2.1.2.2.1 _ hs
    unfold aLt at k7
    rw [if_neg h] at k7; cases k7
theorem nty_0 {lc : Lc} {ty : Nat → Option Ty} {x : Nd} {s : Ty} (h : nty lc ty x = some s) :
    (x.1 = 0 → s = .num 0) ∧ (x.1 = 1 → s = .num 1) ∧ (x.1 = 2 → lTy lc ty x.2.2.1.toNat = some s) ∧ (x.1 = 7 → ty x.2.2.2.1.toNat = some s) := by
  unfold nty at h
  refine ⟨fun e => ?_, fun e => ?_, fun e => ?_, fun e => ?_⟩
  · rw [if_pos e] at h; cases h; rfl
  · rw [if_neg (by omega), if_pos e] at h; cases h; rfl
  · rw [if_neg (by omega), if_neg (by omega), if_pos e] at h; exact h
  · rw [if_neg (by omega), if_neg (by omega), if_neg (by omega), if_pos e] at h; exact h
theorem nty_1 {lc : Lc} {ty : Nat → Option Ty} {x : Nd} {s : Ty} (h : nty lc ty x = some s) (h0 : ¬ (x.1 = 0 ∨ x.1 = 1 ∨ x.1 = 2 ∨ x.1 = 7)) : ∃ a, ty x.2.2.1.toNat = some a ∧
    To (x.1 = 9) (∃ l, lTy lc ty x.2.2.2.2.1.toNat = some l ∧ s = .mul l a) ∧ To (x.1 = 14) (∃ r, a = .add s r) ∧ To (x.1 = 15) (∃ l, a = .add l s) ∧
    To (¬ (x.1 = 9 ∨ x.1 = 14 ∨ x.1 = 15)) (∃ b, ty x.2.2.2.1.toNat = some b ∧ (x.1 = 8 → a = .num 0 ∧ b = s ∧ ty x.2.2.2.2.1.toNat = some s) ∧ (x.1 = 13 → s = .add a b) ∧ (¬ (x.1 = 8 ∨ x.1 = 13) → a = .num 0 ∧ b = .num 0 ∧ s = .num 0)) := by
  unfold nty at h
  rw [if_neg (by omega), if_neg (by omega), if_neg (by omega), if_neg (by omega)] at h
  cases e1 : ty x.2.2.1.toNat with
  | none => rw [e1] at h; cases h
  | some a =>
    rw [e1] at h
    refine ⟨a, rfl, ?_⟩
    by_cases e9 : x.1 = 9
    · refine ⟨fun (_ : x.1 = 9) => ?_, fun (hh : x.1 = 14) => by omega, fun (hh : x.1 = 15) => by omega, fun (hh : ¬ (x.1 = 9 ∨ x.1 = 14 ∨ x.1 = 15)) => by omega⟩
      have h' : (if x.1 = 9 then (match lTy lc ty x.2.2.2.2.1.toNat with | some l => some (Nat.Internal.SOM.Expr.mul l a) | none => none) else _) = some s := h
      rw [if_pos e9] at h'
      cases e2 : lTy lc ty x.2.2.2.2.1.toNat with
      | none => rw [e2] at h'; cases h'
      | some l => rw [e2] at h'; cases h'; exact ⟨l, rfl, rfl⟩
    · have h1 := h
      simp only [] at h1
      rw [if_neg e9] at h1
      by_cases e14 : x.1 = 14
      · refine ⟨fun (hh : x.1 = 9) => by omega, fun (_ : x.1 = 14) => ?_, fun (hh : x.1 = 15) => by omega, fun (hh : ¬ (x.1 = 9 ∨ x.1 = 14 ∨ x.1 = 15)) => by omega⟩
        rw [if_pos e14] at h1
        cases a with
        | num k => cases h1
        | var k => cases h1
        | mul l r => cases h1
        | add l r => cases h1; exact ⟨r, rfl⟩
      · rw [if_neg e14] at h1
        by_cases e15 : x.1 = 15
        · refine ⟨fun (hh : x.1 = 9) => by omega, fun (hh : x.1 = 14) => by omega, fun (_ : x.1 = 15) => ?_, fun (hh : ¬ (x.1 = 9 ∨ x.1 = 14 ∨ x.1 = 15)) => by omega⟩
          rw [if_pos e15] at h1
          cases a with
          | num k => cases h1
          | var k => cases h1
          | mul l r => cases h1
          | add l r => cases h1; exact ⟨l, rfl⟩
        · rw [if_neg e15] at h1
          refine ⟨fun (hh : x.1 = 9) => by omega, fun (hh : x.1 = 14) => by omega, fun (hh : x.1 = 15) => by omega, fun (_ : ¬ (x.1 = 9 ∨ x.1 = 14 ∨ x.1 = 15)) => ?_⟩
          cases e2 : ty x.2.2.2.1.toNat with
          | none => rw [e2] at h1; cases h1
          | some b =>
            rw [e2] at h1
            refine ⟨b, rfl, ?_⟩
            simp only [] at h1
            by_cases e8 : x.1 = 8
            · rw [if_pos e8] at h1
              refine ⟨fun _ => ?_, fun hh => by omega, fun hh => by omega⟩
              cases e3 : ty x.2.2.2.2.1.toNat with
              | none => rw [e3] at h1; cases h1
              | some r =>
                rw [e3] at h1
                simp only [] at h1
                by_cases e4 : tyQ (.num 0) a = true ∧ tyQ b r = true
                · rw [if_pos e4] at h1
                  cases h1
                  exact ⟨(tyQ_imp e4.1).symm, rfl, by rw [tyQ_imp e4.2]⟩
                · rw [if_neg e4] at h1; cases h1
            · rw [if_neg e8] at h1
              by_cases e13 : x.1 = 13
              · rw [if_pos e13] at h1; cases h1
                exact ⟨fun hh => by omega, fun _ => rfl, fun hh => by omega⟩
              · rw [if_neg e13] at h1
                refine ⟨fun hh => by omega, fun hh => by omega, fun _ => ?_⟩
                by_cases e4 : tyQ (.num 0) a = true ∧ tyQ (.num 0) b = true
                · rw [if_pos e4] at h1; cases h1
                  exact ⟨(tyQ_imp e4.1).symm, (tyQ_imp e4.2).symm, rfl⟩
                · rw [if_neg e4] at h1; cases h1
theorem pt_1 {x : Nd} (S : Nat → Prop) (h : x.1 = 7 ∨ x.1 = 8 ∨ (10 ≤ x.1 ∧ x.1 ≤ 15)) : (S, x.2.2.1.toNat) ∈ ptS x S := by
  unfold ptS
  by_cases e7 : x.1 = 7
  · rw [if_pos e7]; exact List.mem_cons_self
  rw [if_neg e7]
  by_cases e8 : x.1 = 8
  · rw [if_pos e8]; exact List.mem_cons_self
  rw [if_neg e8, if_neg (by omega)]
  by_cases e14 : x.1 = 14 ∨ x.1 = 15
  · rw [if_pos e14]; exact List.mem_cons_self
  rw [if_neg e14, if_pos (by omega)]; exact List.mem_cons_self
theorem pt_2 {x : Nd} (S : Nat → Prop) (h : x.1 = 8 ∨ (10 ≤ x.1 ∧ x.1 ≤ 13)) : (S, x.2.2.2.1.toNat) ∈ ptS x S := by
  unfold ptS
  rw [if_neg (by omega)]
  by_cases e8 : x.1 = 8
  · rw [if_pos e8]; exact List.mem_cons_of_mem _ List.mem_cons_self
  rw [if_neg e8, if_neg (by omega), if_neg (by omega), if_pos (by omega)]; exact List.mem_cons_of_mem _ List.mem_cons_self
theorem pt_3 {x : Nd} (S : Nat → Prop) (h : x.1 = 8) : (S, x.2.2.2.2.1.toNat) ∈ ptS x S := by
  unfold ptS
  rw [if_neg (by omega), if_pos h]; exact List.mem_cons_of_mem _ (List.mem_cons_of_mem _ List.mem_cons_self)
theorem pt_7 {x : Nd} (S : Nat → Prop) (h : x.1 = 7) : (insS S x.2.2.2.2.1, x.2.2.2.1.toNat) ∈ ptS x S := by
  unfold ptS
  rw [if_pos h]; exact List.mem_cons_of_mem _ List.mem_cons_self
theorem pt_9 {x : Nd} (S : Nat → Prop) (h : x.1 = 9) : (insS S x.2.2.2.2.1, x.2.2.1.toNat) ∈ ptS x S := by
  unfold ptS
  rw [if_neg (by omega), if_neg (by omega), if_pos h]; exact List.mem_cons_self
theorem pt_16 {x : Nd} (S : Nat → Prop) (h : x.1 = 16) {a : Nat} (ha : a ∈ x.2.2.1.toNat :: x.2.2.2.2.2.2) : (S, a) ∈ ptS x S := by
  unfold ptS
  rw [if_neg (by omega), if_neg (by omega), if_neg (by omega), if_neg (by omega), if_neg (by omega), if_pos h, row_c h]
  exact List.mem_map.mpr ⟨a, ha, rfl⟩
theorem pt_s {x : Nd} {S : Nat → Prop} {S' : Nat → Prop} {a : Nat} (h : (S', a) ∈ ptS x S) : a ∈ pts x := by
  rw [← pts_e x S]; exact List.mem_map.mpr ⟨_, h, rfl⟩
theorem kid_ok {T : List Tok} {D : List Df} {t : Tr} {c : CS} {E : Ev} {e b a : Nat} {ρ : Nat → Ty} (hn : nOK T D t c E e b ρ) (ha : ∀ S, (S, a) ∈ ptS (t.2.1 e) S) (hs : ∃ s, c.1 a = some s) : nOK T D t c E a b ρ := by
  obtain ⟨d, S, h1, h2, h3, _⟩ := hn
  exact ⟨d, S, nS_kid h1 (ha S), h2, h3, hs⟩
theorem eT_ins {D : List Df} {c : CS} {E : Ev} {d : Nat} {ρ : Nat → Ty} {S : Nat → Prop} {b : Nat} {l : Nat} (h : eT D c E d ρ S b) (hl : l < dWd D d) (hM : ∃ v, E.2.1 (b + l) = some v) : eT D c E d ρ (insS S (l : Int)) b :=
  ⟨h.1, h.2.1, fun k hk => by
    rcases hk with hk | hk
    · exact h.2.2 k hk
    · have : k = l := by omega
      subst this; exact ⟨hl, hM⟩⟩
theorem w_fin {T : List Tok} {D : List Df} {t : Tr} {c : CS} {bx : Bool} {R : Ty} {τ : List Ty} {M : Nat → Option Ty} {lc : Nat} {hp : Hp} {L : Lo} {F : List Fr} {v : Va} {r : Ty} (h1 : hT T D t c τ (M, L, lc) hp.1) (h2 : lT τ (M, L, lc)) (h3 : lc ≤ 60000) (hF : sTk T D t c bx τ (M, L, lc) hp.1 R F r) (hv : vT τ v r) : wT T D t c bx R hp L lc F v rM :=
  ⟨τ, M, h1, h2, h3, Or.inr (Or.inr (Or.inr ⟨rfl, r, hF, Or.inl hv⟩))⟩
theorem w_part {T : List Tok} {D : List Df} {t : Tr} {c : CS} {bx : Bool} {R : Ty} {τ : List Ty} {M : Nat → Option Ty} {lc : Nat} {hp : Hp} {L : Lo} {F : List Fr} {v : Va} {ρ ρ' : Nat → Ty} {e b q j a b' : Nat} {hd : List Va} (h1 : hT T D t c τ (M, L, lc) hp.1) (h2 : lT τ (M, L, lc)) (h3 : lc ≤ 60000) (hn : nOK T D t c (M, L, lc) e b ρ) (hF : sTk T D t c bx τ (M, L, lc) hp.1 R F (rt c bx ρ e)) (ha : nOK T D t c (M, L, lc) a b' ρ') (hf : fN D t c bx τ e q j hd ρ (rt c bx ρ' a)) : wT T D t c bx R hp L lc ((some e, b, q, j, hd) :: F) v (0, a, b', v0) :=
  ⟨τ, M, h1, h2, h3, Or.inl ⟨a, b', ρ', rfl, ha, _, ⟨ρ, hn, rfl, hf⟩, hF⟩⟩
def gN (T : List Tok) (D : List Df) (t : Tr) (c : CS) (bx : Bool) (R : Ty) (P : Nat → Ms → Prop) : Prop := ∃ r s', P r s' ∧ r ≤ 4 ∧ r ≠ 1 ∧ (r = 0 → wS T D t c bx R s')
theorem gN_or {T : List Tok} {D : List Df} {t : Tr} {c : CS} {bx : Bool} {R : Ty} {P Q : Nat → Ms → Prop} (h : gN T D t c bx R P) (hq : ∀ r s, P r s → Q r s) : gN T D t c bx R Q := by
  obtain ⟨r, s, h1, h2⟩ := h; exact ⟨r, s, hq r s h1, h2⟩
theorem g_fin {T : List Tok} {D : List Df} {t : Tr} {c : CS} {bx : Bool} {R : Ty} {hp : Hp} {L : Lo} {lc : Nat} {F : List Fr} {v : Va} {st cc dp : Nat} (h : wT T D t c bx R hp L lc F v rM) : gN T D t c bx R (oFin hp L lc F v st cc dp) := ⟨0, _, ⟨rfl, rfl⟩, by omega, by omega, fun _ => h⟩
theorem g_pt {T : List Tok} {D : List Df} {t : Tr} {c : CS} {bx : Bool} {R : Ty} {hp : Hp} {L : Lo} {lc : Nat} {F : List Fr} {v : Va} {st cc dp e b q j a : Nat} {hd : List Va} {x : Int} (hx : x = (a : Int)) (ha : a < t.1) (h : wT T D t c bx R hp L lc ((some e, b, q, j, hd) :: F) v (0, a, b, v0)) : gN T D t c bx R (oPt t hp L lc e b q j hd F v st cc dp x) := ⟨0, _, ⟨a, hx, ha, rfl, rfl⟩, by omega, by omega, fun _ => h⟩
theorem g_mk {T : List Tok} {D : List Df} {t : Tr} {c : CS} {bx : Bool} {R : Ty} {τ : List Ty} {M : Nat → Option Ty} {hp : Hp} {L : Lo} {lc : Nat} {F F' : List Fr} {v : Va} {st cc dp tag : Nat} {it : It} {dst : Ty} (h1 : hT T D t c τ (M, L, lc) hp.1) (h2 : lT τ (M, L, lc)) (h3 : lc ≤ 60000) (hF : sTk T D t c bx τ (M, L, lc) hp.1 R F dst) (ht : tgO dst = tag) (h2' : 2 ≤ tag) (hi : iT T D t c τ (M, L, lc) it dst) : gN T D t c bx R (oMk hp L lc F F' tag it v st cc dp) := by
  by_cases e : hp.1.length < 4000
  · refine ⟨0, _, Or.inl ⟨e, rfl, rfl⟩, by omega, by omega, fun _ => ?_⟩
    refine w_fin (τ := τ ++ [dst]) (M := M) (hT_add h1 e hi) (lT_app h2 _) h3 (sTk_mono [dst] [it] (mE_r _) hF) ?_
    rw [← ht]; exact vT_new h1.1 e dst (by omega)
  · exact ⟨4, _, Or.inr ⟨by omega, rfl, rfl⟩, by omega, by omega, fun h => by cases h⟩
theorem itp_num {ρ : Nat → Ty} {k : Nat} (h : k < 2) : itp ρ (.num k) = .num k := if_pos h
theorem vT_num {τ : List Ty} {k : Nat} (h : k < 2) (w : Int64) : vT τ (k, w) (.num k) := ⟨(show k = (if k < 2 then k else 4) by rw [if_pos h]), Or.inl h⟩
theorem cO_n {y : YT} {n0 e : Nat} {x : Int} (h : cO y n0 e x) : ∃ a : Nat, x = (a : Int) ∧ x.toNat = a ∧ n0 ≤ a ∧ a < e ∧ (y.2.2.1 a).1 ≠ 4 := by
  obtain ⟨a, h1, h2, h3, h4⟩ := h
  exact ⟨a, h1, by rw [h1]; rfl, h2, h3, h4⟩
theorem nW_1 {T : List Tok} {d f0 n0 : Nat} {lc : Lc} {t : Tr} {e : Nat} (w : nW T d f0 n0 (lc, t) e) (h : 7 ≤ (t.2.1 e).1) (h' : (t.2.1 e).1 ≤ 15) : ∃ a : Nat, (t.2.1 e).2.2.1 = (a : Int) ∧ (t.2.1 e).2.2.1.toNat = a ∧ n0 ≤ a ∧ a < e ∧ (t.2.1 a).1 ≠ 4 := cO_n (w.2.2.2.2.2.2.2.1 h h')
theorem nW_2 {T : List Tok} {d f0 n0 : Nat} {lc : Lc} {t : Tr} {e : Nat} (w : nW T d f0 n0 (lc, t) e) (h : (t.2.1 e).1 = 7 ∨ (t.2.1 e).1 = 8 ∨ (10 ≤ (t.2.1 e).1 ∧ (t.2.1 e).1 ≤ 13)) : ∃ a : Nat, (t.2.1 e).2.2.2.1 = (a : Int) ∧ (t.2.1 e).2.2.2.1.toNat = a ∧ n0 ≤ a ∧ a < e ∧ (t.2.1 a).1 ≠ 4 := cO_n (w.2.2.2.2.2.2.2.2.1 h)
theorem nW_3 {T : List Tok} {d f0 n0 : Nat} {lc : Lc} {t : Tr} {e : Nat} (w : nW T d f0 n0 (lc, t) e) (h : (t.2.1 e).1 = 8) : ∃ a : Nat, (t.2.1 e).2.2.2.2.1 = (a : Int) ∧ (t.2.1 e).2.2.2.2.1.toNat = a ∧ n0 ≤ a ∧ a < e ∧ (t.2.1 a).1 ≠ 4 := cO_n (w.2.2.2.2.2.2.2.2.2.1 h)
