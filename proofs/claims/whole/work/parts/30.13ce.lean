set_option maxRecDepth 100000
theorem nbf {a b : Nat} (h : a ≠ b) : Nat.beq a b = false := Bool.eq_false_iff.mpr (fun hh => h (Nat.eq_of_beq_eq_true hh))
def scR (u : pm_J) : Sc → Prop
  | [] => True
  | x :: s => u.2 40 s.length = x.1 ∧ (u.1 41 s.length = ie (x.2 : Nat) ∧ x.2 ≤ 24) ∧ scR u s
theorem scR_cong {u v : pm_J} (sc : Sc) (h : scR u sc) (hv : ∀ i, i < sc.length → v.2 40 i = u.2 40 i ∧ v.1 41 i = u.1 41 i) : scR v sc := by
  induction sc with
  | nil => trivial
  | cons x s ih =>
    have hl : (x :: s).length = s.length + 1 := rfl
    exact ⟨(hv _ (by omega)).1.trans h.1, ⟨(hv _ (by omega)).2.trans h.2.1.1, h.2.1.2⟩, ih h.2.2 (fun i hi => hv i (by omega))⟩
theorem scR_f {u : pm_J} (sc : Sc) (h : scR u sc) (v : Int64) (l : Nat) (hf : fnd sc v = some l) : l ≤ 24 := by
  induction sc with
  | nil => cases hf
  | cons x s ih =>
    unfold fnd at hf
    by_cases hx : x.1 = v
    · rw [if_pos hx] at hf; cases hf; exact h.2.1.2
    · rw [if_neg hx] at hf; exact ih h.2.2 hf
def cNode (T : List Tok) (n : Nat) (u : pm_J) (i : Nat) (x : Nd) (nx : Int) : Prop := u.1 19 i = ie (x.1 : Nat) ∧ u.1 20 i = ie (tkP T n x.2.1 : Nat) ∧ u.1 21 i = ie x.2.2.1 ∧ u.1 22 i = ie x.2.2.2.1 ∧ u.1 23 i = ie x.2.2.2.2.1 ∧ u.2 26 i = x.2.2.2.2.2.1 ∧ u.1 24 i = ie nx ∧ u.1 25 i = ie (-1) ∧ u.1 27 i = ie 0 ∧ (∀ l : Nat, l < 4 → u.1 28 (4 * i + l) = ie (-1))
def cNd (T : List Tok) (n : Nat) (u : pm_J) (t : Tr) : Prop := u.1 18 10 = ie (t.1 : Nat) ∧ t.1 ≤ 1800 ∧ ∀ i, i < t.1 → cNode T n u i (t.2.1 i) (t.2.2.1 i)
def cLoc (d : Nat) (L : Lc) (u : pm_J) (Y : List Ty) : Prop := u.1 35 d = ie (L.1 : Nat) ∧ L.1 ≤ 24 ∧ ∀ l, l < L.1 → (match L.2.1 l with
    | some t => ∃ k : Nat, u.1 36 (d * 24 + l) = ie k ∧ Y[k]? = some t
    | none => u.1 36 (d * 24 + l) = ie (-1)) ∧ u.1 37 (d * 24 + l) = ie (L.2.2 l)
def cE (T : List Tok) (n d m : Nat) (cl0 : Option Nat) (sc : Sc) (s : PS) (g : pm_s) (u : pm_J) (Y : List Ty) : Prop :=
  cTk T n s.1 u ∧ (u.1 39 12 = ie d ∧ u.1 39 13 = ie m ∧ d < 30 ∧ m < 16 ∧ u.1 29 9 = ie ((d + 1 : Nat) : Int)) ∧ (scR u sc ∧ u.1 39 8 = ie sc.length ∧ sc.length ≤ s.2.2.1.1) ∧ cCl T n (oE cl0 s.2.1) u ∧ tyC g u Y ∧ cLoc d s.2.2.1 u Y ∧ cNd T n u s.2.2.2 ∧ cBI u
def cS_E (d : Nat) : Nat → Nat → Bool := fun c i => cS_T c i || (Nat.ble 18 c && Nat.ble c 28) || (Nat.beq c 39 && (Nat.beq i 8 || Nat.beq i 10 || Nat.beq i 11 || Nat.beq i 13 || Nat.beq i 14)) || Nat.beq c 40 || Nat.beq c 41 || (Nat.beq c 35 && Nat.beq i d) || ((Nat.beq c 36 || Nat.beq c 37) && (Nat.ble (d * 24) i && Nat.blt i (d * 24 + 24)))
theorem fr_TE {d : Nat} {u v : pm_J} (h : fr cS_T u v) : fr (cS_E d) u v := fr_sub h (fun c i hh => by
  unfold cS_E at hh
  cases h1 : cS_T c i with
  | false => rfl
  | true => rw [h1] at hh; simp at hh)
def peC (T : List Tok) (n d m : Nat) (cl0 : Option Nat) (sc : Sc) (s : PS) (g : pm_s) (u : pm_J) (Y : List Ty) (x : PE (Nat × PS)) (F : Option (Int32 × pm_s × pm_J)) : Prop :=
  ∃ (z : Int32) (g' : pm_s) (v : pm_J), F = some (z, g', v) ∧ fr (cS_E d) u v ∧ gL g g' ∧
    (match x with
     | .error q => fl T n q g' v
     | .ok q => z = ie (q.1 : Nat) ∧ ∃ Z : List Ty, cE T n d m cl0 sc q.2 g' v (Y ++ Z) ∧ Y.length + Z.length ≤ Y.length + (q.2.1 - s.1))
theorem cLoc_cong {d : Nat} {L : Lc} {u v : pm_J} {Y : List Ty} (Z : List Ty) (h : cLoc d L u Y) (h1 : v.1 35 d = u.1 35 d) (h2 : ∀ l, l < 24 → v.1 36 (d * 24 + l) = u.1 36 (d * 24 + l) ∧ v.1 37 (d * 24 + l) = u.1 37 (d * 24 + l)) : cLoc d L v (Y ++ Z) := by
  obtain ⟨a1, a2, a3⟩ := h
  refine ⟨h1.trans a1, a2, fun l hl => ?_⟩
  obtain ⟨b1, b2⟩ := a3 l hl
  have h24 := h2 l (by omega)
  refine ⟨?_, h24.2.trans b2⟩
  cases hh : L.2.1 l with
  | none => rw [hh] at b1; exact h24.1.trans b1
  | some t =>
    rw [hh] at b1
    obtain ⟨k, k1, k2⟩ := b1
    exact ⟨k, h24.1.trans k1, by rw [List.getElem?_append_left (List.getElem?_eq_some_iff.mp k2).1]; exact k2⟩
theorem cNode_cong {T : List Tok} {n : Nat} {u v : pm_J} {i : Nat} {x : Nd} {nx : Int} (h : cNode T n u i x nx) (hv : ∀ c j, 19 ≤ c → c ≤ 28 → v.1 c j = u.1 c j ∧ v.2 c j = u.2 c j) : cNode T n v i x nx := by
  obtain ⟨a1, a2, a3, a4, a5, a6, a7, a8, a9, a10⟩ := h
  exact ⟨(hv 19 i (by omega) (by omega)).1.trans a1, (hv 20 i (by omega) (by omega)).1.trans a2, (hv 21 i (by omega) (by omega)).1.trans a3, (hv 22 i (by omega) (by omega)).1.trans a4, (hv 23 i (by omega) (by omega)).1.trans a5, (hv 26 i (by omega) (by omega)).2.trans a6, (hv 24 i (by omega) (by omega)).1.trans a7, (hv 25 i (by omega) (by omega)).1.trans a8, (hv 27 i (by omega) (by omega)).1.trans a9, fun l hl => (hv 28 _ (by omega) (by omega)).1.trans (a10 l hl)⟩
theorem cNd_cong {T : List Tok} {n : Nat} {u v : pm_J} {t : Tr} (h : cNd T n u t) (h10 : v.1 18 10 = u.1 18 10) (hv : ∀ c j, 19 ≤ c → c ≤ 28 → v.1 c j = u.1 c j ∧ v.2 c j = u.2 c j) : cNd T n v t :=
  ⟨h10.trans h.1, h.2.1, fun i hi => cNode_cong (h.2.2 i hi) hv⟩
theorem cE_T {T : List Tok} {n d m : Nat} {cl0 : Option Nat} {sc : Sc} {s : PS} {g g' : pm_s} {u v : pm_J} {Y Z : List Ty} (h : cE T n d m cl0 sc s g u Y) (hf : fr cS_T u v) (a : Nat) (wr : Option Nat) (h1 : cTk T n a v) (h4 : v.1 39 13 = ie m) (h5 : cCl T n (oE cl0 wr) v) (h6 : tyC g' v (Y ++ Z)) (hB : cBI v) : cE T n d m cl0 sc (sAt (sWr s wr) a) g' v (Y ++ Z) := by
  obtain ⟨a1, a2, a3, a4, a5, a6, a7, a8⟩ := h
  have F1 : ∀ c i, cS_T c i = false → v.1 c i = u.1 c i := fun c i hh => (hf c i hh).1
  have F2 : ∀ c i, cS_T c i = false → v.2 c i = u.2 c i := fun c i hh => (hf c i hh).2
  have N1 : ∀ c i, (c < 10 ∨ (17 < c ∧ c < 140)) → c ≠ 3 → c ≠ 4 → c ≠ 42 → c ≠ 39 → cS_T c i = false := by
    intro c i hc c3 c4 c42 c39
    unfold cS_T
    rw [csy_no hc]
    rw [nbf c3, nbf c4, nbf c42, nbf c39]; rfl
  refine ⟨h1, ⟨(F1 39 12 rfl).trans a2.1, h4, a2.2.2.1, a2.2.2.2.1, (F1 29 9 rfl).trans a2.2.2.2.2⟩, ⟨scR_cong sc a3.1 (fun i _ => ⟨F2 40 i (N1 _ _ (by omega) (by omega) (by omega) (by omega) (by omega)), F1 41 i (N1 _ _ (by omega) (by omega) (by omega) (by omega) (by omega))⟩), (F1 39 8 rfl).trans a3.2.1, a3.2.2⟩, h5, h6, ?_, ?_, hB⟩
  · exact cLoc_cong Z a6 (F1 35 d (N1 _ _ (by omega) (by omega) (by omega) (by omega) (by omega))) (fun l _ => ⟨F1 36 _ (N1 _ _ (by omega) (by omega) (by omega) (by omega) (by omega)), F1 37 _ (N1 _ _ (by omega) (by omega) (by omega) (by omega) (by omega))⟩)
  · exact cNd_cong a7 (F1 18 10 rfl) (fun c j h1 h2 => ⟨F1 c j (N1 _ _ (by omega) (by omega) (by omega) (by omega) (by omega)), F2 c j (N1 _ _ (by omega) (by omega) (by omega) (by omega) (by omega))⟩)
theorem cE_at {T : List Tok} {n d m : Nat} {cl0 : Option Nat} {sc : Sc} {s : PS} {g : pm_s} {u : pm_J} {Y : List Ty} (h : cE T n d m cl0 sc s g u Y) (a : Nat) : cE T n d m cl0 sc (sAt s a) g (wi u 39 11 (ie a)) Y := by
  obtain ⟨a1, a2, a3, a4, a5, a6, a7, a8⟩ := h
  refine ⟨cTk_at a1 rfl (fun _ => rfl) (fun _ => ⟨rfl, rfl, rfl⟩) rfl, a2, ⟨scR_cong sc a3.1 (fun _ _ => ⟨rfl, rfl⟩), a3.2⟩, ?_, tyC_fr a5 (wi_csy _ _ _ _ (by omega)), ?_, cNd_cong a7 rfl (fun c j h1 h2 => ⟨by rw [wi_1, if_neg (by omega)], rfl⟩), cBI_wi _ _ _ _ a8 (by omega)⟩
  · show cCl T n (oE cl0 s.2.1) _
    cases hh : oE cl0 s.2.1 with
    | none => rw [hh] at a4; exact a4
    | some x => rw [hh] at a4; exact a4
  · have := cLoc_cong (v := wi u 39 11 (ie a)) [] a6 rfl (fun l _ => ⟨rfl, rfl⟩)
    rw [List.append_nil] at this; exact this
theorem e_tell {T : List Tok} {n d m : Nat} {cl0 : Option Nat} {sc : Sc} {s : PS} {g : pm_s} {u : pm_J} {Y : List Ty} (h : cE T n d m cl0 sc s g u Y) (q t : Nat) (h1 : 1 ≤ q) (h7 : q ≤ 7) : F_Fault_tell_3 (ie q) (ie (tkP T n t)) g u = some (cTell u q (tkP T n t)) ∧ fl T n (q, t) g (cTell u q (tkP T n t)) := by
  obtain ⟨k1, k2⟩ := k_tell (T := T) (n := n) h.1.1 q t h1 h7 g
  exact ⟨k1, k2, cBI_wi _ _ _ _ (cBI_wi _ _ _ _ h.2.2.2.2.2.2.2 (by omega)) (by omega), Y, tyC_fr (tyC_fr h.2.2.2.2.1 (wi_csy _ _ _ _ (by omega))) (wi_csy _ _ _ _ (by omega))⟩
theorem e_expect {T : List Tok} {n d m : Nat} {cl0 : Option Nat} {sc : Sc} {s : PS} {g : pm_s} {u : pm_J} {Y : List Ty} (hG : tkG T) (h : cE T n d m cl0 sc s g u Y) (hs : s.1 ≤ T.length) (k : Nat) (hk : k < 100) :
    ∃ v, F_Parser_expect (ie k) g u = some v ∧ fr cS_T u v ∧ (match pX T k s with
      | .error q => fl T n q g v
      | .ok s' => cE T n d m cl0 sc s' g v Y) := by
  unfold F_Parser_expect pX
  rw [k_kind h.1 hs g, Option.bind_some]
  have kk := kq (hG.1 s.1) k hk
  simp only [kk]
  by_cases e : tkK T s.1 = k
  · rw [if_pos e, if_pos e, h.1.2.2.2, iadd1]
    exact ⟨_, rfl, fr_wi _ _ _ _ _ _ rfl (fr_refl _ _), cE_at h _⟩
  · rw [if_neg e, if_neg e, k_here h.1 hs g, Option.bind_some]
    obtain ⟨k1, k2⟩ := e_tell h 2 s.1 (by omega) (by omega)
    have k1' : F_Fault_tell_3 2 (ie (tkP T n s.1)) g u = some (cTell u 2 (tkP T n s.1)) := k1
    rw [k1', Option.bind_some]
    exact ⟨_, rfl, frT_tell u _ _, k2⟩
