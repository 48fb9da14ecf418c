set_option maxRecDepth 100000
def zv {α : Type} (F : Nat → Option α) (P : α → Prop) : Prop := ∃ (v : α) (n0 : Nat), (∀ N, n0 ≤ N → F N = some v) ∧ P v
theorem zv_bind {α β : Type} {F : Nat → Option α} {G : Nat → α → Option β} {P : α → Prop} {Q : β → Prop} (h : zv F P) (hq : ∀ a, P a → zv (fun N => G N a) Q) : zv (fun N => (F N).bind (G N)) Q := by
  obtain ⟨a, n0, h1, h2⟩ := h
  obtain ⟨b, n1, h3, h4⟩ := hq a h2
  exact ⟨b, n0 + n1, fun N hN => by show (F N).bind (G N) = some b; rw [h1 N (by omega)]; exact h3 N (by omega), h4⟩
theorem zv_some {α : Type} (v : α) {P : α → Prop} (h : P v) : zv (fun _ => some v) P := ⟨v, 0, fun _ _ => rfl, h⟩
theorem zv_mono {α : Type} {F : Nat → Option α} {P Q : α → Prop} (h : zv F P) (hq : ∀ a, P a → Q a) : zv F Q := by
  obtain ⟨a, n0, h1, h2⟩ := h
  exact ⟨a, n0, h1, hq a h2⟩
theorem zv_u {α : Type} {F : Nat → Option α} {P : α → Prop} (h : zu F P) : zv F P := by
  obtain ⟨a, h1, h2⟩ := h
  exact ⟨a, 200000, h1, h2⟩
theorem zv_rw {α : Type} {F G : Nat → Option α} {P : α → Prop} (n0 : Nat) (h1 : ∀ N, n0 ≤ N → F N = G N) (h : zv G P) : zv F P := by
  obtain ⟨a, n1, h3, h2⟩ := h
  exact ⟨a, n0 + n1, fun N hN => (h1 N (by omega)).trans (h3 N (by omega)), h2⟩
theorem zv_bs {α : Type} {F : Nat → Option α} {P : α → Prop} (h : zv F P) : zv (fun N => (F N).bind fun q => some q) P := zv_bind h (fun a ha => zv_some a ha)
def rSDp (c i : Nat) : Prop := (c = 64 ∧ (i = 4 ∨ i = 5 ∨ i = 18 ∨ i = 33 ∨ i = 44 ∨ i = 51 ∨ i = 52 ∨ i = 56 ∨ i = 58 ∨ i = 60 ∨ i = 61 ∨ i = 62 ∨ i = 63 ∨ i = 64 ∨ i = 67)) ∨ (70 ≤ c ∧ c ≤ 100) ∨ (105 ≤ c ∧ c ≤ 112)
def rS_D : Nat → Nat → Bool := fun c i => (Nat.beq c 64 && (Nat.beq i 4 || Nat.beq i 5 || Nat.beq i 18 || Nat.beq i 33 || Nat.beq i 44 || Nat.beq i 51 || Nat.beq i 52 || Nat.beq i 56 || Nat.beq i 58 || Nat.beq i 60 || Nat.beq i 61 || Nat.beq i 62 || Nat.beq i 63 || Nat.beq i 64 || Nat.beq i 67)) || (Nat.ble 70 c && Nat.ble c 100) || (Nat.ble 105 c && Nat.ble c 112)
theorem rSD_iff (c i : Nat) : rS_D c i = true ↔ rSDp c i := by
  unfold rS_D rSDp
  simp only [Bool.or_eq_true, Bool.and_eq_true, Nat.beq_eq, Nat.ble_eq]
  omega
theorem rSD_no' {c i : Nat} (h : rS_D c i = false) : ¬ rSDp c i := fun hp => by
  have := (rSD_iff c i).mpr hp
  rw [this] at h; cases h
theorem rSD_no {c i : Nat} (h : ¬ rSDp c i) : rS_D c i = false := by
  cases hb : rS_D c i with
  | false => rfl
  | true => exact absurd ((rSD_iff c i).mp hb) h
theorem frD_E {d : Nat} {u v : pm_J} (h : fr (rS_E d) u v) : fr rS_D u v := fr_sub h (fun c i hs => rSE_no (by have := rSD_no' hs; unfold rSDp at this; unfold rSEp; omega))
theorem frDr_wi {u v : pm_J} (a k : Nat) (x : Int32) (h : rSDp a k) (hv : fr rS_D u v) : fr rS_D u (wi v a k x) := fr_wi _ _ _ _ _ _ ((rSD_iff a k).mpr h) hv
def rZ (T : List Tok) (n d : Nat) (e : Nat × Nat) (u00 u : pm_J) : Prop := rX T n e u ∧ u.1 64 44 = ie (d : Nat) ∧ d ≤ 30 ∧ fr rS_D u00 u
theorem rZ_E {c : RC} {e : Nat × Nat} {dp : Nat} {K : List (Int32 × Int32 × Int32)} {V : List Nat} {S : List (Nat × Nat)} {Y : List Ty} {s : PS} {u00 u : pm_J} (H : rE c (some e) dp K V S Y s u) (h0 : fr rS_D u00 c.2.2.2) : rZ c.1 c.2.1 c.2.2.1 e u00 u :=
  ⟨(rE_X H).1, H.1.2.2.2.2.2.2.2.1, by have := H.1.2.2.2.2.2.2.2.2; omega, fr_trans h0 (frD_E (rE_X H).2)⟩
theorem rZ_wi {T : List Tok} {n d : Nat} {e : Nat × Nat} {u00 u : pm_J} (H : rZ T n d e u00 u) (a k : Nat) (x : Int32) (h : rSDp a k) (h1 : ¬ (a = 64 ∧ (k = 4 ∨ k = 5 ∨ k = 18 ∨ k = 44 ∨ k = 51 ∨ k = 52))) (h2 : ¬ (70 ≤ a ∧ a ≤ 76)) : rZ T n d e u00 (wi u a k x) := by
  obtain ⟨a1, a2, a3, a4⟩ := H
  obtain ⟨b, b1, b2⟩ := a1.2.2.2.2.1
  exact ⟨rX_of a1 (wi_ne _ _ _ _ _ _ (by omega)) (wi_ne _ _ _ _ _ _ (by omega)) (wi_ne _ _ _ _ _ _ (by omega)) ⟨b, b1, (wi_ne _ _ _ _ _ _ (by omega)).trans b2⟩ (wi_ne _ _ _ _ _ _ (by omega)) (fun c i h3 h4 => wi_ne _ _ _ _ _ _ (by omega)), (wi_ne _ _ _ _ _ _ (by omega)).trans a2, a3, frDr_wi a k x h a4⟩
theorem rZ_exp {T : List Tok} {n d : Nat} {e : Nat × Nat} {u00 u : pm_J} (g : pm_s) (k : Int32) (H : rZ T n d e u00 u) : zv (fun N => F_Md_expect N k g u) (fun v => v = u) := by
  obtain ⟨a1, a2, a3, a4⟩ := H
  obtain ⟨b, b1, b2⟩ := a1.2.2.2.2.1
  refine ⟨u, 0, fun N _ => ?_, rfl⟩
  show F_Md_expect N k g u = some u
  unfold F_Md_expect K_Md_expect_29
  rw [if_pos (show u.1 64 52 = 0 from a1.1), if_pos (show u.1 64 52 = 0 from a1.1), b2, show ie (b : Int) + 0 = ie (b : Nat) from by rw [show (0 : Int32) = ie 0 from rfl, ie_add, Int.add_zero], wi_self _ _ _ _ b2]
theorem rZ_letters {T : List Tok} {n d : Nat} {e : Nat × Nat} {u00 u : pm_J} (g : pm_s) (H : rZ T n d e u00 u) (hd : d < 30) (a m : Nat) (ha : a ≤ 1000) (h92 : u.1 92 d = ie (m : Nat)) (hm : m ≤ 6) (h99 : ∀ i, i < m → ∃ k : Nat, k < 100000 ∧ u.1 99 (6 * d + i) = ie k) : zv (fun N => F_Md_checkLetters N (ie a) g u) (fun v => rZ T n d e u00 v) := by
  have h44 := H.2.1
  have lp : ∀ (r i : Nat) (x : Int32), i + r = m → ∃ y, ∀ N f, r < f → K_Md_lettersOfParameters_4 N g u f x (ie (i : Nat)) = some y := by
    intro r
    induction r with
    | zero =>
      intro i x hi
      refine ⟨x, fun N f hf => ?_⟩
      obtain ⟨f, rfl⟩ : ∃ f', f = f' + 1 := ⟨f - 1, by omega⟩
      rw [K_Md_lettersOfParameters_4, h44, if_pos (okn _ 30 hd (by omega)), ntn _ (by omega), h92, if_pos ((inle _ _ (by omega) (by omega)).mpr (by omega))]
    | succ r ih =>
      intro i x hi
      obtain ⟨k, k1, k2⟩ := h99 i (by omega)
      obtain ⟨y, hy⟩ := ih (i + 1) (x ||| u.1 73 k) (by omega)
      refine ⟨y, fun N f hf => ?_⟩
      obtain ⟨f, rfl⟩ : ∃ f', f = f' + 1 := ⟨f - 1, by omega⟩
      have a1 : 6 * ie (d : Nat) + ie (i : Nat) = ie ((6 * d + i : Nat) : Int) := by rw [show (6 : Int32) = ie 6 from rfl, ie_mul, ie_add]; rfl
      rw [K_Md_lettersOfParameters_4, h44, if_pos (okn _ 30 hd (by omega)), ntn _ (by omega), h92, if_neg (fun hh => by have := (inle _ _ (by omega) (by omega)).mp hh; omega), a1, if_pos (okn _ 180 (by omega) (by omega)), ntn _ (by omega), k2, if_pos (okn _ 100000 k1 (by omega)), ntn _ (by omega), iadd1]
      exact hy N f (by omega)
  obtain ⟨y, hy⟩ := lp m 0 0 (by omega)
  have hw : ∀ (w : pm_J) (x : Nat), rZ T n d e u00 w → ∃ w', F_Md_wrong (ie (x : Nat)) g w = some w' ∧ rZ T n d e u00 w' := by
    intro w x hw
    have w44 := hw.2.1
    have hz := rZ_wi hw 97 d (ie (x : Nat)) (by unfold rSDp; omega) (by omega) (by omega)
    unfold F_Md_wrong
    rw [w44]
    simp only [if_pos (okn _ 30 hd (by omega)), ntn d (by omega)]
    by_cases e1 : w.1 97 d < 0
    · rw [if_pos e1]; exact ⟨_, rfl, hz⟩
    · rw [if_neg e1]
      by_cases e2 : w.1 97 d ≤ ie (x : Nat)
      · rw [if_pos e2]; exact ⟨_, rfl, hw⟩
      · rw [if_neg e2]; exact ⟨_, rfl, hz⟩
  have l2 : ∀ (r k : Nat) (w : pm_J), k + r = 1100 → rZ T n d e u00 w → ∃ w', rZ T n d e u00 w' ∧ ∀ N f, r < f → K_Md_checkLetters_7 N g f y (ie (k : Nat)) w = some w' := by
    intro r
    induction r with
    | zero =>
      intro k w hk Hw
      obtain ⟨b, b1, b2⟩ := Hw.1.2.2.2.2.1
      refine ⟨w, Hw, fun N f hf => ?_⟩
      obtain ⟨f, rfl⟩ : ∃ f', f = f' + 1 := ⟨f - 1, by omega⟩
      rw [K_Md_checkLetters_7, b2, if_pos ((inle _ _ (by omega) (by omega)).mpr (by omega))]
    | succ r ih =>
      intro k w hk Hw
      obtain ⟨b, b1, b2⟩ := Hw.1.2.2.2.2.1
      by_cases hkb : b ≤ k
      · refine ⟨w, Hw, fun N f hf => ?_⟩
        obtain ⟨f, rfl⟩ : ∃ f', f = f' + 1 := ⟨f - 1, by omega⟩
        rw [K_Md_checkLetters_7, b2, if_pos ((inle _ _ (by omega) (by omega)).mpr (by omega))]
      · have hst : ∀ N f, K_Md_checkLetters_7 N g (f + 1) y (ie (k : Nat)) w = (if w.1 66 k = 14 then (if ((y >>> (((w.2 69 k).toInt32) &&& 31)) &&& 1) = 0 then (F_Md_wrong (ie (k : Nat)) g w).bind fun q7 => K_Md_checkLetters_7 N g f y (ie ((k + 1 : Nat) : Int)) q7 else K_Md_checkLetters_7 N g f y (ie ((k + 1 : Nat) : Int)) w) else K_Md_checkLetters_7 N g f y (ie ((k + 1 : Nat) : Int)) w) := by
          intro N f
          rw [K_Md_checkLetters_7, b2, if_neg (fun hh => by have := (inle _ _ (by omega) (by omega)).mp hh; omega), if_pos (okn _ 902 (by omega) (by omega)), ntn _ (by omega), if_pos (okn _ 902 (by omega) (by omega)), iadd1]
        by_cases e4 : w.1 66 k = 14
        · by_cases eb : ((y >>> (((w.2 69 k).toInt32) &&& 31)) &&& 1) = 0
          · obtain ⟨w1, q1, q2⟩ := hw w k Hw
            obtain ⟨w', w2, w3⟩ := ih (k + 1) w1 (by omega) q2
            refine ⟨w', w2, fun N f hf => ?_⟩
            obtain ⟨f, rfl⟩ : ∃ f', f = f' + 1 := ⟨f - 1, by omega⟩
            rw [hst N f, if_pos e4, if_pos eb, q1, Option.bind_some]; exact w3 N f (by omega)
          · obtain ⟨w', w2, w3⟩ := ih (k + 1) w (by omega) Hw
            refine ⟨w', w2, fun N f hf => ?_⟩
            obtain ⟨f, rfl⟩ : ∃ f', f = f' + 1 := ⟨f - 1, by omega⟩
            rw [hst N f, if_pos e4, if_neg eb]; exact w3 N f (by omega)
        · obtain ⟨w', w2, w3⟩ := ih (k + 1) w (by omega) Hw
          refine ⟨w', w2, fun N f hf => ?_⟩
          obtain ⟨f, rfl⟩ : ∃ f', f = f' + 1 := ⟨f - 1, by omega⟩
          rw [hst N f, if_neg e4]; exact w3 N f (by omega)
  obtain ⟨w', w1, w2⟩ := l2 (1100 - a) a u (by omega) H
  refine ⟨w', 2000, fun N hN => ?_, w1⟩
  show F_Md_checkLetters N (ie a) g u = _
  unfold F_Md_checkLetters F_Md_lettersOfParameters
  have := hy N N (by omega)
  have this' : K_Md_lettersOfParameters_4 N g u N 0 0 = some y := this
  rw [this', Option.bind_some]
  exact w2 N N (by omega)
theorem rG_in {g : pm_s} {fl h : Nat} {u v : pm_J} (he : rEq g fl u v) (hh : v.1 64 56 = ie h) (hl : h ≤ fl) (h6 : fl < 6000) : rG g fl u v := he v (rG_done hh hl h6)
theorem z_text {c : RC} {dp : Nat} {V : List Nat} {S : List (Nat × Nat)} {Y : List Ty} {s : PS} {u u00 : pm_J} (g : pm_s) (hC : rCn c) (H : rE c none dp [] V S Y s u) (h0 : fr rS_D u00 c.2.2.2) : zv (fun N => F_Md_typeText N g u) (fun q => match pTy c.1 20 s.1 0 with
    | .error e => rZ c.1 c.2.1 c.2.2.1 e u00 q.2 ∧ fr (rS_E c.2.2.1) c.2.2.2 q.2
    | .ok t => ∃ (Z : List Ty) (k : Nat), q.1 = ie k ∧ (Y ++ Z)[k]? = some t.1 ∧ rE c none dp [] V S (Y ++ Z) (sAt s t.2.1) q.2) := by
  have H1 := rE_told H 0
  obtain ⟨w, hw1, hw2⟩ := z_later g 1 0 0 H1 (by show 0 < 6000; omega)
  have hw : F_Md_later 1 0 0 g (wi u 64 63 0) = some w := hw1 200000 (by omega)
  have h63 : w.1 64 63 = ie 0 := by
    have h2 := r_later g 0 H1.2.1.1 (by omega) 1 0 0
    rw [hw] at h2
    rw [Option.some.inj h2]; rfl
  have h56 : w.1 64 56 - 1 = ie ((0 : Nat) : Int) := by
    have : w.1 64 56 = ie ((1 : Nat) : Int) := hw2.2.1.1
    rw [this]; rfl
  have i1 := r_tyE (g := g) (fl := 0) hC hw2 h63 (Nat.zero_le _) (by show 0 ≤ 1000; omega)
  have hd30 := H.1.2.2.2.2.2.2.2
  cases hT : pTy c.1 20 s.1 0 with
  | error e =>
    rw [hT] at i1
    obtain ⟨v, ⟨n0, g1⟩, x1, x2⟩ := i1
    refine ⟨(0, v), n0, fun N hN => ?_, ⟨x1, ?_, by omega, fr_trans h0 (frD_E x2)⟩, x2⟩
    · show F_Md_typeText N g u = _
      unfold F_Md_typeText F_Md_work
      rw [hw, Option.bind_some, h56, g1 N hN N hN, Option.bind_some, if_pos (show v.1 64 52 = 0 from x1.1)]
    · have e1 : v.1 64 44 = c.2.2.2.1 64 44 := (x2 64 44 (rSE_no (by unfold rSEp; omega))).1
      have e2 : u.1 64 44 = c.2.2.2.1 64 44 := (H.2.2.2.2.2.2.2.2 64 44 (rSE_no (by unfold rSEp; omega))).1
      rw [e1, ← e2]; exact hd30.1
  | ok t =>
    rw [hT] at i1
    obtain ⟨v, Z, k, v1, v2, v3, v4, v5⟩ := i1
    have v56 : v.1 64 56 = ie ((0 : Nat) : Int) := v2.2.1.1
    have v52 : v.1 64 52 = ie 1 := v2.1.1.1
    obtain ⟨n0, g1⟩ := rG_in v1 v56 (Nat.le_refl _) (by omega)
    refine ⟨(v.1 109 0, wi v 64 60 (ie 0)), n0, fun N hN => ?_, Z, k, v4, v5, v2⟩
    show F_Md_typeText N g u = _
    unfold F_Md_typeText F_Md_work
    rw [hw, Option.bind_some, h56, g1 N hN N hN, Option.bind_some, if_neg (show ¬ (v.1 64 52 = 0) from fun hh => by rw [v52] at hh; exact absurd hh (by decide)), tk0_take g v3, Option.bind_some]
theorem z_stop2 {c : RC} {dp : Nat} {K : List (Int32 × Int32 × Int32)} {V : List Nat} {S : List (Nat × Nat)} {Y : List Ty} {s : PS} {u : pm_J} (g : pm_s) (f : Nat) (hf : 1 ≤ f ∧ f ≤ 7) (H : rE c none dp K V S Y s u) (a : Nat) (ha : s.1 = a) (f' : Int32) (hf' : f' = ie f) : zu (fun _ => F_Md_stop f' (ie (a : Nat)) g u) (fun v => rE c (some (f, a)) dp K V S Y s v) := by
  subst ha hf'
  exact z_stop g f hf H
