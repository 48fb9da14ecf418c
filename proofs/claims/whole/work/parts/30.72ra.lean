set_option maxRecDepth 100000
def rTk (T : List Tok) (n : Nat) (u : pm_J) : Prop := rK T n u ∧ tkG T ∧ ∃ o, tx_o o n ∧ rTx o n u ∧ ∀ t ∈ T, tkok o n t
def rCd (u : pm_J) (Y : List Ty) (i : Nat) (x : Df) : Prop := u.1 91 i = ie (x.1 : Nat) ∧ rPw u i x.2.1 Y ∧ (∃ k : Nat, u.1 93 i = ie k ∧ Y[k]? = some x.2.2.1) ∧ u.1 94 i = ie (x.2.2.2.2.2.2.1 : Nat) ∧ u.1 95 i = ie (x.2.2.2.2.1 : Nat) ∧ u.1 96 i = ie (x.2.2.2.1 : Nat)
def rCl (w : Nat → Option Ty) (u : pm_J) (Y : List Ty) (i : Nat) (x : Df) : Prop := ∀ l, l < x.2.2.2.2.2.2.1 → (x.2.2.2.2.2.2.2.2 l = -1 → ∀ s, x.2.2.2.2.2.2.2.1 l = some s → tyN Y (u.1 100 (24 * i + l)) (some s)) ∧ ∀ b : Nat, x.2.2.2.2.2.2.2.2 l = (b : Nat) → ∀ s, w b = some s → tyN Y (u.1 100 (24 * i + l)) (some s)
def oI (o : Option Nat) : Int := match o with
  | none => -1
  | some d => (d : Int)
def rCe (t : Tr) (c : CS) (u : pm_J) (Y : List Ty) (e : Nat) : Prop := u.1 77 e = ie (rop (t.2.1 e).1 : Nat) ∧ u.1 78 e = ie ((t.2.1 e).2.1 : Nat) ∧ u.1 79 e = ie (rva (t.2.1 e)) ∧ u.1 80 e = ie (rvb (t.2.1 e)) ∧ u.1 81 e = ie (rvc (t.2.1 e)) ∧ u.1 82 e = ie (rvl (t.2.1 e)) ∧ u.1 83 e = ie (t.2.2.2.2.2 e) ∧ u.1 84 e = ie (rvn (t.2.1 e)) ∧ u.1 86 e = ie (t.2.2.2.1 e) ∧ u.1 112 e = ib (t.2.2.2.2.1 e) ∧ tyN Y (u.1 87 e) (c.1 e) ∧ u.1 88 e = ie (oI (c.2.1 e)) ∧ u.1 89 e = ib (c.2.2.2 e) ∧ ∀ l : Nat, l < 4 → tyN Y (u.1 90 (4 * e + l)) (c.2.2.1 e l)
def rC (T : List Tok) (n : Nat) (D : List Df) (t : Tr) (c : CS) (w : Nat → Option Ty) (u : pm_J) (Y : List Ty) : Prop := u.1 64 4 = ie 0 ∧ rTk T n u ∧ (u.1 64 44 = ie (D.length : Nat) ∧ D.length ≤ 30) ∧ (u.1 64 33 = ie (t.1 : Nat) ∧ t.1 ≤ 1800) ∧ tyR u Y ∧ (∀ i x, D[i]? = some x → rCd u Y i x ∧ rCl w u Y i x) ∧ ∀ e, e < t.1 → rCe t c u Y e
def rSTp (c i : Nat) : Prop := (c = 64 ∧ (i = 4 ∨ i = 5 ∨ i = 18)) ∨ (70 ≤ c ∧ c ≤ 76) ∨ (87 ≤ c ∧ c ≤ 90) ∨ (100 ≤ c ∧ c ≤ 104)
def frP (u v : pm_J) : Prop := ∀ c i, ¬ rSTp c i → v.1 c i = u.1 c i ∧ v.2 c i = u.2 c i
theorem frP_r (u : pm_J) : frP u u := fun _ _ _ => ⟨rfl, rfl⟩
theorem frP_t {u v w : pm_J} (h : frP u v) (h' : frP v w) : frP u w := fun c i hc => ⟨(h' c i hc).1.trans (h c i hc).1, (h' c i hc).2.trans (h c i hc).2⟩
theorem frP_wi {u v : pm_J} (h : frP u v) (a k : Nat) (x : Int32) (ha : rSTp a k) : frP u (wi v a k x) := fun c i hc => ⟨(wi_ne _ _ _ _ _ _ (fun hh => hc (by rw [hh.1, hh.2]; exact ha))).trans (h c i hc).1, (h c i hc).2⟩
theorem rSy_no {c i : Nat} (h : ¬ (c = 64 ∧ i = 18)) (h2 : ¬ (70 ≤ c ∧ c ≤ 76)) : rS_y c i = false := by
  unfold rS_y
  cases h1 : Nat.beq c 64 with
  | true =>
    have := Nat.beq_eq.mp h1
    rw [nbf (show i ≠ 18 by omega)]
    cases h3 : Nat.ble 70 c with
    | true => have := Nat.ble_eq.mp h3; omega
    | false => rfl
  | false =>
    cases h3 : Nat.ble 70 c with
    | false => rfl
    | true =>
      cases h4 : Nat.ble c 76 with
      | false => rfl
      | true => have := Nat.ble_eq.mp h3; have := Nat.ble_eq.mp h4; omega
theorem frP_y {u v : pm_J} (h : fr rS_y u v) : frP u v := fun c i hc => h c i (rSy_no (by unfold rSTp at hc; omega) (by unfold rSTp at hc; omega))
theorem rTk_fr {T : List Tok} {n : Nat} {u v : pm_J} (h : rTk T n u) (hv : frP u v) (hr5 : r5 u v) : rTk T n v := by
  obtain ⟨h1, h2, o, h3, h4, h5⟩ := h
  have g : ∀ c i, ¬ rSTp c i → v.1 c i = u.1 c i ∧ v.2 c i = u.2 c i := hv
  exact ⟨rK_fr h1 (g 64 10 (by unfold rSTp; omega)).1 (fun c i a b => g c i (by unfold rSTp; omega)) hr5, h2, o, h3, ⟨(g 64 1 (by unfold rSTp; omega)).1.trans h4.1, fun i hi => (g 65 i (by unfold rSTp; omega)).1.trans (h4.2 i hi)⟩, h5⟩
theorem rCd_fr {u v : pm_J} {Y : List Ty} {i : Nat} {x : Df} (h : rCd u Y i x) (Z : List Ty) (hv : ∀ c k, 91 ≤ c → c ≤ 99 → v.1 c k = u.1 c k) : rCd v (Y ++ Z) i x := by
  obtain ⟨a1, a2, ⟨k, a3, a4⟩, a5, a6, a7⟩ := h
  exact ⟨(hv _ _ (by omega) (by omega)).trans a1, rPw_fr a2 Z (hv _ _ (by omega) (by omega)) (fun c i h1 _ _ => hv _ _ (by omega) (by omega)), ⟨k, (hv _ _ (by omega) (by omega)).trans a3, gapp a4 Z⟩, (hv _ _ (by omega) (by omega)).trans a5, (hv _ _ (by omega) (by omega)).trans a6, (hv _ _ (by omega) (by omega)).trans a7⟩
theorem rCl_fr {w : Nat → Option Ty} {u v : pm_J} {Y : List Ty} {i : Nat} {x : Df} (h : rCl w u Y i x) (Z : List Ty) (hv : ∀ k, v.1 100 k = u.1 100 k) : rCl w v (Y ++ Z) i x := fun l hl => by
  obtain ⟨a, b⟩ := h l hl
  refine ⟨fun h1 s hs => ?_, fun b' hb s hs => ?_⟩
  · rw [hv]; exact tyN_app (a h1 s hs) Z
  · rw [hv]; exact tyN_app (b b' hb s hs) Z
theorem rCe_fr {t : Tr} {c c' : CS} {u v : pm_J} {Y : List Ty} {e : Nat} (h : rCe t c u Y e) (Z : List Ty) (hc : c'.1 e = c.1 e ∧ c'.2.1 e = c.2.1 e ∧ c'.2.2.1 e = c.2.2.1 e ∧ c'.2.2.2 e = c.2.2.2 e) (hv : ∀ x k, ((77 ≤ x ∧ x ≤ 89 ∨ x = 112) ∧ k = e) ∨ (x = 90 ∧ 4 * e ≤ k ∧ k < 4 * e + 4) → v.1 x k = u.1 x k) : rCe t c' v (Y ++ Z) e := by
  obtain ⟨a1, a2, a3, a4, a5, a6, a7, a8, a9, a10, a11, a12, a13, a14⟩ := h
  obtain ⟨c1, c2, c3, c4⟩ := hc
  unfold rCe
  rw [c1, c2, c3, c4]
  refine ⟨(hv _ _ (by omega)).trans a1, (hv _ _ (by omega)).trans a2, (hv _ _ (by omega)).trans a3, (hv _ _ (by omega)).trans a4, (hv _ _ (by omega)).trans a5, (hv _ _ (by omega)).trans a6, (hv _ _ (by omega)).trans a7, (hv _ _ (by omega)).trans a8, (hv _ _ (by omega)).trans a9, (hv _ _ (by omega)).trans a10, ?_, (hv _ _ (by omega)).trans a12, (hv _ _ (by omega)).trans a13, fun l hl => ?_⟩
  · rw [hv _ _ (by omega)]; exact tyN_app a11 Z
  · rw [hv _ _ (by omega)]; exact tyN_app (a14 l hl) Z
theorem rC_grow {T : List Tok} {n : Nat} {D : List Df} {t : Tr} {c : CS} {w : Nat → Option Ty} {u v : pm_J} {Y : List Ty} (H : rC T n D t c w u Y) (Z : List Ty) (hy : tyR v (Y ++ Z)) (hf2 : ∀ a i, ¬ (a = 64 ∧ i = 18) → ¬ (70 ≤ a ∧ a ≤ 76) → ¬ (101 ≤ a ∧ a ≤ 104) → v.1 a i = u.1 a i ∧ v.2 a i = u.2 a i) : rC T n D t c w v (Y ++ Z) := by
  have hf : ∀ a i, ¬ (a = 64 ∧ i = 18) → ¬ (70 ≤ a ∧ a ≤ 76) → ¬ (101 ≤ a ∧ a ≤ 104) → v.1 a i = u.1 a i := fun a i h1 h2 h3 => (hf2 a i h1 h2 h3).1
  obtain ⟨h1, h2', h3, h4, h5, h6, h7⟩ := H
  refine ⟨(hf _ _ (by omega) (by omega) (by omega)).trans h1, rTk_fr h2' (fun a i ha => hf2 a i (by unfold rSTp at ha; omega) (by unfold rSTp at ha; omega) (by unfold rSTp at ha; omega)) (r5_e (hf _ _ (by omega) (by omega) (by omega)) (hf _ _ (by omega) (by omega) (by omega))), ⟨(hf _ _ (by omega) (by omega) (by omega)).trans h3.1, h3.2⟩, ⟨(hf _ _ (by omega) (by omega) (by omega)).trans h4.1, h4.2⟩, hy, fun i x hx => ⟨rCd_fr (h6 i x hx).1 Z (fun a k _ _ => hf a k (by omega) (by omega) (by omega)), rCl_fr (h6 i x hx).2 Z (fun k => hf _ _ (by omega) (by omega) (by omega))⟩, fun e he => rCe_fr (h7 e he) Z ⟨rfl, rfl, rfl, rfl⟩ (fun a k _ => hf a k (by omega) (by omega) (by omega))⟩
theorem rC_scr {T : List Tok} {n : Nat} {D : List Df} {t : Tr} {c : CS} {w : Nat → Option Ty} {u : pm_J} {Y : List Ty} (H : rC T n D t c w u Y) (a k : Nat) (x : Int32) (ha : 101 ≤ a ∧ a ≤ 104) : rC T n D t c w (wi u a k x) Y := by
  have := rC_grow (v := wi u a k x) H [] (by rw [List.append_nil]; exact tyR_w H.2.2.2.2.1 (wi_ne _ _ _ _ _ _ (by omega)) (fun c i h1 h2 => wi_ne _ _ _ _ _ _ (by omega))) (fun b i _ _ h3 => ⟨wi_ne _ _ _ _ _ _ (by omega), rfl⟩)
  rw [List.append_nil] at this; exact this
theorem rC_at {T : List Tok} {n : Nat} {D : List Df} {t : Tr} {c c' : CS} {w : Nat → Option Ty} {u v : pm_J} {Y : List Ty} (e : Nat) (H : rC T n D t c w u Y) (he : e < t.1) (hv : ∀ a k, ¬ ((a = 87 ∨ a = 88 ∨ a = 89) ∧ k = e) → ¬ (a = 90 ∧ 4 * e ≤ k ∧ k < 4 * e + 4) → v.1 a k = u.1 a k) (h2 : v.2 = u.2) (hc : ∀ i, i ≠ e → c'.1 i = c.1 i ∧ c'.2.1 i = c.2.1 i ∧ c'.2.2.1 i = c.2.2.1 i ∧ c'.2.2.2 i = c.2.2.2 i) (hn : rCe t c' v Y e) : rC T n D t c' w v Y := by
  obtain ⟨h1, h2', h3, h4, h5, h6, h7⟩ := H
  refine ⟨(hv _ _ (by omega) (by omega)).trans h1, rTk_fr h2' (fun a i ha => ⟨hv a i (by unfold rSTp at ha; omega) (by unfold rSTp at ha; omega), by rw [h2]⟩) (r5_e (hv _ _ (by omega) (by omega)) (hv _ _ (by omega) (by omega))), ⟨(hv _ _ (by omega) (by omega)).trans h3.1, h3.2⟩, ⟨(hv _ _ (by omega) (by omega)).trans h4.1, h4.2⟩, tyR_w h5 (hv _ _ (by omega) (by omega)) (fun a i _ _ => hv _ _ (by omega) (by omega)), fun i x hx => ?_, fun i hi => ?_⟩
  · have q1 := rCd_fr (v := v) (h6 i x hx).1 [] (fun a k _ _ => hv a k (by omega) (by omega))
    have q2 := rCl_fr (v := v) (h6 i x hx).2 [] (fun k => hv _ _ (by omega) (by omega))
    rw [List.append_nil] at q1 q2; exact ⟨q1, q2⟩
  · by_cases ei : i = e
    · subst ei; exact hn
    · have := rCe_fr (c' := c') (v := v) (h7 i hi) [] (hc i ei) (fun a k hk => hv a k (by omega) (by omega))
      rw [List.append_nil] at this; exact this
theorem rC_ft {T : List Tok} {n : Nat} {D : List Df} {t : Tr} {c : CS} {w : Nat → Option Ty} {u : pm_J} {Y : List Ty} {e l : Nat} (H : rC T n D t c w u Y) (he : e < t.1) (hl : l < 4) (k : Nat) (s : Ty) (hk : Y[k]? = some s) : rC T n D t (sFt c e (pu_upd (c.2.2.1 e) l (some s))) w (wi u 90 (4 * e + l) (ie (k : Nat))) Y := by
  obtain ⟨a1, a2, a3, a4, a5, a6, a7, a8, a9, a10, a11, a12, a13, a14⟩ := H.2.2.2.2.2.2 e he
  refine rC_at e H he (fun a k' h1 h2 => wi_ne _ _ _ _ _ _ (by omega)) rfl (fun i hi => ⟨rfl, rfl, upd_ne _ _ _ _ hi, rfl⟩) ⟨(wi_ne _ _ _ _ _ _ (by omega)).trans a1, (wi_ne _ _ _ _ _ _ (by omega)).trans a2, (wi_ne _ _ _ _ _ _ (by omega)).trans a3, (wi_ne _ _ _ _ _ _ (by omega)).trans a4, (wi_ne _ _ _ _ _ _ (by omega)).trans a5, (wi_ne _ _ _ _ _ _ (by omega)).trans a6, (wi_ne _ _ _ _ _ _ (by omega)).trans a7, (wi_ne _ _ _ _ _ _ (by omega)).trans a8, (wi_ne _ _ _ _ _ _ (by omega)).trans a9, (wi_ne _ _ _ _ _ _ (by omega)).trans a10, ?_, (wi_ne _ _ _ _ _ _ (by omega)).trans a12, (wi_ne _ _ _ _ _ _ (by omega)).trans a13, fun l' hl' => ?_⟩
  · rw [wi_ne _ _ _ _ _ _ (by omega)]; exact a11
  · show tyN Y _ (pu_upd c.2.2.1 e (pu_upd (c.2.2.1 e) l (some s)) e l')
    rw [upd_same]
    by_cases el : l' = l
    · rw [el, upd_same, wi_at]; exact ⟨k, rfl, hk⟩
    · rw [upd_ne _ _ _ _ el, wi_ne _ _ _ _ _ _ (by omega)]; exact a14 l' hl'
theorem rC_ty {T : List Tok} {n : Nat} {D : List Df} {t : Tr} {c : CS} {w : Nat → Option Ty} {u : pm_J} {Y : List Ty} {e : Nat} (H : rC T n D t c w u Y) (he : e < t.1) (x : Int32) (o : Option Ty) (hk : tyN Y x o) : rC T n D t (pu_upd c.1 e o, c.2) w (wi u 87 e x) Y := by
  obtain ⟨a1, a2, a3, a4, a5, a6, a7, a8, a9, a10, a11, a12, a13, a14⟩ := H.2.2.2.2.2.2 e he
  refine rC_at e H he (fun a k' h1 h2 => wi_ne _ _ _ _ _ _ (by omega)) rfl (fun i hi => ⟨upd_ne _ _ _ _ hi, rfl, rfl, rfl⟩) ⟨(wi_ne _ _ _ _ _ _ (by omega)).trans a1, (wi_ne _ _ _ _ _ _ (by omega)).trans a2, (wi_ne _ _ _ _ _ _ (by omega)).trans a3, (wi_ne _ _ _ _ _ _ (by omega)).trans a4, (wi_ne _ _ _ _ _ _ (by omega)).trans a5, (wi_ne _ _ _ _ _ _ (by omega)).trans a6, (wi_ne _ _ _ _ _ _ (by omega)).trans a7, (wi_ne _ _ _ _ _ _ (by omega)).trans a8, (wi_ne _ _ _ _ _ _ (by omega)).trans a9, (wi_ne _ _ _ _ _ _ (by omega)).trans a10, ?_, (wi_ne _ _ _ _ _ _ (by omega)).trans a12, (wi_ne _ _ _ _ _ _ (by omega)).trans a13, fun l' hl' => ?_⟩
  · rw [wi_at]; show tyN Y _ (pu_upd c.1 e o e); rw [upd_same]; exact hk
  · rw [wi_ne _ _ _ _ _ _ (by omega)]; exact a14 l' hl'
theorem rC_df {T : List Tok} {n : Nat} {D : List Df} {t : Tr} {c : CS} {w : Nat → Option Ty} {u : pm_J} {Y : List Ty} {e : Nat} (H : rC T n D t c w u Y) (he : e < t.1) (o : Option Nat) : rC T n D t (c.1, pu_upd c.2.1 e o, c.2.2) w (wi u 88 e (ie (oI o))) Y := by
  obtain ⟨a1, a2, a3, a4, a5, a6, a7, a8, a9, a10, a11, a12, a13, a14⟩ := H.2.2.2.2.2.2 e he
  refine rC_at e H he (fun a k' h1 h2 => wi_ne _ _ _ _ _ _ (by omega)) rfl (fun i hi => ⟨rfl, upd_ne _ _ _ _ hi, rfl, rfl⟩) ⟨(wi_ne _ _ _ _ _ _ (by omega)).trans a1, (wi_ne _ _ _ _ _ _ (by omega)).trans a2, (wi_ne _ _ _ _ _ _ (by omega)).trans a3, (wi_ne _ _ _ _ _ _ (by omega)).trans a4, (wi_ne _ _ _ _ _ _ (by omega)).trans a5, (wi_ne _ _ _ _ _ _ (by omega)).trans a6, (wi_ne _ _ _ _ _ _ (by omega)).trans a7, (wi_ne _ _ _ _ _ _ (by omega)).trans a8, (wi_ne _ _ _ _ _ _ (by omega)).trans a9, (wi_ne _ _ _ _ _ _ (by omega)).trans a10, ?_, ?_, (wi_ne _ _ _ _ _ _ (by omega)).trans a13, fun l' hl' => ?_⟩
  · rw [wi_ne _ _ _ _ _ _ (by omega)]; exact a11
  · rw [wi_at]; show _ = ie (oI (pu_upd c.2.1 e o e)); rw [upd_same]
  · rw [wi_ne _ _ _ _ _ _ (by omega)]; exact a14 l' hl'
def fitL : List (Ty × Ty) → Fi → Option Fi
  | [], f => some f
  | q :: l, f => (fit q.1 q.2 f).bind fun f' => fitL l f'
def stR (u : pm_J) (Y : List Ty) : List (Ty × Ty) → Prop
  | [] => True
  | q :: l => (∃ k : Nat, u.1 103 l.length = ie k ∧ Y[k]? = some q.1) ∧ (∃ k : Nat, u.1 104 l.length = ie k ∧ Y[k]? = some q.2) ∧ stR u Y l
theorem stR_fr {u v : pm_J} {Y : List Ty} : ∀ {l : List (Ty × Ty)}, stR u Y l → (∀ c i, c = 103 ∨ c = 104 → i < l.length → v.1 c i = u.1 c i) → stR v Y l
  | [], _, _ => trivial
  | q :: l, ⟨⟨k, k1, k2⟩, ⟨m, m1, m2⟩, h⟩, hv => ⟨⟨k, (hv 103 _ (Or.inl rfl) (by show l.length < l.length + 1; omega)).trans k1, k2⟩, ⟨m, (hv 104 _ (Or.inr rfl) (by show l.length < l.length + 1; omega)).trans m1, m2⟩, stR_fr h (fun c i hc hi => hv c i hc (by show i < l.length + 1; omega))⟩
def szL : List (Ty × Ty) → Nat
  | [] => 0
  | q :: l => 2 * tyL q.1 - 1 + szL l
theorem szL_len : ∀ l : List (Ty × Ty), l.length ≤ szL l
  | [] => Nat.le_refl _
  | q :: l => by have := tyL_pos q.1; have := szL_len l; rw [szL]; show l.length + 1 ≤ _; omega
theorem num_atR {u : pm_J} {Y : List Ty} (h : tyR u Y) {k kp : Nat} (hk : Y[kp]? = some (.num k)) : kp = k ∧ k < 6 := by
  have hk6 : k < 6 := tyR_g h kp _ hk
  exact ⟨h.2.2.2.1 _ _ _ hk (h.2.2.2.2.1 k hk6), hk6⟩
