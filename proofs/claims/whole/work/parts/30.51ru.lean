set_option maxRecDepth 100000
theorem pPar_t {T : List Tok} (j : Nat) : ∀ (sc : Sc) (ps : PM) (s : PS) (q : Sc × PM × PS), pPar T j sc ps s = .ok q → q.2.2.2.2.2 = s.2.2.2 := by
  induction j with
  | zero =>
    intro sc ps s q h
    by_cases e : tkK T s.1 = 15
    · rw [pPar_eq T 0 sc ps s e, if_pos rfl] at h
      split at h <;> cases h
    · unfold pPar at h; rw [if_neg e] at h; cases h; rfl
  | succ j ih =>
    intro sc ps s q h
    by_cases e : tkK T s.1 = 15
    · rw [pPar_eq T (j + 1) sc ps s e, if_neg (by omega)] at h
      obtain ⟨q1, h1, h2⟩ := pB_ok h
      obtain ⟨l, hl, h1⟩ := pB_ok h1
      obtain ⟨x, hx, h1⟩ := pB_ok h1
      obtain ⟨t, _, h1⟩ := pB_ok h1
      obtain ⟨y, hy, h1⟩ := pB_ok h1
      have := ih _ _ _ _ h2
      rw [this]
      cases h1
      show y.2.2.2 = _
      rw [(pX_ok (by omega) hy).1]
      show x.2.2.2 = _
      rw [(pX_ok (by omega) hx).1]
      show l.2.2.2.2 = _
      rw [(pDecl_eq hl).1]; rfl
    · unfold pPar at h; rw [if_neg e] at h; cases h; rfl
theorem rB_stop {T : List Tok} {n d : Nat} {D : List Df} {Y : List Ty} {a : Nat} {t : Tr} {u00 u : pm_J} (g : pm_s) (H : rB T n D Y a t u00 u) (hd : D.length = d) (f : Nat) (hf : 1 ≤ f) : zv (fun _ => (F_Md_stop (ie f) (ie (a : Nat)) g u).bind fun q => some q) (fun v => rZ T n d (f, a) u00 v) := by
  obtain ⟨a1, a2, a3, a4, a5, a6, a7, a8, a9, a10, a11, a12⟩ := H
  subst hd
  refine zv_bs ⟨rStop u f (tkP T n a), 0, fun N _ => r_stop g a2 a1.2 f a a4, ?_⟩
  unfold rStop
  have hv : ∀ y i, ¬ (y = 64 ∧ (i = 4 ∨ i = 5 ∨ i = 52)) → (wi (wi (wi u 64 4 (ie f)) 64 5 (ie (tkP T n a : Nat))) 64 52 (ie 0)).1 y i = u.1 y i := fun y i h => by rw [wi_ne _ _ _ _ _ _ (by omega), wi_ne _ _ _ _ _ _ (by omega), wi_ne _ _ _ _ _ _ (by omega)]
  refine ⟨⟨wi_at _ _ _ _, ?_, hf, ?_, ⟨a, by have := a2.1.2.1; omega, (hv _ _ (by omega)).trans a3⟩, Y, tyR_w a7.1 (hv _ _ (by omega)) (fun x i h1 h2 => hv _ _ (by omega))⟩, (hv _ _ (by omega)).trans a5, a6, frDr_wi _ _ _ (by unfold rSDp; omega) (frDr_wi _ _ _ (by unfold rSDp; omega) (frDr_wi _ _ _ (by unfold rSDp; omega) a11))⟩
  · rw [wi_ne _ _ _ _ _ _ (by omega), wi_ne _ _ _ _ _ _ (by omega), wi_at]
  · rw [wi_ne _ _ _ _ _ _ (by omega), wi_at]
theorem z_def {T : List Tok} {n : Nat} {D : List Df} {Y : List Ty} {a : Nat} {t : Tr} {u00 u : pm_J} (g : pm_s) (hC : rCn (T, n, D.length, u00)) (H : rB T n D Y a t u00 u) : zv (fun N => F_Md_define N g u) (fun v => rBo T n D u00 (pDef T D.length a t) v) := by
  have HH := H
  obtain ⟨a1, a2, a3, a4, a5, a6, a7, a8, a9, a10, a11, a12⟩ := H
  have hG : tkG T := hC.1
  have h9 := a2.1.2.1
  have k1 : (u.1 66 a = 1) ↔ tkK T a = 1 := r_kq hG a2 a a4 1 (by omega)
  have k30 : (ie (D.length : Nat) = 30) ↔ D.length = 30 := ineq _ 30 (by omega) (by omega)
  unfold F_Md_define pDef
  rw [a3, a5]
  simp only [if_pos (okn a 902 (by omega) (by omega)), ntn a (by omega), k1, k30]
  by_cases e1 : tkK T a = 1
  · simp only [if_pos e1]
    by_cases e30 : D.length = 30
    · simp only [if_pos e30]
      exact rB_stop g HH rfl 4 (by omega)
    · simp only [if_neg e30]
      have hd : D.length < 30 := by omega
      have hlt : a < T.length := tkK_lt (by omega)
      simp only [if_pos (okn D.length 30 hd (by omega)), ntn D.length (by omega), iadd1]
      generalize hu1 : wi (wi (wi (wi (wi (wi (wi (wi (wi (wi (wi u 91 D.length (ie (a : Nat))) 92 D.length 0) 97 D.length (-1)) 64 64 0) 64 67 0) 64 61 0) 64 62 0) 64 56 0) 64 58 0) 64 60 0) 64 51 (ie ((a + 1 : Nat) : Int)) = u1
      have w0 : ∀ y i, ¬ ((y = 91 ∨ y = 92 ∨ y = 97) ∧ i = D.length) → ¬ (y = 64 ∧ (i = 64 ∨ i = 67 ∨ i = 61 ∨ i = 62 ∨ i = 56 ∨ i = 58 ∨ i = 60 ∨ i = 51)) → u1.1 y i = u.1 y i := fun y i h1 h2 => by
        rw [← hu1, wi_ne _ _ _ _ _ _ (by omega), wi_ne _ _ _ _ _ _ (by omega), wi_ne _ _ _ _ _ _ (by omega), wi_ne _ _ _ _ _ _ (by omega), wi_ne _ _ _ _ _ _ (by omega), wi_ne _ _ _ _ _ _ (by omega), wi_ne _ _ _ _ _ _ (by omega), wi_ne _ _ _ _ _ _ (by omega), wi_ne _ _ _ _ _ _ (by omega), wi_ne _ _ _ _ _ _ (by omega), wi_ne _ _ _ _ _ _ (by omega)]
      have w2 : u1.2 = u.2 := by rw [← hu1]; rfl
      have b51 : u1.1 64 51 = ie ((a + 1 : Nat) : Int) := by rw [← hu1, wi_at]
      have b60 : u1.1 64 60 = ie 0 := by rw [← hu1, wi_ne _ _ _ _ _ _ (by omega), wi_at]; rfl
      have b58 : u1.1 64 58 = ie 0 := by rw [← hu1]; iterate 2 rw [wi_ne _ _ _ _ _ _ (by omega)]
                                         rw [wi_at]; rfl
      have b56 : u1.1 64 56 = ie 0 := by rw [← hu1]; iterate 3 rw [wi_ne _ _ _ _ _ _ (by omega)]
                                         rw [wi_at]; rfl
      have b62 : u1.1 64 62 = ie 0 := by rw [← hu1]; iterate 4 rw [wi_ne _ _ _ _ _ _ (by omega)]
                                         rw [wi_at]; rfl
      have b61 : u1.1 64 61 = ie 0 := by rw [← hu1]; iterate 5 rw [wi_ne _ _ _ _ _ _ (by omega)]
                                         rw [wi_at]; rfl
      have b67 : u1.1 64 67 = ie 0 := by rw [← hu1]; iterate 6 rw [wi_ne _ _ _ _ _ _ (by omega)]
                                         rw [wi_at]; rfl
      have b64 : u1.1 64 64 = ie 0 := by rw [← hu1]; iterate 7 rw [wi_ne _ _ _ _ _ _ (by omega)]
                                         rw [wi_at]; rfl
      have b97 : u1.1 97 D.length = ie (-1) := by rw [← hu1]; iterate 8 rw [wi_ne _ _ _ _ _ _ (by omega)]
                                                  rw [wi_at]; rfl
      have b92 : u1.1 92 D.length = ie 0 := by rw [← hu1]; iterate 9 rw [wi_ne _ _ _ _ _ _ (by omega)]
                                               rw [wi_at]; rfl
      have b91 : u1.1 91 D.length = ie (a : Nat) := by rw [← hu1]; iterate 10 rw [wi_ne _ _ _ _ _ _ (by omega)]
                                                       rw [wi_at]
      have bF : fr rS_D u00 u1 := by
        rw [← hu1]
        iterate 11 refine frDr_wi _ _ _ (by unfold rSDp; omega) ?_
        exact a11
      clear hu1
      have hE : rE (T, n, D.length, u1) none 0 [] [] [] Y (a + 1, none, lc0, t) u1 := ⟨⟨rSt_of a1 (fun i hi => w0 _ _ (by omega) (by omega)), rK_fr a2 (w0 _ _ (by omega) (by omega)) (fun x i h1 h2' => ⟨w0 x i (by omega) (by omega), by rw [w2]⟩) (r5_e (w0 _ _ (by omega) (by omega)) (w0 _ _ (by omega) (by omega))), b51, by show a + 1 ≤ T.length; omega, b61, b62, fun _ => b60, (w0 _ _ (by omega) (by omega)).trans a5, hd⟩, ⟨b56, trivial⟩, ⟨b58, trivial⟩, ⟨b67, trivial⟩, ⟨tyR_w a7.1 (w0 _ _ (by omega) (by omega)) (fun x i h1 h2 => w0 _ _ (by omega) (by omega)), by show Y.length ≤ 6 + (a + 1); omega⟩, ⟨b97, fun x hx => by cases hx⟩, ⟨b64, by show 0 ≤ 24; omega, fun i t hi => by have : i < 0 := hi; omega⟩, rNs_of a8 (fun x i h => w0 _ _ (by omega) (by omega)), fr_refl _ _⟩
      have hds : rDs D u1 Y := by
        have := rDs_fr (v := u1) a10 [] (fun c k h => w0 _ _ (by omega) (by omega))
        rw [List.append_nil] at this; exact this
      have hQ : rQ T n D [] [] Y (a + 1, none, lc0, t) a u00 u1 := ⟨hE, ⟨b92, by show 0 ≤ 6; omega, fun i x hi => (by cases hi)⟩, rfl, fun x hx => (by cases hx), hds, bF, by show t.1 ≤ 2 * (a + 1); omega, b91⟩
      obtain ⟨v, n0, h1, h2⟩ := z_pars g hC 6 [] [] Y _ u1 rfl (by show 0 ≤ 6; omega) hQ
      have h2' : rQo T n D a u00 (pPar T 6 [] [] (a + 1, none, lc0, t)) v := h2
      refine zv_rw (G := fun N => K_Md_define_141 N g (ie (D.length : Nat)) v) (n0 + 8) (fun N hN => h1 N N (by omega) (by omega)) ?_
      cases hP : pPar T 6 [] [] (a + 1, none, lc0, t) with
      | error e => rw [hP] at h2'; exact c141 g h2' hd
      | ok p =>
        rw [hP] at h2'
        obtain ⟨S, Y', Q', hq, h6'⟩ := h2'
        rw [pB_o, hq]
        have e5 := pPar_t 6 _ _ _ _ hP
        exact z_141 g hC Q' h6' (by rw [e5]) e1 a12
  · simp only [if_neg e1]
    exact rB_stop g HH rfl 2 (by omega)
def rAo (T : List Tok) (n : Nat) (u00 : pm_J) (x : PE (List Df × Tr)) (q : Int32 × pm_J) : Prop := match x with
  | .error e => q.1 = 0 ∧ ∃ d, rZ T n d e u00 q.2
  | .ok p => q.1 = 1 ∧ ∃ Y a, rB T n p.1 Y a p.2 u00 q.2
theorem z_all {T : List Tok} {n : Nat} {u00 : pm_J} (g : pm_s) (hC : ∀ d, rCn (T, n, d, u00)) (f : Nat) : ∀ (D : List Df) (Y : List Ty) (a : Nat) (t : Tr) (u : pm_J), f + D.length = 31 → rB T n D Y a t u00 u → ∃ (q : Int32 × pm_J) (n0 : Nat), (∀ N k, n0 ≤ N → f + 1 ≤ k → K_Md_readAll_24 N g k u = some q) ∧ rAo T n u00 (pProg T f D a t) q := by
  induction f with
  | zero => intro D Y a t u hf H; have := H.2.2.2.2.2.1; omega
  | succ f ih =>
    intro D Y a t u hf H
    have HH := H
    obtain ⟨a1, a2, a3, a4, a5, a6, a7, a8, a9, a10, a11, a12⟩ := H
    have h9 := a2.1.2.1
    have k26 : (u.1 66 a = 26) ↔ tkK T a = 0 := r_kq (hC 0).1 a2 a a4 0 (by omega)
    have st : ∀ N k, K_Md_readAll_24 N g (k + 1) u = if tkK T a = 0 then some (1, u) else (F_Md_define N g u).bind fun q7 => K_Md_readAll_24 N g k q7 := by
      intro N k
      rw [K_Md_readAll_24, if_neg (fun hh => by rw [a1.1] at hh; exact absurd hh (by decide)), a3, if_pos (okn a 902 (by omega) (by omega)), ntn a (by omega), a1.1, if_pos (show (ie 1 == 0 || ie 1 == 1) = true by decide)]
      simp only [k26]
      rfl
    rw [pProg]
    by_cases e0 : tkK T a = 0
    · rw [if_pos e0]
      refine ⟨(1, u), 0, fun N k _ hk => ?_, rfl, Y, a, HH⟩
      obtain ⟨k, rfl⟩ : ∃ k', k = k' + 1 := ⟨k - 1, by omega⟩
      rw [st, if_pos e0]
    · rw [if_neg e0]
      obtain ⟨v, n0, h1, h2⟩ := z_def g (hC _) HH
      have h1' : ∀ N, n0 ≤ N → F_Md_define N g u = some v := h1
      cases hp : pDef T D.length a t with
      | error e =>
        rw [hp] at h2
        refine ⟨(0, v), n0, fun N k hN hk => ?_, rfl, D.length, h2⟩
        obtain ⟨k, rfl⟩ : ∃ k', k = k' + 2 := ⟨k - 2, by omega⟩
        rw [st, if_neg e0, h1' N hN, Option.bind_some, K_Md_readAll_24]
        have h52 : v.1 64 52 = 0 := h2.1.1
        rw [if_pos h52, h52, if_pos (show ((0 : Int32) == 0 || (0 : Int32) == 1) = true by decide)]
      | ok p =>
        rw [hp] at h2
        obtain ⟨Y', h2⟩ := h2
        rw [pB_o]
        obtain ⟨q, n1, i1, i2⟩ := ih _ _ _ _ _ (by rw [List.length_append, List.length_singleton]; omega) h2
        refine ⟨q, n0 + n1, fun N k hN hk => ?_, i2⟩
        obtain ⟨k, rfl⟩ : ∃ k', k = k' + 1 := ⟨k - 1, by omega⟩
        rw [st, if_neg e0, h1' N (by omega), Option.bind_some]
        exact i1 N k (by omega) (by omega)
def rBs (u : pm_J) : Prop := ∀ k : Nat, k < 6 → u.1 74 k = ie 1 ∧ u.1 73 k = ie (tyM (.num k) : Nat)
def Y6 : List Ty := [.num 0, .num 1, .num 2, .num 3, .num 4, .num 5]
theorem y6_i (i : Nat) (t : Ty) (h : Y6[i]? = some t) : i < 6 ∧ t = .num i := by
  match i, h with
  | 0, h => exact ⟨by omega, (Option.some.inj h).symm⟩
  | 1, h => exact ⟨by omega, (Option.some.inj h).symm⟩
  | 2, h => exact ⟨by omega, (Option.some.inj h).symm⟩
  | 3, h => exact ⟨by omega, (Option.some.inj h).symm⟩
  | 4, h => exact ⟨by omega, (Option.some.inj h).symm⟩
  | 5, h => exact ⟨by omega, (Option.some.inj h).symm⟩
  | i + 6, h => cases h
theorem y6_k (k : Nat) (h : k < 6) : Y6[k]? = some (.num k) := by
  match k, h with
  | 0, _ => rfl
  | 1, _ => rfl
  | 2, _ => rfl
  | 3, _ => rfl
  | 4, _ => rfl
  | 5, _ => rfl
theorem tyR_bs {u : pm_J} {Y : List Ty} (h : tyR u Y) : rBs u := fun k hk => by
  obtain ⟨_, a2, a3, _⟩ := h.2.2.1 k _ (h.2.2.2.2.1 k hk)
  exact ⟨a2, a3⟩
theorem z_noT (g : pm_s) (u : pm_J) : ∃ v, (∀ N, 8200 ≤ N → F_Md_noTypes N g u = some v) ∧ v.2 = u.2 ∧ v.1 64 18 = ie 6 ∧ (∀ i, i < 8192 → v.1 76 i = ie (-1)) ∧ ∀ c i, ¬ (c = 64 ∧ i = 18) → ¬ (c = 76 ∧ i < 8192) → v.1 c i = u.1 c i := by
  have lp : ∀ (r k : Nat) (w : pm_J), k + r = 8192 → (∀ i, i < k → w.1 76 i = ie (-1)) → ∃ v, (∀ N f, r < f → K_Md_noTypes_8 N g f (ie (k : Nat)) w = some v) ∧ v.2 = w.2 ∧ (∀ i, i < 8192 → v.1 76 i = ie (-1)) ∧ ∀ c i, ¬ (c = 76 ∧ i < 8192) → v.1 c i = w.1 c i := by
    intro r
    induction r with
    | zero =>
      intro k w hk h
      refine ⟨w, fun N f hf => ?_, rfl, fun i hi => h i (by omega), fun _ _ _ => rfl⟩
      obtain ⟨f, rfl⟩ : ∃ f', f = f' + 1 := ⟨f - 1, by omega⟩
      rw [K_Md_noTypes_8, if_pos (show (8192 : Int32) ≤ ie (k : Nat) from (inle 8192 k (by omega) (by omega)).mpr (by omega))]
    | succ r ih =>
      intro k w hk h
      obtain ⟨v, v1, v2, v3, v4⟩ := ih (k + 1) (wi w 76 k (ie (-1))) (by omega) (fun i hi => by
        by_cases e : i = k
        · rw [e, wi_at]
        · rw [wi_ne _ _ _ _ _ _ (by omega)]; exact h i (by omega))
      refine ⟨v, fun N f hf => ?_, v2, v3, fun c i hc => (v4 c i hc).trans (wi_ne _ _ _ _ _ _ (by omega))⟩
      obtain ⟨f, rfl⟩ : ∃ f', f = f' + 1 := ⟨f - 1, by omega⟩
      rw [K_Md_noTypes_8, if_neg (show ¬ ((8192 : Int32) ≤ ie (k : Nat)) from fun hh => by have := (inle 8192 k (by omega) (by omega)).mp hh; omega), if_pos (okn k 8192 (by omega) (by omega)), ntn k (by omega), iadd1]
      exact v1 N f (by omega)
  obtain ⟨v, v1, v2, v3, v4⟩ := lp 8192 0 (wi u 64 18 6) (by omega) (fun i hi => by omega)
  refine ⟨v, fun N hN => v1 N N (by omega), v2, ?_, v3, fun c i h1 h2 => (v4 c i h2).trans (wi_ne _ _ _ _ _ _ h1)⟩
  rw [v4 _ _ (by omega), wi_at]; rfl
theorem tyR_0 {u : pm_J} (h18 : u.1 64 18 = ie 6) (h76 : ∀ i, i < 8192 → u.1 76 i = ie (-1)) (hb : rBs u) : tyR u Y6 := by
  refine ⟨h18, ⟨by decide, by decide⟩, fun i t hi => ?_, fun i j t hi hj => ?_, y6_k, fun b hb => ⟨[], h76 b hb, by decide, fun i hi => (by cases hi), fun i t l r hi h6 => ?_⟩⟩
  · obtain ⟨h1, rfl⟩ := y6_i i t hi
    exact ⟨fun h => by omega, (hb i h1).1, (hb i h1).2, rfl, h1⟩
  · obtain ⟨_, rfl⟩ := y6_i i t hi
    obtain ⟨_, h2⟩ := y6_i j _ hj
    injection h2
  · obtain ⟨h1, _⟩ := y6_i i t hi; omega
theorem z_readAll {T : List Tok} {n : Nat} {u00 : pm_J} (g : pm_s) (hC : ∀ d, rCn (T, n, d, u00)) (hK : rK T n u00) (h4 : u00.1 64 4 = ie 0) (hb : rBs u00) : zv (fun N => F_Md_readAll N g u00) (fun q => rAo T n u00 (pProg T 31 [] 0 tr0) q) := by
  obtain ⟨v, v1, v2, v3, v4, v5⟩ := z_noT g (wi (wi (wi u00 64 51 0) 64 33 0) 64 44 0)
  have w0 : ∀ c i, ¬ (c = 64 ∧ (i = 18 ∨ i = 51 ∨ i = 33 ∨ i = 44 ∨ i = 52)) → ¬ (c = 76 ∧ i < 8192) → (wi v 64 52 1).1 c i = u00.1 c i := fun c i h1 h2 => by
    rw [wi_ne _ _ _ _ _ _ (by omega), v5 _ _ (by omega) h2, wi_ne _ _ _ _ _ _ (by omega), wi_ne _ _ _ _ _ _ (by omega), wi_ne _ _ _ _ _ _ (by omega)]
  have w2 : (wi v 64 52 1).2 = u00.2 := v2
  have b52 : (wi v 64 52 1).1 64 52 = ie 1 := by rw [wi_at]; rfl
  have b51 : (wi v 64 52 1).1 64 51 = ie 0 := by rw [wi_ne _ _ _ _ _ _ (by omega), v5 _ _ (by omega) (by omega), wi_ne _ _ _ _ _ _ (by omega), wi_ne _ _ _ _ _ _ (by omega), wi_at]; rfl
  have b33 : (wi v 64 52 1).1 64 33 = ie 0 := by rw [wi_ne _ _ _ _ _ _ (by omega), v5 _ _ (by omega) (by omega), wi_ne _ _ _ _ _ _ (by omega), wi_at]; rfl
  have b44 : (wi v 64 52 1).1 64 44 = ie 0 := by rw [wi_ne _ _ _ _ _ _ (by omega), v5 _ _ (by omega) (by omega), wi_at]; rfl
  have hY : tyR (wi v 64 52 1) Y6 := tyR_0 ((wi_ne _ _ _ _ _ _ (by omega)).trans v3) (fun i hi => (wi_ne _ _ _ _ _ _ (by omega)).trans (v4 i hi)) (fun k hk => by rw [w0 _ _ (by omega) (by omega), w0 _ _ (by omega) (by omega)]; exact hb k hk)
  have bF : fr rS_D u00 (wi v 64 52 1) := fun c i hs => by
    have := rSD_no' hs
    unfold rSDp at this
    exact ⟨w0 c i (by omega) (by omega), by rw [w2]⟩
  have hB : rB T n [] Y6 0 tr0 u00 (wi v 64 52 1) := ⟨⟨b52, (w0 _ _ (by omega) (by omega)).trans h4⟩, rK_fr hK (w0 _ _ (by omega) (by omega)) (fun x i h1 h2' => ⟨w0 x i (by omega) (by omega), by rw [w2]⟩) (r5_e (w0 _ _ (by omega) (by omega)) (w0 _ _ (by omega) (by omega))), b51, Nat.zero_le _, b44, by decide, ⟨hY, by decide⟩, ⟨b33, by decide, fun e he => by have : e < 0 := he; omega⟩, by decide, fun i x hi => (by cases hi), bF, fun x hx => (by cases hx)⟩
  obtain ⟨q, n0, h1, h2⟩ := z_all g hC 31 [] Y6 0 tr0 _ rfl hB
  refine ⟨q, n0 + 8200, fun N hN => ?_, h2⟩
  show F_Md_readAll N g u00 = _
  unfold F_Md_readAll
  rw [v1 N (by omega), Option.bind_some]
  exact h1 N N (by omega) (by omega)
def rNo (T : List Tok) (n : Nat) (u : pm_J) (x : Option Nat) (q : Int32 × pm_J) : Prop := match x with
  | none => q = (1, u)
  | some w => q = (0, rFail u 5 (tkP T n w))
theorem z_names {T : List Tok} {n : Nat} {D : List Df} {Y : List Ty} {a : Nat} {t : Tr} {u00 u : pm_J} (g : pm_s) (hC : ∀ d, rCn (T, n, d, u00)) (H : rB T n D Y a t u00 u) : zv (fun N => F_Md_names N g u) (fun q => rNo T n u (clash T [] D) q) := by
  obtain ⟨a1, a2, a3, a4, a5, a6, a7, a8, a9, a10, a11, a12⟩ := H
  obtain ⟨hG, o, ho, hx, hok⟩ := hC 0
  have h9 := a2.1.2.1
  have hx' : rTx o n u := ⟨((a11 64 1 (rSD_no (by unfold rSDp; omega))).1).trans hx.1, fun i hi => ((a11 65 i (rSD_no (by unfold rSDp; omega))).1).trans (hx.2 i hi)⟩
  have same : ∀ N, 10000 ≤ N → ∀ i b : Nat, tkK T i = 1 → tkK T b = 1 → F_Md_isSame N (ie (i : Nat)) (ie b) g u = some (ib (decide (tkV T i = tkV T b))) := by
    intro N hN i b hi hb
    obtain ⟨t1, e1⟩ : ∃ t, T[i]? = some t := ⟨T[i]'(tkK_lt (by omega)), List.getElem?_eq_getElem _⟩
    obtain ⟨t2, e2⟩ : ∃ t, T[b]? = some t := ⟨T[b]'(tkK_lt (by omega)), List.getElem?_eq_getElem _⟩
    have k1 : t1.1 = 1 := by unfold tkK at hi; rw [e1] at hi; exact hi
    have k2 : t2.1 = 1 := by unfold tkK at hb; rw [e2] at hb; exact hb
    have := r_isSame N g ho hN hx' T a2.1 hok i b t1 t2 e1 e2 k1 k2
    rw [this]; unfold tkV; rw [e1, e2]
  have tell : ∀ w, w < T.length → ∀ c i, u.1 c i = ie (w : Nat) → (if pm_ok (u.1 c i) 902 = true then (F_Md_fails 5 (u.1 67 ((u.1 c i).toNatClampNeg)) g u).bind fun q7 => if (q7.1 == 0 || q7.1 == 1) = true then some (q7.1, q7.2) else none else none) = some (0, rFail u 5 (tkP T n w)) := by
    intro w hw c i hc
    rw [hc, if_pos (okn w 902 (by omega) (by omega)), ntn w (by omega), r_plc a2 w (by omega), show (5 : Int32) = ie 5 from rfl, r_fails u g 5 _ a1.2, Option.bind_some]; rfl
  have inner : ∀ (P : List Df) (x : Df) (R : List Df), D = P ++ x :: R → ∀ (r j : Nat) (b : Bool), j + r = P.length → ∀ (N : Nat) (k2 : Int32 → pm_J → Option (Int32 × pm_J)) (f : Nat), 10000 ≤ N → r + 1 ≤ f →
      K_Md_names_14 N g k2 f (ie (P.length : Nat)) (ib b) (ie (j : Nat)) u = if (b || (P.drop j).any fun y => tkV T y.1 == tkV T x.1) = true then some (0, rFail u 5 (tkP T n x.1)) else match x.2.2.2.2.2.1 with
        | some w => some (0, rFail u 5 (tkP T n w))
        | none => k2 (ie ((P.length + 1 : Nat) : Int)) u := by
    intro P x R hD r
    have hl : D.length = P.length + (R.length + 1) := by rw [hD, List.length_append]; rfl
    have hxi : D[P.length]? = some x := by rw [hD, List.getElem?_append_right (Nat.le_refl _), Nat.sub_self]; rfl
    have hxm : x ∈ D := List.mem_of_getElem? hxi
    obtain ⟨c1, c2, c3, c4, c5, c6, c7, c8, c9⟩ := a10 _ _ hxi
    induction r with
    | zero =>
      intro j b hj N k2 f hN hf
      obtain ⟨f, rfl⟩ : ∃ f', f = f' + 1 := ⟨f - 1, by omega⟩
      have hd0 : P.drop j = [] := List.drop_eq_nil_of_le (by omega)
      rw [K_Md_names_14, if_pos ((inle _ _ (by omega) (by omega)).mpr (by omega)), hd0]
      cases b with
      | true =>
        rw [if_neg (show ¬ (ib true = 0) by decide)]
        unfold K_Md_names_57
        rw [if_neg (show ¬ (ib true = 0) by decide), if_pos (okn P.length 30 (by omega) (by omega)), ntn P.length (by omega), tell x.1 (tkK_lt (by rw [(a12 x hxm).1]; omega)) _ _ c1]
        rfl
      | false =>
        rw [if_pos (show ib false = 0 by decide), if_pos (okn P.length 30 (by omega) (by omega)), ntn P.length (by omega), iadd1]
        rw [if_neg (show ¬ ((false || List.any [] fun y : Df => tkV T y.1 == tkV T x.1) = true) by simp)]
        cases hw : x.2.2.2.2.2.1 with
        | none =>
          rw [hw] at c7
          rw [c7, if_pos (show ie (-1) < 0 by decide)]
        | some w =>
          rw [hw] at c7
          have hwl := (a12 x hxm).2 w hw
          have c7' : u.1 97 P.length = ie (w : Nat) := c7
          rw [if_neg (show ¬ (u.1 97 P.length < 0) from fun hh => by rw [c7'] at hh; have := (inlt w 0 (by omega) (by omega)).mp hh; omega)]
          unfold K_Md_names_57
          rw [if_pos (show ib false = 0 by decide), if_pos (okn P.length 30 (by omega) (by omega)), ntn P.length (by omega), tell w hwl _ _ c7']
    | succ r ih =>
      intro j b hj N k2 f hN hf
      obtain ⟨f, rfl⟩ : ∃ f', f = f' + 1 := ⟨f - 1, by omega⟩
      have hjl : j < P.length := by omega
      have hyi : D[j]? = some P[j] := by rw [hD, List.getElem?_append_left hjl]; exact List.getElem?_eq_getElem hjl
      have hym := List.mem_of_getElem? hyi
      obtain ⟨d1, _⟩ := a10 _ _ hyi
      have hdr : P.drop j = P[j] :: P.drop (j + 1) := List.drop_eq_getElem_cons hjl
      rw [K_Md_names_14, if_neg (fun hh => by have := (inle _ _ (by omega) (by omega)).mp hh; omega), if_pos (okn j 30 (by omega) (by omega)), if_pos (okn P.length 30 (by omega) (by omega)), ntn j (by omega), ntn P.length (by omega), d1, c1, same N hN _ _ (a12 _ hym).1 (a12 _ hxm).1, Option.bind_some, iadd1]
      have hor : ib b ||| ib (decide (tkV T P[j].1 = tkV T x.1)) = ib (b || decide (tkV T P[j].1 = tkV T x.1)) := by
        cases b <;> cases decide (tkV T P[j].1 = tkV T x.1) <;> decide
      rw [hor, ih (j + 1) _ (by omega) N k2 f hN (by omega), hdr, List.any_cons]
      congr 1
      rw [Bool.or_assoc]; rfl
  have outer : ∀ (R P : List Df), D = P ++ R → ∃ q, rNo T n u (clash T P R) q ∧ ∀ N f, 10000 ≤ N → R.length + 1 ≤ f → K_Md_names_2 N g f (ie (P.length : Nat)) u = some q := by
    intro R
    induction R with
    | nil =>
      intro P hD
      refine ⟨(1, u), rfl, fun N f hN hf => ?_⟩
      obtain ⟨f, rfl⟩ : ∃ f', f = f' + 1 := ⟨f - 1, by omega⟩
      rw [List.append_nil] at hD
      rw [K_Md_names_2, a5, hD, if_pos ((inle _ _ (by rw [← hD]; omega) (by rw [← hD]; omega)).mpr (Nat.le_refl _))]
    | cons x R ih =>
      intro P hD
      have hl : D.length = P.length + (R.length + 1) := by rw [hD, List.length_append]; rfl
      obtain ⟨q, q1, q2⟩ := ih (P ++ [x]) (by rw [hD, List.append_assoc]; rfl)
      have hst : ∀ N f, 10000 ≤ N → K_Md_names_2 N g (f + 1) (ie (P.length : Nat)) u = if (P.any fun y => tkV T y.1 == tkV T x.1) = true then some (0, rFail u 5 (tkP T n x.1)) else match x.2.2.2.2.2.1 with
        | some w => some (0, rFail u 5 (tkP T n w))
        | none => K_Md_names_2 N g f (ie ((P.length + 1 : Nat) : Int)) u := by
        intro N f hN
        rw [K_Md_names_2, a5, if_neg (fun hh => by have := (inle _ _ (by omega) (by omega)).mp hh; omega)]
        exact inner P x R hD P.length 0 false (by omega) N (K_Md_names_2 N g f) N hN (by omega)
      have hpl : (P ++ [x]).length = P.length + 1 := by rw [List.length_append]; rfl
      rw [hpl] at q2
      unfold clash
      by_cases eb : (P.any fun y => tkV T y.1 == tkV T x.1) = true
      · rw [if_pos eb]
        refine ⟨_, rfl, fun N f hN hf => ?_⟩
        obtain ⟨f, rfl⟩ : ∃ f', f = f' + 1 := ⟨f - 1, by omega⟩
        rw [hst N f hN, if_pos eb]
      · rw [if_neg eb]
        cases hw : x.2.2.2.2.2.1 with
        | some w =>
          refine ⟨_, rfl, fun N f hN hf => ?_⟩
          obtain ⟨f, rfl⟩ : ∃ f', f = f' + 1 := ⟨f - 1, by omega⟩
          rw [hst N f hN, if_neg eb, hw]
        | none =>
          refine ⟨q, q1, fun N f hN hf => ?_⟩
          obtain ⟨f, rfl⟩ : ∃ f', f = f' + 1 := ⟨f - 1, by omega⟩
          rw [hst N f hN, if_neg eb, hw]
          exact q2 N f hN (by have : (x :: R).length = R.length + 1 := rfl; omega)
  obtain ⟨q, q1, q2⟩ := outer D [] rfl
  exact ⟨q, 10000, fun N hN => q2 N N hN (by omega), q1⟩
