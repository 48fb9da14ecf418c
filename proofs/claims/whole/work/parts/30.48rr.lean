set_option maxRecDepth 100000
def rPw (u : pm_J) (d : Nat) (ps : rPl) (Y : List Ty) : Prop := u.1 92 d = ie (ps.length : Nat) ∧ ps.length ≤ 6 ∧ ∀ i x, ps.reverse[i]? = some x → u.1 98 (6 * d + i) = ie (x.1 : Nat) ∧ ∃ k : Nat, u.1 99 (6 * d + i) = ie k ∧ Y[k]? = some x.2
theorem rPw_m {T : List Tok} {n d : Nat} {u : pm_J} {ps : rPl} {Y : List Ty} (h : rPw u d ps Y) : rPm (T, n, d, u) ps Y := ⟨h.1, h.2.1, fun i x hi => (h.2.2 i x hi).2⟩
theorem gapp {Y : List Ty} {k : Nat} {t : Ty} (h : Y[k]? = some t) (Z : List Ty) : (Y ++ Z)[k]? = some t := by rw [List.getElem?_append_left (List.getElem?_eq_some_iff.mp h).1]; exact h
theorem rPw_fr {u v : pm_J} {d : Nat} {ps : rPl} {Y : List Ty} (h : rPw u d ps Y) (Z : List Ty) (h92 : v.1 92 d = u.1 92 d) (hv : ∀ c i, c = 98 ∨ c = 99 → 6 * d ≤ i → i < 6 * d + 6 → v.1 c i = u.1 c i) : rPw v d ps (Y ++ Z) := by
  refine ⟨h92.trans h.1, h.2.1, fun i x hi => ?_⟩
  have hl := (List.getElem?_eq_some_iff.mp hi).1
  rw [List.length_reverse] at hl
  have h6 := h.2.1
  obtain ⟨a1, k, a2, a3⟩ := h.2.2 i x hi
  exact ⟨(hv _ _ (by omega) (by omega) (by omega)).trans a1, k, (hv _ _ (by omega) (by omega) (by omega)).trans a2, gapp a3 Z⟩
def rDf (u : pm_J) (Y : List Ty) (i : Nat) (x : Df) : Prop := u.1 91 i = ie (x.1 : Nat) ∧ rPw u i x.2.1 Y ∧ (∃ k : Nat, u.1 93 i = ie k ∧ Y[k]? = some x.2.2.1) ∧ u.1 94 i = ie (x.2.2.2.2.2.2.1 : Nat) ∧ u.1 95 i = ie (x.2.2.2.2.1 : Nat) ∧ u.1 96 i = ie (x.2.2.2.1 : Nat) ∧ u.1 97 i = ie (match x.2.2.2.2.2.1 with | none => -1 | some w => (w : Int)) ∧ x.2.2.2.2.2.2.1 ≤ 24 ∧ ∀ l t, l < x.2.2.2.2.2.2.1 → x.2.2.2.2.2.2.2.1 l = some t → ∃ k : Nat, u.1 100 (24 * i + l) = ie k ∧ Y[k]? = some t
theorem rDf_fr {u v : pm_J} {Y : List Ty} {i : Nat} {x : Df} (h : rDf u Y i x) (Z : List Ty) (hv : ∀ c k, ((91 ≤ c ∧ c ≤ 97) ∧ k = i) ∨ ((c = 98 ∨ c = 99) ∧ 6 * i ≤ k ∧ k < 6 * i + 6) ∨ (c = 100 ∧ 24 * i ≤ k ∧ k < 24 * i + 24) → v.1 c k = u.1 c k) : rDf v (Y ++ Z) i x := by
  obtain ⟨a1, a2, ⟨k, a3, a3b⟩, a4, a5, a6, a7, a8, a9⟩ := h
  refine ⟨(hv _ _ (by omega)).trans a1, rPw_fr a2 Z (hv _ _ (by omega)) (fun c j h1 h2 h3 => hv _ _ (by omega)), ⟨k, (hv _ _ (by omega)).trans a3, gapp a3b Z⟩, (hv _ _ (by omega)).trans a4, (hv _ _ (by omega)).trans a5, (hv _ _ (by omega)).trans a6, (hv _ _ (by omega)).trans a7, a8, fun l t hl ht => ?_⟩
  obtain ⟨k, k1, k2⟩ := a9 l t hl ht
  exact ⟨k, (hv _ _ (by omega)).trans k1, gapp k2 Z⟩
def rDs (D : List Df) (u : pm_J) (Y : List Ty) : Prop := ∀ i x, D[i]? = some x → rDf u Y i x
theorem rDs_fr {D : List Df} {u v : pm_J} {Y : List Ty} (h : rDs D u Y) (Z : List Ty) (hv : ∀ c k, ((91 ≤ c ∧ c ≤ 97) ∧ k < D.length) ∨ ((c = 98 ∨ c = 99) ∧ k < 6 * D.length) ∨ (c = 100 ∧ k < 24 * D.length) → v.1 c k = u.1 c k) : rDs D v (Y ++ Z) := fun i x hi => by
  have hl := (List.getElem?_eq_some_iff.mp hi).1
  exact rDf_fr (h i x hi) Z (fun c k hc => hv c k (by omega))
def rQ (T : List Tok) (n : Nat) (D : List Df) (S : List (Nat × Nat)) (ps : rPl) (Y : List Ty) (s : PS) (a0 : Nat) (u00 u : pm_J) : Prop := rE (T, n, D.length, u) none 0 [] [] S Y s u ∧ rPw u D.length ps Y ∧ S.map Prod.fst = ps.map Prod.fst ∧ (∀ x ∈ S, tkK T x.1 = 1) ∧ rDs D u Y ∧ fr rS_D u00 u ∧ s.2.2.2.1 ≤ 2 * s.1 ∧ u.1 91 D.length = ie (a0 : Nat)
theorem rE_base {T : List Tok} {n d : Nat} {u0 : pm_J} {st : Option (Nat × Nat)} {dp : Nat} {K : List (Int32 × Int32 × Int32)} {V : List Nat} {S : List (Nat × Nat)} {Y : List Ty} {s : PS} {u : pm_J} (H : rE (T, n, d, u0) st dp K V S Y s u) (v : pm_J) (hv : fr (rS_E d) v u) : rE (T, n, d, v) st dp K V S Y s u := by
  obtain ⟨a1, a2, a3, a4, a5, a6, a7, a8, a9⟩ := H
  exact ⟨a1, a2, a3, a4, a5, a6, a7, a8, hv⟩
theorem rCn_base {T : List Tok} {n d : Nat} {u0 : pm_J} (h : rCn (T, n, d, u0)) (v : pm_J) (hv : fr rS_D u0 v) : rCn (T, n, d, v) := by
  obtain ⟨h1, o, h2, h3, h4⟩ := h
  exact ⟨h1, o, h2, ⟨((hv 64 1 (rSD_no (by unfold rSDp; omega))).1).trans h3.1, fun i hi => ((hv 65 i (rSD_no (by unfold rSDp; omega))).1).trans (h3.2 i hi)⟩, h4⟩
theorem rE_out {T : List Tok} {n d : Nat} {u0 : pm_J} {st : Option (Nat × Nat)} {dp : Nat} {K : List (Int32 × Int32 × Int32)} {V : List Nat} {S : List (Nat × Nat)} {Y : List Ty} {s : PS} {u : pm_J} (H : rE (T, n, d, u0) st dp K V S Y s u) (a k : Nat) (x : Int32) (h : (91 ≤ a ∧ a ≤ 96) ∨ a = 98 ∨ a = 99) : rE (T, n, d, wi u a k x) st dp K V S Y s (wi u a k x) := by
  obtain ⟨a1, a2, a3, a4, a5, a6, a7, a8, a9⟩ := H
  have hv : ∀ y i, ¬ (y = a ∧ i = k) → (wi u a k x).1 y i = u.1 y i := fun y i h => wi_ne _ _ _ _ _ _ h
  exact ⟨rA_of (c := (T, n, d, wi u a k x)) a1 (fun y i h => hv y i (by omega)) rfl, ⟨(hv _ _ (by omega)).trans a2.1, rKs_of a2.2 (fun x i h1 h2 h3 => hv _ _ (by omega))⟩, ⟨(hv _ _ (by omega)).trans a3.1, rVs_of a3.2 (fun i h => hv _ _ (by omega))⟩, ⟨(hv _ _ (by omega)).trans a4.1, rSs_of a4.2 (fun x i h1 h2 h3 => hv _ _ (by omega))⟩, ⟨tyR_w a5.1 (hv _ _ (by omega)) (fun x i h1 h2 => hv _ _ (by omega)), a5.2⟩, rW_of a6 (hv _ _ (by show ¬ (97 = a ∧ d = k); omega)), rLo_of a7 (hv _ _ (by omega)) (fun i h => hv _ _ (by omega)), rNs_of a8 (fun x i h => hv _ _ (by omega)), fr_refl _ _⟩
theorem fnd_some {sc : Sc} {v : Int64} : (fnd sc v).isSome = true ↔ ∃ x ∈ sc, x.1 = v := by
  induction sc with
  | nil => constructor
           · intro h; cases h
           · rintro ⟨x, hx, _⟩; cases hx
  | cons y sc ih =>
    unfold fnd
    by_cases e : y.1 = v
    · rw [if_pos e]; constructor
      · intro _; exact ⟨y, by simp, e⟩
      · intro _; rfl
    · rw [if_neg e, ih]; constructor
      · rintro ⟨x, hx, hv⟩; exact ⟨x, List.mem_cons_of_mem _ hx, hv⟩
      · rintro ⟨x, hx, hv⟩
        rcases List.mem_cons.mp hx with rfl | hx
        · exact absurd hv e
        · exact ⟨x, hx, hv⟩
theorem r_same2 {c : RC} {st : Option (Nat × Nat)} {dp : Nat} {K : List (Int32 × Int32 × Int32)} {V : List Nat} {S : List (Nat × Nat)} {Y : List Ty} {s : PS} {u : pm_J} (g : pm_s) (hC : rCn c) (H : rE c st dp K V S Y s u) (i a : Nat) (hi : tkK c.1 i = 1) (ha : tkK c.1 a = 1) : ∀ N, 10000 ≤ N → F_Md_isSame N (ie (i : Nat)) (ie a) g u = some (ib (decide (tkV c.1 i = tkV c.1 a))) := by
  obtain ⟨hG, o, ho, hx, hok⟩ := hC
  have hF := H.2.2.2.2.2.2.2.2
  have hx' : rTx o c.2.1 u := ⟨((hF 64 1 (rSE_no (by unfold rSEp; omega))).1).trans hx.1, fun i hi => ((hF 65 i (rSE_no (by unfold rSEp; omega))).1).trans (hx.2 i hi)⟩
  have hT := H.1.2.1.1
  intro N hN
  obtain ⟨t1, e1⟩ : ∃ t, c.1[i]? = some t := ⟨c.1[i]'(tkK_lt (by omega)), List.getElem?_eq_getElem _⟩
  obtain ⟨t2, e2⟩ : ∃ t, c.1[a]? = some t := ⟨c.1[a]'(tkK_lt (by omega)), List.getElem?_eq_getElem _⟩
  have k1 : t1.1 = 1 := by unfold tkK at hi; rw [e1] at hi; exact hi
  have k2 : t2.1 = 1 := by unfold tkK at ha; rw [e2] at ha; exact ha
  have := r_isSame N g ho hN hx' c.1 hT hok i a t1 t2 e1 e2 k1 k2
  rw [this]; unfold tkV; rw [e1, e2]
theorem z_104 {T : List Tok} {n d : Nat} {u0 : pm_J} {S : List (Nat × Nat)} {Y : List Ty} {s : PS} {u : pm_J} (g : pm_s) (hC : rCn (T, n, d, u0)) (ps : rPl) (nm l k : Nat) (H : rE (T, n, d, u0) none 0 [] [] S Y s u) (hP : rPw u d ps Y) (hps : ∀ x ∈ ps, tkK T x.1 = 1) (hn : tkK T nm = 1) (hnm : nm < s.1) (hw : ∀ y, s.2.1 = some y → y < nm) (hl : l < s.2.2.1.1) (h6 : ps.length < 6) (ty : Ty) (hk : Y[k]? = some ty) (hS : S.length < 64) (wr : Option Nat) (hwr : wr = if (ps.any fun x => tkV T x.1 == tkV T nm) = true then some nm else none) :
    zu (fun N => K_Md_parameter_104 N g N (ie (d : Nat)) (ie (nm : Nat)) (ie (l : Nat)) (ie (k : Nat)) 0 u) (fun v => rE (T, n, d, v) none 0 [] [] ((nm, l) :: S) Y (sLc (sWr s (oE s.2.1 wr)) (s.2.2.1.1, pu_upd s.2.2.1.2.1 l (some ty), s.2.2.1.2.2)) v ∧ rPw v d ((nm, ty) :: ps) Y ∧ ∀ x i, ¬ rSEp d x i → ¬ ((x = 98 ∨ x = 99) ∧ 6 * d ≤ i ∧ i < 6 * d + 6) → ¬ (x = 92 ∧ i = d) → v.1 x i = u0.1 x i ∧ v.2 x i = u0.2 x i) := by
  have hd := H.1.2.2.2.2.2.2.2.2
  have hd' : d < 30 := hd
  obtain ⟨b1, b2, b3⟩ := rE_b H
  have b1' : T.length ≤ 900 := b1
  have b2' : s.1 ≤ T.length := b2
  have hk1 := (List.getElem?_eq_some_iff.mp hk).1
  have hY1 : Y.length ≤ 6 + s.1 := H.2.2.2.2.1.2
  have out : ∀ w : pm_J, fr (rS_E d) u0 w → ∀ x i, ¬ rSEp d x i → w.1 x i = u.1 x i := fun w hw x i h => ((hw x i (rSE_no h)).1).trans ((H.2.2.2.2.2.2.2.2 x i (rSE_no h)).1).symm
  have fin : ∀ (wr : Option Nat) (w : pm_J), rE (T, n, d, u0) none 0 [] [] S Y (sWr s (oE s.2.1 wr)) w → ∃ v, (∀ N f, K_Md_parameter_104 N g (f + 1) (ie (d : Nat)) (ie (nm : Nat)) (ie (l : Nat)) (ie (k : Nat)) (ie (ps.length : Nat)) w = some v) ∧ rE (T, n, d, v) none 0 [] [] ((nm, l) :: S) Y (sLc (sWr s (oE s.2.1 wr)) (s.2.2.1.1, pu_upd s.2.2.1.2.1 l (some ty), s.2.2.1.2.2)) v ∧ rPw v d ((nm, ty) :: ps) Y ∧ ∀ x i, ¬ rSEp d x i → ¬ ((x = 98 ∨ x = 99) ∧ 6 * d ≤ i ∧ i < 6 * d + 6) → ¬ (x = 92 ∧ i = d) → v.1 x i = u0.1 x i ∧ v.2 x i = u0.2 x i := by
    intro wr w Hw
    have wF : fr (rS_E d) u0 w := Hw.2.2.2.2.2.2.2.2
    have e92 : w.1 92 d = ie (ps.length : Nat) := (out w wF 92 d (by unfold rSEp; omega)).trans hP.1
    have a6 : 6 * ie (d : Nat) + ie (ps.length : Nat) = ie ((6 * d + ps.length : Nat) : Int) := by rw [show (6 : Int32) = ie 6 from rfl, ie_mul, ie_add]; rfl
    have a24 : 24 * ie (d : Nat) + ie (l : Nat) = ie ((24 * d + l : Nat) : Int) := by rw [show (24 : Int32) = ie 24 from rfl, ie_mul, ie_add]; rfl
    have H1 := rE_out Hw 98 (6 * d + ps.length) (ie (nm : Nat)) (by omega)
    have H2 := rE_out H1 99 (6 * d + ps.length) (ie (k : Nat)) (by omega)
    have l24 : s.2.2.1.1 ≤ 24 := b3
    have H3 : rE (T, n, d, wi (wi w 98 (6 * d + ps.length) (ie (nm : Nat))) 99 (6 * d + ps.length) (ie (k : Nat))) none 0 [] [] S Y (sLc (sWr s (oE s.2.1 wr)) (s.2.2.1.1, pu_upd s.2.2.1.2.1 l (some ty), s.2.2.1.2.2)) (wi (wi (wi w 98 (6 * d + ps.length) (ie (nm : Nat))) 99 (6 * d + ps.length) (ie (k : Nat))) 100 (24 * d + l) (ie (k : Nat))) := by
      refine rE_l (s := sWr s (oE s.2.1 wr)) (w := oE s.2.1 wr) H2 (fun y i h1 h2 h3 => wi_ne _ _ _ _ _ _ (by show ¬ (y = 100 ∧ i = 24 * d + l); intro hh; exact h3 ⟨hh.1, by show 24 * d ≤ i; omega, by show i < 24 * d + 24; omega⟩)) rfl (rW_of H2.2.2.2.2.2.1 (wi_ne _ _ _ _ _ _ (by omega))) ⟨(wi_ne _ _ _ _ _ _ (by omega)).trans H2.2.2.2.2.2.2.1.1, H2.2.2.2.2.2.2.1.2.1, fun i t hi ht => ?_⟩
      by_cases ei : i = l
      · have ht' : pu_upd s.2.2.1.2.1 l (some ty) i = some t := ht
        rw [ei, upd_same] at ht'
        cases ht'
        exact ⟨k, by rw [ei]; exact wi_at _ _ _ _, hk⟩
      · have ht' : pu_upd s.2.2.1.2.1 l (some ty) i = some t := ht
        rw [upd_ne _ _ _ _ ei] at ht'
        obtain ⟨k', k1, k2⟩ := H2.2.2.2.2.2.2.1.2.2 i t hi ht'
        exact ⟨k', (wi_ne _ _ _ _ _ _ (by show ¬ (100 = 100 ∧ 24 * d + i = 24 * d + l); omega)).trans k1, k2⟩
    obtain ⟨v, hv1, hv2⟩ := z_enter g l nm H3 hS
    have hv1' : F_Md_enter (ie (l : Nat)) (ie (nm : Nat)) g (wi (wi (wi w 98 (6 * d + ps.length) (ie (nm : Nat))) 99 (6 * d + ps.length) (ie (k : Nat))) 100 (24 * d + l) (ie (k : Nat))) = some v := hv1 200000 (by omega)
    have vF : fr (rS_E d) (wi (wi w 98 (6 * d + ps.length) (ie (nm : Nat))) 99 (6 * d + ps.length) (ie (k : Nat))) v := hv2.2.2.2.2.2.2.2.2
    have v92 : v.1 92 d = ie (ps.length : Nat) := ((vF 92 d (rSE_no (by unfold rSEp; omega))).1).trans e92
    have H4 := rE_out hv2 92 d (ie ((ps.length + 1 : Nat) : Int)) (by omega)
    refine ⟨wi v 92 d (ie ((ps.length + 1 : Nat) : Int)), fun N f => ?_, H4, ⟨wi_at _ _ _ _, by show ps.length + 1 ≤ 6; omega, fun i x hi => ?_⟩, fun x i h1 h2 h3 => ?_⟩
    · rw [K_Md_parameter_104, if_pos (okn d 30 hd' (by omega)), ntn d (by omega), e92, if_pos ((inle _ _ (by omega) (by omega)).mpr (Nat.le_refl _)), if_pos (okn d 30 hd' (by omega)), a6, if_pos (okn _ 180 (by omega) (by omega)), if_pos (okn d 30 hd' (by omega)), if_pos (okn _ 180 (by omega) (by omega)), a24, if_pos (okn _ 720 (by omega) (by omega)), ntn _ (by omega), ntn _ (by omega), hv1', Option.bind_some, if_pos (okn d 30 hd' (by omega)), if_pos (okn d 30 hd' (by omega)), v92, iadd1]
    · have hvo : ∀ y j, y = 98 ∨ y = 99 → (wi v 92 d (ie ((ps.length + 1 : Nat) : Int))).1 y j = (wi (wi w 98 (6 * d + ps.length) (ie (nm : Nat))) 99 (6 * d + ps.length) (ie (k : Nat))).1 y j := fun y j hy => by
        rw [wi_ne _ _ _ _ _ _ (by omega)]; exact (vF y j (rSE_no (by unfold rSEp; omega))).1
      have hrev : ((nm, ty) :: ps).reverse = ps.reverse ++ [(nm, ty)] := List.reverse_cons
      rw [hrev] at hi
      rw [hvo 98 _ (by omega), hvo 99 _ (by omega)]
      by_cases ei : i < ps.length
      · rw [List.getElem?_append_left (by rw [List.length_reverse]; exact ei)] at hi
        obtain ⟨p1, k', p2, p3⟩ := hP.2.2 i x hi
        refine ⟨?_, k', ?_, p3⟩
        · rw [wi_ne _ _ _ _ _ _ (by omega), wi_ne _ _ _ _ _ _ (by omega)]; exact (out w wF 98 _ (by unfold rSEp; omega)).trans p1
        · rw [wi_ne _ _ _ _ _ _ (by omega), wi_ne _ _ _ _ _ _ (by omega)]; exact (out w wF 99 _ (by unfold rSEp; omega)).trans p2
      · rw [List.getElem?_append_right (by rw [List.length_reverse]; omega), List.length_reverse] at hi
        have hi0 : i - ps.length = 0 := by
          apply Decidable.byContradiction; intro hh
          rw [List.getElem?_eq_none (by show 1 ≤ i - ps.length; omega)] at hi; cases hi
        rw [hi0] at hi
        have hi' : some (nm, ty) = some x := hi
        cases hi'
        have hie : i = ps.length := by omega
        rw [hie]
        refine ⟨?_, k, wi_at _ _ _ _, hk⟩
        rw [wi_ne _ _ _ _ _ _ (by omega), wi_at]
    · have hr : (wi v 92 d (ie ((ps.length + 1 : Nat) : Int))).1 x i = v.1 x i := wi_ne _ _ _ _ _ _ h3
      have h2' : ¬ (x = 98 ∧ i = 6 * d + ps.length) ∧ ¬ (x = 99 ∧ i = 6 * d + ps.length) := by omega
      have hq := vF x i (rSE_no h1)
      have hq1 : (wi (wi w 98 (6 * d + ps.length) (ie (nm : Nat))) 99 (6 * d + ps.length) (ie (k : Nat))).1 x i = w.1 x i := by rw [wi_ne _ _ _ _ _ _ h2'.2, wi_ne _ _ _ _ _ _ h2'.1]
      exact ⟨hr.trans (hq.1.trans (hq1.trans (wF x i (rSE_no h1)).1)), hq.2.trans (wF x i (rSE_no h1)).2⟩
  have lp : ∀ (r i : Nat) (w : pm_J), i + r = ps.length → rE (T, n, d, u0) none 0 [] [] S Y (sWr s (oE s.2.1 (if ((ps.reverse.take i).any fun x => tkV T x.1 == tkV T nm) = true then some nm else none))) w → ∃ v, (∀ N f, 10000 ≤ N → r < f → K_Md_parameter_104 N g f (ie (d : Nat)) (ie (nm : Nat)) (ie (l : Nat)) (ie (k : Nat)) (ie (i : Nat)) w = some v) ∧ rE (T, n, d, v) none 0 [] [] ((nm, l) :: S) Y (sLc (sWr s (oE s.2.1 (if ((ps.reverse.take ps.length).any fun x => tkV T x.1 == tkV T nm) = true then some nm else none))) (s.2.2.1.1, pu_upd s.2.2.1.2.1 l (some ty), s.2.2.1.2.2)) v ∧ rPw v d ((nm, ty) :: ps) Y ∧ ∀ x i, ¬ rSEp d x i → ¬ ((x = 98 ∨ x = 99) ∧ 6 * d ≤ i ∧ i < 6 * d + 6) → ¬ (x = 92 ∧ i = d) → v.1 x i = u0.1 x i ∧ v.2 x i = u0.2 x i := by
    intro r
    induction r with
    | zero =>
      intro i w hi Hw
      have hi' : i = ps.length := by omega
      subst hi'
      obtain ⟨v, v1, v2, v3, v4⟩ := fin _ w Hw
      refine ⟨v, fun N f hN hf => ?_, v2, v3, v4⟩
      obtain ⟨f, rfl⟩ : ∃ f', f = f' + 1 := ⟨f - 1, by omega⟩
      exact v1 N f
    | succ r ih =>
      intro i w hi Hw
      have wF : fr (rS_E d) u0 w := Hw.2.2.2.2.2.2.2.2
      have e92 : w.1 92 d = ie (ps.length : Nat) := (out w wF 92 d (by unfold rSEp; omega)).trans hP.1
      obtain ⟨x, hx⟩ : ∃ x, ps.reverse[i]? = some x := ⟨ps.reverse[i]'(by rw [List.length_reverse]; omega), List.getElem?_eq_getElem _⟩
      have e98 : w.1 98 (6 * d + i) = ie (x.1 : Nat) := (out w wF 98 _ (by unfold rSEp; omega)).trans (hP.2.2 i x hx).1
      have hx1 := hps x (List.mem_reverse.mp (List.mem_of_getElem? hx))
      have hsame := r_same2 g hC Hw x.1 nm hx1 hn
      have a6 : 6 * ie (d : Nat) + ie (i : Nat) = ie ((6 * d + i : Nat) : Int) := by rw [show (6 : Int32) = ie 6 from rfl, ie_mul, ie_add]; rfl
      have htk : ps.reverse.take (i + 1) = ps.reverse.take i ++ [x] := by rw [List.take_add_one, hx]; rfl
      have hany : ((ps.reverse.take (i + 1)).any fun x => tkV T x.1 == tkV T nm) = (((ps.reverse.take i).any fun x => tkV T x.1 == tkV T nm) || (tkV T x.1 == tkV T nm)) := by
        rw [htk, List.any_append]; simp
      have hst : ∀ N f, 10000 ≤ N → K_Md_parameter_104 N g (f + 1) (ie (d : Nat)) (ie (nm : Nat)) (ie (l : Nat)) (ie (k : Nat)) (ie (i : Nat)) w = if ib (decide (tkV T x.1 = tkV T nm)) = 0 then K_Md_parameter_104 N g f (ie (d : Nat)) (ie (nm : Nat)) (ie (l : Nat)) (ie (k : Nat)) (ie ((i + 1 : Nat) : Int)) w else (F_Md_wrong (ie (nm : Nat)) g w).bind fun q20 => K_Md_parameter_104 N g f (ie (d : Nat)) (ie (nm : Nat)) (ie (l : Nat)) (ie (k : Nat)) (ie ((i + 1 : Nat) : Int)) q20 := by
        intro N f hN
        rw [K_Md_parameter_104, if_pos (okn d 30 hd' (by omega)), ntn d (by omega), e92, if_neg (fun hh => by have := (inle _ _ (by omega) (by omega)).mp hh; omega), a6, if_pos (okn _ 180 (by omega) (by omega)), ntn _ (by omega), e98, hsame N hN, Option.bind_some, iadd1]
      by_cases es : tkV T x.1 = tkV T nm
      · have hwr := z_wrong g Hw nm hnm (fun y hy => by
          have hy' : oE s.2.1 (if ((ps.reverse.take i).any fun x => tkV T x.1 == tkV T nm) = true then some nm else none) = some y := hy
          cases hs : s.2.1 with
          | some z => rw [hs] at hy'; have := hw z hs; cases hy'; omega
          | none =>
            rw [hs] at hy'
            have hy2 : (if ((ps.reverse.take i).any fun x => tkV T x.1 == tkV T nm) = true then some nm else none) = some y := hy'
            split at hy2
            · cases hy2; omega
            · cases hy2)
        obtain ⟨q, q1, q2⟩ := hwr
        have hA : ((ps.reverse.take (i + 1)).any fun x => tkV T x.1 == tkV T nm) = true := by rw [hany, es]; simp
        have heq : oE s.2.1 (if ((ps.reverse.take (i + 1)).any fun x => tkV T x.1 == tkV T nm) = true then some nm else none) = oE (oE s.2.1 (if ((ps.reverse.take i).any fun x => tkV T x.1 == tkV T nm) = true then some nm else none)) (some nm) := by
          rw [if_pos hA]
          cases s.2.1 with
          | some z => rfl
          | none => split <;> rfl
        obtain ⟨v, v1, v2⟩ := ih (i + 1) q (by omega) (by rw [heq]; exact q2)
        refine ⟨v, fun N f hN hf => ?_, v2⟩
        obtain ⟨f, rfl⟩ : ∃ f', f = f' + 1 := ⟨f - 1, by omega⟩
        have q1' : F_Md_wrong (ie (nm : Nat)) g w = some q := q1 200000 (by omega)
        rw [hst N f hN, decide_eq_true es, if_neg (show ¬ (ib true = 0) by decide), q1', Option.bind_some]
        exact v1 N f hN (by omega)
      · have hA : ((ps.reverse.take (i + 1)).any fun x => tkV T x.1 == tkV T nm) = ((ps.reverse.take i).any fun x => tkV T x.1 == tkV T nm) := by
          rw [hany]
          have : (tkV T x.1 == tkV T nm) = false := by simp [es]
          rw [this, Bool.or_false]
        obtain ⟨v, v1, v2⟩ := ih (i + 1) w (by omega) (by rw [hA]; exact Hw)
        refine ⟨v, fun N f hN hf => ?_, v2⟩
        obtain ⟨f, rfl⟩ : ∃ f', f = f' + 1 := ⟨f - 1, by omega⟩
        rw [hst N f hN, decide_eq_false es, if_pos (show ib false = 0 by decide)]
        exact v1 N f hN (by omega)
  have h0 : rE (T, n, d, u0) none 0 [] [] S Y (sWr s (oE s.2.1 (if ((ps.reverse.take 0).any fun x => tkV T x.1 == tkV T nm) = true then some nm else none))) u := by
    have : oE s.2.1 (if ((ps.reverse.take 0).any fun x => tkV T x.1 == tkV T nm) = true then some nm else none) = s.2.1 := oE_none _
    rw [this]; exact H
  obtain ⟨v, v1, v2, v3, v4⟩ := lp ps.length 0 u (by omega) h0
  have hall : ((ps.reverse.take ps.length).any fun x => tkV T x.1 == tkV T nm) = (ps.any fun x => tkV T x.1 == tkV T nm) := by
    rw [show ps.length = ps.reverse.length by rw [List.length_reverse], List.take_length, List.any_reverse]
  rw [hall, ← hwr] at v2
  exact ⟨v, fun N hN => v1 N N (by omega) (by omega), v2, v3, v4⟩
