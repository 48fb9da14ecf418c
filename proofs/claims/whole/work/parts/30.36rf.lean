set_option maxRecDepth 100000
theorem wi_at (u : pm_J) (a k : Nat) (x : Int32) : (wi u a k x).1 a k = x := by rw [wi_1, if_pos ⟨rfl, rfl⟩]
theorem wi_ne (u : pm_J) (a k : Nat) (x : Int32) (b j : Nat) (h : ¬ (b = a ∧ j = k)) : (wi u a k x).1 b j = u.1 b j := by rw [wi_1, if_neg h]
theorem isub1 (x : Nat) : ie ((x + 1 : Nat) : Int) - 1 = ie (x : Int) := by rw [show (1 : Int32) = ie 1 from rfl, ie_sub]; congr 1; omega
theorem rE_pop {c : RC} {st : Option (Nat × Nat)} {dp : Nat} {k : Int32 × Int32 × Int32} {K : List (Int32 × Int32 × Int32)} {V : List Nat} {S : List (Nat × Nat)} {Y : List Ty} {s : PS} {u : pm_J} (H : rE c st dp (k :: K) V S Y s u) : rE c st dp K V S Y s (wi u 64 56 (ie (K.length : Nat))) :=
  rE_k H (fun x i h1 h2 => wi_ne _ _ _ _ _ _ (by omega)) rfl ⟨wi_at _ _ _ _, rKs_of H.2.1.2.2.2.2 (fun x i h1 h2 h3 => wi_ne _ _ _ _ _ _ (by omega))⟩
theorem z_later {c : RC} {st : Option (Nat × Nat)} {dp : Nat} {K : List (Int32 × Int32 × Int32)} {V : List Nat} {S : List (Nat × Nat)} {Y : List Ty} {s : PS} {u : pm_J} (g : pm_s) (k x y : Int32) (H : rE c st dp K V S Y s u) (hK : K.length < 6000) : zu (fun _ => F_Md_later k x y g u) (fun v => rE c st dp ((k, x, y) :: K) V S Y s v) := by
  refine zu_eq _ (fun _ _ => r_later g K.length H.2.1.1 hK k x y) ?_
  refine rE_k H (fun x i h1 h2 => ?_) rfl ⟨wi_at _ _ _ _, ?_, ?_, ?_, ?_⟩
  · rw [wi_ne _ _ _ _ _ _ (by omega), wi_ne _ _ _ _ _ _ (by omega), wi_ne _ _ _ _ _ _ (by omega), wi_ne _ _ _ _ _ _ (by omega)]
  · rw [wi_ne _ _ _ _ _ _ (by omega), wi_ne _ _ _ _ _ _ (by omega), wi_ne _ _ _ _ _ _ (by omega), wi_at]
  · rw [wi_ne _ _ _ _ _ _ (by omega), wi_ne _ _ _ _ _ _ (by omega), wi_at]
  · rw [wi_ne _ _ _ _ _ _ (by omega), wi_at]
  · exact rKs_of H.2.1.2 (fun x i h1 h2 h3 => by rw [wi_ne _ _ _ _ _ _ (by omega), wi_ne _ _ _ _ _ _ (by omega), wi_ne _ _ _ _ _ _ (by omega), wi_ne _ _ _ _ _ _ (by omega)])
theorem z_give {c : RC} {st : Option (Nat × Nat)} {dp : Nat} {K : List (Int32 × Int32 × Int32)} {V : List Nat} {S : List (Nat × Nat)} {Y : List Ty} {s : PS} {u : pm_J} (g : pm_s) (e : Nat) (H : rE c st dp K V S Y s u) (he : e < 2400) (hV : V.length < 2400) : zu (fun _ => F_Md_give (ie e) g u) (fun v => rE c st dp K (e :: V) S Y s v) := by
  have h58 := H.2.2.1.1
  refine zu_eq (wi (wi u 108 V.length (ie e)) 64 58 (ie ((V.length + 1 : Nat) : Int))) (fun _ _ => ?_) ?_
  · unfold F_Md_give; rw [h58, if_pos (okn _ 2400 hV (by omega)), ntn _ (by omega), iadd1]
  · refine rE_v H (fun x i h1 h2 => ?_) rfl ⟨wi_at _ _ _ _, ⟨?_, he⟩, ?_⟩
    · rw [wi_ne _ _ _ _ _ _ (by omega), wi_ne _ _ _ _ _ _ (by omega)]
    · rw [wi_ne _ _ _ _ _ _ (by omega), wi_at]
    · exact rVs_of H.2.2.1.2 (fun i h3 => by rw [wi_ne _ _ _ _ _ _ (by omega), wi_ne _ _ _ _ _ _ (by omega)])
theorem z_take {c : RC} {st : Option (Nat × Nat)} {dp e : Nat} {K : List (Int32 × Int32 × Int32)} {V : List Nat} {S : List (Nat × Nat)} {Y : List Ty} {s : PS} {u : pm_J} (g : pm_s) (H : rE c st dp K (e :: V) S Y s u) (hV : V.length < 2400) : zu (fun _ => F_Md_take g u) (fun q => q.1 = ie e ∧ rE c st dp K V S Y s q.2) := by
  have h58 : u.1 64 58 = ie ((V.length + 1 : Nat) : Int) := H.2.2.1.1
  refine zu_eq (u.1 108 V.length, wi u 64 58 (ie (V.length : Nat))) (fun _ _ => ?_) ⟨H.2.2.1.2.1.1, ?_⟩
  · unfold F_Md_take; rw [h58, isub1, if_pos (okn _ 2400 hV (by omega)), ntn _ (by omega)]
  · exact rE_v H (fun x i h1 h2 => wi_ne _ _ _ _ _ _ (by omega)) rfl ⟨wi_at _ _ _ _, rVs_of H.2.2.1.2.2 (fun i h3 => wi_ne _ _ _ _ _ _ (by omega))⟩
theorem z_enter {c : RC} {st : Option (Nat × Nat)} {dp : Nat} {K : List (Int32 × Int32 × Int32)} {V : List Nat} {S : List (Nat × Nat)} {Y : List Ty} {s : PS} {u : pm_J} (g : pm_s) (l t : Nat) (H : rE c st dp K V S Y s u) (hS : S.length < 64) : zu (fun _ => F_Md_enter (ie l) (ie t) g u) (fun v => rE c st dp K V ((t, l) :: S) Y s v) := by
  have h67 := H.2.2.2.1.1
  refine zu_eq (wi (wi (wi u 110 S.length (ie l)) 111 S.length (ie t)) 64 67 (ie ((S.length + 1 : Nat) : Int))) (fun _ _ => ?_) ?_
  · unfold F_Md_enter; rw [h67, if_pos (okn _ 64 hS (by omega)), if_pos (okn _ 64 hS (by omega)), ntn _ (by omega), iadd1]
  · refine rE_s H (fun x i h1 h2 => ?_) rfl ⟨wi_at _ _ _ _, ?_, ?_, ?_⟩
    · rw [wi_ne _ _ _ _ _ _ (by omega), wi_ne _ _ _ _ _ _ (by omega), wi_ne _ _ _ _ _ _ (by omega)]
    · rw [wi_ne _ _ _ _ _ _ (by omega), wi_at]
    · rw [wi_ne _ _ _ _ _ _ (by omega), wi_ne _ _ _ _ _ _ (by omega), wi_at]
    · exact rSs_of H.2.2.2.1.2 (fun x i h1 h2 h3 => by rw [wi_ne _ _ _ _ _ _ (by omega), wi_ne _ _ _ _ _ _ (by omega), wi_ne _ _ _ _ _ _ (by omega)])
theorem z_enterC {c : RC} {q : Nat × Nat} {dp : Nat} {K : List (Int32 × Int32 × Int32)} {V : List Nat} {S : List (Nat × Nat)} {Y : List Ty} {s : PS} {u : pm_J} (g : pm_s) (l t : Int32) (H : rE c (some q) dp K V S Y s u) (hS : S.length < 64) : zu (fun _ => F_Md_enter l t g u) (fun v => rE c (some q) dp K V [] Y s (wi v 64 67 (ie 0))) := by
  have h67 := H.2.2.2.1.1
  refine zu_eq (wi (wi (wi u 110 S.length l) 111 S.length t) 64 67 (ie ((S.length + 1 : Nat) : Int))) (fun _ _ => ?_) ?_
  · unfold F_Md_enter; rw [h67, if_pos (okn _ 64 hS (by omega)), if_pos (okn _ 64 hS (by omega)), ntn _ (by omega), iadd1]
  · refine rE_s H (fun x i h1 h2 => ?_) rfl ⟨wi_at _ _ _ _, trivial⟩
    rw [wi_ne _ _ _ _ _ _ (by omega), wi_ne _ _ _ _ _ _ (by omega), wi_ne _ _ _ _ _ _ (by omega), wi_ne _ _ _ _ _ _ (by omega)]
theorem rE_leave {c : RC} {st : Option (Nat × Nat)} {dp : Nat} {x : Nat × Nat} {K : List (Int32 × Int32 × Int32)} {V : List Nat} {S : List (Nat × Nat)} {Y : List Ty} {s : PS} {u : pm_J} (H : rE c st dp K V (x :: S) Y s u) : rE c st dp K V S Y s (wi u 64 67 (u.1 64 67 - 1)) := by
  have h67 : u.1 64 67 = ie ((S.length + 1 : Nat) : Int) := H.2.2.2.1.1
  rw [h67, isub1]
  exact rE_s H (fun x i h1 h2 => wi_ne _ _ _ _ _ _ (by omega)) rfl ⟨wi_at _ _ _ _, rSs_of H.2.2.2.1.2.2.2 (fun x i h1 h2 h3 => wi_ne _ _ _ _ _ _ (by omega))⟩
theorem rE_at {c : RC} {st : Option (Nat × Nat)} {dp : Nat} {K : List (Int32 × Int32 × Int32)} {V : List Nat} {S : List (Nat × Nat)} {Y : List Ty} {s : PS} {u : pm_J} (H : rE c st dp K V S Y s u) (ha : s.1 < c.1.length) : rE c st dp K V S Y (sAt s (s.1 + 1)) (wi u 64 51 (u.1 64 51 + 1)) := by
  rw [H.1.2.2.1, iadd1]
  exact rE_a H (fun x i h => wi_ne _ _ _ _ _ _ (by omega)) rfl (rSt_of H.1.1 (fun i h => wi_ne _ _ _ _ _ _ (by omega))) (wi_at _ _ _ _) (by omega) (by omega) ((wi_ne _ _ _ _ _ _ (by omega)).trans H.1.2.2.2.2.1) id (r5_e (wi_ne _ _ _ _ _ _ (by omega)) (wi_ne _ _ _ _ _ _ (by omega)))
theorem sAt_id (s : PS) : sAt s s.1 = s := rfl
theorem rE_dp {c : RC} {st : Option (Nat × Nat)} {dp : Nat} {K : List (Int32 × Int32 × Int32)} {V : List Nat} {S : List (Nat × Nat)} {Y : List Ty} {s : PS} {u : pm_J} (H : rE c st dp K V S Y s u) (dp' : Nat) : rE c st dp' K V S Y s (wi u 64 61 (ie (dp' : Nat))) :=
  rE_a (a' := s.1) H (fun x i h => wi_ne _ _ _ _ _ _ (by omega)) rfl (rSt_of H.1.1 (fun i h => wi_ne _ _ _ _ _ _ (by omega))) ((wi_ne _ _ _ _ _ _ (by omega)).trans H.1.2.2.1) (Nat.le_refl _) H.1.2.2.2.1 (wi_at _ _ _ _) id (r5_e (wi_ne _ _ _ _ _ _ (by omega)) (wi_ne _ _ _ _ _ _ (by omega)))
theorem rE_dpm {c : RC} {st : Option (Nat × Nat)} {dp : Nat} {K : List (Int32 × Int32 × Int32)} {V : List Nat} {S : List (Nat × Nat)} {Y : List Ty} {s : PS} {u : pm_J} (H : rE c st (dp + 1) K V S Y s u) : rE c st dp K V S Y s (wi u 64 61 (u.1 64 61 - 1)) := by
  have h61 : u.1 64 61 = ie ((dp + 1 : Nat) : Int) := H.1.2.2.2.2.1
  rw [h61, isub1]; exact rE_dp H dp
theorem rE_told {c : RC} {st : Option (Nat × Nat)} {dp : Nat} {K : List (Int32 × Int32 × Int32)} {V : List Nat} {S : List (Nat × Nat)} {Y : List Ty} {s : PS} {u : pm_J} (H : rE c st dp K V S Y s u) (x : Int32) : rE c st dp K V S Y s (wi u 64 63 x) :=
  rE_k H (fun x i h1 h2 => wi_ne _ _ _ _ _ _ (by omega)) rfl ⟨(wi_ne _ _ _ _ _ _ (by omega)).trans H.2.1.1, rKs_of H.2.1.2 (fun x i h1 h2 h3 => wi_ne _ _ _ _ _ _ (by omega))⟩
theorem z_stop {c : RC} {dp : Nat} {K : List (Int32 × Int32 × Int32)} {V : List Nat} {S : List (Nat × Nat)} {Y : List Ty} {s : PS} {u : pm_J} (g : pm_s) (f : Nat) (hf : 1 ≤ f ∧ f ≤ 7) (H : rE c none dp K V S Y s u) : zu (fun _ => F_Md_stop (ie f) (ie (s.1 : Nat)) g u) (fun v => rE c (some (f, s.1)) dp K V S Y s v) := by
  refine zu_eq _ (fun _ _ => r_stop g H.1.2.1 H.1.1.2 f s.1 H.1.2.2.2.1) ?_
  unfold rStop
  refine rE_a (a' := s.1) H (fun x i h => ?_) rfl ⟨wi_at _ _ _ _, ?_, hf.1, ?_⟩ ?_ (Nat.le_refl _) H.1.2.2.2.1 ?_ (fun h => by cases h) (fun h => ?_)
  · rw [wi_ne _ _ _ _ _ _ (by omega), wi_ne _ _ _ _ _ _ (by omega), wi_ne _ _ _ _ _ _ (by omega)]
  · rw [wi_ne _ _ _ _ _ _ (by omega), wi_ne _ _ _ _ _ _ (by omega), wi_at]
  · rw [wi_ne _ _ _ _ _ _ (by omega), wi_at]
  · rw [wi_ne _ _ _ _ _ _ (by omega), wi_ne _ _ _ _ _ _ (by omega), wi_ne _ _ _ _ _ _ (by omega)]; exact H.1.2.2.1
  · rw [wi_ne _ _ _ _ _ _ (by omega), wi_ne _ _ _ _ _ _ (by omega), wi_ne _ _ _ _ _ _ (by omega)]; exact H.1.2.2.2.2.1
  · rw [wi_ne _ _ _ _ _ _ (by omega), wi_ne _ _ _ _ _ _ (by omega), wi_at] at h
    have := (ineq f 0 (by omega) (by omega)).mp h
    omega
def rO (c : RC) (dp : Nat) (K : List (Int32 × Int32 × Int32)) (V : List Nat) (S : List (Nat × Nat)) (Y : List Ty) (s : PS) (x : PE PS) (v : pm_J) : Prop := match x with
  | .ok z => rE c none dp K V S Y z v
  | .error e => rE c (some e) dp K V S Y s v
theorem z_exp {c : RC} {dp : Nat} {K : List (Int32 × Int32 × Int32)} {V : List Nat} {S : List (Nat × Nat)} {Y : List Ty} {s : PS} {u : pm_J} (g : pm_s) (hG : tkG c.1) (k : Nat) (hk : 1 ≤ k) (hk25 : k ≤ 25) (H : rE c none dp K V S Y s u) : zu (fun N => F_Md_expect N (ie (rk k : Nat)) g u) (fun v => rO c dp K V S Y s (pX c.1 k s) v) := by
  have h9 := H.1.2.1.1.2.1
  have ha := H.1.2.2.2.1
  have k16 : (u.1 66 s.1 = ie (rk k : Nat)) ↔ tkK c.1 s.1 = k := r_kq hG H.1.2.1 s.1 ha k hk25
  have h52 := H.1.1.1
  have hb : ∀ N, F_Md_expect N (ie (rk k : Nat)) g u = (if tkK c.1 s.1 = k then some (wi u 64 51 (u.1 64 51 + 1)) else (F_Md_stop 2 (ie (s.1 : Nat)) g u).bind fun q5 => K_Md_expect_29 N g q5) := by
    intro N
    unfold F_Md_expect
    rw [h52, if_neg (show ¬ (ie 1 = 0) by decide), H.1.2.2.1, if_pos (okn _ 902 (by omega) (by omega)), ntn _ (by omega)]
    simp only [k16]
    by_cases e : tkK c.1 s.1 = k
    · rw [if_pos e, if_pos e]; unfold K_Md_expect_29; rw [h52, if_neg (show ¬ (ie 1 = 0) by decide), H.1.2.2.1]
    · rw [if_neg e, if_neg e]
  refine zu_rw hb ?_
  unfold pX
  by_cases e : tkK c.1 s.1 = k
  · rw [if_pos e]; simp only [if_pos e]
    exact zu_some _ (rE_at H (tkK_lt (by omega)))
  · rw [if_neg e]; simp only [if_neg e]
    refine zu_bind (z_stop g 2 (by omega) H) (fun v hv => ?_)
    unfold K_Md_expect_29
    simp only [if_pos (show v.1 64 52 = 0 from hv.1.1.1)]
    refine zu_some _ ?_
    rw [hv.1.2.2.1, show ie (s.1 : Int) + 0 = ie (s.1 : Nat) from by rw [show (0 : Int32) = ie 0 from rfl, ie_add, Int.add_zero]]
    exact rE_a (a' := s.1) hv (fun x i h => wi_ne _ _ _ _ _ _ (by omega)) rfl (rSt_of hv.1.1 (fun i h => wi_ne _ _ _ _ _ _ (by omega))) (wi_at _ _ _ _) (Nat.le_refl _) hv.1.2.2.2.1 ((wi_ne _ _ _ _ _ _ (by omega)).trans hv.1.2.2.2.2.1) id (r5_e (wi_ne _ _ _ _ _ _ (by omega)) (wi_ne _ _ _ _ _ _ (by omega)))
theorem z_expC {c : RC} {q : Nat × Nat} {dp : Nat} {K : List (Int32 × Int32 × Int32)} {V : List Nat} {S : List (Nat × Nat)} {Y : List Ty} {s : PS} {u : pm_J} (g : pm_s) (k : Int32) (H : rE c (some q) dp K V S Y s u) : zu (fun N => F_Md_expect N k g u) (fun v => rE c (some q) dp K V S Y s v) := by
  unfold F_Md_expect K_Md_expect_29
  simp only [if_pos (show u.1 64 52 = 0 from H.1.1.1)]
  refine zu_some _ ?_
  rw [H.1.2.2.1, show ie (s.1 : Int) + 0 = ie (s.1 : Nat) from by rw [show (0 : Int32) = ie 0 from rfl, ie_add, Int.add_zero]]
  exact rE_a (a' := s.1) H (fun x i h => wi_ne _ _ _ _ _ _ (by omega)) rfl (rSt_of H.1.1 (fun i h => wi_ne _ _ _ _ _ _ (by omega))) (wi_at _ _ _ _) (Nat.le_refl _) H.1.2.2.2.1 ((wi_ne _ _ _ _ _ _ (by omega)).trans H.1.2.2.2.2.1) id (r5_e (wi_ne _ _ _ _ _ _ (by omega)) (wi_ne _ _ _ _ _ _ (by omega)))
def rOd (c : RC) (dp : Nat) (K : List (Int32 × Int32 × Int32)) (V : List Nat) (S : List (Nat × Nat)) (Y : List Ty) (s : PS) (x : PE (Nat × PS)) (q : Int32 × pm_J) : Prop := match x with
  | .ok z => q.1 = ie (z.1 : Nat) ∧ rE c none dp K V S Y z.2 q.2
  | .error e => rE c (some e) dp K V S Y s q.2
theorem z_decl {c : RC} {dp : Nat} {K : List (Int32 × Int32 × Int32)} {V : List Nat} {S : List (Nat × Nat)} {Y : List Ty} {s : PS} {u : pm_J} (g : pm_s) (hG : tkG c.1) (H : rE c none dp K V S Y s u) : zu (fun N => F_Md_declare N g u) (fun q => rOd c dp K V S Y s (pDecl c.1 s) q) := by
  have h9 := H.1.2.1.1.2.1
  have ha := H.1.2.2.2.1
  have k16 : (u.1 66 s.1 = 1) ↔ tkK c.1 s.1 = 1 := r_kq hG H.1.2.1 s.1 ha 1 (by omega)
  have h52 := H.1.1.1
  have h64 := H.2.2.2.2.2.2.1.1
  have hl := H.2.2.2.2.2.2.1.2.1
  have hc : ∀ v : pm_J, v.1 64 52 = ie 0 → ∀ N, K_Md_declare_29 N g v = some (v.1 64 64 - 1, v) := by
    intro v hv N
    unfold K_Md_declare_29 K_Md_declare_54
    rw [if_pos (show v.1 64 52 = 0 from hv), if_pos (show v.1 64 52 = 0 from hv)]
  have hc2 : ∀ v : pm_J, v.1 64 52 = ie 0 → ∀ N, K_Md_declare_54 N g v = some (v.1 64 64 - 1, v) := by
    intro v hv N
    unfold K_Md_declare_54
    rw [if_pos (show v.1 64 52 = 0 from hv)]
  have hb : ∀ N, F_Md_declare N g u = (if tkK c.1 s.1 = 1 then K_Md_declare_29 N g u else (F_Md_stop 2 (ie (s.1 : Nat)) g u).bind fun q8 => K_Md_declare_29 N g q8) := by
    intro N
    unfold F_Md_declare
    rw [h52, if_neg (show ¬ (ie 1 = 0) by decide), H.1.2.2.1, if_pos (okn _ 902 (by omega) (by omega)), ntn _ (by omega)]
    simp only [k16]
  refine zu_rw hb ?_
  unfold pDecl
  by_cases e : tkK c.1 s.1 = 1
  · simp only [if_pos e]
    by_cases e24 : s.2.2.1.1 = 24
    · simp only [if_pos e24]
      have hb2 : ∀ N, K_Md_declare_29 N g u = (F_Md_stop 4 (ie (s.1 : Nat)) g u).bind fun q5 => K_Md_declare_54 N g q5 := by
        intro N; unfold K_Md_declare_29
        rw [h52, if_neg (show ¬ (ie 1 = 0) by decide), h64, e24, if_pos (show ie ((24 : Nat) : Int) = 24 from rfl), H.1.2.2.1]
      refine zu_rw hb2 (zu_bind (z_stop g 4 (by omega) H) (fun v hv => ?_))
      refine zu_rw (hc2 v hv.1.1.1) (zu_some _ ?_)
      exact hv
    · simp only [if_neg e24]
      have hb2 : ∀ N, K_Md_declare_29 N g u = some (ie (s.2.2.1.1 : Nat), wi (wi u 64 64 (ie ((s.2.2.1.1 + 1 : Nat) : Int))) 64 51 (ie ((s.1 + 1 : Nat) : Int))) := by
        intro N; unfold K_Md_declare_29 K_Md_declare_54
        rw [h52, if_neg (show ¬ (ie 1 = 0) by decide), h64, if_neg (show ¬ (ie (s.2.2.1.1 : Int) = 24) from fun hh => e24 ((ineq _ 24 (by omega) (by omega)).mp hh)), if_neg (show ¬ (ie 1 = 0) by decide), H.1.2.2.1, iadd1, iadd1, isub1]
      refine zu_rw hb2 (zu_some _ ⟨rfl, ?_⟩)
      have H1 : rE c none dp K V S Y (sLc (sWr s s.2.1) (s.2.2.1.1 + 1, pu_upd s.2.2.1.2.1 s.2.2.1.1 none, pu_upd s.2.2.1.2.2 s.2.2.1.1 (-1))) (wi u 64 64 (ie ((s.2.2.1.1 + 1 : Nat) : Int))) := by
        refine rE_l H (fun x i h1 h2 h3 => wi_ne _ _ _ _ _ _ (by omega)) rfl (rW_of H.2.2.2.2.2.1 (wi_ne _ _ _ _ _ _ (by omega))) ⟨wi_at _ _ _ _, by show s.2.2.1.1 + 1 ≤ 24; omega, fun i t hi ht => ?_⟩
        have hi' : i < s.2.2.1.1 + 1 := hi
        by_cases ei : i = s.2.2.1.1
        · have : pu_upd s.2.2.1.2.1 s.2.2.1.1 none i = some t := ht
          rw [ei, upd_same] at this; cases this
        · have ht' : pu_upd s.2.2.1.2.1 s.2.2.1.1 none i = some t := ht
          rw [upd_ne _ _ _ _ ei] at ht'
          obtain ⟨k, k1, k2⟩ := H.2.2.2.2.2.2.1.2.2 i t (by omega) ht'
          exact ⟨k, (wi_ne _ _ _ _ _ _ (by omega)).trans k1, k2⟩
      exact rE_a (a' := s.1 + 1) H1 (fun x i h => wi_ne _ _ _ _ _ _ (by omega)) rfl (rSt_of H1.1.1 (fun i h => wi_ne _ _ _ _ _ _ (by omega))) (wi_at _ _ _ _) (by show s.1 ≤ s.1 + 1; omega) (tkK_lt (by omega)) ((wi_ne _ _ _ _ _ _ (by omega)).trans H1.1.2.2.2.2.1) id (r5_e (wi_ne _ _ _ _ _ _ (by omega)) (wi_ne _ _ _ _ _ _ (by omega)))
  · simp only [if_neg e]
    refine zu_bind (z_stop g 2 (by omega) H) (fun v hv => ?_)
    exact zu_rw (hc v hv.1.1.1) (zu_some _ hv)
theorem z_declC {c : RC} {q : Nat × Nat} {dp : Nat} {K : List (Int32 × Int32 × Int32)} {V : List Nat} {S : List (Nat × Nat)} {Y : List Ty} {s : PS} {u : pm_J} (g : pm_s) (H : rE c (some q) dp K V S Y s u) : zu (fun N => F_Md_declare N g u) (fun x => rE c (some q) dp K V S Y s x.2) := by
  refine zu_eq (u.1 64 64 - 1, u) (fun N _ => ?_) H
  unfold F_Md_declare K_Md_declare_29 K_Md_declare_54
  rw [if_pos (show u.1 64 52 = 0 from H.1.1.1), if_pos (show u.1 64 52 = 0 from H.1.1.1), if_pos (show u.1 64 52 = 0 from H.1.1.1)]
