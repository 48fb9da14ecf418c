set_option maxRecDepth 100000
theorem rN_top {c : RC} {st : Option (Nat × Nat)} {dp : Nat} {K : List (Int32 × Int32 × Int32)} {V : List Nat} {S : List (Nat × Nat)} {Y : List Ty} {s : PS} {u : pm_J} {t : Tr} {x0 : Nd} (H : rE c st dp K V S Y (sTr s (tAdd t x0)) u) : u.1 82 t.1 = ie (rvl x0) ∧ u.1 84 t.1 = ie (rvn x0) := by
  have h9 := H.2.2.2.2.2.2.2.1.2.2 t.1 (Nat.lt_succ_self t.1)
  have h8 : rN u t.1 (pu_upd t.2.1 t.1 x0 t.1) ((tAdd t x0).2.2.2.1 t.1) ((tAdd t x0).2.2.2.2.1 t.1) ((tAdd t x0).2.2.2.2.2 t.1) := h9
  rw [upd_same] at h8
  exact ⟨h8.2.2.2.2.2.1, h8.2.2.2.2.2.2.2.1⟩
theorem rE_82 {c : RC} {st : Option (Nat × Nat)} {dp : Nat} {K : List (Int32 × Int32 × Int32)} {V : List Nat} {S : List (Nat × Nat)} {Y : List Ty} {s : PS} {u : pm_J} {t : Tr} {x0 : Nd} (x : Nd) (H : rE c st dp K V S Y (sTr s (tAdd t x0)) u) (hx : rop x.1 = rop x0.1 ∧ x.2.1 = x0.2.1 ∧ rva x = rva x0 ∧ rvb x = rvb x0 ∧ rvc x = rvc x0) (hn : rvn x = rvn x0) : rE c st dp K V S Y (sTr s (tAdd t x)) (wi u 82 t.1 (ie (rvl x))) :=
  rE_nd x H (fun y i h => wi_ne _ _ _ _ _ _ (by omega)) rfl (wi_at _ _ _ _) (by rw [wi_ne _ _ _ _ _ _ (by omega), hn]; exact (rN_top H).2) hx
theorem rE_84 {c : RC} {st : Option (Nat × Nat)} {dp : Nat} {K : List (Int32 × Int32 × Int32)} {V : List Nat} {S : List (Nat × Nat)} {Y : List Ty} {s : PS} {u : pm_J} {t : Tr} {x0 : Nd} (x : Nd) (H : rE c st dp K V S Y (sTr s (tAdd t x0)) u) (hx : rop x.1 = rop x0.1 ∧ x.2.1 = x0.2.1 ∧ rva x = rva x0 ∧ rvb x = rvb x0 ∧ rvc x = rvc x0) (hl : rvl x = rvl x0) : rE c st dp K V S Y (sTr s (tAdd t x)) (wi u 84 t.1 (ie (rvn x))) :=
  rE_nd x H (fun y i h => wi_ne _ _ _ _ _ _ (by omega)) rfl (by rw [wi_ne _ _ _ _ _ _ (by omega), hl]; exact (rN_top H).1) (wi_at _ _ _ _) hx
def rIE (c : RC) (ps : rPl) (g : pm_s) (fl dp : Nat) (r : PR) : Prop := ∀ (K : List (Int32 × Int32 × Int32)) (V : List Nat) (S : List (Nat × Nat)) (Y : List Ty) (s : PS) (u : pm_J), rE c none dp ((10, 0, 0) :: K) V S Y s u → rSd c ps fl dp 500 500 K V S Y s → rP c g fl dp K V S Y u (r (scm c.1 S) s)
theorem z_leaf {c : RC} {dp : Nat} {K : List (Int32 × Int32 × Int32)} {V : List Nat} {S : List (Nat × Nat)} {Y : List Ty} {s : PS} {u : pm_J} (g : pm_s) (hC : rCn c) (H : rE c none dp K V S Y s u) (hS : ∀ x ∈ S, tkK c.1 x.1 = 1) (hSl : S.length < 64) (hV : V.length < 2400) (he : s.2.2.2.1 < 2400) (k kd : Nat) (l : Int) (hk : tkK c.1 s.1 = k) (hkd : (k = 2 ∧ kd = 0 ∧ l = -1) ∨ (k = 3 ∧ kd = 1 ∧ l = -1) ∨ (k = 1 ∧ (kd = 3 ∨ kd = 4) ∧ l = -1 ∧ fnd (scm c.1 S) (tkV c.1 s.1) = none) ∨ (k = 1 ∧ kd = 2 ∧ ∃ n : Nat, l = n ∧ fnd (scm c.1 S) (tkV c.1 s.1) = some n)) :
    zu (fun N => K_Md_atom_62 N g (ie (rk k : Nat)) u) (fun v => rE c none dp K ((pLeaf c.1 kd l s).1 :: V) S Y (pLeaf c.1 kd l s).2 v) := by
  have hlt : s.1 < c.1.length := tkK_lt (by omega)
  have fin : ∀ (x0 : Nd) (w : pm_J) (t0 : Int32), rE c none dp K V S Y (sTr s (tAdd s.2.2.2 x0)) w → t0 = ie (rvl (kd, s.1, l, -1, -1, tkV c.1 s.1, [])) → (rop kd = rop x0.1 ∧ s.1 = x0.2.1 ∧ rva (kd, s.1, l, -1, -1, tkV c.1 s.1, []) = rva x0 ∧ rvb (kd, s.1, l, -1, -1, tkV c.1 s.1, []) = rvb x0 ∧ rvc (kd, s.1, l, -1, -1, tkV c.1 s.1, []) = rvc x0) → rvn (kd, s.1, l, -1, -1, tkV c.1 s.1, []) = rvn x0 → zu (fun N => K_Md_atom_97 N g (ie (s.2.2.2.1 : Nat)) t0 (ie (s.2.2.2.1 : Nat)) w) (fun v => rE c none dp K ((pLeaf c.1 kd l s).1 :: V) S Y (pLeaf c.1 kd l s).2 v) := by
    intro x0 w t0 Hw ht hx hn
    unfold K_Md_atom_97
    simp only [if_pos (okn _ 2400 he (by omega)), ntn s.2.2.2.1 (by omega), ht]
    have H1 := rE_82 (kd, s.1, l, -1, -1, tkV c.1 s.1, []) Hw hx hn
    refine zu_bind (z_give g s.2.2.2.1 H1 he hV) (fun v hv => zu_some _ ?_)
    exact rE_at hv hlt
  have hrk : rop kd = rk k := by rcases hkd with ⟨rfl, rfl, _⟩ | ⟨rfl, rfl, _⟩ | ⟨rfl, rfl | rfl, _⟩ | ⟨rfl, rfl, _⟩ <;> rfl
  have kd4 : kd ≤ 4 := by omega
  unfold K_Md_atom_62
  have hn0 : ∀ kx : Nat, kx ≤ 4 → kx ≠ 2 → rop kx = rop kd → zu (fun N => F_Md_node N (ie (rk k : Nat)) (u.1 64 51) (-1) (-1) (-1) g u) (fun q => q.1 = ie (s.2.2.2.1 : Nat) ∧ rE c none dp K V S Y (sNode s (kx, s.1, -1, -1, -1, tkV c.1 s.1, [])) q.2) := by
    intro kx h4 h2 hr
    have v1 : rva (kx, s.1, -1, -1, -1, tkV c.1 s.1, []) = -1 := by unfold rva; rw [if_pos h4]
    have v2 : rvb (kx, s.1, -1, -1, -1, tkV c.1 s.1, []) = -1 := by unfold rvb; rw [if_neg (by show ¬ kx = 16; omega)]
    have v3 : rvc (kx, s.1, -1, -1, -1, tkV c.1 s.1, []) = -1 := by unfold rvc; rw [if_neg (by show ¬ kx = 8; omega)]
    refine z_node g H he _ _ _ _ _ (kx, s.1, -1, -1, -1, tkV c.1 s.1, []) (by rw [← hrk, ← hr]) H.1.2.2.1 (by rw [v1]; rfl) (by rw [v2]; rfl) (by rw [v3]; rfl) ?_ ?_ (by rw [v1]; omega)
    · unfold rvl; rw [if_neg h2, if_neg (by show ¬ (kx = 7 ∨ kx = 9); omega)]
    · unfold rvn; rw [if_neg (by show ¬ kx = 16; omega)]
  have fld : ∀ kx : Nat, kx ≤ 4 → rop kx = rop kd → (rop kd = rop kx ∧ s.1 = s.1 ∧ rva (kd, s.1, l, -1, -1, tkV c.1 s.1, []) = rva (kx, s.1, -1, -1, -1, tkV c.1 s.1, []) ∧ rvb (kd, s.1, l, -1, -1, tkV c.1 s.1, []) = rvb (kx, s.1, -1, -1, -1, tkV c.1 s.1, []) ∧ rvc (kd, s.1, l, -1, -1, tkV c.1 s.1, []) = rvc (kx, s.1, -1, -1, -1, tkV c.1 s.1, [])) ∧ rvn (kd, s.1, l, -1, -1, tkV c.1 s.1, []) = rvn (kx, s.1, -1, -1, -1, tkV c.1 s.1, []) := by
    intro kx h4 hr
    refine ⟨⟨hr.symm, rfl, ?_, ?_, ?_⟩, ?_⟩
    · unfold rva; rw [if_pos kd4, if_pos h4]
    · unfold rvb; rw [if_neg (by show ¬ kd = 16; omega), if_neg (by show ¬ kx = 16; omega)]
    · unfold rvc; rw [if_neg (by show ¬ kd = 8; omega), if_neg (by show ¬ kx = 8; omega)]
    · unfold rvn; rw [if_neg (by show ¬ kd = 16; omega), if_neg (by show ¬ kx = 16; omega)]
  by_cases e1 : k = 1
  · have hk3 : rop 3 = rop kd := by rw [hrk, e1]; rfl
    refine zu_bind (hn0 3 (by omega) (by omega) hk3) (fun q hq => ?_)
    obtain ⟨q1, q2⟩ := hq
    simp only [if_pos (show ie (rk k : Nat) = 1 from by rw [e1]; rfl), q1]
    have h51 : q.2.1 64 51 = ie (s.1 : Nat) := q2.1.2.2.1
    rw [h51]
    refine zu_bind (r_local g hC q2 hS hSl s.1 (by rw [hk, e1])) (fun w hw => ?_)
    refine fin (3, s.1, -1, -1, -1, tkV c.1 s.1, []) q.2 w q2 ?_ (fld 3 (by omega) hk3).1 (fld 3 (by omega) hk3).2
    rw [hw]
    rcases hkd with ⟨h, _⟩ | ⟨h, _⟩ | ⟨_, hkk, rfl, hf⟩ | ⟨_, hkk, n, rfl, hf⟩
    · omega
    · omega
    · rw [hf]; unfold rvl; rw [if_neg (by show ¬ kd = 2; omega), if_neg (by show ¬ (kd = 7 ∨ kd = 9); omega)]; rfl
    · rw [hf]; unfold rvl; rw [if_pos hkk]; rfl
  · have hkd2 : kd ≠ 2 := by omega
    refine zu_bind (hn0 kd kd4 hkd2 rfl) (fun q hq => ?_)
    obtain ⟨q1, q2⟩ := hq
    have hne : ¬ (ie (rk k : Nat) = 1) := by
      rcases hkd with ⟨rfl, _⟩ | ⟨rfl, _⟩ | ⟨h, _⟩ | ⟨h, _⟩
      · decide
      · decide
      · exact absurd h e1
      · exact absurd h e1
    simp only [if_neg hne, q1]
    refine fin (kd, s.1, -1, -1, -1, tkV c.1 s.1, []) q.2 (-1) q2 ?_ (fld kd kd4 rfl).1 (fld kd kd4 rfl).2
    unfold rvl; rw [if_neg hkd2, if_neg (by show ¬ (kd = 7 ∨ kd = 9); omega)]; rfl
