set_option maxRecDepth 100000
def rtP (T : List Tok) (n : Nat) (g : pm_s) (fl a dp h qt : Nat) (u : pm_J) (Y : List Ty) (x : PE PT) : Prop := match x with
  | .error q => ∃ v, rG g fl u v ∧ rX T n q v ∧ fr (rS_T h qt) u v
  | .ok t => ∃ (v : pm_J) (Z : List Ty) (k : Nat), rEq g fl u v ∧ rT T n t.2.1 t.2.2 dp h (qt + 1) v (Y ++ Z) ∧ v.1 109 qt = ie k ∧ (Y ++ Z)[k]? = some t.1 ∧ Z.length ≤ t.2.1 - a ∧ fr (rS_T h qt) u v
theorem rtP_eq {T : List Tok} {n : Nat} {g : pm_s} {fl a a' dp h qt : Nat} {u u' : pm_J} {Y Z0 : List Ty} {x : PE PT} (he : rEq g fl u u') (hf : fr (rS_T h qt) u u') (hP : rtP T n g fl a' dp h qt u' (Y ++ Z0) x) (hz : ∀ t, x = .ok t → Z0.length + (t.2.1 - a') ≤ t.2.1 - a) : rtP T n g fl a dp h qt u Y x := by
  cases x with
  | error q => obtain ⟨v, h1, h2, h3⟩ := hP; exact ⟨v, he v h1, h2, fr_trans hf h3⟩
  | ok t =>
    obtain ⟨v, Z, k, h1, h2, h3, h4, h5, h6⟩ := hP
    have := hz t rfl
    exact ⟨v, Z0 ++ Z, k, rEq_trans he h1, by rw [← List.append_assoc]; exact h2, h3, by rw [← List.append_assoc]; exact h4, by rw [List.length_append]; omega, fr_trans hf h6⟩
theorem rtP_er {T : List Tok} {n : Nat} {g : pm_s} {fl a dp h qt : Nat} {u v : pm_J} {Y : List Ty} {q : Nat × Nat} (he : rEq g fl u v) (hx : rX T n q v) (hf : fr (rS_T h qt) u v) : rtP T n g fl a dp h qt u Y (.error q) := ⟨v, he v (rG_end hx.1), hx, hf⟩
theorem rT_close {T : List Tok} {n a c dp h qt : Nat} {u : pm_J} {Y : List Ty} (N : Nat) (g : pm_s) (hG : tkG T) (H : rT T n a c dp h qt u Y) (ha : a ≤ T.length) : (tkK T a = 16 → F_Md_expect N 16 g u = some (wi u 64 51 (ie ((a + 1 : Nat) : Int)))) ∧ (tkK T a ≠ 16 → ∃ v, F_Md_expect N 16 g u = some v ∧ rX T n (2, a) v ∧ fr (rS_T h qt) u v) := by
  have h9 := H.2.2.1.1.2.1
  have k16 : (u.1 66 a = 16) ↔ tkK T a = 16 := r_kq hG H.2.2.1 a ha 16 (by omega)
  unfold F_Md_expect K_Md_expect_29
  rw [H.1, if_neg (show ¬ (ie 1 = 0) by decide), H.2.2.2.1, if_pos (okn a 902 (by omega) (by omega)), ntn a (by omega)]
  simp only [k16]
  constructor
  · intro e; rw [if_pos e, if_neg (show ¬ (ie 1 = 0) by decide), iadd1]
  · intro e
    have hs := r_stop g H.2.2.1 H.2.1 2 a ha
    have hs' : F_Md_stop 2 (ie a) g u = some (rStop u 2 (tkP T n a)) := hs
    rw [if_neg e, hs', Option.bind_some, if_pos (show (rStop u 2 (tkP T n a)).1 64 52 = 0 from rfl)]
    have hx := rX_stop H (by omega) 2 a (by omega)
    refine ⟨_, rfl, rX_of hx rfl rfl rfl ⟨a, by omega, ?_⟩ rfl (fun c i h1 h2 => by rw [wi_1, if_neg (by omega)]; rfl), frR_wi _ _ _ (by omega) (fr_stop _ _ (fr_refl _ _))⟩
    show (rStop u 2 (tkP T n a)).1 64 51 + 0 = _
    have : (rStop u 2 (tkP T n a)).1 64 51 = ie a := H.2.2.2.1
    rw [this, show (0 : Int32) = ie 0 from rfl, ie_add]; congr 1
theorem rT_mk {T : List Tok} {n a c dp h qt : Nat} {u : pm_J} {Y : List Ty} (g : pm_s) (f : Bool) (A B : Ty) (kA kB : Nat) (H : rT T n a c dp h (qt + 2) u Y) (hq : qt + 2 < 900) (hA : u.1 109 qt = ie kA) (hB : u.1 109 (qt + 1) = ie kB) (yA : Y[kA]? = some A) (yB : Y[kB]? = some B) (hY : Y.length < 100000) :
    ∃ (v : pm_J) (Z : List Ty) (k : Nat), (∀ N, 200000 ≤ N → ((F_Md_takeType g u).bind fun q12 => (F_Md_takeType g q12.2).bind fun q13 => (F_Md_typeOf N (ib f) q13.1 q12.1 g q13.2).bind fun q14 => (F_Md_giveType q14.1 g q14.2).bind fun q15 => some q15) = some v) ∧ rT T n a c dp h (qt + 1) v (Y ++ Z) ∧ v.1 109 qt = ie k ∧ (Y ++ Z)[k]? = some (tyP f A B) ∧ Z.length ≤ 1 ∧ fr (rS_T h qt) u v := by
  obtain ⟨t1, t2⟩ := rT_take g (qt := qt + 1) H (by omega)
  obtain ⟨t3, t4⟩ := rT_take g (qt := qt) t2 (by omega)
  have hA' : (wi u 64 60 (ie ((qt + 1 : Nat) : Int))).1 109 qt = ie kA := hA
  obtain ⟨z, v, Z, hall, w2, w3, w4, w5⟩ := r_type g t4.2.2.2.2.2.2.2.2 f A B kA kB yA yB hY
  have t5 := rT_y t4 w5 w2
  refine ⟨rGv v qt z, Z, z, ?_, rT_give t5 z, ?_, w4, w3, ?_⟩
  · intro N hN
    rw [t1, Option.bind_some, t3, Option.bind_some]
    show ((F_Md_typeOf N (ib f) ((wi u 64 60 (ie ((qt + 1 : Nat) : Int))).1 109 qt) (u.1 109 (qt + 1)) g (wi (wi u 64 60 (ie ((qt + 1 : Nat) : Int))) 64 60 (ie qt))).bind fun q14 => _) = _
    rw [hA', hB, hall N hN, Option.bind_some, r_give g qt t5.2.2.2.2.2.2.2.1 (by omega) z, Option.bind_some]
  · show (rGv v qt z).1 109 qt = ie z
    unfold rGv; simp [wi_1]
  · unfold rGv
    exact frR_wi _ _ _ (by omega) (frR_wi _ _ _ (by omega) (fr_trans (frR_wi _ _ _ (by omega) (frR_wi _ _ _ (by omega) (fr_refl _ _))) (fr_yR w5)))
