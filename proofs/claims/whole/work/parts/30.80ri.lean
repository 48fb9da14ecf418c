set_option maxRecDepth 100000
theorem r_numD {o : Nat → Int} {n : Nat} {u : pm_J} (g : pm_s) (ho : tx_o o n) (hu : rTx o n u) (a k : Nat) (hk : k = rl oD o 3001 a) (ha : a < n) (m : Nat) : ∀ (j f f' N N' : Nat) (b : Bool) (y : Int64), j + m = k → m < f → m < f' → K_Md_tokenAt_100 N g f (ib b) (rEnd u ((a : Int) + j) y) = K_Md_tokenAt_100 N' g f' (ib b) (rEnd u ((a : Int) + j) y) := by
  have hn := ho.1
  have hp : ∀ i, n ≤ i → oD (o i) = false := fun i hi => by rw [ho.2.1 i hi]; decide
  have hk2 : a + k ≤ n := by rw [hk]; exact rl_le oD o n 3001 a hp (by omega)
  induction m with
  | zero =>
    intro j f f' N N' b y hm hf hf'
    obtain ⟨f, rfl⟩ : ∃ f', f = f' + 1 := ⟨f - 1, by omega⟩
    obtain ⟨f', rfl⟩ : ∃ f'', f' = f'' + 1 := ⟨f' - 1, by omega⟩
    have hj : j = k := by omega
    subst hj
    have he : oD (o (a + j)) = false := by rw [hk]; exact rl_end oD o n 3001 a hp (by omega)
    rw [K_Md_tokenAt_100, K_Md_tokenAt_100, rEnd_1, show ((a : Int) + j) = ((a + j : Nat) : Int) by omega, r_octet g ho (rEnd_tx _ _ hu) _ (by omega)]
    simp only [Option.bind_some, r_isD _ g _ (tx_rg ho _).1 (tx_rg ho _).2, he, show ib false = 0 from rfl, if_true]
  | succ m ih =>
    intro j f f' N N' b y hm hf hf'
    obtain ⟨f, rfl⟩ : ∃ f', f = f' + 1 := ⟨f - 1, by omega⟩
    obtain ⟨f', rfl⟩ : ∃ f'', f' = f'' + 1 := ⟨f' - 1, by omega⟩
    have he : oD (o (a + j)) = true := rl_all oD o 3001 a j (by omega)
    have h9 := oD_rg he
    have hs : ie ((a + j : Nat) : Int) + 1 = ie ((a : Int) + (j + 1 : Nat)) := by
      rw [show (1 : Int32) = ie 1 from rfl, ie_add]; congr 1
    have hsub : ie (o (a + j)) - 48 = ie (o (a + j) - 48) := by rw [show (48 : Int32) = ie 48 from rfl, ie_sub]
    have hst : ∀ (N f : Nat) (c : Bool), K_Md_tokenAt_162 N g (K_Md_tokenAt_100 N g f) (ie (o (a + j) - 48)) (ib c) (ib b) (rEnd u ((a + j : Nat) : Int) y) = K_Md_tokenAt_100 N g f (ib (b && c)) (rEnd u ((a : Int) + (j + 1 : Nat)) (if (b && c) = true then 10 * y + je (o (a + j) - 48) else y)) := by
      intro N f c
      have hbc : (ib b &&& ib c) = ib (b && c) := by cases b <;> cases c <;> rfl
      unfold K_Md_tokenAt_162
      rw [hbc, rEnd_1, rEnd_2, hs, rEnd_wj, rEnd_wi, rEnd_wj, rEnd_wi, ie_je _ (by omega) (by omega)]
      cases hh : (b && c) <;> rfl
    have un : ∀ (N f : Nat), K_Md_tokenAt_100 N g (f + 1) (ib b) (rEnd u ((a : Int) + j) y) = (if lg_cmp y 922337203685477580 < 0 then K_Md_tokenAt_100 N g f (ib (b && true)) (rEnd u ((a : Int) + (j + 1 : Nat)) (if (b && true) = true then 10 * y + je (o (a + j) - 48) else y)) else if lg_cmp y 922337203685477580 = 0 then if (7 : Int32) < ie (o (a + j) - 48) then K_Md_tokenAt_100 N g f (ib (b && false)) (rEnd u ((a : Int) + (j + 1 : Nat)) (if (b && false) = true then 10 * y + je (o (a + j) - 48) else y)) else K_Md_tokenAt_100 N g f (ib (b && true)) (rEnd u ((a : Int) + (j + 1 : Nat)) (if (b && true) = true then 10 * y + je (o (a + j) - 48) else y)) else K_Md_tokenAt_100 N g f (ib (b && false)) (rEnd u ((a : Int) + (j + 1 : Nat)) (if (b && false) = true then 10 * y + je (o (a + j) - 48) else y))) := by
      intro N f
      rw [K_Md_tokenAt_100, rEnd_1, show ((a : Int) + j) = ((a + j : Nat) : Int) by omega, r_octet g ho (rEnd_tx _ _ hu) _ (by omega), Option.bind_some, r_isD _ g _ (tx_rg ho _).1 (tx_rg ho _).2, Option.bind_some, he, if_neg (show ¬ ib true = 0 by decide), Option.bind_some]
      simp only [rEnd_2, hsub]
      rw [show (1 : Int32) = ib true from rfl, ← hst N f true, ← hst N f false]
      rfl
    rw [un N f, un N' f']
    rw [ih (j + 1) f f' N N' (b && true) _ (by omega) (by omega) (by omega), ih (j + 1) f f' N N' (b && false) _ (by omega) (by omega) (by omega)]
theorem r_tokD {o : Nat → Int} {n : Nat} {u : pm_J} (g : pm_s) (ho : tx_o o n) (hu : rTx o n u) (a N N' : Nat) (hN : 10000 ≤ N) (hN' : 10000 ≤ N') (ha : a < n) : F_Md_tokenAt N (ie a) g u = F_Md_tokenAt N' (ie a) g u := by
  have hn := ho.1
  have hra := tx_rg ho a
  have hE : wj (wi u 64 45 (ie a)) 64 46 0 = rEnd u a 0 := rfl
  unfold F_Md_tokenAt
  rw [r_octet g ho hu a (by omega)]
  simp only [Option.bind_some, hE, r_isL _ g _ hra.1 hra.2]
  by_cases hl : oL (o a) = true
  · rw [if_neg (show ¬ (ib (oL (o a)) = 0) by rw [hl]; decide), if_neg (show ¬ (ib (oL (o a)) = 0) by rw [hl]; decide)]
    have hpN : ∀ i, n ≤ i → oN (o i) = false := fun i hi => by rw [ho.2.1 i hi]; decide
    have hk := rl_le oN o n 3001 a hpN (by omega)
    have hk1 : 1 ≤ rl oN o 3001 a := by rw [rl, if_pos (by unfold oN; rw [hl]; rfl)]; omega
    have h1 := r_name N g (by omega) ho hu a _ rfl hk1 ha (rl oN o 3001 a) 0 N (by omega) (by omega)
    have h2 := r_name N' g (by omega) ho hu a _ rfl hk1 ha (rl oN o 3001 a) 0 N' (by omega) (by omega)
    rw [show ((a : Int) + (0 : Nat)) = a by omega] at h1 h2
    rw [h1, h2]
  · rw [if_pos (show ib (oL (o a)) = 0 by simpa [ib_z] using hl), if_pos (show ib (oL (o a)) = 0 by simpa [ib_z] using hl)]
    simp only [r_isD _ g _ hra.1 hra.2, Option.bind_some]
    by_cases hd : oD (o a) = true
    · rw [if_neg (show ¬ (ib (oD (o a)) = 0) by rw [hd]; decide), if_neg (show ¬ (ib (oD (o a)) = 0) by rw [hd]; decide)]
      have hpN : ∀ i, n ≤ i → oD (o i) = false := fun i hi => by rw [ho.2.1 i hi]; decide
      have hk := rl_le oD o n 3001 a hpN (by omega)
      have h1 := r_numD g ho hu a _ rfl ha (rl oD o 3001 a) 0 N N' N N' true 0 (by omega) (by omega) (by omega)
      rw [show ((a : Int) + (0 : Nat)) = a by omega, show ib true = 1 from rfl] at h1
      exact h1
    · rw [if_pos (show ib (oD (o a)) = 0 by simpa [ib_z] using hd), if_pos (show ib (oD (o a)) = 0 by simpa [ib_z] using hd)]
      by_cases h35 : ie (o a) = 35
      · rw [if_pos h35, if_pos h35]
        have hpN : ∀ i, n ≤ i → oH (o i) = false := fun i hi => by rw [ho.2.1 i hi]; decide
        have hk := rl_le oH o n 3001 (a + 1) hpN (by omega)
        have h1 := r_bits N g ho hu a _ rfl ha (rl oH o 3001 (a + 1)) 0 N (by omega) (by omega)
        have h2 := r_bits N' g ho hu a _ rfl ha (rl oH o 3001 (a + 1)) 0 N' (by omega) (by omega)
        rw [show ((a : Int) + 1 + (0 : Nat)) = (a : Int) + 1 by omega, show hx (sl o (a + 1) 0) = 0 from rfl] at h1 h2
        rw [show ie (a : Int) + 1 = ie ((a : Int) + 1) by rw [show (1 : Int32) = ie 1 from rfl, ie_add], rEnd_wi, h1, h2]
      · rw [if_neg h35, if_neg h35]
theorem r_scanD {o : Nat → Int} {n : Nat} (g : pm_s) (ho : tx_o o n) (m : Nat) : ∀ (f f' N N' a : Nat) (T : List Tok) (u : pm_J), n ≤ a + m → m < f → m < f' → 10000 ≤ N → 10000 ≤ N' → rTx o n u → rTok u T → u.1 64 4 = ie 0 → a < 10000 → K_Md_scan_7 N g f (ie a) u = K_Md_scan_7 N' g f' (ie a) u := by
  have hn := ho.1
  have hend : ∀ (f f' N N' a : Nat) (T : List Tok) (u : pm_J), n ≤ a → a < 10000 → rTx o n u → K_Md_scan_7 N g (f + 1) (ie a) u = K_Md_scan_7 N' g (f' + 1) (ie a) u := by
    intro f f' N N' a T u hna ha hu
    rw [K_Md_scan_7, K_Md_scan_7, hu.1, if_pos (show ie (n : Int) ≤ ie (a : Int) from (inle n a (by omega) (by omega)).mpr hna), if_pos (show ie (n : Int) ≤ ie (a : Int) from (inle n a (by omega) (by omega)).mpr hna)]
  induction m with
  | zero =>
    intro f f' N N' a T u hm hf hf' hN hN' hu hT h0 ha
    obtain ⟨f, rfl⟩ : ∃ f', f = f' + 1 := ⟨f - 1, by omega⟩
    obtain ⟨f', rfl⟩ : ∃ f'', f' = f'' + 1 := ⟨f' - 1, by omega⟩
    exact hend f f' N N' a T u (by omega) ha hu
  | succ m ih =>
    intro f f' N N' a T u hm hf hf' hN hN' hu hT h0 ha
    obtain ⟨f, rfl⟩ : ∃ f', f = f' + 1 := ⟨f - 1, by omega⟩
    obtain ⟨f', rfl⟩ : ∃ f'', f' = f'' + 1 := ⟨f' - 1, by omega⟩
    by_cases hna : n ≤ a
    · exact hend f f' N N' a T u hna ha hu
    have hT9 := hT.2.1
    have hs1 : ie (a : Int) + 1 = ie ((a + 1 : Nat) : Int) := iadd1 a
    have e1 := ih f f' N N' (a + 1) T u (by omega) (by omega) (by omega) hN hN' hu hT h0 (by omega)
    rw [K_Md_scan_7, K_Md_scan_7, hu.1, if_neg (show ¬ (ie (n : Int) ≤ ie (a : Int)) from fun hh => hna ((inle n a (by omega) (by omega)).mp hh)), if_neg (show ¬ (ie (n : Int) ≤ ie (a : Int)) from fun hh => hna ((inle n a (by omega) (by omega)).mp hh)), r_octet g ho hu a (by omega)]
    simp only [Option.bind_some]
    rw [hs1, e1, r_tokD g ho hu a N N' hN hN' (by omega)]
    obtain ⟨k1, k2⟩ := r_token N' g ho hu a hN' (by omega)
    cases ht : tokS o a with
    | none =>
      obtain ⟨w, v, hw⟩ := k2 ht
      rw [hw]
      simp only [Option.bind_some, show (ie (-1) = -1) ↔ True from ⟨fun _ => trivial, fun _ => rfl⟩, if_true]
    | some t =>
      have hw := tok_w ho (by omega) t ht
      rw [k1 t ht]
      simp only [Option.bind_some]
      have hne : ¬ (ie (rk t.1) = -1) := rk_pos t.1
      have h10e : (rEnd u ((a + t.2.1 : Nat) : Int) (rV t.1 t.2.2)).1 64 10 = ie T.length := hT.1
      have h9e : (ie (T.length : Int) = 900) ↔ T.length = 900 := ineq _ 900 (by omega) (by omega)
      simp only [hne, if_false, h10e, h9e]
      by_cases h9 : T.length = 900
      · simp only [if_pos h9]
      · simp only [if_neg h9]
        rw [rEnd_1, rEnd_2]
        simp (disch := omega) only [ie_ok, ie_nat, Int.toNat_natCast]
        have hr : (0 : Int) ≤ (T.length : Int) ∧ (T.length : Int) < (902 : Nat) := by omega
        simp only [hr, and_self, if_true]
        have hx : wi (wj (wi (wi (wi (rEnd u ((a + t.2.1 : Nat) : Int) (rV t.1 t.2.2)) 66 T.length (ie (rk t.1))) 67 T.length (ie a)) 68 T.length (ie ((a + t.2.1 : Nat) : Int) - ie a)) 69 T.length (rV t.1 t.2.2)) 64 10 (ie (T.length : Int) + 1) = rAdd (rEnd u ((a + t.2.1 : Nat) : Int) (rV t.1 t.2.2)) T.length (rk t.1) a t.2.1 (rV t.1 t.2.2) := by
          unfold rAdd
          rw [ie_sub, show ((a + t.2.1 : Nat) : Int) - a = (t.2.1 : Nat) by omega, show (1 : Int32) = ie 1 from rfl, ie_add]
        rw [hx]
        rw [ih f f' N N' (a + t.2.1) (T ++ [(t.1, a, t.2.1, t.2.2)]) (rAdd (rEnd u ((a + t.2.1 : Nat) : Int) (rV t.1 t.2.2)) T.length (rk t.1) a t.2.1 (rV t.1 t.2.2)) (by omega) (by omega) (by omega) hN hN'
          ⟨hu.1, hu.2⟩
          (by
            refine ⟨?_, ?_, ?_⟩
            · rw [List.length_append]; rfl
            · rw [List.length_append]; show T.length + 1 ≤ 900; omega
            · intro i t' hi
              rw [List.getElem?_append] at hi
              by_cases hiT : i < T.length
              · rw [if_pos hiT] at hi
                have := hT.2.2 i t' hi
                have hne : i ≠ T.length := by omega
                unfold rAdd rEnd
                simp [wi_1, wi_2, wj_1, wj_2, hne]
                exact this
              · rw [if_neg hiT] at hi
                have hii : i = T.length := by
                  have := (List.getElem?_eq_some_iff.mp hi).1
                  simp at this; omega
                subst hii
                simp at hi
                subst hi
                unfold rAdd
                simp [wi_1, wi_2, wj_1, wj_2])
          (by show (rAdd _ _ _ _ _ _).1 64 4 = ie 0; unfold rAdd rEnd; simp [wi_1, wj_1, h0]) (by omega)]
theorem r_scanU {o : Nat → Int} {n : Nat} (g : pm_s) (u : pm_J) (ho : tx_o o n) (hu : rTx o n u) (h0 : u.1 64 4 = ie 0) :
    ∃ v, (match scS o n 3001 0 [] with
       | .inl p => (∀ N, 10000 ≤ N → F_Md_scan N g u = some (ib false, v)) ∧ v.1 64 4 = ie 1 ∧ v.1 64 5 = ie p
       | .inr T' => (∀ N, 10000 ≤ N → F_Md_scan N g u = some (ib true, v)) ∧ rTok v T' ∧ v.1 66 T'.length = ie 26 ∧ v.1 67 T'.length = ie n ∧ v.1 64 4 = ie 0 ∧ v.1 64 5 = u.1 64 5) ∧ fr rS_t u v := by
  have hn := ho.1
  obtain ⟨v, h1, h2⟩ := r_scan 10000 g u ho (Nat.le_refl _) hu h0
  have hd : ∀ N, 10000 ≤ N → F_Md_scan N g u = F_Md_scan 10000 g u := by
    intro N hN
    unfold F_Md_scan
    exact r_scanD g ho 3000 N 10000 N 10000 0 [] (wi u 64 10 0) (by omega) (by omega) (by omega) hN (Nat.le_refl _) ⟨hu.1, hu.2⟩ ⟨rfl, by simp, by simp⟩ h0 (by omega)
  refine ⟨v, ?_, h2⟩
  cases hs : scS o n 3001 0 [] with
  | inl p => rw [hs] at h1; exact ⟨fun N hN => (hd N hN).trans h1.1, h1.2⟩
  | inr T' => rw [hs] at h1; exact ⟨fun N hN => (hd N hN).trans h1.1, h1.2⟩
