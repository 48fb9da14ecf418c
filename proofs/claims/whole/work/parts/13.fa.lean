def F_Tokens_kind (a1 : Int32) (g : pm_s) (u : pm_J) : Option (Int32) := if a1 < 0 then some 0 else if (u.1 5 5) ≤ a1 then some 0 else if pm_ok a1 900 = true then some (u.1 6 a1.toNatClampNeg) else none
set_option maxHeartbeats 4000000 in
set_option maxRecDepth 100000 in
theorem c_Tokens_kind (l : Launch) (h0 : Nat) (D : pm_D) {g : pm_s} {u : pm_J} (hT : sh_T g) {a1 : Int32} {out : Int32} (h : F_Tokens_kind a1 g u = some out) : pm_C l h0 D m_Tokens_kind (0) [.ref 5, .int a1] (sm g u) (some (.int out)) (sm g u) := by
  unfold F_Tokens_kind at h
  refine pm_met (by decide +kernel) (Nat.le_of_ble_eq_true rfl) (Nat.le_refl _) (Nat.le_refl _) ?_
  intro p e R s m args below meth c
  refine pm_blk (pc' := 1) (L' := [(0, .ref 5), (1, .int a1)]) (S' := [.int a1]) (M' := sm g u) [pm_o (.iload_n 1)] (by decide +kernel) rfl ?_
  refine pm_if_lt (off := 20) 21 (by decide +kernel) (by decide) (fun hc1 => ?_) (fun hc1 => ?_)
  · rw [if_pos hc1] at h
    refine pm_blk (pc' := 22) (L' := [(0, .ref 5), (1, .int a1)]) (S' := [.int 0]) (M' := sm g u) [pm_oi (.iconst 0) 0] (by decide +kernel) rfl ?_
    have h9 := Option.some.inj h
    subst h9
    exact pm_reti rfl (by decide +kernel) rfl rfl rfl
  · rw [if_neg hc1] at h
    refine pm_blk (pc' := 9) (L' := [(0, .ref 5), (1, .int a1)]) (S' := [.int (u.1 5 5), .int a1]) (M' := sm g u) [pm_o (.iload_n 1), pm_o (.aload_n 0), pm_of (.getfield 45) 9 5 0] (by decide +kernel) rfl ?_
    refine pm_ic_ge (off := 12) 21 (by decide +kernel) (by decide) (fun hc2 => ?_) (fun hc2 => ?_)
    · rw [if_pos hc2] at h
      refine pm_blk (pc' := 22) (L' := [(0, .ref 5), (1, .int a1)]) (S' := [.int 0]) (M' := sm g u) [pm_oi (.iconst 0) 0] (by decide +kernel) rfl ?_
      have h9 := Option.some.inj h
      subst h9
      exact pm_reti rfl (by decide +kernel) rfl rfl rfl
    · rw [if_neg hc2] at h
      refine pm_blk (pc' := 17) (L' := [(0, .ref 5), (1, .int a1)]) (S' := [.int a1, .ref 6]) (M' := sm g u) [pm_o (.aload_n 0), pm_of (.getfield 15) 9 1 2, pm_o (.iload_n 1)] (by decide +kernel) rfl ?_
      obtain ⟨ho3, h⟩ := pm_ifs h
      refine pm_iald (by decide +kernel) rfl (pm_ok_in ho3) ?_
      refine pm_blk (pc' := 18) (L' := [(0, .ref 5), (1, .int a1)]) (S' := [.int (u.1 6 a1.toNatClampNeg)]) (M' := sm g u) [] (by decide +kernel) rfl ?_
      refine pm_goto (off := 4) 22 (by decide +kernel) (by decide) ?_
      have h9 := Option.some.inj h
      subst h9
      exact pm_reti rfl (by decide +kernel) rfl rfl rfl
def F_Tokens_placeOf (a1 : Int32) (g : pm_s) (u : pm_J) : Option (Int32) := if a1 < 0 then some (u.1 5 6) else if (u.1 5 5) ≤ a1 then some (u.1 5 6) else if pm_ok a1 900 = true then some (u.1 7 a1.toNatClampNeg) else none
set_option maxHeartbeats 4000000 in
set_option maxRecDepth 100000 in
theorem c_Tokens_placeOf (l : Launch) (h0 : Nat) (D : pm_D) {g : pm_s} {u : pm_J} (hT : sh_T g) {a1 : Int32} {out : Int32} (h : F_Tokens_placeOf a1 g u = some out) : pm_C l h0 D m_Tokens_placeOf (0) [.ref 5, .int a1] (sm g u) (some (.int out)) (sm g u) := by
  unfold F_Tokens_placeOf at h
  refine pm_met (by decide +kernel) (Nat.le_of_ble_eq_true rfl) (Nat.le_refl _) (Nat.le_refl _) ?_
  intro p e R s m args below meth c
  refine pm_blk (pc' := 1) (L' := [(0, .ref 5), (1, .int a1)]) (S' := [.int a1]) (M' := sm g u) [pm_o (.iload_n 1)] (by decide +kernel) rfl ?_
  refine pm_if_lt (off := 20) 21 (by decide +kernel) (by decide) (fun hc1 => ?_) (fun hc1 => ?_)
  · rw [if_pos hc1] at h
    refine pm_blk (pc' := 25) (L' := [(0, .ref 5), (1, .int a1)]) (S' := [.int (u.1 5 6)]) (M' := sm g u) [pm_o (.aload_n 0), pm_of (.getfield 49) 9 6 0] (by decide +kernel) rfl ?_
    have h9 := Option.some.inj h
    subst h9
    exact pm_reti rfl (by decide +kernel) rfl rfl rfl
  · rw [if_neg hc1] at h
    refine pm_blk (pc' := 9) (L' := [(0, .ref 5), (1, .int a1)]) (S' := [.int (u.1 5 5), .int a1]) (M' := sm g u) [pm_o (.iload_n 1), pm_o (.aload_n 0), pm_of (.getfield 45) 9 5 0] (by decide +kernel) rfl ?_
    refine pm_ic_ge (off := 12) 21 (by decide +kernel) (by decide) (fun hc2 => ?_) (fun hc2 => ?_)
    · rw [if_pos hc2] at h
      refine pm_blk (pc' := 25) (L' := [(0, .ref 5), (1, .int a1)]) (S' := [.int (u.1 5 6)]) (M' := sm g u) [pm_o (.aload_n 0), pm_of (.getfield 49) 9 6 0] (by decide +kernel) rfl ?_
      have h9 := Option.some.inj h
      subst h9
      exact pm_reti rfl (by decide +kernel) rfl rfl rfl
    · rw [if_neg hc2] at h
      refine pm_blk (pc' := 17) (L' := [(0, .ref 5), (1, .int a1)]) (S' := [.int a1, .ref 7]) (M' := sm g u) [pm_o (.aload_n 0), pm_of (.getfield 19) 9 2 2, pm_o (.iload_n 1)] (by decide +kernel) rfl ?_
      obtain ⟨ho3, h⟩ := pm_ifs h
      refine pm_iald (by decide +kernel) rfl (pm_ok_in ho3) ?_
      refine pm_blk (pc' := 18) (L' := [(0, .ref 5), (1, .int a1)]) (S' := [.int (u.1 7 a1.toNatClampNeg)]) (M' := sm g u) [] (by decide +kernel) rfl ?_
      refine pm_goto (off := 7) 25 (by decide +kernel) (by decide) ?_
      have h9 := Option.some.inj h
      subst h9
      exact pm_reti rfl (by decide +kernel) rfl rfl rfl
def F_Tokens_value (a1 : Int32) (g : pm_s) (u : pm_J) : Option (Int64) := if a1 < 0 then some 0 else if (u.1 5 5) ≤ a1 then some 0 else if pm_ok a1 900 = true then some (u.2 8 a1.toNatClampNeg) else none
set_option maxHeartbeats 4000000 in
set_option maxRecDepth 100000 in
theorem c_Tokens_value (l : Launch) (h0 : Nat) (D : pm_D) {g : pm_s} {u : pm_J} (hT : sh_T g) {a1 : Int32} {out : Int64} (h : F_Tokens_value a1 g u = some out) : pm_C l h0 D m_Tokens_value (0) [.ref 5, .int a1] (sm g u) (some (.long out)) (sm g u) := by
  unfold F_Tokens_value at h
  refine pm_met (by decide +kernel) (Nat.le_of_ble_eq_true rfl) (Nat.le_refl _) (Nat.le_refl _) ?_
  intro p e R s m args below meth c
  refine pm_blk (pc' := 1) (L' := [(0, .ref 5), (1, .int a1)]) (S' := [.int a1]) (M' := sm g u) [pm_o (.iload_n 1)] (by decide +kernel) rfl ?_
  refine pm_if_lt (off := 20) 21 (by decide +kernel) (by decide) (fun hc1 => ?_) (fun hc1 => ?_)
  · rw [if_pos hc1] at h
    refine pm_blk (pc' := 22) (L' := [(0, .ref 5), (1, .int a1)]) (S' := [.long 0]) (M' := sm g u) [pm_ol (.lconst 0) 0] (by decide +kernel) rfl ?_
    have h9 := Option.some.inj h
    subst h9
    exact pm_retl rfl (by decide +kernel) rfl rfl rfl
  · rw [if_neg hc1] at h
    refine pm_blk (pc' := 9) (L' := [(0, .ref 5), (1, .int a1)]) (S' := [.int (u.1 5 5), .int a1]) (M' := sm g u) [pm_o (.iload_n 1), pm_o (.aload_n 0), pm_of (.getfield 45) 9 5 0] (by decide +kernel) rfl ?_
    refine pm_ic_ge (off := 12) 21 (by decide +kernel) (by decide) (fun hc2 => ?_) (fun hc2 => ?_)
    · rw [if_pos hc2] at h
      refine pm_blk (pc' := 22) (L' := [(0, .ref 5), (1, .int a1)]) (S' := [.long 0]) (M' := sm g u) [pm_ol (.lconst 0) 0] (by decide +kernel) rfl ?_
      have h9 := Option.some.inj h
      subst h9
      exact pm_retl rfl (by decide +kernel) rfl rfl rfl
    · rw [if_neg hc2] at h
      refine pm_blk (pc' := 17) (L' := [(0, .ref 5), (1, .int a1)]) (S' := [.int a1, .ref 8]) (M' := sm g u) [pm_o (.aload_n 0), pm_of (.getfield 22) 9 3 2, pm_o (.iload_n 1)] (by decide +kernel) rfl ?_
      obtain ⟨ho3, h⟩ := pm_ifs h
      refine pm_lald (by decide +kernel) rfl (pm_ok_in ho3) ?_
      refine pm_blk (pc' := 18) (L' := [(0, .ref 5), (1, .int a1)]) (S' := [.long (u.2 8 a1.toNatClampNeg)]) (M' := sm g u) [] (by decide +kernel) rfl ?_
      refine pm_goto (off := 4) 22 (by decide +kernel) (by decide) ?_
      have h9 := Option.some.inj h
      subst h9
      exact pm_retl rfl (by decide +kernel) rfl rfl rfl
def F_Tokens_size (g : pm_s) (u : pm_J) : Option (Int32) := some (u.1 5 5)
set_option maxHeartbeats 4000000 in
set_option maxRecDepth 100000 in
theorem c_Tokens_size (l : Launch) (h0 : Nat) (D : pm_D) {g : pm_s} {u : pm_J} (hT : sh_T g) {out : Int32} (h : F_Tokens_size g u = some out) : pm_C l h0 D m_Tokens_size (0) [.ref 5] (sm g u) (some (.int out)) (sm g u) := by
  unfold F_Tokens_size at h
  refine pm_met (by decide +kernel) (Nat.le_of_ble_eq_true rfl) (Nat.le_refl _) (Nat.le_refl _) ?_
  intro p e R s m args below meth c
  refine pm_blk (pc' := 4) (L' := [(0, .ref 5)]) (S' := [.int (u.1 5 5)]) (M' := sm g u) [pm_o (.aload_n 0), pm_of (.getfield 45) 9 5 0] (by decide +kernel) rfl ?_
  have h9 := Option.some.inj h
  subst h9
  exact pm_reti rfl (by decide +kernel) rfl rfl rfl
def F_Tokens_octetAt_1 (a2 : Int32) (g : pm_s) (u : pm_J) : Option (Int32) := if a2 < 0 then some (-1) else if (u.1 5 6) ≤ a2 then some (-1) else if (Nat.toInt32 3000) ≤ a2 then some (-1) else if pm_ok a2 3000 = true then some (u.1 1 a2.toNatClampNeg) else none
set_option maxHeartbeats 4000000 in
set_option maxRecDepth 100000 in
theorem c_Tokens_octetAt_1 (l : Launch) (h0 : Nat) (D : pm_D) {g : pm_s} {u : pm_J} (hT : sh_T g) {a2 : Int32} {out : Int32} (h : F_Tokens_octetAt_1 a2 g u = some out) : pm_C l h0 D m_Tokens_octetAt (0) [.ref 5, .ref 1, .int a2] (sm g u) (some (.int out)) (sm g u) := by
  unfold F_Tokens_octetAt_1 at h
  refine pm_met (by decide +kernel) (Nat.le_of_ble_eq_true rfl) (Nat.le_refl _) (Nat.le_refl _) ?_
  intro p e R s m args below meth c
  refine pm_blk (pc' := 1) (L' := [(0, .ref 5), (1, .ref 1), (2, .int a2)]) (S' := [.int a2]) (M' := sm g u) [pm_o (.iload_n 2)] (by decide +kernel) rfl ?_
  refine pm_if_lt (off := 23) 24 (by decide +kernel) (by decide) (fun hc1 => ?_) (fun hc1 => ?_)
  · rw [if_pos hc1] at h
    refine pm_blk (pc' := 25) (L' := [(0, .ref 5), (1, .ref 1), (2, .int a2)]) (S' := [.int (-1)]) (M' := sm g u) [pm_oi (.iconst (-1)) (-1)] (by decide +kernel) rfl ?_
    have h9 := Option.some.inj h
    subst h9
    exact pm_reti rfl (by decide +kernel) rfl rfl rfl
  · rw [if_neg hc1] at h
    refine pm_blk (pc' := 9) (L' := [(0, .ref 5), (1, .ref 1), (2, .int a2)]) (S' := [.int (u.1 5 6), .int a2]) (M' := sm g u) [pm_o (.iload_n 2), pm_o (.aload_n 0), pm_of (.getfield 49) 9 6 0] (by decide +kernel) rfl ?_
    refine pm_ic_ge (off := 15) 24 (by decide +kernel) (by decide) (fun hc2 => ?_) (fun hc2 => ?_)
    · rw [if_pos hc2] at h
      refine pm_blk (pc' := 25) (L' := [(0, .ref 5), (1, .ref 1), (2, .int a2)]) (S' := [.int (-1)]) (M' := sm g u) [pm_oi (.iconst (-1)) (-1)] (by decide +kernel) rfl ?_
      have h9 := Option.some.inj h
      subst h9
      exact pm_reti rfl (by decide +kernel) rfl rfl rfl
    · rw [if_neg hc2] at h
      refine pm_blk (pc' := 15) (L' := [(0, .ref 5), (1, .ref 1), (2, .int a2)]) (S' := [.int (Nat.toInt32 3000), .int a2]) (M' := sm g u) [pm_o (.iload_n 2), pm_o (.aload_n 1), pm_o .arraylength] (by decide +kernel) rfl ?_
      refine pm_ic_ge (off := 9) 24 (by decide +kernel) (by decide) (fun hc3 => ?_) (fun hc3 => ?_)
      · rw [if_pos hc3] at h
        refine pm_blk (pc' := 25) (L' := [(0, .ref 5), (1, .ref 1), (2, .int a2)]) (S' := [.int (-1)]) (M' := sm g u) [pm_oi (.iconst (-1)) (-1)] (by decide +kernel) rfl ?_
        have h9 := Option.some.inj h
        subst h9
        exact pm_reti rfl (by decide +kernel) rfl rfl rfl
      · rw [if_neg hc3] at h
        refine pm_blk (pc' := 20) (L' := [(0, .ref 5), (1, .ref 1), (2, .int a2)]) (S' := [.int a2, .ref 1]) (M' := sm g u) [pm_o (.aload_n 1), pm_o (.iload_n 2)] (by decide +kernel) rfl ?_
        obtain ⟨ho4, h⟩ := pm_ifs h
        refine pm_iald (by decide +kernel) rfl (pm_ok_in ho4) ?_
        refine pm_blk (pc' := 21) (L' := [(0, .ref 5), (1, .ref 1), (2, .int a2)]) (S' := [.int (u.1 1 a2.toNatClampNeg)]) (M' := sm g u) [] (by decide +kernel) rfl ?_
        refine pm_goto (off := 4) 25 (by decide +kernel) (by decide) ?_
        have h9 := Option.some.inj h
        subst h9
        exact pm_reti rfl (by decide +kernel) rfl rfl rfl
def F_Tokens_isLetter (a1 : Int32) (g : pm_s) (u : pm_J) : Option (Int32) := if a1 < 97 then some 0 else if 122 < a1 then some 0 else some 1
set_option maxHeartbeats 4000000 in
set_option maxRecDepth 100000 in
theorem c_Tokens_isLetter (l : Launch) (h0 : Nat) (D : pm_D) {g : pm_s} {u : pm_J} (hT : sh_T g) {a1 : Int32} {out : Int32} (h : F_Tokens_isLetter a1 g u = some out) : pm_C l h0 D m_Tokens_isLetter (0) [.int a1] (sm g u) (some (.int out)) (sm g u) := by
  unfold F_Tokens_isLetter at h
  refine pm_met (by decide +kernel) (Nat.le_of_ble_eq_true rfl) (Nat.le_refl _) (Nat.le_refl _) ?_
  intro p e R s m args below meth c
  refine pm_blk (pc' := 3) (L' := [(0, .int a1)]) (S' := [.int 97, .int a1]) (M' := sm g u) [pm_o (.iload_n 0), pm_oi (.bipush 97) 97] (by decide +kernel) rfl ?_
  refine pm_ic_lt (off := 13) 16 (by decide +kernel) (by decide) (fun hc1 => ?_) (fun hc1 => ?_)
  · rw [if_pos hc1] at h
    refine pm_blk (pc' := 17) (L' := [(0, .int a1)]) (S' := [.int 0]) (M' := sm g u) [pm_oi (.iconst 0) 0] (by decide +kernel) rfl ?_
    have h9 := Option.some.inj h
    subst h9
    exact pm_retz rfl (by decide +kernel) rfl rfl rfl rfl
  · rw [if_neg hc1] at h
    refine pm_blk (pc' := 9) (L' := [(0, .int a1)]) (S' := [.int 122, .int a1]) (M' := sm g u) [pm_o (.iload_n 0), pm_oi (.bipush 122) 122] (by decide +kernel) rfl ?_
    refine pm_ic_gt (off := 7) 16 (by decide +kernel) (by decide) (fun hc2 => ?_) (fun hc2 => ?_)
    · rw [if_pos hc2] at h
      refine pm_blk (pc' := 17) (L' := [(0, .int a1)]) (S' := [.int 0]) (M' := sm g u) [pm_oi (.iconst 0) 0] (by decide +kernel) rfl ?_
      have h9 := Option.some.inj h
      subst h9
      exact pm_retz rfl (by decide +kernel) rfl rfl rfl rfl
    · rw [if_neg hc2] at h
      refine pm_blk (pc' := 13) (L' := [(0, .int a1)]) (S' := [.int 1]) (M' := sm g u) [pm_oi (.iconst 1) 1] (by decide +kernel) rfl ?_
      refine pm_goto (off := 4) 17 (by decide +kernel) (by decide) ?_
      have h9 := Option.some.inj h
      subst h9
      exact pm_retz rfl (by decide +kernel) rfl rfl rfl rfl
def F_Tokens_isDigit (a1 : Int32) (g : pm_s) (u : pm_J) : Option (Int32) := if a1 < 48 then some 0 else if 57 < a1 then some 0 else some 1
set_option maxHeartbeats 4000000 in
set_option maxRecDepth 100000 in
theorem c_Tokens_isDigit (l : Launch) (h0 : Nat) (D : pm_D) {g : pm_s} {u : pm_J} (hT : sh_T g) {a1 : Int32} {out : Int32} (h : F_Tokens_isDigit a1 g u = some out) : pm_C l h0 D m_Tokens_isDigit (0) [.int a1] (sm g u) (some (.int out)) (sm g u) := by
  unfold F_Tokens_isDigit at h
  refine pm_met (by decide +kernel) (Nat.le_of_ble_eq_true rfl) (Nat.le_refl _) (Nat.le_refl _) ?_
  intro p e R s m args below meth c
  refine pm_blk (pc' := 3) (L' := [(0, .int a1)]) (S' := [.int 48, .int a1]) (M' := sm g u) [pm_o (.iload_n 0), pm_oi (.bipush 48) 48] (by decide +kernel) rfl ?_
  refine pm_ic_lt (off := 13) 16 (by decide +kernel) (by decide) (fun hc1 => ?_) (fun hc1 => ?_)
  · rw [if_pos hc1] at h
    refine pm_blk (pc' := 17) (L' := [(0, .int a1)]) (S' := [.int 0]) (M' := sm g u) [pm_oi (.iconst 0) 0] (by decide +kernel) rfl ?_
    have h9 := Option.some.inj h
    subst h9
    exact pm_retz rfl (by decide +kernel) rfl rfl rfl rfl
  · rw [if_neg hc1] at h
    refine pm_blk (pc' := 9) (L' := [(0, .int a1)]) (S' := [.int 57, .int a1]) (M' := sm g u) [pm_o (.iload_n 0), pm_oi (.bipush 57) 57] (by decide +kernel) rfl ?_
    refine pm_ic_gt (off := 7) 16 (by decide +kernel) (by decide) (fun hc2 => ?_) (fun hc2 => ?_)
    · rw [if_pos hc2] at h
      refine pm_blk (pc' := 17) (L' := [(0, .int a1)]) (S' := [.int 0]) (M' := sm g u) [pm_oi (.iconst 0) 0] (by decide +kernel) rfl ?_
      have h9 := Option.some.inj h
      subst h9
      exact pm_retz rfl (by decide +kernel) rfl rfl rfl rfl
    · rw [if_neg hc2] at h
      refine pm_blk (pc' := 13) (L' := [(0, .int a1)]) (S' := [.int 1]) (M' := sm g u) [pm_oi (.iconst 1) 1] (by decide +kernel) rfl ?_
      refine pm_goto (off := 4) 17 (by decide +kernel) (by decide) ?_
      have h9 := Option.some.inj h
      subst h9
      exact pm_retz rfl (by decide +kernel) rfl rfl rfl rfl
def F_Tokens_add (a1 : Int32) (a2 : Int32) (a3 : Int64) (g : pm_s) (u : pm_J) : Option (pm_J) := if 900 ≤ (u.1 5 5) then some u else if pm_ok (u.1 5 5) 900 = true then if pm_ok (u.1 5 5) 900 = true then if pm_ok (u.1 5 5) 900 = true then some (wi (wj (wi (wi u 6 ((u.1 5 5).toNatClampNeg) a1) 7 ((u.1 5 5).toNatClampNeg) a2) 8 ((u.1 5 5).toNatClampNeg) a3) 5 5 ((u.1 5 5) + 1)) else none else none else none
set_option maxHeartbeats 4000000 in
set_option maxRecDepth 100000 in
theorem c_Tokens_add (l : Launch) (h0 : Nat) (D : pm_D) {g : pm_s} {u : pm_J} (hT : sh_T g) {a1 : Int32} {a2 : Int32} {a3 : Int64} {out : pm_J} (h : F_Tokens_add a1 a2 a3 g u = some out) : pm_C l h0 D m_Tokens_add (0) [.ref 5, .int a1, .int a2, .long a3] (sm g u) none (sm g out) := by
  unfold F_Tokens_add at h
  refine pm_met (by decide +kernel) (Nat.le_of_ble_eq_true rfl) (Nat.le_refl _) (Nat.le_refl _) ?_
  intro p e R s m args below meth c
  refine pm_blk (pc' := 7) (L' := [(0, .ref 5), (1, .int a1), (2, .int a2), (3, .long a3)]) (S' := [.int 900, .int (u.1 5 5)]) (M' := sm g u) [pm_o (.aload_n 0), pm_of (.getfield 45) 9 5 0, pm_oi (.sipush 900) 900] (by decide +kernel) rfl ?_
  refine pm_ic_ge (off := 43) 50 (by decide +kernel) (by decide) (fun hc1 => ?_) (fun hc1 => ?_)
  · rw [if_pos hc1] at h
    have h9 := Option.some.inj h
    subst h9
    exact pm_retv rfl (by decide +kernel) rfl rfl
  · rw [if_neg hc1] at h
    refine pm_blk (pc' := 19) (L' := [(0, .ref 5), (1, .int a1), (2, .int a2), (3, .long a3)]) (S' := [.int a1, .int (u.1 5 5), .ref 6]) (M' := sm g u) [pm_o (.aload_n 0), pm_of (.getfield 15) 9 1 2, pm_o (.aload_n 0), pm_of (.getfield 45) 9 5 0, pm_o (.iload_n 1)] (by decide +kernel) rfl ?_
    obtain ⟨ho2, h⟩ := pm_ifs h
    refine pm_iast (by decide +kernel) rfl  (pm_ok_in ho2) ?_
    refine pm_blk (pc' := 29) (L' := [(0, .ref 5), (1, .int a1), (2, .int a2), (3, .long a3)]) (S' := [.int a2, .int (u.1 5 5), .ref 7]) (M' := sm g (wi u 6 ((u.1 5 5).toNatClampNeg) a1)) [pm_o (.aload_n 0), pm_of (.getfield 19) 9 2 2, pm_o (.aload_n 0), pm_of (.getfield 45) 9 5 0, pm_o (.iload_n 2)] (by decide +kernel) rfl ?_
    obtain ⟨ho3, h⟩ := pm_ifs h
    refine pm_iast (by decide +kernel) rfl  (pm_ok_in ho3) ?_
    refine pm_blk (pc' := 39) (L' := [(0, .ref 5), (1, .int a1), (2, .int a2), (3, .long a3)]) (S' := [.long a3, .int (u.1 5 5), .ref 8]) (M' := sm g (wi (wi u 6 ((u.1 5 5).toNatClampNeg) a1) 7 ((u.1 5 5).toNatClampNeg) a2)) [pm_o (.aload_n 0), pm_of (.getfield 22) 9 3 2, pm_o (.aload_n 0), pm_of (.getfield 45) 9 5 0, pm_o (.lload_n 3)] (by decide +kernel) rfl ?_
    obtain ⟨ho4, h⟩ := pm_ifs h
    refine pm_last (by decide +kernel) rfl  (pm_ok_in ho4) ?_
    refine pm_blk (pc' := 50) (L' := [(0, .ref 5), (1, .int a1), (2, .int a2), (3, .long a3)]) (S' := []) (M' := sm g (wi (wj (wi (wi u 6 ((u.1 5 5).toNatClampNeg) a1) 7 ((u.1 5 5).toNatClampNeg) a2) 8 ((u.1 5 5).toNatClampNeg) a3) 5 5 ((u.1 5 5) + 1))) [pm_o (.aload_n 0), pm_o .dup, pm_of (.getfield 45) 9 5 0, pm_oi (.iconst 1) 1, pm_o .iadd, pm_of (.putfield 45) 9 5 0] (by decide +kernel) rfl ?_
    have h9 := Option.some.inj h
    subst h9
    exact pm_retv rfl (by decide +kernel) rfl rfl
def F_Tokens_hexDigit (a1 : Int32) (g : pm_s) (u : pm_J) : Option (Int32) := (F_Tokens_isDigit a1 g u).bind fun q1 => if q1 = 0 then if a1 < 97 then some (-1) else if 102 < a1 then some (-1) else some ((a1 - 97) + 10) else some (a1 - 48)
set_option maxHeartbeats 4000000 in
set_option maxRecDepth 100000 in
theorem c_Tokens_hexDigit (l : Launch) (h0 : Nat) (D : pm_D) {g : pm_s} {u : pm_J} (hT : sh_T g) {a1 : Int32} {out : Int32} (h : F_Tokens_hexDigit a1 g u = some out) : pm_C l h0 D m_Tokens_hexDigit (1) [.int a1] (sm g u) (some (.int out)) (sm g u) := by
  unfold F_Tokens_hexDigit at h
  refine pm_met (by decide +kernel) (Nat.le_of_ble_eq_true rfl) (Nat.le_refl _) (Nat.le_refl _) ?_
  intro p e R s m args below meth c
  refine pm_blk (pc' := 1) (L' := [(0, .int a1)]) (S' := [.int a1]) (M' := sm g u) [pm_o (.iload_n 0)] (by decide +kernel) rfl ?_
  obtain ⟨q1, hq1, h⟩ := pm_bd h
  refine pm_cS (idx := 84) m_Tokens_isDigit (c_Tokens_isDigit l h0 D hT hq1) (As := [.int a1]) (S0 := []) rfl (by decide +kernel) k_Tokens_isDigit l_Tokens_84 (Nat.le_of_ble_eq_true rfl) (Nat.le_of_ble_eq_true rfl) (Nat.le_refl _) (Nat.le_refl _) ?_
  refine pm_blk (pc' := 4) (L' := [(0, .int a1)]) (S' := [.int q1]) (M' := sm g u) [] (by decide +kernel) rfl ?_
  refine pm_if_eq (off := 8) 12 (by decide +kernel) (by decide) (fun hc2 => ?_) (fun hc2 => ?_)
  · rw [if_pos hc2] at h
    refine pm_blk (pc' := 15) (L' := [(0, .int a1)]) (S' := [.int 97, .int a1]) (M' := sm g u) [pm_o (.iload_n 0), pm_oi (.bipush 97) 97] (by decide +kernel) rfl ?_
    refine pm_ic_lt (off := 19) 34 (by decide +kernel) (by decide) (fun hc3 => ?_) (fun hc3 => ?_)
    · rw [if_pos hc3] at h
      refine pm_blk (pc' := 35) (L' := [(0, .int a1)]) (S' := [.int (-1)]) (M' := sm g u) [pm_oi (.iconst (-1)) (-1)] (by decide +kernel) rfl ?_
      have h9 := Option.some.inj h
      subst h9
      exact pm_reti rfl (by decide +kernel) rfl rfl rfl
    · rw [if_neg hc3] at h
      refine pm_blk (pc' := 21) (L' := [(0, .int a1)]) (S' := [.int 102, .int a1]) (M' := sm g u) [pm_o (.iload_n 0), pm_oi (.bipush 102) 102] (by decide +kernel) rfl ?_
      refine pm_ic_gt (off := 13) 34 (by decide +kernel) (by decide) (fun hc4 => ?_) (fun hc4 => ?_)
      · rw [if_pos hc4] at h
        refine pm_blk (pc' := 35) (L' := [(0, .int a1)]) (S' := [.int (-1)]) (M' := sm g u) [pm_oi (.iconst (-1)) (-1)] (by decide +kernel) rfl ?_
        have h9 := Option.some.inj h
        subst h9
        exact pm_reti rfl (by decide +kernel) rfl rfl rfl
      · rw [if_neg hc4] at h
        refine pm_blk (pc' := 31) (L' := [(0, .int a1)]) (S' := [.int ((a1 - 97) + 10)]) (M' := sm g u) [pm_o (.iload_n 0), pm_oi (.bipush 97) 97, pm_o .isub, pm_oi (.bipush 10) 10, pm_o .iadd] (by decide +kernel) rfl ?_
        refine pm_goto (off := 4) 35 (by decide +kernel) (by decide) ?_
        have h9 := Option.some.inj h
        subst h9
        exact pm_reti rfl (by decide +kernel) rfl rfl rfl
  · rw [if_neg hc2] at h
    refine pm_blk (pc' := 11) (L' := [(0, .int a1)]) (S' := [.int (a1 - 48)]) (M' := sm g u) [pm_o (.iload_n 0), pm_oi (.bipush 48) 48, pm_o .isub] (by decide +kernel) rfl ?_
    have h9 := Option.some.inj h
    subst h9
    exact pm_reti rfl (by decide +kernel) rfl rfl rfl
def K_Tokens_scanBits_1_72 (N : Nat) (g : pm_s) (x2 : Int32) (x5 : Int32) (u : pm_J) : Option (Int32 × pm_J) := (F_Fault_tell_3 1 x2 g u).bind fun q3 => some (x5 - x2, q3)
set_option maxHeartbeats 4000000 in
set_option maxRecDepth 100000 in
theorem w_Tokens_scanBits_1_72 (l : Launch) (h0 : Nat) (D : pm_D) {g : pm_s} (hT : sh_T g) {N : Nat} {u0 : pm_J} {out : Int32 × pm_J} {p : Program} {e : Env} {R : Room} {s : State} {m : MethodId} {args : Array Value} {below : List Frame} {meth : Method} {c : Code} : ∀ (x2 : Int32) (x5 : Int32) (u : pm_J), K_Tokens_scanBits_1_72 N g x2 x5 u = some out → pm_V (p, l, e, R, s, m, args, below, meth, c) m_Tokens_scanBits h0 D (g.1, g.2.1, g.1, g.2.1, 2) (pm_E (p, l, e, R, s, m, args, below, meth, c) h0 D (sm g u0) (some (.int out.1)) (sm g out.2)) 72 [(0, .ref 5), (2, .int x2), (5, .int x5)] [] (sm g u) := by
    intro x2 x5 u h
    unfold K_Tokens_scanBits_1_72 at h
    refine pm_blk (pc' := 78) (L' := [(0, .ref 5), (2, .int x2), (5, .int x5)]) (S' := [.int x2, .int 1, .ref 3]) (M' := sm g u) [pm_o (.aload_n 0), pm_of (.getfield 9) 9 0 2, pm_oi (.iconst 1) 1, pm_o (.iload_n 2)] (by decide +kernel) rfl ?_
    obtain ⟨q3, hq3, h⟩ := pm_bd h
    refine pm_cV (idx := 63) m_Fault_tell (c_Fault_tell_3 l h0 D hT hq3) (As := [.int 1, .int x2]) (S0 := []) rfl (by decide +kernel) k_Fault_tell l_Tokens_63 (Nat.le_of_ble_eq_true rfl) (Nat.le_of_ble_eq_true rfl) (Nat.le_refl _) (Nat.le_refl _) ?_
    refine pm_blk (pc' := 81) (L' := [(0, .ref 5), (2, .int x2), (5, .int x5)]) (S' := []) (M' := sm g q3) [] (by decide +kernel) rfl ?_
    refine pm_goto (off := 10) 91 (by decide +kernel) (by decide) ?_
    refine pm_blk (pc' := 95) (L' := [(0, .ref 5), (2, .int x2), (5, .int x5)]) (S' := [.int (x5 - x2)]) (M' := sm g q3) [pm_o (.iload 5), pm_o (.iload_n 2), pm_o .isub] (by decide +kernel) rfl ?_
    have h9 := Option.some.inj h
    subst h9
    exact pm_reti rfl (by decide +kernel) rfl rfl rfl
def K_Tokens_scanBits_1_51 (N : Nat) (g : pm_s) (x2 : Int32) (y3 : Int64) (x5 : Int32) (u : pm_J) : Option (Int32 × pm_J) := if ((x5 - x2) - 1) < 1 then K_Tokens_scanBits_1_72 N g x2 x5 u else if ((x5 - x2) - 1) ≤ 16 then (F_Tokens_add 3 x2 y3 g u).bind fun q5 => some (x5 - x2, q5) else K_Tokens_scanBits_1_72 N g x2 x5 u
set_option maxHeartbeats 4000000 in
set_option maxRecDepth 100000 in
theorem w_Tokens_scanBits_1_51 (l : Launch) (h0 : Nat) (D : pm_D) {g : pm_s} (hT : sh_T g) {N : Nat} {u0 : pm_J} {out : Int32 × pm_J} {p : Program} {e : Env} {R : Room} {s : State} {m : MethodId} {args : Array Value} {below : List Frame} {meth : Method} {c : Code} : ∀ (x2 : Int32) (y3 : Int64) (x5 : Int32) (u : pm_J), K_Tokens_scanBits_1_51 N g x2 y3 x5 u = some out → pm_V (p, l, e, R, s, m, args, below, meth, c) m_Tokens_scanBits h0 D (g.1, g.2.1, g.1, g.2.1, 2) (pm_E (p, l, e, R, s, m, args, below, meth, c) h0 D (sm g u0) (some (.int out.1)) (sm g out.2)) 51 [(0, .ref 5), (2, .int x2), (3, .long y3), (5, .int x5)] [] (sm g u) := by
    intro x2 y3 x5 u h
    unfold K_Tokens_scanBits_1_51 at h
    refine pm_blk (pc' := 62) (L' := [(6, .int ((x5 - x2) - 1)), (0, .ref 5), (2, .int x2), (3, .long y3), (5, .int x5)]) (S' := [.int 1, .int ((x5 - x2) - 1)]) (M' := sm g u) [pm_o (.iload 5), pm_o (.iload_n 2), pm_o .isub, pm_oi (.iconst 1) 1, pm_o .isub, pm_o (.istore 6), pm_o (.iload 6), pm_oi (.iconst 1) 1] (by decide +kernel) rfl ?_
    refine pm_ic_lt (off := 10) 72 (by decide +kernel) (by decide) (fun hc2 => ?_) (fun hc2 => ?_)
    · rw [if_pos hc2] at h
      refine pm_loc [1, 2, 4] rfl ?_
      exact w_Tokens_scanBits_1_72 l h0 D hT x2 x5 u h
    · rw [if_neg hc2] at h
      refine pm_blk (pc' := 69) (L' := [(6, .int ((x5 - x2) - 1)), (0, .ref 5), (2, .int x2), (3, .long y3), (5, .int x5)]) (S' := [.int 16, .int ((x5 - x2) - 1)]) (M' := sm g u) [pm_o (.iload 6), pm_oi (.bipush 16) 16] (by decide +kernel) rfl ?_
      refine pm_ic_le (off := 15) 84 (by decide +kernel) (by decide) (fun hc4 => ?_) (fun hc4 => ?_)
      · rw [if_pos hc4] at h
        refine pm_blk (pc' := 88) (L' := [(6, .int ((x5 - x2) - 1)), (0, .ref 5), (2, .int x2), (3, .long y3), (5, .int x5)]) (S' := [.long y3, .int x2, .int 3, .ref 5]) (M' := sm g u) [pm_o (.aload_n 0), pm_oi (.iconst 3) 3, pm_o (.iload_n 2), pm_o (.lload_n 3)] (by decide +kernel) rfl ?_
        obtain ⟨q5, hq5, h⟩ := pm_bd h
        refine pm_cV (idx := 103) m_Tokens_add (c_Tokens_add l h0 D hT hq5) (As := [.int 3, .int x2, .long y3]) (S0 := []) rfl (by decide +kernel) k_Tokens_add l_Tokens_103 (Nat.le_of_ble_eq_true rfl) (Nat.le_of_ble_eq_true rfl) (Nat.le_refl _) (Nat.le_refl _) ?_
        refine pm_blk (pc' := 95) (L' := [(6, .int ((x5 - x2) - 1)), (0, .ref 5), (2, .int x2), (3, .long y3), (5, .int x5)]) (S' := [.int (x5 - x2)]) (M' := sm g q5) [pm_o (.iload 5), pm_o (.iload_n 2), pm_o .isub] (by decide +kernel) rfl ?_
        have h9 := Option.some.inj h
        subst h9
        exact pm_reti rfl (by decide +kernel) rfl rfl rfl
      · rw [if_neg hc4] at h
        refine pm_loc [1, 2, 4] rfl ?_
        exact w_Tokens_scanBits_1_72 l h0 D hT x2 x5 u h
def K_Tokens_scanBits_1_7 (N : Nat) (g : pm_s) : Nat → Int32 → Int64 → Int32 → pm_J → Option (Int32 × pm_J)
  | 0, _, _, _, _ => none
  | n + 1, x2, y3, x5, u => if (u.1 5 6) ≤ x5 then K_Tokens_scanBits_1_51 N g x2 y3 x5 u else (F_Tokens_octetAt_1 x5 g u).bind fun q6 => (F_Tokens_hexDigit q6 g u).bind fun q7 => if q7 < 0 then K_Tokens_scanBits_1_51 N g x2 y3 x5 u else (F_Tokens_octetAt_1 x5 g u).bind fun q9 => (F_Tokens_hexDigit q9 g u).bind fun q10 => K_Tokens_scanBits_1_7 N g  n x2 ((y3 <<< ((4 : Int32).toInt64 &&& 63)) ||| q10.toInt64) (x5 + 1) u
set_option maxHeartbeats 4000000 in
set_option maxRecDepth 100000 in
theorem w_Tokens_scanBits_1_7 (l : Launch) (h0 : Nat) (D : pm_D) {g : pm_s} (hT : sh_T g) {N : Nat} {u0 : pm_J} {out : Int32 × pm_J} {p : Program} {e : Env} {R : Room} {s : State} {m : MethodId} {args : Array Value} {below : List Frame} {meth : Method} {c : Code} : ∀ (n : Nat) (x2 : Int32) (y3 : Int64) (x5 : Int32) (u : pm_J), K_Tokens_scanBits_1_7 N g n x2 y3 x5 u = some out → pm_V (p, l, e, R, s, m, args, below, meth, c) m_Tokens_scanBits h0 D (g.1, g.2.1, g.1, g.2.1, 2) (pm_E (p, l, e, R, s, m, args, below, meth, c) h0 D (sm g u0) (some (.int out.1)) (sm g out.2)) 7 [(0, .ref 5), (1, .ref 1), (2, .int x2), (3, .long y3), (5, .int x5)] [] (sm g u) := by
  intro n
  induction n with
  | zero => intro x2 y3 x5 u h; cases h
  | succ n ih =>
    intro x2 y3 x5 u h
    rw [K_Tokens_scanBits_1_7] at h
    refine pm_blk (pc' := 13) (L' := [(0, .ref 5), (1, .ref 1), (2, .int x2), (3, .long y3), (5, .int x5)]) (S' := [.int (u.1 5 6), .int x5]) (M' := sm g u) [pm_o (.iload 5), pm_o (.aload_n 0), pm_of (.getfield 49) 9 6 0] (by decide +kernel) rfl ?_
    refine pm_ic_ge (off := 38) 51 (by decide +kernel) (by decide) (fun hc1 => ?_) (fun hc1 => ?_)
    · rw [if_pos hc1] at h
      refine pm_loc [0, 2, 3, 4] rfl ?_
      exact w_Tokens_scanBits_1_51 l h0 D hT x2 y3 x5 u h
    · rw [if_neg hc1] at h
      refine pm_blk (pc' := 20) (L' := [(0, .ref 5), (1, .ref 1), (2, .int x2), (3, .long y3), (5, .int x5)]) (S' := [.int x5, .ref 1, .ref 5]) (M' := sm g u) [pm_o (.aload_n 0), pm_o (.aload_n 1), pm_o (.iload 5)] (by decide +kernel) rfl ?_
      obtain ⟨q6, hq6, h⟩ := pm_bd h
      refine pm_cV (idx := 74) m_Tokens_octetAt (c_Tokens_octetAt_1 l h0 D hT hq6) (As := [.ref 1, .int x5]) (S0 := []) rfl (by decide +kernel) k_Tokens_octetAt l_Tokens_74 (Nat.le_of_ble_eq_true rfl) (Nat.le_of_ble_eq_true rfl) (Nat.le_refl _) (Nat.le_refl _) ?_
      refine pm_blk (pc' := 23) (L' := [(0, .ref 5), (1, .ref 1), (2, .int x2), (3, .long y3), (5, .int x5)]) (S' := [.int q6]) (M' := sm g u) [] (by decide +kernel) rfl ?_
      obtain ⟨q7, hq7, h⟩ := pm_bd h
      refine pm_cS (idx := 113) m_Tokens_hexDigit (c_Tokens_hexDigit l h0 D hT hq7) (As := [.int q6]) (S0 := []) rfl (by decide +kernel) k_Tokens_hexDigit l_Tokens_113 (Nat.le_of_ble_eq_true rfl) (Nat.le_of_ble_eq_true rfl) (Nat.le_refl _) (Nat.le_refl _) ?_
      refine pm_blk (pc' := 26) (L' := [(0, .ref 5), (1, .ref 1), (2, .int x2), (3, .long y3), (5, .int x5)]) (S' := [.int q7]) (M' := sm g u) [] (by decide +kernel) rfl ?_
      refine pm_if_lt (off := 25) 51 (by decide +kernel) (by decide) (fun hc8 => ?_) (fun hc8 => ?_)
      · rw [if_pos hc8] at h
        refine pm_loc [0, 2, 3, 4] rfl ?_
        exact w_Tokens_scanBits_1_51 l h0 D hT x2 y3 x5 u h
      · rw [if_neg hc8] at h
        refine pm_blk (pc' := 36) (L' := [(0, .ref 5), (1, .ref 1), (2, .int x2), (3, .long y3), (5, .int x5)]) (S' := [.int x5, .ref 1, .ref 5, .long (y3 <<< ((4 : Int32).toInt64 &&& 63))]) (M' := sm g u) [pm_o (.lload_n 3), pm_oi (.iconst 4) 4, pm_o .lshl, pm_o (.aload_n 0), pm_o (.aload_n 1), pm_o (.iload 5)] (by decide +kernel) rfl ?_
        obtain ⟨q9, hq9, h⟩ := pm_bd h
        refine pm_cV (idx := 74) m_Tokens_octetAt (c_Tokens_octetAt_1 l h0 D hT hq9) (As := [.ref 1, .int x5]) (S0 := [.long (y3 <<< ((4 : Int32).toInt64 &&& 63))]) rfl (by decide +kernel) k_Tokens_octetAt l_Tokens_74 (Nat.le_of_ble_eq_true rfl) (Nat.le_of_ble_eq_true rfl) (Nat.le_refl _) (Nat.le_refl _) ?_
        refine pm_blk (pc' := 39) (L' := [(0, .ref 5), (1, .ref 1), (2, .int x2), (3, .long y3), (5, .int x5)]) (S' := [.int q9, .long (y3 <<< ((4 : Int32).toInt64 &&& 63))]) (M' := sm g u) [] (by decide +kernel) rfl ?_
        obtain ⟨q10, hq10, h⟩ := pm_bd h
        refine pm_cS (idx := 113) m_Tokens_hexDigit (c_Tokens_hexDigit l h0 D hT hq10) (As := [.int q9]) (S0 := [.long (y3 <<< ((4 : Int32).toInt64 &&& 63))]) rfl (by decide +kernel) k_Tokens_hexDigit l_Tokens_113 (Nat.le_of_ble_eq_true rfl) (Nat.le_of_ble_eq_true rfl) (Nat.le_refl _) (Nat.le_refl _) ?_
        refine pm_blk (pc' := 48) (L' := [(5, .int (x5 + 1)), (3, .long ((y3 <<< ((4 : Int32).toInt64 &&& 63)) ||| q10.toInt64)), (0, .ref 5), (1, .ref 1), (2, .int x2)]) (S' := []) (M' := sm g u) [pm_o .i2l, pm_o .lor, pm_o (.lstore_n 3), pm_oi (.iinc 5 1) 1] (by decide +kernel) rfl ?_
        refine pm_goto (off := -41) 7 (by decide +kernel) (by decide) ?_
        refine pm_loc [2, 3, 4, 1, 0] rfl ?_
        exact ih x2 ((y3 <<< ((4 : Int32).toInt64 &&& 63)) ||| q10.toInt64) (x5 + 1) u h
def F_Tokens_scanBits_1 (N : Nat) (a2 : Int32) (g : pm_s) (u : pm_J) : Option (Int32 × pm_J) := K_Tokens_scanBits_1_7 N g N a2 0 (a2 + 1) u
set_option maxHeartbeats 4000000 in
set_option maxRecDepth 100000 in
theorem c_Tokens_scanBits_1 (l : Launch) (h0 : Nat) (D : pm_D) {g : pm_s} {u : pm_J} (hT : sh_T g) {N : Nat} {a2 : Int32} {out : Int32 × pm_J} (h : F_Tokens_scanBits_1 N a2 g u = some out) : pm_C l h0 D m_Tokens_scanBits (2) [.ref 5, .ref 1, .int a2] (sm g u) (some (.int out.1)) (sm g out.2) := by
  unfold F_Tokens_scanBits_1 at h
  refine pm_met (by decide +kernel) (Nat.le_of_ble_eq_true rfl) (Nat.le_refl _) (Nat.le_refl _) ?_
  intro p e R s m args below meth c
  refine pm_blk (pc' := 7) (L' := [(5, .int (a2 + 1)), (3, .long 0), (0, .ref 5), (1, .ref 1), (2, .int a2)]) (S' := []) (M' := sm g u) [pm_ol (.lconst 0) 0, pm_o (.lstore_n 3), pm_o (.iload_n 2), pm_oi (.iconst 1) 1, pm_o .iadd, pm_o (.istore 5)] (by decide +kernel) rfl ?_
  refine pm_loc [2, 3, 4, 1, 0] rfl ?_
  exact w_Tokens_scanBits_1_7 l h0 D hT N a2 0 (a2 + 1) u h
def F_Tokens_scanLetter_1 (a2 : Int32) (g : pm_s) (u : pm_J) : Option (Int32 × pm_J) := (F_Tokens_octetAt_1 (a2 + 1) g u).bind fun q1 => if (q1 - 97) < 0 then (F_Fault_tell_3 1 a2 g u).bind fun q3 => some (2, q3) else if (q1 - 97) < 4 then (F_Tokens_add 4 a2 ((q1 - 97).toInt64) g u).bind fun q5 => some (2, q5) else (F_Fault_tell_3 1 a2 g u).bind fun q6 => some (2, q6)
set_option maxHeartbeats 4000000 in
set_option maxRecDepth 100000 in
theorem c_Tokens_scanLetter_1 (l : Launch) (h0 : Nat) (D : pm_D) {g : pm_s} {u : pm_J} (hT : sh_T g) {a2 : Int32} {out : Int32 × pm_J} (h : F_Tokens_scanLetter_1 a2 g u = some out) : pm_C l h0 D m_Tokens_scanLetter (1) [.ref 5, .ref 1, .int a2] (sm g u) (some (.int out.1)) (sm g out.2) := by
  unfold F_Tokens_scanLetter_1 at h
  refine pm_met (by decide +kernel) (Nat.le_of_ble_eq_true rfl) (Nat.le_refl _) (Nat.le_refl _) ?_
  intro p e R s m args below meth c
  refine pm_blk (pc' := 5) (L' := [(0, .ref 5), (1, .ref 1), (2, .int a2)]) (S' := [.int (a2 + 1), .ref 1, .ref 5]) (M' := sm g u) [pm_o (.aload_n 0), pm_o (.aload_n 1), pm_o (.iload_n 2), pm_oi (.iconst 1) 1, pm_o .iadd] (by decide +kernel) rfl ?_
  obtain ⟨q1, hq1, h⟩ := pm_bd h
  refine pm_cV (idx := 74) m_Tokens_octetAt (c_Tokens_octetAt_1 l h0 D hT hq1) (As := [.ref 1, .int (a2 + 1)]) (S0 := []) rfl (by decide +kernel) k_Tokens_octetAt l_Tokens_74 (Nat.le_of_ble_eq_true rfl) (Nat.le_of_ble_eq_true rfl) (Nat.le_refl _) (Nat.le_refl _) ?_
  refine pm_blk (pc' := 13) (L' := [(3, .int (q1 - 97)), (0, .ref 5), (1, .ref 1), (2, .int a2)]) (S' := [.int (q1 - 97)]) (M' := sm g u) [pm_oi (.bipush 97) 97, pm_o .isub, pm_o (.istore_n 3), pm_o (.iload_n 3)] (by decide +kernel) rfl ?_
  refine pm_if_lt (off := 8) 21 (by decide +kernel) (by decide) (fun hc2 => ?_) (fun hc2 => ?_)
  · rw [if_pos hc2] at h
    refine pm_blk (pc' := 27) (L' := [(3, .int (q1 - 97)), (0, .ref 5), (1, .ref 1), (2, .int a2)]) (S' := [.int a2, .int 1, .ref 3]) (M' := sm g u) [pm_o (.aload_n 0), pm_of (.getfield 9) 9 0 2, pm_oi (.iconst 1) 1, pm_o (.iload_n 2)] (by decide +kernel) rfl ?_
    obtain ⟨q3, hq3, h⟩ := pm_bd h
    refine pm_cV (idx := 63) m_Fault_tell (c_Fault_tell_3 l h0 D hT hq3) (As := [.int 1, .int a2]) (S0 := []) rfl (by decide +kernel) k_Fault_tell l_Tokens_63 (Nat.le_of_ble_eq_true rfl) (Nat.le_of_ble_eq_true rfl) (Nat.le_refl _) (Nat.le_refl _) ?_
    refine pm_blk (pc' := 30) (L' := [(3, .int (q1 - 97)), (0, .ref 5), (1, .ref 1), (2, .int a2)]) (S' := []) (M' := sm g q3) [] (by decide +kernel) rfl ?_
    refine pm_goto (off := 11) 41 (by decide +kernel) (by decide) ?_
    refine pm_blk (pc' := 42) (L' := [(3, .int (q1 - 97)), (0, .ref 5), (1, .ref 1), (2, .int a2)]) (S' := [.int 2]) (M' := sm g q3) [pm_oi (.iconst 2) 2] (by decide +kernel) rfl ?_
    have h9 := Option.some.inj h
    subst h9
    exact pm_reti rfl (by decide +kernel) rfl rfl rfl
  · rw [if_neg hc2] at h
    refine pm_blk (pc' := 18) (L' := [(3, .int (q1 - 97)), (0, .ref 5), (1, .ref 1), (2, .int a2)]) (S' := [.int 4, .int (q1 - 97)]) (M' := sm g u) [pm_o (.iload_n 3), pm_oi (.iconst 4) 4] (by decide +kernel) rfl ?_
    refine pm_ic_lt (off := 15) 33 (by decide +kernel) (by decide) (fun hc4 => ?_) (fun hc4 => ?_)
    · rw [if_pos hc4] at h
      refine pm_blk (pc' := 38) (L' := [(3, .int (q1 - 97)), (0, .ref 5), (1, .ref 1), (2, .int a2)]) (S' := [.long ((q1 - 97).toInt64), .int a2, .int 4, .ref 5]) (M' := sm g u) [pm_o (.aload_n 0), pm_oi (.iconst 4) 4, pm_o (.iload_n 2), pm_o (.iload_n 3), pm_o .i2l] (by decide +kernel) rfl ?_
      obtain ⟨q5, hq5, h⟩ := pm_bd h
      refine pm_cV (idx := 103) m_Tokens_add (c_Tokens_add l h0 D hT hq5) (As := [.int 4, .int a2, .long ((q1 - 97).toInt64)]) (S0 := []) rfl (by decide +kernel) k_Tokens_add l_Tokens_103 (Nat.le_of_ble_eq_true rfl) (Nat.le_of_ble_eq_true rfl) (Nat.le_refl _) (Nat.le_refl _) ?_
      refine pm_blk (pc' := 42) (L' := [(3, .int (q1 - 97)), (0, .ref 5), (1, .ref 1), (2, .int a2)]) (S' := [.int 2]) (M' := sm g q5) [pm_oi (.iconst 2) 2] (by decide +kernel) rfl ?_
      have h9 := Option.some.inj h
      subst h9
      exact pm_reti rfl (by decide +kernel) rfl rfl rfl
    · rw [if_neg hc4] at h
      refine pm_blk (pc' := 27) (L' := [(3, .int (q1 - 97)), (0, .ref 5), (1, .ref 1), (2, .int a2)]) (S' := [.int a2, .int 1, .ref 3]) (M' := sm g u) [pm_o (.aload_n 0), pm_of (.getfield 9) 9 0 2, pm_oi (.iconst 1) 1, pm_o (.iload_n 2)] (by decide +kernel) rfl ?_
      obtain ⟨q6, hq6, h⟩ := pm_bd h
      refine pm_cV (idx := 63) m_Fault_tell (c_Fault_tell_3 l h0 D hT hq6) (As := [.int 1, .int a2]) (S0 := []) rfl (by decide +kernel) k_Fault_tell l_Tokens_63 (Nat.le_of_ble_eq_true rfl) (Nat.le_of_ble_eq_true rfl) (Nat.le_refl _) (Nat.le_refl _) ?_
      refine pm_blk (pc' := 30) (L' := [(3, .int (q1 - 97)), (0, .ref 5), (1, .ref 1), (2, .int a2)]) (S' := []) (M' := sm g q6) [] (by decide +kernel) rfl ?_
      refine pm_goto (off := 11) 41 (by decide +kernel) (by decide) ?_
      refine pm_blk (pc' := 42) (L' := [(3, .int (q1 - 97)), (0, .ref 5), (1, .ref 1), (2, .int a2)]) (S' := [.int 2]) (M' := sm g q6) [pm_oi (.iconst 2) 2] (by decide +kernel) rfl ?_
      have h9 := Option.some.inj h
      subst h9
      exact pm_reti rfl (by decide +kernel) rfl rfl rfl
def K_Tokens_scanSign_1_36 (N : Nat) (g : pm_s) : Nat → Int32 → Int32 → pm_J → Option (Int32 × pm_J)
  | 0, _, _, _ => none
  | n + 1, x2, x3, u => if 10 ≤ x3 then (F_Fault_tell_3 1 x2 g u).bind fun q4 => some (1, q4) else if pm_ok x3 10 = true then (F_Tokens_octetAt_1 x2 g u).bind fun q6 => if (ks_ch 1 x3.toNatClampNeg) = q6 then (F_Tokens_add (15 + x3) x2 0 g u).bind fun q8 => some (1, q8) else K_Tokens_scanSign_1_36 N g  n x2 (x3 + 1) u else none
set_option maxHeartbeats 4000000 in
set_option maxRecDepth 100000 in
theorem w_Tokens_scanSign_1_36 (l : Launch) (h0 : Nat) (D : pm_D) {g : pm_s} (hT : sh_T g) {N : Nat} {u0 : pm_J} {out : Int32 × pm_J} {p : Program} {e : Env} {R : Room} {s : State} {m : MethodId} {args : Array Value} {below : List Frame} {meth : Method} {c : Code} : ∀ (n : Nat) (x2 : Int32) (x3 : Int32) (u : pm_J), K_Tokens_scanSign_1_36 N g n x2 x3 u = some out → pm_V (p, l, e, R, s, m, args, below, meth, c) m_Tokens_scanSign h0 D (g.1, g.2.1, g.1, g.2.1, 4) (pm_E (p, l, e, R, s, m, args, below, meth, c) h0 D (sm g u0) (some (.int out.1)) (sm g out.2)) 36 [(0, .ref 5), (1, .ref 1), (2, .int x2), (3, .int x3)] [] (sm g u) := by
  intro n
  induction n with
  | zero => intro x2 x3 u h; cases h
  | succ n ih =>
    intro x2 x3 u h
    rw [K_Tokens_scanSign_1_36] at h
    refine pm_blk (pc' := 37) (L' := [(0, .ref 5), (1, .ref 1), (2, .int x2), (3, .int x3)]) (S' := [.int x3]) (M' := sm g u) [pm_o (.iload_n 3)] (by decide +kernel) rfl ?_
    refine pm_ldcx (idx := 117) (fun s h => h.1.2.2) (by decide +kernel) ?_
    refine pm_blk (pc' := 39) (L' := [(0, .ref 5), (1, .ref 1), (2, .int x2), (3, .int x3)]) (S' := [.retAddr (D.2.1 1), .int x3]) (M' := sm g u) [] (by decide +kernel) rfl ?_
    refine pm_cVx (idx := 31) mJ_length (i := 1) (by decide) (cJ_length l h0 D (by decide)) (As := []) (S0 := [.int x3]) rfl (by decide +kernel) kJ_length (pm_c1 63 rfl rfl) (pm_c1 64 rfl rfl) rfl l_Tokens_31 (Nat.le_of_ble_eq_true rfl) (Nat.le_of_ble_eq_true rfl) (Nat.le_refl _) (Nat.le_refl _) ?_
    refine pm_blk (pc' := 42) (L' := [(0, .ref 5), (1, .ref 1), (2, .int x2), (3, .int x3)]) (S' := [.int 10, .int x3]) (M' := sm g u) [] (by decide +kernel) rfl ?_
    refine pm_ic_ge (off := 36) 78 (by decide +kernel) (by decide) (fun hc3 => ?_) (fun hc3 => ?_)
    · rw [if_pos hc3] at h
      refine pm_blk (pc' := 84) (L' := [(0, .ref 5), (1, .ref 1), (2, .int x2), (3, .int x3)]) (S' := [.int x2, .int 1, .ref 3]) (M' := sm g u) [pm_o (.aload_n 0), pm_of (.getfield 9) 9 0 2, pm_oi (.iconst 1) 1, pm_o (.iload_n 2)] (by decide +kernel) rfl ?_
      obtain ⟨q4, hq4, h⟩ := pm_bd h
      refine pm_cV (idx := 63) m_Fault_tell (c_Fault_tell_3 l h0 D hT hq4) (As := [.int 1, .int x2]) (S0 := []) rfl (by decide +kernel) k_Fault_tell l_Tokens_63 (Nat.le_of_ble_eq_true rfl) (Nat.le_of_ble_eq_true rfl) (Nat.le_refl _) (Nat.le_refl _) ?_
      refine pm_blk (pc' := 88) (L' := [(0, .ref 5), (1, .ref 1), (2, .int x2), (3, .int x3)]) (S' := [.int 1]) (M' := sm g q4) [pm_oi (.iconst 1) 1] (by decide +kernel) rfl ?_
      have h9 := Option.some.inj h
      subst h9
      exact pm_reti rfl (by decide +kernel) rfl rfl rfl
    · rw [if_neg hc3] at h
      refine pm_ldcx (idx := 117) (fun s h => h.1.2.2) (by decide +kernel) ?_
      refine pm_blk (pc' := 48) (L' := [(0, .ref 5), (1, .ref 1), (2, .int x2), (3, .int x3)]) (S' := [.int x3, .retAddr (D.2.1 1)]) (M' := sm g u) [pm_o (.iload_n 3)] (by decide +kernel) rfl ?_
      obtain ⟨ho5, h⟩ := pm_ifs h
      refine pm_cVx (idx := 37) mJ_charAt (i := 1) (by decide) (cJ_char l h0 D (by decide) rfl ho5) (As := [.int x3]) (S0 := []) rfl (by decide +kernel) kJ_charAt (pm_c1 73 rfl rfl) (pm_c1 74 rfl rfl) rfl l_Tokens_37 (Nat.le_of_ble_eq_true rfl) (Nat.le_of_ble_eq_true rfl) (Nat.le_refl _) (Nat.le_refl _) ?_
      refine pm_blk (pc' := 54) (L' := [(0, .ref 5), (1, .ref 1), (2, .int x2), (3, .int x3)]) (S' := [.int x2, .ref 1, .ref 5, .int (ks_ch 1 x3.toNatClampNeg)]) (M' := sm g u) [pm_o (.aload_n 0), pm_o (.aload_n 1), pm_o (.iload_n 2)] (by decide +kernel) rfl ?_
      obtain ⟨q6, hq6, h⟩ := pm_bd h
      refine pm_cV (idx := 74) m_Tokens_octetAt (c_Tokens_octetAt_1 l h0 D hT hq6) (As := [.ref 1, .int x2]) (S0 := [.int (ks_ch 1 x3.toNatClampNeg)]) rfl (by decide +kernel) k_Tokens_octetAt l_Tokens_74 (Nat.le_of_ble_eq_true rfl) (Nat.le_of_ble_eq_true rfl) (Nat.le_refl _) (Nat.le_refl _) ?_
      refine pm_blk (pc' := 57) (L' := [(0, .ref 5), (1, .ref 1), (2, .int x2), (3, .int x3)]) (S' := [.int q6, .int (ks_ch 1 x3.toNatClampNeg)]) (M' := sm g u) [] (by decide +kernel) rfl ?_
      refine pm_ic_ne (off := 15) 72 (by decide +kernel) (by decide) (fun hc7 => ?_) (fun hc7 => ?_)
      · rw [if_neg hc7] at h
        refine pm_blk (pc' := 75) (L' := [(3, .int (x3 + 1)), (0, .ref 5), (1, .ref 1), (2, .int x2)]) (S' := []) (M' := sm g u) [pm_oi (.iinc 3 1) 1] (by decide +kernel) rfl ?_
        refine pm_goto (off := -39) 36 (by decide +kernel) (by decide) ?_
        refine pm_loc [1, 2, 3, 0] rfl ?_
        exact ih x2 (x3 + 1) u h
      · rw [if_pos hc7] at h
        refine pm_blk (pc' := 67) (L' := [(0, .ref 5), (1, .ref 1), (2, .int x2), (3, .int x3)]) (S' := [.long 0, .int x2, .int (15 + x3), .ref 5]) (M' := sm g u) [pm_o (.aload_n 0), pm_oi (.bipush 15) 15, pm_o (.iload_n 3), pm_o .iadd, pm_o (.iload_n 2), pm_ol (.lconst 0) 0] (by decide +kernel) rfl ?_
        obtain ⟨q8, hq8, h⟩ := pm_bd h
        refine pm_cV (idx := 103) m_Tokens_add (c_Tokens_add l h0 D hT hq8) (As := [.int (15 + x3), .int x2, .long 0]) (S0 := []) rfl (by decide +kernel) k_Tokens_add l_Tokens_103 (Nat.le_of_ble_eq_true rfl) (Nat.le_of_ble_eq_true rfl) (Nat.le_refl _) (Nat.le_refl _) ?_
        refine pm_blk (pc' := 71) (L' := [(0, .ref 5), (1, .ref 1), (2, .int x2), (3, .int x3)]) (S' := [.int 1]) (M' := sm g q8) [pm_oi (.iconst 1) 1] (by decide +kernel) rfl ?_
        have h9 := Option.some.inj h
        subst h9
        exact pm_reti rfl (by decide +kernel) rfl rfl rfl
def F_Tokens_scanSign_1 (N : Nat) (a2 : Int32) (g : pm_s) (u : pm_J) : Option (Int32 × pm_J) := (F_Tokens_octetAt_1 a2 g u).bind fun q1 => if q1 = 45 then (F_Tokens_octetAt_1 (a2 + 1) g u).bind fun q9 => if q9 = 62 then (F_Tokens_add 25 a2 0 g u).bind fun q11 => some (2, q11) else K_Tokens_scanSign_1_36 N g N a2 0 u else K_Tokens_scanSign_1_36 N g N a2 0 u
set_option maxHeartbeats 4000000 in
set_option maxRecDepth 100000 in
theorem c_Tokens_scanSign_1 (l : Launch) (h0 : Nat) (D : pm_D) {g : pm_s} {u : pm_J} (hT : sh_T g) {N : Nat} {a2 : Int32} {out : Int32 × pm_J} (h : F_Tokens_scanSign_1 N a2 g u = some out) : pm_C l h0 D m_Tokens_scanSign (4) [.ref 5, .ref 1, .int a2] (sm g u) (some (.int out.1)) (sm g out.2) := by
  unfold F_Tokens_scanSign_1 at h
  refine pm_met (by decide +kernel) (Nat.le_of_ble_eq_true rfl) (Nat.le_refl _) (Nat.le_refl _) ?_
  intro p e R s m args below meth c
  refine pm_blk (pc' := 3) (L' := [(0, .ref 5), (1, .ref 1), (2, .int a2)]) (S' := [.int a2, .ref 1, .ref 5]) (M' := sm g u) [pm_o (.aload_n 0), pm_o (.aload_n 1), pm_o (.iload_n 2)] (by decide +kernel) rfl ?_
  obtain ⟨q1, hq1, h⟩ := pm_bd h
  refine pm_cV (idx := 74) m_Tokens_octetAt (c_Tokens_octetAt_1 l h0 D hT hq1) (As := [.ref 1, .int a2]) (S0 := []) rfl (by decide +kernel) k_Tokens_octetAt l_Tokens_74 (Nat.le_of_ble_eq_true rfl) (Nat.le_of_ble_eq_true rfl) (Nat.le_refl _) (Nat.le_refl _) ?_
  refine pm_blk (pc' := 8) (L' := [(0, .ref 5), (1, .ref 1), (2, .int a2)]) (S' := [.int 45, .int q1]) (M' := sm g u) [pm_oi (.bipush 45) 45] (by decide +kernel) rfl ?_
  refine pm_ic_ne (off := 26) 34 (by decide +kernel) (by decide) (fun hc2 => ?_) (fun hc2 => ?_)
  · rw [if_neg hc2] at h
    refine pm_blk (pc' := 36) (L' := [(3, .int 0), (0, .ref 5), (1, .ref 1), (2, .int a2)]) (S' := []) (M' := sm g u) [pm_oi (.iconst 0) 0, pm_o (.istore_n 3)] (by decide +kernel) rfl ?_
    refine pm_loc [1, 2, 3, 0] rfl ?_
    exact w_Tokens_scanSign_1_36 l h0 D hT N a2 0 u h
  · rw [if_pos hc2] at h
    refine pm_blk (pc' := 16) (L' := [(0, .ref 5), (1, .ref 1), (2, .int a2)]) (S' := [.int (a2 + 1), .ref 1, .ref 5]) (M' := sm g u) [pm_o (.aload_n 0), pm_o (.aload_n 1), pm_o (.iload_n 2), pm_oi (.iconst 1) 1, pm_o .iadd] (by decide +kernel) rfl ?_
    obtain ⟨q9, hq9, h⟩ := pm_bd h
    refine pm_cV (idx := 74) m_Tokens_octetAt (c_Tokens_octetAt_1 l h0 D hT hq9) (As := [.ref 1, .int (a2 + 1)]) (S0 := []) rfl (by decide +kernel) k_Tokens_octetAt l_Tokens_74 (Nat.le_of_ble_eq_true rfl) (Nat.le_of_ble_eq_true rfl) (Nat.le_refl _) (Nat.le_refl _) ?_
    refine pm_blk (pc' := 21) (L' := [(0, .ref 5), (1, .ref 1), (2, .int a2)]) (S' := [.int 62, .int q9]) (M' := sm g u) [pm_oi (.bipush 62) 62] (by decide +kernel) rfl ?_
    refine pm_ic_ne (off := 13) 34 (by decide +kernel) (by decide) (fun hc10 => ?_) (fun hc10 => ?_)
    · rw [if_neg hc10] at h
      refine pm_blk (pc' := 36) (L' := [(3, .int 0), (0, .ref 5), (1, .ref 1), (2, .int a2)]) (S' := []) (M' := sm g u) [pm_oi (.iconst 0) 0, pm_o (.istore_n 3)] (by decide +kernel) rfl ?_
      refine pm_loc [1, 2, 3, 0] rfl ?_
      exact w_Tokens_scanSign_1_36 l h0 D hT N a2 0 u h
    · rw [if_pos hc10] at h
      refine pm_blk (pc' := 29) (L' := [(0, .ref 5), (1, .ref 1), (2, .int a2)]) (S' := [.long 0, .int a2, .int 25, .ref 5]) (M' := sm g u) [pm_o (.aload_n 0), pm_oi (.bipush 25) 25, pm_o (.iload_n 2), pm_ol (.lconst 0) 0] (by decide +kernel) rfl ?_
      obtain ⟨q11, hq11, h⟩ := pm_bd h
      refine pm_cV (idx := 103) m_Tokens_add (c_Tokens_add l h0 D hT hq11) (As := [.int 25, .int a2, .long 0]) (S0 := []) rfl (by decide +kernel) k_Tokens_add l_Tokens_103 (Nat.le_of_ble_eq_true rfl) (Nat.le_of_ble_eq_true rfl) (Nat.le_refl _) (Nat.le_refl _) ?_
      refine pm_blk (pc' := 33) (L' := [(0, .ref 5), (1, .ref 1), (2, .int a2)]) (S' := [.int 2]) (M' := sm g q11) [pm_oi (.iconst 2) 2] (by decide +kernel) rfl ?_
      have h9 := Option.some.inj h
      subst h9
      exact pm_reti rfl (by decide +kernel) rfl rfl rfl
def K_Tokens_scanNumber_1_86 (N : Nat) (g : pm_s) (x2 : Int32) (y3 : Int64) (x5 : Int32) (x6 : Int32) (u : pm_J) : Option (Int32 × pm_J) := if x5 = 0 then (F_Tokens_add 2 x2 y3 g u).bind fun q3 => some (x6 - x2, q3) else (F_Fault_tell_3 1 x2 g u).bind fun q4 => some (x6 - x2, q4)
set_option maxHeartbeats 4000000 in
set_option maxRecDepth 100000 in
theorem w_Tokens_scanNumber_1_86 (l : Launch) (h0 : Nat) (D : pm_D) {g : pm_s} (hT : sh_T g) {N : Nat} {u0 : pm_J} {out : Int32 × pm_J} {p : Program} {e : Env} {R : Room} {s : State} {m : MethodId} {args : Array Value} {below : List Frame} {meth : Method} {c : Code} : ∀ (x2 : Int32) (y3 : Int64) (x5 : Int32) (x6 : Int32) (u : pm_J), K_Tokens_scanNumber_1_86 N g x2 y3 x5 x6 u = some out → pm_V (p, l, e, R, s, m, args, below, meth, c) m_Tokens_scanNumber h0 D (g.1, g.2.1, g.1, g.2.1, 1) (pm_E (p, l, e, R, s, m, args, below, meth, c) h0 D (sm g u0) (some (.int out.1)) (sm g out.2)) 86 [(0, .ref 5), (2, .int x2), (3, .long y3), (5, .int x5), (6, .int x6)] [] (sm g u) := by
    intro x2 y3 x5 x6 u h
    unfold K_Tokens_scanNumber_1_86 at h
    refine pm_blk (pc' := 88) (L' := [(0, .ref 5), (2, .int x2), (3, .long y3), (5, .int x5), (6, .int x6)]) (S' := [.int x5]) (M' := sm g u) [pm_o (.iload 5)] (by decide +kernel) rfl ?_
    refine pm_if_eq (off := 15) 103 (by decide +kernel) (by decide) (fun hc2 => ?_) (fun hc2 => ?_)
    · rw [if_pos hc2] at h
      refine pm_blk (pc' := 107) (L' := [(0, .ref 5), (2, .int x2), (3, .long y3), (5, .int x5), (6, .int x6)]) (S' := [.long y3, .int x2, .int 2, .ref 5]) (M' := sm g u) [pm_o (.aload_n 0), pm_oi (.iconst 2) 2, pm_o (.iload_n 2), pm_o (.lload_n 3)] (by decide +kernel) rfl ?_
      obtain ⟨q3, hq3, h⟩ := pm_bd h
      refine pm_cV (idx := 103) m_Tokens_add (c_Tokens_add l h0 D hT hq3) (As := [.int 2, .int x2, .long y3]) (S0 := []) rfl (by decide +kernel) k_Tokens_add l_Tokens_103 (Nat.le_of_ble_eq_true rfl) (Nat.le_of_ble_eq_true rfl) (Nat.le_refl _) (Nat.le_refl _) ?_
      refine pm_blk (pc' := 114) (L' := [(0, .ref 5), (2, .int x2), (3, .long y3), (5, .int x5), (6, .int x6)]) (S' := [.int (x6 - x2)]) (M' := sm g q3) [pm_o (.iload 6), pm_o (.iload_n 2), pm_o .isub] (by decide +kernel) rfl ?_
      have h9 := Option.some.inj h
      subst h9
      exact pm_reti rfl (by decide +kernel) rfl rfl rfl
    · rw [if_neg hc2] at h
      refine pm_blk (pc' := 97) (L' := [(0, .ref 5), (2, .int x2), (3, .long y3), (5, .int x5), (6, .int x6)]) (S' := [.int x2, .int 1, .ref 3]) (M' := sm g u) [pm_o (.aload_n 0), pm_of (.getfield 9) 9 0 2, pm_oi (.iconst 1) 1, pm_o (.iload_n 2)] (by decide +kernel) rfl ?_
      obtain ⟨q4, hq4, h⟩ := pm_bd h
      refine pm_cV (idx := 63) m_Fault_tell (c_Fault_tell_3 l h0 D hT hq4) (As := [.int 1, .int x2]) (S0 := []) rfl (by decide +kernel) k_Fault_tell l_Tokens_63 (Nat.le_of_ble_eq_true rfl) (Nat.le_of_ble_eq_true rfl) (Nat.le_refl _) (Nat.le_refl _) ?_
      refine pm_blk (pc' := 100) (L' := [(0, .ref 5), (2, .int x2), (3, .long y3), (5, .int x5), (6, .int x6)]) (S' := []) (M' := sm g q4) [] (by decide +kernel) rfl ?_
      refine pm_goto (off := 10) 110 (by decide +kernel) (by decide) ?_
      refine pm_blk (pc' := 114) (L' := [(0, .ref 5), (2, .int x2), (3, .long y3), (5, .int x5), (6, .int x6)]) (S' := [.int (x6 - x2)]) (M' := sm g q4) [pm_o (.iload 6), pm_o (.iload_n 2), pm_o .isub] (by decide +kernel) rfl ?_
      have h9 := Option.some.inj h
      subst h9
      exact pm_reti rfl (by decide +kernel) rfl rfl rfl
def K_Tokens_scanNumber_1_68 (N : Nat) (g : pm_s) (k8 : Int32 → Int64 → Int32 → Int32 → pm_J → Option (Int32 × pm_J)) (x2 : Int32) (y3 : Int64) (x6 : Int32) (x7 : Int32) (t0 : Int32) (u : pm_J) : Option (Int32 × pm_J) := k8 x2 ((y3 * 10) + x7.toInt64) t0 (x6 + 1) u
set_option maxHeartbeats 4000000 in
set_option maxRecDepth 100000 in
theorem w_Tokens_scanNumber_1_68 (l : Launch) (h0 : Nat) (D : pm_D) {g : pm_s} (hT : sh_T g) {N : Nat} {u0 : pm_J} {out : Int32 × pm_J} {p : Program} {e : Env} {R : Room} {s : State} {m : MethodId} {args : Array Value} {below : List Frame} {meth : Method} {c : Code} {k8 : Int32 → Int64 → Int32 → Int32 → pm_J → Option (Int32 × pm_J)} (hk8 : ∀ (x2 : Int32) (y3 : Int64) (x5 : Int32) (x6 : Int32) (u : pm_J), k8 x2 y3 x5 x6 u = some out → pm_V (p, l, e, R, s, m, args, below, meth, c) m_Tokens_scanNumber h0 D (g.1, g.2.1, g.1, g.2.1, 1) (pm_E (p, l, e, R, s, m, args, below, meth, c) h0 D (sm g u0) (some (.int out.1)) (sm g out.2)) 8 [(0, .ref 5), (1, .ref 1), (2, .int x2), (3, .long y3), (5, .int x5), (6, .int x6)] [] (sm g u)) : ∀ (x2 : Int32) (y3 : Int64) (x6 : Int32) (x7 : Int32) (t0 : Int32) (u : pm_J), K_Tokens_scanNumber_1_68 N g k8 x2 y3 x6 x7 t0 u = some out → pm_V (p, l, e, R, s, m, args, below, meth, c) m_Tokens_scanNumber h0 D (g.1, g.2.1, g.1, g.2.1, 1) (pm_E (p, l, e, R, s, m, args, below, meth, c) h0 D (sm g u0) (some (.int out.1)) (sm g out.2)) 68 [(0, .ref 5), (1, .ref 1), (2, .int x2), (3, .long y3), (6, .int x6), (7, .int x7)] [.int t0] (sm g u) := by
    intro x2 y3 x6 x7 t0 u h
    unfold K_Tokens_scanNumber_1_68 at h
    refine pm_blk (pc' := 83) (L' := [(6, .int (x6 + 1)), (3, .long ((y3 * 10) + x7.toInt64)), (5, .int t0), (0, .ref 5), (1, .ref 1), (2, .int x2), (7, .int x7)]) (S' := []) (M' := sm g u) [pm_o (.istore 5), pm_o (.lload_n 3), pm_ol (.ldc2_w 111) 10, pm_o .lmul, pm_o (.iload 7), pm_o .i2l, pm_o .ladd, pm_o (.lstore_n 3), pm_oi (.iinc 6 1) 1] (by decide +kernel) rfl ?_
    refine pm_goto (off := -75) 8 (by decide +kernel) (by decide) ?_
    refine pm_loc [3, 4, 5, 1, 2, 0] rfl ?_
    exact hk8 x2 ((y3 * 10) + x7.toInt64) t0 (x6 + 1) u h
def K_Tokens_scanNumber_1_8 (N : Nat) (g : pm_s) : Nat → Int32 → Int64 → Int32 → Int32 → pm_J → Option (Int32 × pm_J)
  | 0, _, _, _, _, _ => none
  | n + 1, x2, y3, x5, x6, u => if (u.1 5 6) ≤ x6 then K_Tokens_scanNumber_1_86 N g x2 y3 x5 x6 u else (F_Tokens_octetAt_1 x6 g u).bind fun q5 => (F_Tokens_isDigit q5 g u).bind fun q6 => if q6 = 0 then K_Tokens_scanNumber_1_86 N g x2 y3 x5 x6 u else (F_Tokens_octetAt_1 x6 g u).bind fun q8 => if x5 = 0 then if (lg_cmp y3 ((9223372036854775807 - ((q8 - 48).toInt64)) / 10)) ≤ 0 then K_Tokens_scanNumber_1_68 N g (K_Tokens_scanNumber_1_8 N g  n) x2 y3 x6 (q8 - 48) 0 u else K_Tokens_scanNumber_1_68 N g (K_Tokens_scanNumber_1_8 N g  n) x2 y3 x6 (q8 - 48) 1 u else K_Tokens_scanNumber_1_68 N g (K_Tokens_scanNumber_1_8 N g  n) x2 y3 x6 (q8 - 48) 1 u
set_option maxHeartbeats 4000000 in
set_option maxRecDepth 100000 in
theorem w_Tokens_scanNumber_1_8 (l : Launch) (h0 : Nat) (D : pm_D) {g : pm_s} (hT : sh_T g) {N : Nat} {u0 : pm_J} {out : Int32 × pm_J} {p : Program} {e : Env} {R : Room} {s : State} {m : MethodId} {args : Array Value} {below : List Frame} {meth : Method} {c : Code} : ∀ (n : Nat) (x2 : Int32) (y3 : Int64) (x5 : Int32) (x6 : Int32) (u : pm_J), K_Tokens_scanNumber_1_8 N g n x2 y3 x5 x6 u = some out → pm_V (p, l, e, R, s, m, args, below, meth, c) m_Tokens_scanNumber h0 D (g.1, g.2.1, g.1, g.2.1, 1) (pm_E (p, l, e, R, s, m, args, below, meth, c) h0 D (sm g u0) (some (.int out.1)) (sm g out.2)) 8 [(0, .ref 5), (1, .ref 1), (2, .int x2), (3, .long y3), (5, .int x5), (6, .int x6)] [] (sm g u) := by
  intro n
  induction n with
  | zero => intro x2 y3 x5 x6 u h; cases h
  | succ n ih =>
    intro x2 y3 x5 x6 u h
    rw [K_Tokens_scanNumber_1_8] at h
    refine pm_blk (pc' := 14) (L' := [(0, .ref 5), (1, .ref 1), (2, .int x2), (3, .long y3), (5, .int x5), (6, .int x6)]) (S' := [.int (u.1 5 6), .int x6]) (M' := sm g u) [pm_o (.iload 6), pm_o (.aload_n 0), pm_of (.getfield 49) 9 6 0] (by decide +kernel) rfl ?_
    refine pm_ic_ge (off := 72) 86 (by decide +kernel) (by decide) (fun hc1 => ?_) (fun hc1 => ?_)
    · rw [if_pos hc1] at h
      refine pm_loc [0, 2, 3, 4, 5] rfl ?_
      exact w_Tokens_scanNumber_1_86 l h0 D hT x2 y3 x5 x6 u h
    · rw [if_neg hc1] at h
      refine pm_blk (pc' := 21) (L' := [(0, .ref 5), (1, .ref 1), (2, .int x2), (3, .long y3), (5, .int x5), (6, .int x6)]) (S' := [.int x6, .ref 1, .ref 5]) (M' := sm g u) [pm_o (.aload_n 0), pm_o (.aload_n 1), pm_o (.iload 6)] (by decide +kernel) rfl ?_
      obtain ⟨q5, hq5, h⟩ := pm_bd h
      refine pm_cV (idx := 74) m_Tokens_octetAt (c_Tokens_octetAt_1 l h0 D hT hq5) (As := [.ref 1, .int x6]) (S0 := []) rfl (by decide +kernel) k_Tokens_octetAt l_Tokens_74 (Nat.le_of_ble_eq_true rfl) (Nat.le_of_ble_eq_true rfl) (Nat.le_refl _) (Nat.le_refl _) ?_
      refine pm_blk (pc' := 24) (L' := [(0, .ref 5), (1, .ref 1), (2, .int x2), (3, .long y3), (5, .int x5), (6, .int x6)]) (S' := [.int q5]) (M' := sm g u) [] (by decide +kernel) rfl ?_
      obtain ⟨q6, hq6, h⟩ := pm_bd h
      refine pm_cS (idx := 84) m_Tokens_isDigit (c_Tokens_isDigit l h0 D hT hq6) (As := [.int q5]) (S0 := []) rfl (by decide +kernel) k_Tokens_isDigit l_Tokens_84 (Nat.le_of_ble_eq_true rfl) (Nat.le_of_ble_eq_true rfl) (Nat.le_refl _) (Nat.le_refl _) ?_
      refine pm_blk (pc' := 27) (L' := [(0, .ref 5), (1, .ref 1), (2, .int x2), (3, .long y3), (5, .int x5), (6, .int x6)]) (S' := [.int q6]) (M' := sm g u) [] (by decide +kernel) rfl ?_
      refine pm_if_eq (off := 59) 86 (by decide +kernel) (by decide) (fun hc7 => ?_) (fun hc7 => ?_)
      · rw [if_pos hc7] at h
        refine pm_loc [0, 2, 3, 4, 5] rfl ?_
        exact w_Tokens_scanNumber_1_86 l h0 D hT x2 y3 x5 x6 u h
      · rw [if_neg hc7] at h
        refine pm_blk (pc' := 34) (L' := [(0, .ref 5), (1, .ref 1), (2, .int x2), (3, .long y3), (5, .int x5), (6, .int x6)]) (S' := [.int x6, .ref 1, .ref 5]) (M' := sm g u) [pm_o (.aload_n 0), pm_o (.aload_n 1), pm_o (.iload 6)] (by decide +kernel) rfl ?_
        obtain ⟨q8, hq8, h⟩ := pm_bd h
        refine pm_cV (idx := 74) m_Tokens_octetAt (c_Tokens_octetAt_1 l h0 D hT hq8) (As := [.ref 1, .int x6]) (S0 := []) rfl (by decide +kernel) k_Tokens_octetAt l_Tokens_74 (Nat.le_of_ble_eq_true rfl) (Nat.le_of_ble_eq_true rfl) (Nat.le_refl _) (Nat.le_refl _) ?_
        refine pm_blk (pc' := 44) (L' := [(7, .int (q8 - 48)), (0, .ref 5), (1, .ref 1), (2, .int x2), (3, .long y3), (5, .int x5), (6, .int x6)]) (S' := [.int x5]) (M' := sm g u) [pm_oi (.bipush 48) 48, pm_o .isub, pm_o (.istore 7), pm_o (.iload 5)] (by decide +kernel) rfl ?_
        refine pm_if_ne (off := 19) 63 (by decide +kernel) (by decide) (fun hc9 => ?_) (fun hc9 => ?_)
        · rw [if_neg hc9] at h
          refine pm_blk (pc' := 64) (L' := [(7, .int (q8 - 48)), (0, .ref 5), (1, .ref 1), (2, .int x2), (3, .long y3), (5, .int x5), (6, .int x6)]) (S' := [.int 1]) (M' := sm g u) [pm_oi (.iconst 1) 1] (by decide +kernel) rfl ?_
          refine pm_goto (off := 4) 68 (by decide +kernel) (by decide) ?_
          refine pm_loc [1, 2, 3, 4, 6, 0] rfl ?_
          exact w_Tokens_scanNumber_1_68 l h0 D hT ih x2 y3 x6 (q8 - 48) 1 u h
        · rw [if_pos hc9] at h
          refine pm_blk (pc' := 58) (L' := [(7, .int (q8 - 48)), (0, .ref 5), (1, .ref 1), (2, .int x2), (3, .long y3), (5, .int x5), (6, .int x6)]) (S' := [.long 10, .long (9223372036854775807 - ((q8 - 48).toInt64)), .long y3]) (M' := sm g u) [pm_o (.lload_n 3), pm_ol (.ldc2_w 109) 9223372036854775807, pm_o (.iload 7), pm_o .i2l, pm_o .lsub, pm_ol (.ldc2_w 111) 10] (by decide +kernel) rfl ?_
          refine pm_ldiv (by decide +kernel) (by decide +kernel) ?_
          refine pm_blk (pc' := 60) (L' := [(7, .int (q8 - 48)), (0, .ref 5), (1, .ref 1), (2, .int x2), (3, .long y3), (5, .int x5), (6, .int x6)]) (S' := [.int (lg_cmp y3 ((9223372036854775807 - ((q8 - 48).toInt64)) / 10))]) (M' := sm g u) [pm_o .lcmp] (by decide +kernel) rfl ?_
          refine pm_if_le (off := 7) 67 (by decide +kernel) (by decide) (fun hc10 => ?_) (fun hc10 => ?_)
          · rw [if_pos hc10] at h
            refine pm_blk (pc' := 68) (L' := [(7, .int (q8 - 48)), (0, .ref 5), (1, .ref 1), (2, .int x2), (3, .long y3), (5, .int x5), (6, .int x6)]) (S' := [.int 0]) (M' := sm g u) [pm_oi (.iconst 0) 0] (by decide +kernel) rfl ?_
            refine pm_loc [1, 2, 3, 4, 6, 0] rfl ?_
            exact w_Tokens_scanNumber_1_68 l h0 D hT ih x2 y3 x6 (q8 - 48) 0 u h
          · rw [if_neg hc10] at h
            refine pm_blk (pc' := 64) (L' := [(7, .int (q8 - 48)), (0, .ref 5), (1, .ref 1), (2, .int x2), (3, .long y3), (5, .int x5), (6, .int x6)]) (S' := [.int 1]) (M' := sm g u) [pm_oi (.iconst 1) 1] (by decide +kernel) rfl ?_
            refine pm_goto (off := 4) 68 (by decide +kernel) (by decide) ?_
            refine pm_loc [1, 2, 3, 4, 6, 0] rfl ?_
            exact w_Tokens_scanNumber_1_68 l h0 D hT ih x2 y3 x6 (q8 - 48) 1 u h
def F_Tokens_scanNumber_1 (N : Nat) (a2 : Int32) (g : pm_s) (u : pm_J) : Option (Int32 × pm_J) := K_Tokens_scanNumber_1_8 N g N a2 0 0 a2 u
set_option maxHeartbeats 4000000 in
set_option maxRecDepth 100000 in
theorem c_Tokens_scanNumber_1 (l : Launch) (h0 : Nat) (D : pm_D) {g : pm_s} {u : pm_J} (hT : sh_T g) {N : Nat} {a2 : Int32} {out : Int32 × pm_J} (h : F_Tokens_scanNumber_1 N a2 g u = some out) : pm_C l h0 D m_Tokens_scanNumber (1) [.ref 5, .ref 1, .int a2] (sm g u) (some (.int out.1)) (sm g out.2) := by
  unfold F_Tokens_scanNumber_1 at h
  refine pm_met (by decide +kernel) (Nat.le_of_ble_eq_true rfl) (Nat.le_refl _) (Nat.le_refl _) ?_
  intro p e R s m args below meth c
  refine pm_blk (pc' := 8) (L' := [(6, .int a2), (5, .int 0), (3, .long 0), (0, .ref 5), (1, .ref 1), (2, .int a2)]) (S' := []) (M' := sm g u) [pm_ol (.lconst 0) 0, pm_o (.lstore_n 3), pm_oi (.iconst 0) 0, pm_o (.istore 5), pm_o (.iload_n 2), pm_o (.istore 6)] (by decide +kernel) rfl ?_
  refine pm_loc [3, 4, 5, 2, 1, 0] rfl ?_
  exact w_Tokens_scanNumber_1_8 l h0 D hT N a2 0 0 a2 u h
def K_Tokens_kindOfName_2 (N : Nat) (g : pm_s) (u : pm_J) : Nat → Int64 → Int32 → Option (Int32)
  | 0, _, _ => none
  | n + 1, y1, x3 => if 10 ≤ x3 then some 1 else if pm_ok x3 10 = true then if (lg_cmp (u.2 9 x3.toNatClampNeg) y1) = 0 then some (5 + x3) else K_Tokens_kindOfName_2 N g u  n y1 (x3 + 1) else none
set_option maxHeartbeats 4000000 in
set_option maxRecDepth 100000 in
theorem w_Tokens_kindOfName_2 (l : Launch) (h0 : Nat) (D : pm_D) {g : pm_s} (hT : sh_T g) {N : Nat} {u : pm_J} {out : Int32} {p : Program} {e : Env} {R : Room} {s : State} {m : MethodId} {args : Array Value} {below : List Frame} {meth : Method} {c : Code} : ∀ (n : Nat) (y1 : Int64) (x3 : Int32), K_Tokens_kindOfName_2 N g u n y1 x3 = some out → pm_V (p, l, e, R, s, m, args, below, meth, c) m_Tokens_kindOfName h0 D (g.1, g.2.1, g.1, g.2.1, 0) (pm_E (p, l, e, R, s, m, args, below, meth, c) h0 D (sm g u) (some (.int out)) (sm g u)) 2 [(0, .ref 5), (1, .long y1), (3, .int x3)] [] (sm g u) := by
  intro n
  induction n with
  | zero => intro y1 x3 h; cases h
  | succ n ih =>
    intro y1 x3 h
    rw [K_Tokens_kindOfName_2] at h
    refine pm_blk (pc' := 5) (L' := [(0, .ref 5), (1, .long y1), (3, .int x3)]) (S' := [.int 10, .int x3]) (M' := sm g u) [pm_o (.iload_n 3), pm_oi (.bipush 10) 10] (by decide +kernel) rfl ?_
    refine pm_ic_ge (off := 24) 29 (by decide +kernel) (by decide) (fun hc1 => ?_) (fun hc1 => ?_)
    · rw [if_pos hc1] at h
      refine pm_blk (pc' := 30) (L' := [(0, .ref 5), (1, .long y1), (3, .int x3)]) (S' := [.int 1]) (M' := sm g u) [pm_oi (.iconst 1) 1] (by decide +kernel) rfl ?_
      have h9 := Option.some.inj h
      subst h9
      exact pm_reti rfl (by decide +kernel) rfl rfl rfl
    · rw [if_neg hc1] at h
      refine pm_blk (pc' := 13) (L' := [(0, .ref 5), (1, .long y1), (3, .int x3)]) (S' := [.int x3, .ref 9]) (M' := sm g u) [pm_o (.aload_n 0), pm_of (.getfield 26) 9 4 2, pm_o (.iload_n 3)] (by decide +kernel) rfl ?_
      obtain ⟨ho2, h⟩ := pm_ifs h
      refine pm_lald (by decide +kernel) rfl (pm_ok_in ho2) ?_
      refine pm_blk (pc' := 16) (L' := [(0, .ref 5), (1, .long y1), (3, .int x3)]) (S' := [.int (lg_cmp (u.2 9 x3.toNatClampNeg) y1)]) (M' := sm g u) [pm_o (.lload_n 1), pm_o .lcmp] (by decide +kernel) rfl ?_
      refine pm_if_ne (off := 7) 23 (by decide +kernel) (by decide) (fun hc3 => ?_) (fun hc3 => ?_)
      · rw [if_neg hc3] at h
        refine pm_blk (pc' := 26) (L' := [(3, .int (x3 + 1)), (0, .ref 5), (1, .long y1)]) (S' := []) (M' := sm g u) [pm_oi (.iinc 3 1) 1] (by decide +kernel) rfl ?_
        refine pm_goto (off := -24) 2 (by decide +kernel) (by decide) ?_
        refine pm_loc [1, 2, 0] rfl ?_
        exact ih y1 (x3 + 1) h
      · rw [if_pos hc3] at h
        refine pm_blk (pc' := 22) (L' := [(0, .ref 5), (1, .long y1), (3, .int x3)]) (S' := [.int (5 + x3)]) (M' := sm g u) [pm_oi (.iconst 5) 5, pm_o (.iload_n 3), pm_o .iadd] (by decide +kernel) rfl ?_
        have h9 := Option.some.inj h
        subst h9
        exact pm_reti rfl (by decide +kernel) rfl rfl rfl
def F_Tokens_kindOfName (N : Nat) (a1 : Int64) (g : pm_s) (u : pm_J) : Option (Int32) := K_Tokens_kindOfName_2 N g u N a1 0
set_option maxHeartbeats 4000000 in
set_option maxRecDepth 100000 in
theorem c_Tokens_kindOfName (l : Launch) (h0 : Nat) (D : pm_D) {g : pm_s} {u : pm_J} (hT : sh_T g) {N : Nat} {a1 : Int64} {out : Int32} (h : F_Tokens_kindOfName N a1 g u = some out) : pm_C l h0 D m_Tokens_kindOfName (0) [.ref 5, .long a1] (sm g u) (some (.int out)) (sm g u) := by
  unfold F_Tokens_kindOfName at h
  refine pm_met (by decide +kernel) (Nat.le_of_ble_eq_true rfl) (Nat.le_refl _) (Nat.le_refl _) ?_
  intro p e R s m args below meth c
  refine pm_blk (pc' := 2) (L' := [(3, .int 0), (0, .ref 5), (1, .long a1)]) (S' := []) (M' := sm g u) [pm_oi (.iconst 0) 0, pm_o (.istore_n 3)] (by decide +kernel) rfl ?_
  refine pm_loc [1, 2, 0] rfl ?_
  exact w_Tokens_kindOfName_2 l h0 D hT N a1 0 h
def F_Tokens_withOctet (a1 : Int64) (a2 : Int32) (g : pm_s) (u : pm_J) : Option (Int64) := (F_Tokens_isDigit a2 g u).bind fun q1 => if q1 = 0 then some ((a1 * 37) + (((a2 - 97) + 1).toInt64)) else some ((a1 * 37) + (((a2 - 48) + 27).toInt64))
set_option maxHeartbeats 4000000 in
set_option maxRecDepth 100000 in
theorem c_Tokens_withOctet (l : Launch) (h0 : Nat) (D : pm_D) {g : pm_s} {u : pm_J} (hT : sh_T g) {a1 : Int64} {a2 : Int32} {out : Int64} (h : F_Tokens_withOctet a1 a2 g u = some out) : pm_C l h0 D m_Tokens_withOctet (1) [.long a1, .int a2] (sm g u) (some (.long out)) (sm g u) := by
  unfold F_Tokens_withOctet at h
  refine pm_met (by decide +kernel) (Nat.le_of_ble_eq_true rfl) (Nat.le_refl _) (Nat.le_refl _) ?_
  intro p e R s m args below meth c
  refine pm_blk (pc' := 1) (L' := [(0, .long a1), (2, .int a2)]) (S' := [.int a2]) (M' := sm g u) [pm_o (.iload_n 2)] (by decide +kernel) rfl ?_
  obtain ⟨q1, hq1, h⟩ := pm_bd h
  refine pm_cS (idx := 84) m_Tokens_isDigit (c_Tokens_isDigit l h0 D hT hq1) (As := [.int a2]) (S0 := []) rfl (by decide +kernel) k_Tokens_isDigit l_Tokens_84 (Nat.le_of_ble_eq_true rfl) (Nat.le_of_ble_eq_true rfl) (Nat.le_refl _) (Nat.le_refl _) ?_
  refine pm_blk (pc' := 4) (L' := [(0, .long a1), (2, .int a2)]) (S' := [.int q1]) (M' := sm g u) [] (by decide +kernel) rfl ?_
  refine pm_if_eq (off := 13) 17 (by decide +kernel) (by decide) (fun hc2 => ?_) (fun hc2 => ?_)
  · rw [if_pos hc2] at h
    refine pm_blk (pc' := 32) (L' := [(3, .int ((a2 - 97) + 1)), (0, .long a1), (2, .int a2)]) (S' := [.long ((a1 * 37) + (((a2 - 97) + 1).toInt64))]) (M' := sm g u) [pm_o (.iload_n 2), pm_oi (.bipush 97) 97, pm_o .isub, pm_oi (.iconst 1) 1, pm_o .iadd, pm_o (.istore_n 3), pm_o (.lload_n 0), pm_ol (.ldc2_w 119) 37, pm_o .lmul, pm_o (.iload_n 3), pm_o .i2l, pm_o .ladd] (by decide +kernel) rfl ?_
    have h9 := Option.some.inj h
    subst h9
    exact pm_retl rfl (by decide +kernel) rfl rfl rfl
  · rw [if_neg hc2] at h
    refine pm_blk (pc' := 14) (L' := [(0, .long a1), (2, .int a2)]) (S' := [.int ((a2 - 48) + 27)]) (M' := sm g u) [pm_o (.iload_n 2), pm_oi (.bipush 48) 48, pm_o .isub, pm_oi (.bipush 27) 27, pm_o .iadd] (by decide +kernel) rfl ?_
    refine pm_goto (off := 9) 23 (by decide +kernel) (by decide) ?_
    refine pm_blk (pc' := 32) (L' := [(3, .int ((a2 - 48) + 27)), (0, .long a1), (2, .int a2)]) (S' := [.long ((a1 * 37) + (((a2 - 48) + 27).toInt64))]) (M' := sm g u) [pm_o (.istore_n 3), pm_o (.lload_n 0), pm_ol (.ldc2_w 119) 37, pm_o .lmul, pm_o (.iload_n 3), pm_o .i2l, pm_o .ladd] (by decide +kernel) rfl ?_
    have h9 := Option.some.inj h
    subst h9
    exact pm_retl rfl (by decide +kernel) rfl rfl rfl
def K_Tokens_scanName_1_67 (N : Nat) (g : pm_s) (x2 : Int32) (y3 : Int64) (x5 : Int32) (u : pm_J) : Option (Int32 × pm_J) := if (x5 - x2) ≤ 10 then (F_Tokens_kindOfName N y3 g u).bind fun q3 => (F_Tokens_add q3 x2 y3 g u).bind fun q4 => some (x5 - x2, q4) else (F_Fault_tell_3 1 x2 g u).bind fun q5 => some (x5 - x2, q5)
set_option maxHeartbeats 4000000 in
set_option maxRecDepth 100000 in
theorem w_Tokens_scanName_1_67 (l : Launch) (h0 : Nat) (D : pm_D) {g : pm_s} (hT : sh_T g) {N : Nat} {u0 : pm_J} {out : Int32 × pm_J} {p : Program} {e : Env} {R : Room} {s : State} {m : MethodId} {args : Array Value} {below : List Frame} {meth : Method} {c : Code} : ∀ (x2 : Int32) (y3 : Int64) (x5 : Int32) (u : pm_J), K_Tokens_scanName_1_67 N g x2 y3 x5 u = some out → pm_V (p, l, e, R, s, m, args, below, meth, c) m_Tokens_scanName h0 D (g.1, g.2.1, g.1, g.2.1, 2) (pm_E (p, l, e, R, s, m, args, below, meth, c) h0 D (sm g u0) (some (.int out.1)) (sm g out.2)) 67 [(0, .ref 5), (2, .int x2), (3, .long y3), (5, .int x5)] [] (sm g u) := by
    intro x2 y3 x5 u h
    unfold K_Tokens_scanName_1_67 at h
    refine pm_blk (pc' := 73) (L' := [(0, .ref 5), (2, .int x2), (3, .long y3), (5, .int x5)]) (S' := [.int 10, .int (x5 - x2)]) (M' := sm g u) [pm_o (.iload 5), pm_o (.iload_n 2), pm_o .isub, pm_oi (.bipush 10) 10] (by decide +kernel) rfl ?_
    refine pm_ic_le (off := 15) 88 (by decide +kernel) (by decide) (fun hc2 => ?_) (fun hc2 => ?_)
    · rw [if_pos hc2] at h
      refine pm_blk (pc' := 91) (L' := [(0, .ref 5), (2, .int x2), (3, .long y3), (5, .int x5)]) (S' := [.long y3, .ref 5, .ref 5]) (M' := sm g u) [pm_o (.aload_n 0), pm_o (.aload_n 0), pm_o (.lload_n 3)] (by decide +kernel) rfl ?_
      obtain ⟨q3, hq3, h⟩ := pm_bd h
      refine pm_cV (idx := 99) m_Tokens_kindOfName (c_Tokens_kindOfName l h0 D hT hq3) (As := [.long y3]) (S0 := [.ref 5]) rfl (by decide +kernel) k_Tokens_kindOfName l_Tokens_99 (Nat.le_of_ble_eq_true rfl) (Nat.le_of_ble_eq_true rfl) (Nat.le_refl _) (Nat.le_refl _) ?_
      refine pm_blk (pc' := 96) (L' := [(0, .ref 5), (2, .int x2), (3, .long y3), (5, .int x5)]) (S' := [.long y3, .int x2, .int q3, .ref 5]) (M' := sm g u) [pm_o (.iload_n 2), pm_o (.lload_n 3)] (by decide +kernel) rfl ?_
      obtain ⟨q4, hq4, h⟩ := pm_bd h
      refine pm_cV (idx := 103) m_Tokens_add (c_Tokens_add l h0 D hT hq4) (As := [.int q3, .int x2, .long y3]) (S0 := []) rfl (by decide +kernel) k_Tokens_add l_Tokens_103 (Nat.le_of_ble_eq_true rfl) (Nat.le_of_ble_eq_true rfl) (Nat.le_refl _) (Nat.le_refl _) ?_
      refine pm_blk (pc' := 103) (L' := [(0, .ref 5), (2, .int x2), (3, .long y3), (5, .int x5)]) (S' := [.int (x5 - x2)]) (M' := sm g q4) [pm_o (.iload 5), pm_o (.iload_n 2), pm_o .isub] (by decide +kernel) rfl ?_
      have h9 := Option.some.inj h
      subst h9
      exact pm_reti rfl (by decide +kernel) rfl rfl rfl
    · rw [if_neg hc2] at h
      refine pm_blk (pc' := 82) (L' := [(0, .ref 5), (2, .int x2), (3, .long y3), (5, .int x5)]) (S' := [.int x2, .int 1, .ref 3]) (M' := sm g u) [pm_o (.aload_n 0), pm_of (.getfield 9) 9 0 2, pm_oi (.iconst 1) 1, pm_o (.iload_n 2)] (by decide +kernel) rfl ?_
      obtain ⟨q5, hq5, h⟩ := pm_bd h
      refine pm_cV (idx := 63) m_Fault_tell (c_Fault_tell_3 l h0 D hT hq5) (As := [.int 1, .int x2]) (S0 := []) rfl (by decide +kernel) k_Fault_tell l_Tokens_63 (Nat.le_of_ble_eq_true rfl) (Nat.le_of_ble_eq_true rfl) (Nat.le_refl _) (Nat.le_refl _) ?_
      refine pm_blk (pc' := 85) (L' := [(0, .ref 5), (2, .int x2), (3, .long y3), (5, .int x5)]) (S' := []) (M' := sm g q5) [] (by decide +kernel) rfl ?_
      refine pm_goto (off := 14) 99 (by decide +kernel) (by decide) ?_
      refine pm_blk (pc' := 103) (L' := [(0, .ref 5), (2, .int x2), (3, .long y3), (5, .int x5)]) (S' := [.int (x5 - x2)]) (M' := sm g q5) [pm_o (.iload 5), pm_o (.iload_n 2), pm_o .isub] (by decide +kernel) rfl ?_
      have h9 := Option.some.inj h
      subst h9
      exact pm_reti rfl (by decide +kernel) rfl rfl rfl
def K_Tokens_scanName_1_40 (N : Nat) (g : pm_s) (k5 : Int32 → Int64 → Int32 → pm_J → Option (Int32 × pm_J)) (x2 : Int32) (y3 : Int64) (x5 : Int32) (u : pm_J) : Option (Int32 × pm_J) := if 10 ≤ (x5 - x2) then k5 x2 y3 (x5 + 1) u else (F_Tokens_octetAt_1 x5 g u).bind fun q10 => (F_Tokens_withOctet y3 q10 g u).bind fun q11 => k5 x2 q11 (x5 + 1) u
set_option maxHeartbeats 4000000 in
set_option maxRecDepth 100000 in
theorem w_Tokens_scanName_1_40 (l : Launch) (h0 : Nat) (D : pm_D) {g : pm_s} (hT : sh_T g) {N : Nat} {u0 : pm_J} {out : Int32 × pm_J} {p : Program} {e : Env} {R : Room} {s : State} {m : MethodId} {args : Array Value} {below : List Frame} {meth : Method} {c : Code} {k5 : Int32 → Int64 → Int32 → pm_J → Option (Int32 × pm_J)} (hk5 : ∀ (x2 : Int32) (y3 : Int64) (x5 : Int32) (u : pm_J), k5 x2 y3 x5 u = some out → pm_V (p, l, e, R, s, m, args, below, meth, c) m_Tokens_scanName h0 D (g.1, g.2.1, g.1, g.2.1, 2) (pm_E (p, l, e, R, s, m, args, below, meth, c) h0 D (sm g u0) (some (.int out.1)) (sm g out.2)) 5 [(0, .ref 5), (1, .ref 1), (2, .int x2), (3, .long y3), (5, .int x5)] [] (sm g u)) : ∀ (x2 : Int32) (y3 : Int64) (x5 : Int32) (u : pm_J), K_Tokens_scanName_1_40 N g k5 x2 y3 x5 u = some out → pm_V (p, l, e, R, s, m, args, below, meth, c) m_Tokens_scanName h0 D (g.1, g.2.1, g.1, g.2.1, 2) (pm_E (p, l, e, R, s, m, args, below, meth, c) h0 D (sm g u0) (some (.int out.1)) (sm g out.2)) 40 [(0, .ref 5), (1, .ref 1), (2, .int x2), (3, .long y3), (5, .int x5)] [] (sm g u) := by
    intro x2 y3 x5 u h
    unfold K_Tokens_scanName_1_40 at h
    refine pm_blk (pc' := 46) (L' := [(0, .ref 5), (1, .ref 1), (2, .int x2), (3, .long y3), (5, .int x5)]) (S' := [.int 10, .int (x5 - x2)]) (M' := sm g u) [pm_o (.iload 5), pm_o (.iload_n 2), pm_o .isub, pm_oi (.bipush 10) 10] (by decide +kernel) rfl ?_
    refine pm_ic_ge (off := 15) 61 (by decide +kernel) (by decide) (fun hc9 => ?_) (fun hc9 => ?_)
    · rw [if_pos hc9] at h
      refine pm_blk (pc' := 64) (L' := [(5, .int (x5 + 1)), (0, .ref 5), (1, .ref 1), (2, .int x2), (3, .long y3)]) (S' := []) (M' := sm g u) [pm_oi (.iinc 5 1) 1] (by decide +kernel) rfl ?_
      refine pm_goto (off := -59) 5 (by decide +kernel) (by decide) ?_
      refine pm_loc [1, 2, 3, 4, 0] rfl ?_
      exact hk5 x2 y3 (x5 + 1) u h
    · rw [if_neg hc9] at h
      refine pm_blk (pc' := 54) (L' := [(0, .ref 5), (1, .ref 1), (2, .int x2), (3, .long y3), (5, .int x5)]) (S' := [.int x5, .ref 1, .ref 5, .long y3]) (M' := sm g u) [pm_o (.lload_n 3), pm_o (.aload_n 0), pm_o (.aload_n 1), pm_o (.iload 5)] (by decide +kernel) rfl ?_
      obtain ⟨q10, hq10, h⟩ := pm_bd h
      refine pm_cV (idx := 74) m_Tokens_octetAt (c_Tokens_octetAt_1 l h0 D hT hq10) (As := [.ref 1, .int x5]) (S0 := [.long y3]) rfl (by decide +kernel) k_Tokens_octetAt l_Tokens_74 (Nat.le_of_ble_eq_true rfl) (Nat.le_of_ble_eq_true rfl) (Nat.le_refl _) (Nat.le_refl _) ?_
      refine pm_blk (pc' := 57) (L' := [(0, .ref 5), (1, .ref 1), (2, .int x2), (3, .long y3), (5, .int x5)]) (S' := [.int q10, .long y3]) (M' := sm g u) [] (by decide +kernel) rfl ?_
      obtain ⟨q11, hq11, h⟩ := pm_bd h
      refine pm_cS (idx := 41) m_Tokens_withOctet (c_Tokens_withOctet l h0 D hT hq11) (As := [.long y3, .int q10]) (S0 := []) rfl (by decide +kernel) k_Tokens_withOctet l_Tokens_41 (Nat.le_of_ble_eq_true rfl) (Nat.le_of_ble_eq_true rfl) (Nat.le_refl _) (Nat.le_refl _) ?_
      refine pm_blk (pc' := 64) (L' := [(5, .int (x5 + 1)), (3, .long q11), (0, .ref 5), (1, .ref 1), (2, .int x2)]) (S' := []) (M' := sm g u) [pm_o (.lstore_n 3), pm_oi (.iinc 5 1) 1] (by decide +kernel) rfl ?_
      refine pm_goto (off := -59) 5 (by decide +kernel) (by decide) ?_
      refine pm_loc [2, 3, 4, 1, 0] rfl ?_
      exact hk5 x2 q11 (x5 + 1) u h
def K_Tokens_scanName_1_5 (N : Nat) (g : pm_s) : Nat → Int32 → Int64 → Int32 → pm_J → Option (Int32 × pm_J)
  | 0, _, _, _, _ => none
  | n + 1, x2, y3, x5, u => if (u.1 5 6) ≤ x5 then K_Tokens_scanName_1_67 N g x2 y3 x5 u else (F_Tokens_octetAt_1 x5 g u).bind fun q6 => (F_Tokens_isLetter q6 g u).bind fun q7 => if q7 = 0 then (F_Tokens_octetAt_1 x5 g u).bind fun q12 => (F_Tokens_isDigit q12 g u).bind fun q13 => if q13 = 0 then K_Tokens_scanName_1_67 N g x2 y3 x5 u else K_Tokens_scanName_1_40 N g (K_Tokens_scanName_1_5 N g  n) x2 y3 x5 u else K_Tokens_scanName_1_40 N g (K_Tokens_scanName_1_5 N g  n) x2 y3 x5 u
set_option maxHeartbeats 4000000 in
set_option maxRecDepth 100000 in
theorem w_Tokens_scanName_1_5 (l : Launch) (h0 : Nat) (D : pm_D) {g : pm_s} (hT : sh_T g) {N : Nat} {u0 : pm_J} {out : Int32 × pm_J} {p : Program} {e : Env} {R : Room} {s : State} {m : MethodId} {args : Array Value} {below : List Frame} {meth : Method} {c : Code} : ∀ (n : Nat) (x2 : Int32) (y3 : Int64) (x5 : Int32) (u : pm_J), K_Tokens_scanName_1_5 N g n x2 y3 x5 u = some out → pm_V (p, l, e, R, s, m, args, below, meth, c) m_Tokens_scanName h0 D (g.1, g.2.1, g.1, g.2.1, 2) (pm_E (p, l, e, R, s, m, args, below, meth, c) h0 D (sm g u0) (some (.int out.1)) (sm g out.2)) 5 [(0, .ref 5), (1, .ref 1), (2, .int x2), (3, .long y3), (5, .int x5)] [] (sm g u) := by
  intro n
  induction n with
  | zero => intro x2 y3 x5 u h; cases h
  | succ n ih =>
    intro x2 y3 x5 u h
    rw [K_Tokens_scanName_1_5] at h
    refine pm_blk (pc' := 11) (L' := [(0, .ref 5), (1, .ref 1), (2, .int x2), (3, .long y3), (5, .int x5)]) (S' := [.int (u.1 5 6), .int x5]) (M' := sm g u) [pm_o (.iload 5), pm_o (.aload_n 0), pm_of (.getfield 49) 9 6 0] (by decide +kernel) rfl ?_
    refine pm_ic_ge (off := 56) 67 (by decide +kernel) (by decide) (fun hc1 => ?_) (fun hc1 => ?_)
    · rw [if_pos hc1] at h
      refine pm_loc [0, 2, 3, 4] rfl ?_
      exact w_Tokens_scanName_1_67 l h0 D hT x2 y3 x5 u h
    · rw [if_neg hc1] at h
      refine pm_blk (pc' := 18) (L' := [(0, .ref 5), (1, .ref 1), (2, .int x2), (3, .long y3), (5, .int x5)]) (S' := [.int x5, .ref 1, .ref 5]) (M' := sm g u) [pm_o (.aload_n 0), pm_o (.aload_n 1), pm_o (.iload 5)] (by decide +kernel) rfl ?_
      obtain ⟨q6, hq6, h⟩ := pm_bd h
      refine pm_cV (idx := 74) m_Tokens_octetAt (c_Tokens_octetAt_1 l h0 D hT hq6) (As := [.ref 1, .int x5]) (S0 := []) rfl (by decide +kernel) k_Tokens_octetAt l_Tokens_74 (Nat.le_of_ble_eq_true rfl) (Nat.le_of_ble_eq_true rfl) (Nat.le_refl _) (Nat.le_refl _) ?_
      refine pm_blk (pc' := 21) (L' := [(0, .ref 5), (1, .ref 1), (2, .int x2), (3, .long y3), (5, .int x5)]) (S' := [.int q6]) (M' := sm g u) [] (by decide +kernel) rfl ?_
      obtain ⟨q7, hq7, h⟩ := pm_bd h
      refine pm_cS (idx := 77) m_Tokens_isLetter (c_Tokens_isLetter l h0 D hT hq7) (As := [.int q6]) (S0 := []) rfl (by decide +kernel) k_Tokens_isLetter l_Tokens_77 (Nat.le_of_ble_eq_true rfl) (Nat.le_of_ble_eq_true rfl) (Nat.le_refl _) (Nat.le_refl _) ?_
      refine pm_blk (pc' := 24) (L' := [(0, .ref 5), (1, .ref 1), (2, .int x2), (3, .long y3), (5, .int x5)]) (S' := [.int q7]) (M' := sm g u) [] (by decide +kernel) rfl ?_
      refine pm_if_ne (off := 16) 40 (by decide +kernel) (by decide) (fun hc8 => ?_) (fun hc8 => ?_)
      · rw [if_neg hc8] at h
        refine pm_loc [0, 1, 2, 3, 4] rfl ?_
        exact w_Tokens_scanName_1_40 l h0 D hT ih x2 y3 x5 u h
      · rw [if_pos hc8] at h
        refine pm_blk (pc' := 31) (L' := [(0, .ref 5), (1, .ref 1), (2, .int x2), (3, .long y3), (5, .int x5)]) (S' := [.int x5, .ref 1, .ref 5]) (M' := sm g u) [pm_o (.aload_n 0), pm_o (.aload_n 1), pm_o (.iload 5)] (by decide +kernel) rfl ?_
        obtain ⟨q12, hq12, h⟩ := pm_bd h
        refine pm_cV (idx := 74) m_Tokens_octetAt (c_Tokens_octetAt_1 l h0 D hT hq12) (As := [.ref 1, .int x5]) (S0 := []) rfl (by decide +kernel) k_Tokens_octetAt l_Tokens_74 (Nat.le_of_ble_eq_true rfl) (Nat.le_of_ble_eq_true rfl) (Nat.le_refl _) (Nat.le_refl _) ?_
        refine pm_blk (pc' := 34) (L' := [(0, .ref 5), (1, .ref 1), (2, .int x2), (3, .long y3), (5, .int x5)]) (S' := [.int q12]) (M' := sm g u) [] (by decide +kernel) rfl ?_
        obtain ⟨q13, hq13, h⟩ := pm_bd h
        refine pm_cS (idx := 84) m_Tokens_isDigit (c_Tokens_isDigit l h0 D hT hq13) (As := [.int q12]) (S0 := []) rfl (by decide +kernel) k_Tokens_isDigit l_Tokens_84 (Nat.le_of_ble_eq_true rfl) (Nat.le_of_ble_eq_true rfl) (Nat.le_refl _) (Nat.le_refl _) ?_
        refine pm_blk (pc' := 37) (L' := [(0, .ref 5), (1, .ref 1), (2, .int x2), (3, .long y3), (5, .int x5)]) (S' := [.int q13]) (M' := sm g u) [] (by decide +kernel) rfl ?_
        refine pm_if_eq (off := 30) 67 (by decide +kernel) (by decide) (fun hc14 => ?_) (fun hc14 => ?_)
        · rw [if_pos hc14] at h
          refine pm_loc [0, 2, 3, 4] rfl ?_
          exact w_Tokens_scanName_1_67 l h0 D hT x2 y3 x5 u h
        · rw [if_neg hc14] at h
          refine pm_loc [0, 1, 2, 3, 4] rfl ?_
          exact w_Tokens_scanName_1_40 l h0 D hT ih x2 y3 x5 u h
def F_Tokens_scanName_1 (N : Nat) (a2 : Int32) (g : pm_s) (u : pm_J) : Option (Int32 × pm_J) := K_Tokens_scanName_1_5 N g N a2 0 a2 u
set_option maxHeartbeats 4000000 in
set_option maxRecDepth 100000 in
theorem c_Tokens_scanName_1 (l : Launch) (h0 : Nat) (D : pm_D) {g : pm_s} {u : pm_J} (hT : sh_T g) {N : Nat} {a2 : Int32} {out : Int32 × pm_J} (h : F_Tokens_scanName_1 N a2 g u = some out) : pm_C l h0 D m_Tokens_scanName (2) [.ref 5, .ref 1, .int a2] (sm g u) (some (.int out.1)) (sm g out.2) := by
  unfold F_Tokens_scanName_1 at h
  refine pm_met (by decide +kernel) (Nat.le_of_ble_eq_true rfl) (Nat.le_refl _) (Nat.le_refl _) ?_
  intro p e R s m args below meth c
  refine pm_blk (pc' := 5) (L' := [(5, .int a2), (3, .long 0), (0, .ref 5), (1, .ref 1), (2, .int a2)]) (S' := []) (M' := sm g u) [pm_ol (.lconst 0) 0, pm_o (.lstore_n 3), pm_o (.iload_n 2), pm_o (.istore 5)] (by decide +kernel) rfl ?_
  refine pm_loc [2, 3, 4, 1, 0] rfl ?_
  exact w_Tokens_scanName_1_5 l h0 D hT N a2 0 a2 u h
def F_Tokens_scanToken_1 (N : Nat) (a2 : Int32) (g : pm_s) (u : pm_J) : Option (Int32 × pm_J) := (F_Tokens_octetAt_1 a2 g u).bind fun q1 => (F_Tokens_isLetter q1 g u).bind fun q2 => if q2 = 0 then (F_Tokens_isDigit q1 g u).bind fun q4 => if q4 = 0 then if q1 = 35 then (F_Tokens_scanBits_1 N a2 g u).bind fun q7 => some (q7.1, q7.2) else if q1 = 39 then (F_Tokens_scanLetter_1 a2 g u).bind fun q9 => some (q9.1, q9.2) else (F_Tokens_scanSign_1 N a2 g u).bind fun q10 => some (q10.1, q10.2) else (F_Tokens_scanNumber_1 N a2 g u).bind fun q11 => some (q11.1, q11.2) else (F_Tokens_scanName_1 N a2 g u).bind fun q12 => some (q12.1, q12.2)
set_option maxHeartbeats 4000000 in
set_option maxRecDepth 100000 in
theorem c_Tokens_scanToken_1 (l : Launch) (h0 : Nat) (D : pm_D) {g : pm_s} {u : pm_J} (hT : sh_T g) {N : Nat} {a2 : Int32} {out : Int32 × pm_J} (h : F_Tokens_scanToken_1 N a2 g u = some out) : pm_C l h0 D m_Tokens_scanToken (5) [.ref 5, .ref 1, .int a2] (sm g u) (some (.int out.1)) (sm g out.2) := by
  unfold F_Tokens_scanToken_1 at h
  refine pm_met (by decide +kernel) (Nat.le_of_ble_eq_true rfl) (Nat.le_refl _) (Nat.le_refl _) ?_
  intro p e R s m args below meth c
  refine pm_blk (pc' := 3) (L' := [(0, .ref 5), (1, .ref 1), (2, .int a2)]) (S' := [.int a2, .ref 1, .ref 5]) (M' := sm g u) [pm_o (.aload_n 0), pm_o (.aload_n 1), pm_o (.iload_n 2)] (by decide +kernel) rfl ?_
  obtain ⟨q1, hq1, h⟩ := pm_bd h
  refine pm_cV (idx := 74) m_Tokens_octetAt (c_Tokens_octetAt_1 l h0 D hT hq1) (As := [.ref 1, .int a2]) (S0 := []) rfl (by decide +kernel) k_Tokens_octetAt l_Tokens_74 (Nat.le_of_ble_eq_true rfl) (Nat.le_of_ble_eq_true rfl) (Nat.le_refl _) (Nat.le_refl _) ?_
  refine pm_blk (pc' := 8) (L' := [(3, .int q1), (0, .ref 5), (1, .ref 1), (2, .int a2)]) (S' := [.int q1]) (M' := sm g u) [pm_o (.istore_n 3), pm_o (.iload_n 3)] (by decide +kernel) rfl ?_
  obtain ⟨q2, hq2, h⟩ := pm_bd h
  refine pm_cS (idx := 77) m_Tokens_isLetter (c_Tokens_isLetter l h0 D hT hq2) (As := [.int q1]) (S0 := []) rfl (by decide +kernel) k_Tokens_isLetter l_Tokens_77 (Nat.le_of_ble_eq_true rfl) (Nat.le_of_ble_eq_true rfl) (Nat.le_refl _) (Nat.le_refl _) ?_
  refine pm_blk (pc' := 11) (L' := [(3, .int q1), (0, .ref 5), (1, .ref 1), (2, .int a2)]) (S' := [.int q2]) (M' := sm g u) [] (by decide +kernel) rfl ?_
  refine pm_if_eq (off := 10) 21 (by decide +kernel) (by decide) (fun hc3 => ?_) (fun hc3 => ?_)
  · rw [if_pos hc3] at h
    refine pm_blk (pc' := 22) (L' := [(3, .int q1), (0, .ref 5), (1, .ref 1), (2, .int a2)]) (S' := [.int q1]) (M' := sm g u) [pm_o (.iload_n 3)] (by decide +kernel) rfl ?_
    obtain ⟨q4, hq4, h⟩ := pm_bd h
    refine pm_cS (idx := 84) m_Tokens_isDigit (c_Tokens_isDigit l h0 D hT hq4) (As := [.int q1]) (S0 := []) rfl (by decide +kernel) k_Tokens_isDigit l_Tokens_84 (Nat.le_of_ble_eq_true rfl) (Nat.le_of_ble_eq_true rfl) (Nat.le_refl _) (Nat.le_refl _) ?_
    refine pm_blk (pc' := 25) (L' := [(3, .int q1), (0, .ref 5), (1, .ref 1), (2, .int a2)]) (S' := [.int q4]) (M' := sm g u) [] (by decide +kernel) rfl ?_
    refine pm_if_eq (off := 10) 35 (by decide +kernel) (by decide) (fun hc5 => ?_) (fun hc5 => ?_)
    · rw [if_pos hc5] at h
      refine pm_blk (pc' := 36) (L' := [(3, .int q1), (0, .ref 5), (1, .ref 1), (2, .int a2)]) (S' := [.int q1]) (M' := sm g u) [pm_o (.iload_n 3)] (by decide +kernel) rfl ?_
      refine pm_lsw (dflt := 42) (prs := #[(35, 28), (39, 35)]) (len := 28) [(35, 64), (39, 71)] 78 (by decide +kernel) (by decide +kernel) (by decide +kernel) ?_
      by_cases hs6 : q1 = 35
      · rw [if_pos hs6] at h
        rw [pm_sw_pos hs6]
        refine pm_blk (pc' := 67) (L' := [(3, .int q1), (0, .ref 5), (1, .ref 1), (2, .int a2)]) (S' := [.int a2, .ref 1, .ref 5]) (M' := sm g u) [pm_o (.aload_n 0), pm_o (.aload_n 1), pm_o (.iload_n 2)] (by decide +kernel) rfl ?_
        obtain ⟨q7, hq7, h⟩ := pm_bd h
        refine pm_cV (idx := 90) m_Tokens_scanBits (c_Tokens_scanBits_1 l h0 D hT hq7) (As := [.ref 1, .int a2]) (S0 := []) rfl (by decide +kernel) k_Tokens_scanBits l_Tokens_90 (Nat.le_of_ble_eq_true rfl) (Nat.le_of_ble_eq_true rfl) (Nat.le_refl _) (Nat.le_refl _) ?_
        refine pm_blk (pc' := 70) (L' := [(3, .int q1), (0, .ref 5), (1, .ref 1), (2, .int a2)]) (S' := [.int q7.1]) (M' := sm g q7.2) [] (by decide +kernel) rfl ?_
        have h9 := Option.some.inj h
        subst h9
        exact pm_reti rfl (by decide +kernel) rfl rfl rfl
      rw [if_neg hs6] at h
      rw [pm_sw_neg hs6]
      by_cases hs8 : q1 = 39
      · rw [if_pos hs8] at h
        rw [pm_sw_pos hs8]
        refine pm_blk (pc' := 74) (L' := [(3, .int q1), (0, .ref 5), (1, .ref 1), (2, .int a2)]) (S' := [.int a2, .ref 1, .ref 5]) (M' := sm g u) [pm_o (.aload_n 0), pm_o (.aload_n 1), pm_o (.iload_n 2)] (by decide +kernel) rfl ?_
        obtain ⟨q9, hq9, h⟩ := pm_bd h
        refine pm_cV (idx := 93) m_Tokens_scanLetter (c_Tokens_scanLetter_1 l h0 D hT hq9) (As := [.ref 1, .int a2]) (S0 := []) rfl (by decide +kernel) k_Tokens_scanLetter l_Tokens_93 (Nat.le_of_ble_eq_true rfl) (Nat.le_of_ble_eq_true rfl) (Nat.le_refl _) (Nat.le_refl _) ?_
        refine pm_blk (pc' := 77) (L' := [(3, .int q1), (0, .ref 5), (1, .ref 1), (2, .int a2)]) (S' := [.int q9.1]) (M' := sm g q9.2) [] (by decide +kernel) rfl ?_
        have h9 := Option.some.inj h
        subst h9
        exact pm_reti rfl (by decide +kernel) rfl rfl rfl
      rw [if_neg hs8] at h
      rw [pm_sw_neg hs8]
      refine pm_pc (pc' := 78) rfl ?_
      refine pm_blk (pc' := 81) (L' := [(3, .int q1), (0, .ref 5), (1, .ref 1), (2, .int a2)]) (S' := [.int a2, .ref 1, .ref 5]) (M' := sm g u) [pm_o (.aload_n 0), pm_o (.aload_n 1), pm_o (.iload_n 2)] (by decide +kernel) rfl ?_
      obtain ⟨q10, hq10, h⟩ := pm_bd h
      refine pm_cV (idx := 96) m_Tokens_scanSign (c_Tokens_scanSign_1 l h0 D hT hq10) (As := [.ref 1, .int a2]) (S0 := []) rfl (by decide +kernel) k_Tokens_scanSign l_Tokens_96 (Nat.le_of_ble_eq_true rfl) (Nat.le_of_ble_eq_true rfl) (Nat.le_refl _) (Nat.le_refl _) ?_
      refine pm_blk (pc' := 84) (L' := [(3, .int q1), (0, .ref 5), (1, .ref 1), (2, .int a2)]) (S' := [.int q10.1]) (M' := sm g q10.2) [] (by decide +kernel) rfl ?_
      have h9 := Option.some.inj h
      subst h9
      exact pm_reti rfl (by decide +kernel) rfl rfl rfl
    · rw [if_neg hc5] at h
      refine pm_blk (pc' := 31) (L' := [(3, .int q1), (0, .ref 5), (1, .ref 1), (2, .int a2)]) (S' := [.int a2, .ref 1, .ref 5]) (M' := sm g u) [pm_o (.aload_n 0), pm_o (.aload_n 1), pm_o (.iload_n 2)] (by decide +kernel) rfl ?_
      obtain ⟨q11, hq11, h⟩ := pm_bd h
      refine pm_cV (idx := 87) m_Tokens_scanNumber (c_Tokens_scanNumber_1 l h0 D hT hq11) (As := [.ref 1, .int a2]) (S0 := []) rfl (by decide +kernel) k_Tokens_scanNumber l_Tokens_87 (Nat.le_of_ble_eq_true rfl) (Nat.le_of_ble_eq_true rfl) (Nat.le_refl _) (Nat.le_refl _) ?_
      refine pm_blk (pc' := 34) (L' := [(3, .int q1), (0, .ref 5), (1, .ref 1), (2, .int a2)]) (S' := [.int q11.1]) (M' := sm g q11.2) [] (by decide +kernel) rfl ?_
      have h9 := Option.some.inj h
      subst h9
      exact pm_reti rfl (by decide +kernel) rfl rfl rfl
  · rw [if_neg hc3] at h
    refine pm_blk (pc' := 17) (L' := [(3, .int q1), (0, .ref 5), (1, .ref 1), (2, .int a2)]) (S' := [.int a2, .ref 1, .ref 5]) (M' := sm g u) [pm_o (.aload_n 0), pm_o (.aload_n 1), pm_o (.iload_n 2)] (by decide +kernel) rfl ?_
    obtain ⟨q12, hq12, h⟩ := pm_bd h
    refine pm_cV (idx := 81) m_Tokens_scanName (c_Tokens_scanName_1 l h0 D hT hq12) (As := [.ref 1, .int a2]) (S0 := []) rfl (by decide +kernel) k_Tokens_scanName l_Tokens_81 (Nat.le_of_ble_eq_true rfl) (Nat.le_of_ble_eq_true rfl) (Nat.le_refl _) (Nat.le_refl _) ?_
    refine pm_blk (pc' := 20) (L' := [(3, .int q1), (0, .ref 5), (1, .ref 1), (2, .int a2)]) (S' := [.int q12.1]) (M' := sm g q12.2) [] (by decide +kernel) rfl ?_
    have h9 := Option.some.inj h
    subst h9
    exact pm_reti rfl (by decide +kernel) rfl rfl rfl
def K_Tokens_scan_1_57 (N : Nat) (g : pm_s) (k20 : Int32 → Int32 → pm_J → Option (pm_J)) (x4 : Int32) (u : pm_J) : Option (pm_J) := k20 1 (x4 + (if 1 < 1 then 1 else 1)) u
set_option maxHeartbeats 4000000 in
set_option maxRecDepth 100000 in
theorem w_Tokens_scan_1_57 (l : Launch) (h0 : Nat) (D : pm_D) {g : pm_s} (hT : sh_T g) {N : Nat} {u0 : pm_J} {out : pm_J} {p : Program} {e : Env} {R : Room} {s : State} {m : MethodId} {args : Array Value} {below : List Frame} {meth : Method} {c : Code} {k20 : Int32 → Int32 → pm_J → Option (pm_J)} (hk20 : ∀ (x3 : Int32) (x4 : Int32) (u : pm_J), k20 x3 x4 u = some out → pm_V (p, l, e, R, s, m, args, below, meth, c) m_Tokens_scan h0 D (g.1, g.2.1, g.1, g.2.1, 6) (pm_E (p, l, e, R, s, m, args, below, meth, c) h0 D (sm g u0) none (sm g out)) 20 [(0, .ref 5), (1, .ref 1), (3, .int x3), (4, .int x4)] [] (sm g u)) : ∀ (x4 : Int32) (u : pm_J), K_Tokens_scan_1_57 N g k20 x4 u = some out → pm_V (p, l, e, R, s, m, args, below, meth, c) m_Tokens_scan h0 D (g.1, g.2.1, g.1, g.2.1, 6) (pm_E (p, l, e, R, s, m, args, below, meth, c) h0 D (sm g u0) none (sm g out)) 57 [(0, .ref 5), (1, .ref 1), (4, .int x4)] [] (sm g u) := by
    intro x4 u h
    unfold K_Tokens_scan_1_57 at h
    refine pm_blk (pc' := 59) (L' := [(3, .int 1), (0, .ref 5), (1, .ref 1), (4, .int x4)]) (S' := []) (M' := sm g u) [pm_oi (.iconst 1) 1, pm_o (.istore_n 3)] (by decide +kernel) rfl ?_
    refine pm_goto (off := 34) 93 (by decide +kernel) (by decide) ?_
    refine pm_blk (pc' := 97) (L' := [(3, .int 1), (0, .ref 5), (1, .ref 1), (4, .int x4)]) (S' := [.int 1, .int 1, .int x4]) (M' := sm g u) [pm_o (.iload 4), pm_oi (.iconst 1) 1, pm_o (.iload_n 3)] (by decide +kernel) rfl ?_
    refine pm_max (idx := 71) (by decide +kernel) l_Tokens_71 (Nat.le_of_ble_eq_true rfl) (Nat.le_of_ble_eq_true rfl) (Nat.le_refl _) (Nat.le_refl _) ?_
    refine pm_blk (pc' := 103) (L' := [(4, .int (x4 + (if 1 < 1 then 1 else 1))), (3, .int 1), (0, .ref 5), (1, .ref 1)]) (S' := []) (M' := sm g u) [pm_o .iadd, pm_o (.istore 4)] (by decide +kernel) rfl ?_
    refine pm_goto (off := -83) 20 (by decide +kernel) (by decide) ?_
    refine pm_loc [2, 3, 1, 0] rfl ?_
    exact hk20 1 (x4 + (if 1 < 1 then 1 else 1)) u h
def K_Tokens_scan_1_20 (N : Nat) (g : pm_s) : Nat → Int32 → Int32 → pm_J → Option (pm_J)
  | 0, _, _, _ => none
  | n + 1, x3, x4, u => if (u.1 5 6) ≤ x4 then some u else (F_Fault_isTold_3 g u).bind fun q2 => if q2 = 0 then if pm_ok x4 3000 = true then if (u.1 1 x4.toNatClampNeg) = 32 then K_Tokens_scan_1_57 N g (K_Tokens_scan_1_20 N g  n) x4 u else if pm_ok x4 3000 = true then if (u.1 1 x4.toNatClampNeg) = 10 then K_Tokens_scan_1_57 N g (K_Tokens_scan_1_20 N g  n) x4 u else if (u.1 5 5) < 900 then (F_Tokens_scanToken_1 N x4 g u).bind fun q9 => K_Tokens_scan_1_20 N g  n q9.1 (x4 + (if 1 < q9.1 then q9.1 else 1)) q9.2 else (F_Fault_tell_3 1 x4 g u).bind fun q10 => K_Tokens_scan_1_20 N g  n x3 (x4 + (if 1 < x3 then x3 else 1)) q10 else none else none else some u
set_option maxHeartbeats 4000000 in
set_option maxRecDepth 100000 in
theorem w_Tokens_scan_1_20 (l : Launch) (h0 : Nat) (D : pm_D) {g : pm_s} (hT : sh_T g) {N : Nat} {u0 : pm_J} {out : pm_J} {p : Program} {e : Env} {R : Room} {s : State} {m : MethodId} {args : Array Value} {below : List Frame} {meth : Method} {c : Code} : ∀ (n : Nat) (x3 : Int32) (x4 : Int32) (u : pm_J), K_Tokens_scan_1_20 N g n x3 x4 u = some out → pm_V (p, l, e, R, s, m, args, below, meth, c) m_Tokens_scan h0 D (g.1, g.2.1, g.1, g.2.1, 6) (pm_E (p, l, e, R, s, m, args, below, meth, c) h0 D (sm g u0) none (sm g out)) 20 [(0, .ref 5), (1, .ref 1), (3, .int x3), (4, .int x4)] [] (sm g u) := by
  intro n
  induction n with
  | zero => intro x3 x4 u h; cases h
  | succ n ih =>
    intro x3 x4 u h
    rw [K_Tokens_scan_1_20] at h
    refine pm_blk (pc' := 26) (L' := [(0, .ref 5), (1, .ref 1), (3, .int x3), (4, .int x4)]) (S' := [.int (u.1 5 6), .int x4]) (M' := sm g u) [pm_o (.iload 4), pm_o (.aload_n 0), pm_of (.getfield 49) 9 6 0] (by decide +kernel) rfl ?_
    refine pm_ic_ge (off := 80) 106 (by decide +kernel) (by decide) (fun hc1 => ?_) (fun hc1 => ?_)
    · rw [if_pos hc1] at h
      have h9 := Option.some.inj h
      subst h9
      exact pm_retv rfl (by decide +kernel) rfl rfl
    · rw [if_neg hc1] at h
      refine pm_blk (pc' := 33) (L' := [(0, .ref 5), (1, .ref 1), (3, .int x3), (4, .int x4)]) (S' := [.ref 3]) (M' := sm g u) [pm_o (.aload_n 0), pm_of (.getfield 9) 9 0 2] (by decide +kernel) rfl ?_
      obtain ⟨q2, hq2, h⟩ := pm_bd h
      refine pm_cV (idx := 57) m_Fault_isTold (c_Fault_isTold_3 l h0 D hT hq2) (As := []) (S0 := []) rfl (by decide +kernel) k_Fault_isTold l_Tokens_57 (Nat.le_of_ble_eq_true rfl) (Nat.le_of_ble_eq_true rfl) (Nat.le_refl _) (Nat.le_refl _) ?_
      refine pm_blk (pc' := 36) (L' := [(0, .ref 5), (1, .ref 1), (3, .int x3), (4, .int x4)]) (S' := [.int q2]) (M' := sm g u) [] (by decide +kernel) rfl ?_
      refine pm_if_ne (off := 70) 106 (by decide +kernel) (by decide) (fun hc3 => ?_) (fun hc3 => ?_)
      · rw [if_neg hc3] at h
        have h9 := Option.some.inj h
        subst h9
        exact pm_retv rfl (by decide +kernel) rfl rfl
      · rw [if_pos hc3] at h
        refine pm_blk (pc' := 42) (L' := [(0, .ref 5), (1, .ref 1), (3, .int x3), (4, .int x4)]) (S' := [.int x4, .ref 1]) (M' := sm g u) [pm_o (.aload_n 1), pm_o (.iload 4)] (by decide +kernel) rfl ?_
        obtain ⟨ho4, h⟩ := pm_ifs h
        refine pm_iald (by decide +kernel) rfl (pm_ok_in ho4) ?_
        refine pm_blk (pc' := 45) (L' := [(0, .ref 5), (1, .ref 1), (3, .int x3), (4, .int x4)]) (S' := [.int 32, .int (u.1 1 x4.toNatClampNeg)]) (M' := sm g u) [pm_oi (.bipush 32) 32] (by decide +kernel) rfl ?_
        refine pm_ic_eq (off := 12) 57 (by decide +kernel) (by decide) (fun hc5 => ?_) (fun hc5 => ?_)
        · rw [if_pos hc5] at h
          refine pm_loc [0, 1, 3] rfl ?_
          exact w_Tokens_scan_1_57 l h0 D hT ih x4 u h
        · rw [if_neg hc5] at h
          refine pm_blk (pc' := 51) (L' := [(0, .ref 5), (1, .ref 1), (3, .int x3), (4, .int x4)]) (S' := [.int x4, .ref 1]) (M' := sm g u) [pm_o (.aload_n 1), pm_o (.iload 4)] (by decide +kernel) rfl ?_
          obtain ⟨ho6, h⟩ := pm_ifs h
          refine pm_iald (by decide +kernel) rfl (pm_ok_in ho6) ?_
          refine pm_blk (pc' := 54) (L' := [(0, .ref 5), (1, .ref 1), (3, .int x3), (4, .int x4)]) (S' := [.int 10, .int (u.1 1 x4.toNatClampNeg)]) (M' := sm g u) [pm_oi (.bipush 10) 10] (by decide +kernel) rfl ?_
          refine pm_ic_ne (off := 8) 62 (by decide +kernel) (by decide) (fun hc7 => ?_) (fun hc7 => ?_)
          · rw [if_neg hc7] at h
            refine pm_blk (pc' := 69) (L' := [(0, .ref 5), (1, .ref 1), (3, .int x3), (4, .int x4)]) (S' := [.int 900, .int (u.1 5 5)]) (M' := sm g u) [pm_o (.aload_n 0), pm_of (.getfield 45) 9 5 0, pm_oi (.sipush 900) 900] (by decide +kernel) rfl ?_
            refine pm_ic_lt (off := 16) 85 (by decide +kernel) (by decide) (fun hc8 => ?_) (fun hc8 => ?_)
            · rw [if_pos hc8] at h
              refine pm_blk (pc' := 89) (L' := [(0, .ref 5), (1, .ref 1), (3, .int x3), (4, .int x4)]) (S' := [.int x4, .ref 1, .ref 5]) (M' := sm g u) [pm_o (.aload_n 0), pm_o (.aload_n 1), pm_o (.iload 4)] (by decide +kernel) rfl ?_
              obtain ⟨q9, hq9, h⟩ := pm_bd h
              refine pm_cV (idx := 67) m_Tokens_scanToken (c_Tokens_scanToken_1 l h0 D hT hq9) (As := [.ref 1, .int x4]) (S0 := []) rfl (by decide +kernel) k_Tokens_scanToken l_Tokens_67 (Nat.le_of_ble_eq_true rfl) (Nat.le_of_ble_eq_true rfl) (Nat.le_refl _) (Nat.le_refl _) ?_
              refine pm_blk (pc' := 97) (L' := [(3, .int q9.1), (0, .ref 5), (1, .ref 1), (4, .int x4)]) (S' := [.int q9.1, .int 1, .int x4]) (M' := sm g q9.2) [pm_o (.istore_n 3), pm_o (.iload 4), pm_oi (.iconst 1) 1, pm_o (.iload_n 3)] (by decide +kernel) rfl ?_
              refine pm_max (idx := 71) (by decide +kernel) l_Tokens_71 (Nat.le_of_ble_eq_true rfl) (Nat.le_of_ble_eq_true rfl) (Nat.le_refl _) (Nat.le_refl _) ?_
              refine pm_blk (pc' := 103) (L' := [(4, .int (x4 + (if 1 < q9.1 then q9.1 else 1))), (3, .int q9.1), (0, .ref 5), (1, .ref 1)]) (S' := []) (M' := sm g q9.2) [pm_o .iadd, pm_o (.istore 4)] (by decide +kernel) rfl ?_
              refine pm_goto (off := -83) 20 (by decide +kernel) (by decide) ?_
              refine pm_loc [2, 3, 1, 0] rfl ?_
              exact ih q9.1 (x4 + (if 1 < q9.1 then q9.1 else 1)) q9.2 h
            · rw [if_neg hc8] at h
              refine pm_blk (pc' := 79) (L' := [(0, .ref 5), (1, .ref 1), (3, .int x3), (4, .int x4)]) (S' := [.int x4, .int 1, .ref 3]) (M' := sm g u) [pm_o (.aload_n 0), pm_of (.getfield 9) 9 0 2, pm_oi (.iconst 1) 1, pm_o (.iload 4)] (by decide +kernel) rfl ?_
              obtain ⟨q10, hq10, h⟩ := pm_bd h
              refine pm_cV (idx := 63) m_Fault_tell (c_Fault_tell_3 l h0 D hT hq10) (As := [.int 1, .int x4]) (S0 := []) rfl (by decide +kernel) k_Fault_tell l_Tokens_63 (Nat.le_of_ble_eq_true rfl) (Nat.le_of_ble_eq_true rfl) (Nat.le_refl _) (Nat.le_refl _) ?_
              refine pm_blk (pc' := 82) (L' := [(0, .ref 5), (1, .ref 1), (3, .int x3), (4, .int x4)]) (S' := []) (M' := sm g q10) [] (by decide +kernel) rfl ?_
              refine pm_goto (off := 11) 93 (by decide +kernel) (by decide) ?_
              refine pm_blk (pc' := 97) (L' := [(0, .ref 5), (1, .ref 1), (3, .int x3), (4, .int x4)]) (S' := [.int x3, .int 1, .int x4]) (M' := sm g q10) [pm_o (.iload 4), pm_oi (.iconst 1) 1, pm_o (.iload_n 3)] (by decide +kernel) rfl ?_
              refine pm_max (idx := 71) (by decide +kernel) l_Tokens_71 (Nat.le_of_ble_eq_true rfl) (Nat.le_of_ble_eq_true rfl) (Nat.le_refl _) (Nat.le_refl _) ?_
              refine pm_blk (pc' := 103) (L' := [(4, .int (x4 + (if 1 < x3 then x3 else 1))), (0, .ref 5), (1, .ref 1), (3, .int x3)]) (S' := []) (M' := sm g q10) [pm_o .iadd, pm_o (.istore 4)] (by decide +kernel) rfl ?_
              refine pm_goto (off := -83) 20 (by decide +kernel) (by decide) ?_
              refine pm_loc [1, 2, 3, 0] rfl ?_
              exact ih x3 (x4 + (if 1 < x3 then x3 else 1)) q10 h
          · rw [if_pos hc7] at h
            refine pm_loc [0, 1, 3] rfl ?_
            exact w_Tokens_scan_1_57 l h0 D hT ih x4 u h
def F_Tokens_scan_1 (N : Nat) (a2 : Int32) (g : pm_s) (u : pm_J) : Option (pm_J) := K_Tokens_scan_1_20 N g N 1 0 (wi (wi u 5 5 0) 5 6 (if (Nat.toInt32 3000) < a2 then (Nat.toInt32 3000) else a2))
set_option maxHeartbeats 4000000 in
set_option maxRecDepth 100000 in
theorem c_Tokens_scan_1 (l : Launch) (h0 : Nat) (D : pm_D) {g : pm_s} {u : pm_J} (hT : sh_T g) {N : Nat} {a2 : Int32} {out : pm_J} (h : F_Tokens_scan_1 N a2 g u = some out) : pm_C l h0 D m_Tokens_scan (6) [.ref 5, .ref 1, .int a2] (sm g u) none (sm g out) := by
  unfold F_Tokens_scan_1 at h
  refine pm_met (by decide +kernel) (Nat.le_of_ble_eq_true rfl) (Nat.le_refl _) (Nat.le_refl _) ?_
  intro p e R s m args below meth c
  refine pm_blk (pc' := 9) (L' := [(0, .ref 5), (1, .ref 1), (2, .int a2)]) (S' := [.int (Nat.toInt32 3000), .int a2, .ref 5]) (M' := sm g (wi u 5 5 0)) [pm_o (.aload_n 0), pm_oi (.iconst 0) 0, pm_of (.putfield 45) 9 5 0, pm_o (.aload_n 0), pm_o (.iload_n 2), pm_o (.aload_n 1), pm_o .arraylength] (by decide +kernel) rfl ?_
  refine pm_min (idx := 51) (by decide +kernel) l_Tokens_51 (Nat.le_of_ble_eq_true rfl) (Nat.le_of_ble_eq_true rfl) (Nat.le_refl _) (Nat.le_refl _) ?_
  refine pm_blk (pc' := 20) (L' := [(4, .int 0), (3, .int 1), (0, .ref 5), (1, .ref 1), (2, .int a2)]) (S' := []) (M' := sm g (wi (wi u 5 5 0) 5 6 (if (Nat.toInt32 3000) < a2 then (Nat.toInt32 3000) else a2))) [pm_of (.putfield 49) 9 6 0, pm_oi (.iconst 1) 1, pm_o (.istore_n 3), pm_oi (.iconst 0) 0, pm_o (.istore 4)] (by decide +kernel) rfl ?_
  refine pm_loc [2, 3, 1, 0] rfl ?_
  exact w_Tokens_scan_1_20 l h0 D hT N 1 0 (wi (wi u 5 5 0) 5 6 (if (Nat.toInt32 3000) < a2 then (Nat.toInt32 3000) else a2)) h
