/-! branches, arrays, new cells, calls, the ends -/
section PMB
variable {x : pm_c} {y : pm_m} {h0 : Nat} {D : pm_D} {b : pm_b} {Q : State → Prop} {pc : Nat} {L L' : List (Nat × Value)} {S S' : List Value} {M M' : pm_M}
theorem pm_ic_eq {u v : Int32} {off : Int} (tgt : Nat) (hd : decode y.2.1 pc = .ok (.if_icmp .eq off, 3)) (ht : (pc : Int) + off = (tgt : Int)) (kt : u = v → pm_V x y h0 D b Q tgt L S M) (kf : ¬ u = v → pm_V x y h0 D b Q (pc + 3) L S M) : pm_V x y h0 D b Q pc L (.int v :: .int u :: S) M := by
  obtain ⟨p, l, e, R, s, m, args, below, meth, c⟩ := x
  intro X H locs ls hR hF hlo hL hn hz
  exact lv_icmp_eq X.1 X.2.1 hd ht (fun q => kt q X H locs ls hR hF hlo hL hn hz) (fun q => kf q X H locs ls hR hF hlo hL hn hz)
theorem pm_if_eq {u : Int32} {off : Int} (tgt : Nat) (hd : decode y.2.1 pc = .ok (.ifCond .eq off, 3)) (ht : (pc : Int) + off = (tgt : Int)) (kt : u = 0 → pm_V x y h0 D b Q tgt L S M) (kf : ¬ u = 0 → pm_V x y h0 D b Q (pc + 3) L S M) : pm_V x y h0 D b Q pc L (.int u :: S) M := by
  obtain ⟨p, l, e, R, s, m, args, below, meth, c⟩ := x
  intro X H locs ls hR hF hlo hL hn hz
  exact lv_if_eq X.1 X.2.1 hd ht (fun q => kt q X H locs ls hR hF hlo hL hn hz) (fun q => kf q X H locs ls hR hF hlo hL hn hz)
theorem pm_ic_ne {u v : Int32} {off : Int} (tgt : Nat) (hd : decode y.2.1 pc = .ok (.if_icmp .ne off, 3)) (ht : (pc : Int) + off = (tgt : Int)) (kt : ¬ u = v → pm_V x y h0 D b Q tgt L S M) (kf : u = v → pm_V x y h0 D b Q (pc + 3) L S M) : pm_V x y h0 D b Q pc L (.int v :: .int u :: S) M := by
  obtain ⟨p, l, e, R, s, m, args, below, meth, c⟩ := x
  intro X H locs ls hR hF hlo hL hn hz
  exact lv_icmp_ne X.1 X.2.1 hd ht (fun q => kt q X H locs ls hR hF hlo hL hn hz) (fun q => kf q X H locs ls hR hF hlo hL hn hz)
theorem pm_if_ne {u : Int32} {off : Int} (tgt : Nat) (hd : decode y.2.1 pc = .ok (.ifCond .ne off, 3)) (ht : (pc : Int) + off = (tgt : Int)) (kt : ¬ u = 0 → pm_V x y h0 D b Q tgt L S M) (kf : u = 0 → pm_V x y h0 D b Q (pc + 3) L S M) : pm_V x y h0 D b Q pc L (.int u :: S) M := by
  obtain ⟨p, l, e, R, s, m, args, below, meth, c⟩ := x
  intro X H locs ls hR hF hlo hL hn hz
  exact lv_if_ne X.1 X.2.1 hd ht (fun q => kt q X H locs ls hR hF hlo hL hn hz) (fun q => kf q X H locs ls hR hF hlo hL hn hz)
theorem pm_ic_lt {u v : Int32} {off : Int} (tgt : Nat) (hd : decode y.2.1 pc = .ok (.if_icmp .lt off, 3)) (ht : (pc : Int) + off = (tgt : Int)) (kt : u < v → pm_V x y h0 D b Q tgt L S M) (kf : ¬ u < v → pm_V x y h0 D b Q (pc + 3) L S M) : pm_V x y h0 D b Q pc L (.int v :: .int u :: S) M := by
  obtain ⟨p, l, e, R, s, m, args, below, meth, c⟩ := x
  intro X H locs ls hR hF hlo hL hn hz
  exact lv_icmp_lt X.1 X.2.1 hd ht (fun q => kt q X H locs ls hR hF hlo hL hn hz) (fun q => kf q X H locs ls hR hF hlo hL hn hz)
theorem pm_if_lt {u : Int32} {off : Int} (tgt : Nat) (hd : decode y.2.1 pc = .ok (.ifCond .lt off, 3)) (ht : (pc : Int) + off = (tgt : Int)) (kt : u < 0 → pm_V x y h0 D b Q tgt L S M) (kf : ¬ u < 0 → pm_V x y h0 D b Q (pc + 3) L S M) : pm_V x y h0 D b Q pc L (.int u :: S) M := by
  obtain ⟨p, l, e, R, s, m, args, below, meth, c⟩ := x
  intro X H locs ls hR hF hlo hL hn hz
  exact lv_if_lt X.1 X.2.1 hd ht (fun q => kt q X H locs ls hR hF hlo hL hn hz) (fun q => kf q X H locs ls hR hF hlo hL hn hz)
theorem pm_ic_ge {u v : Int32} {off : Int} (tgt : Nat) (hd : decode y.2.1 pc = .ok (.if_icmp .ge off, 3)) (ht : (pc : Int) + off = (tgt : Int)) (kt : v ≤ u → pm_V x y h0 D b Q tgt L S M) (kf : ¬ v ≤ u → pm_V x y h0 D b Q (pc + 3) L S M) : pm_V x y h0 D b Q pc L (.int v :: .int u :: S) M := by
  obtain ⟨p, l, e, R, s, m, args, below, meth, c⟩ := x
  intro X H locs ls hR hF hlo hL hn hz
  exact lv_icmp_ge X.1 X.2.1 hd ht (fun q => kt q X H locs ls hR hF hlo hL hn hz) (fun q => kf q X H locs ls hR hF hlo hL hn hz)
theorem pm_if_ge {u : Int32} {off : Int} (tgt : Nat) (hd : decode y.2.1 pc = .ok (.ifCond .ge off, 3)) (ht : (pc : Int) + off = (tgt : Int)) (kt : 0 ≤ u → pm_V x y h0 D b Q tgt L S M) (kf : ¬ 0 ≤ u → pm_V x y h0 D b Q (pc + 3) L S M) : pm_V x y h0 D b Q pc L (.int u :: S) M := by
  obtain ⟨p, l, e, R, s, m, args, below, meth, c⟩ := x
  intro X H locs ls hR hF hlo hL hn hz
  exact lv_if_ge X.1 X.2.1 hd ht (fun q => kt q X H locs ls hR hF hlo hL hn hz) (fun q => kf q X H locs ls hR hF hlo hL hn hz)
theorem pm_ic_gt {u v : Int32} {off : Int} (tgt : Nat) (hd : decode y.2.1 pc = .ok (.if_icmp .gt off, 3)) (ht : (pc : Int) + off = (tgt : Int)) (kt : v < u → pm_V x y h0 D b Q tgt L S M) (kf : ¬ v < u → pm_V x y h0 D b Q (pc + 3) L S M) : pm_V x y h0 D b Q pc L (.int v :: .int u :: S) M := by
  obtain ⟨p, l, e, R, s, m, args, below, meth, c⟩ := x
  intro X H locs ls hR hF hlo hL hn hz
  exact lv_icmp_gt X.1 X.2.1 hd ht (fun q => kt q X H locs ls hR hF hlo hL hn hz) (fun q => kf q X H locs ls hR hF hlo hL hn hz)
theorem pm_if_gt {u : Int32} {off : Int} (tgt : Nat) (hd : decode y.2.1 pc = .ok (.ifCond .gt off, 3)) (ht : (pc : Int) + off = (tgt : Int)) (kt : 0 < u → pm_V x y h0 D b Q tgt L S M) (kf : ¬ 0 < u → pm_V x y h0 D b Q (pc + 3) L S M) : pm_V x y h0 D b Q pc L (.int u :: S) M := by
  obtain ⟨p, l, e, R, s, m, args, below, meth, c⟩ := x
  intro X H locs ls hR hF hlo hL hn hz
  exact lv_if_gt X.1 X.2.1 hd ht (fun q => kt q X H locs ls hR hF hlo hL hn hz) (fun q => kf q X H locs ls hR hF hlo hL hn hz)
theorem pm_ic_le {u v : Int32} {off : Int} (tgt : Nat) (hd : decode y.2.1 pc = .ok (.if_icmp .le off, 3)) (ht : (pc : Int) + off = (tgt : Int)) (kt : u ≤ v → pm_V x y h0 D b Q tgt L S M) (kf : ¬ u ≤ v → pm_V x y h0 D b Q (pc + 3) L S M) : pm_V x y h0 D b Q pc L (.int v :: .int u :: S) M := by
  obtain ⟨p, l, e, R, s, m, args, below, meth, c⟩ := x
  intro X H locs ls hR hF hlo hL hn hz
  exact lv_icmp_le X.1 X.2.1 hd ht (fun q => kt q X H locs ls hR hF hlo hL hn hz) (fun q => kf q X H locs ls hR hF hlo hL hn hz)
theorem pm_if_le {u : Int32} {off : Int} (tgt : Nat) (hd : decode y.2.1 pc = .ok (.ifCond .le off, 3)) (ht : (pc : Int) + off = (tgt : Int)) (kt : u ≤ 0 → pm_V x y h0 D b Q tgt L S M) (kf : ¬ u ≤ 0 → pm_V x y h0 D b Q (pc + 3) L S M) : pm_V x y h0 D b Q pc L (.int u :: S) M := by
  obtain ⟨p, l, e, R, s, m, args, below, meth, c⟩ := x
  intro X H locs ls hR hF hlo hL hn hz
  exact lv_if_le X.1 X.2.1 hd ht (fun q => kt q X H locs ls hR hF hlo hL hn hz) (fun q => kf q X H locs ls hR hF hlo hL hn hz)
theorem pm_goto {off : Int} (tgt : Nat) (hd : decode y.2.1 pc = .ok (.goto off, 3)) (ht : (pc : Int) + off = (tgt : Int)) (k : pm_V x y h0 D b Q tgt L S M) : pm_V x y h0 D b Q pc L S M := by
  obtain ⟨p, l, e, R, s, m, args, below, meth, c⟩ := x
  intro X H locs ls hR hF hlo hL hn hz
  exact lv_goto X.1 X.2.1 hd ht (k X H locs ls hR hF hlo hL hn hz)
theorem pm_tin {dflt lo hi off : Int} {offs : Array Int} {len : Nat} {u : Int32} (tgt : Nat) (hd : decode y.2.1 pc = .ok (.tableswitch dflt lo hi offs, len)) (h1 : ¬ u.toInt < lo) (h2 : ¬ hi < u.toInt) (ho : offs[(u.toInt - lo).toNat]? = some off) (ht : (pc : Int) + off = (tgt : Int)) (k : pm_V x y h0 D b Q tgt L S M) : pm_V x y h0 D b Q pc L (.int u :: S) M := by
  obtain ⟨p, l, e, R, s, m, args, below, meth, c⟩ := x
  intro X H locs ls hR hF hlo hL hn hz
  exact lv_tableIn X.1 X.2.1 hd h1 h2 ho ht (k X H locs ls hR hF hlo hL hn hz)
theorem pm_tout {dflt lo hi : Int} {offs : Array Int} {len : Nat} {u : Int32} (tgt : Nat) (hd : decode y.2.1 pc = .ok (.tableswitch dflt lo hi offs, len)) (h : u.toInt < lo ∨ hi < u.toInt) (ht : (pc : Int) + dflt = (tgt : Int)) (k : pm_V x y h0 D b Q tgt L S M) : pm_V x y h0 D b Q pc L (.int u :: S) M := by
  obtain ⟨p, l, e, R, s, m, args, below, meth, c⟩ := x
  intro X H locs ls hR hF hlo hL hn hz
  exact lv_tableOut X.1 X.2.1 hd h ht (k X H locs ls hR hF hlo hL hn hz)
theorem pm_look {dflt off : Int} {ps : Array (Int × Int)} {len : Nat} {u : Int32} (tgt : Nat) (hd : decode y.2.1 pc = .ok (.lookupswitch dflt ps, len)) (hp : (ps.toList.zip (ps.toList.drop 1)).all (fun (a, next) => a.1 < next.1) = true) (ho : Op.lookupswitch.offset ps.toList dflt u.toInt = off) (ht : (pc : Int) + off = (tgt : Int)) (k : pm_V x y h0 D b Q tgt L S M) : pm_V x y h0 D b Q pc L (.int u :: S) M := by
  obtain ⟨p, l, e, R, s, m, args, below, meth, c⟩ := x
  intro X H locs ls hR hF hlo hL hn hz
  exact lv_lookup X.1 X.2.1 hd hp ho ht (k X H locs ls hR hF hlo hL hn hz)
theorem pm_iald {a : Nat} {i : Int32} (hd : decode y.2.1 pc = .ok (.iaload, 1)) (hk : M.1.2.2.1 a = 100) (hi : vp_in i (M.1.2.2.2.1 a)) (kk : pm_V x y h0 D b Q (pc + 1) L (.int (M.2.1 a i.toNatClampNeg) :: S) M) : pm_V x y h0 D b Q pc L (.int i :: .ref a :: S) M := by
  obtain ⟨p, l, e, R, s, m, args, below, meth, c⟩ := x
  intro X H locs ls hR hF hlo hL hn hz
  obtain ⟨cA, h3, h4⟩ := (hR.2.1 a (by omega)).2.2 (by omega)
  rw [hk] at h3 h4
  exact W.iald X.1 X.2.1 h4 (h3 _ _) (fun h => by cases h) (by rw [arrV_size]; exact hi) (arrV_read _ _ (Nat.lt_of_not_le fun q => hi (Or.inr q))) rfl rfl hd (kk X H locs ls hR hF hlo hL hn hz)
theorem pm_zald {a : Nat} {i : Int32} (hd : decode y.2.1 pc = .ok (.baload, 1)) (hk : M.1.2.2.1 a = 102) (hi : vp_in i (M.1.2.2.2.1 a)) (kk : pm_V x y h0 D b Q (pc + 1) L (.int (M.2.1 a i.toNatClampNeg) :: S) M) : pm_V x y h0 D b Q pc L (.int i :: .ref a :: S) M := by
  obtain ⟨p, l, e, R, s, m, args, below, meth, c⟩ := x
  intro X H locs ls hR hF hlo hL hn hz
  obtain ⟨cA, h3, h4⟩ := (hR.2.1 a (by omega)).2.2 (by omega)
  rw [hk] at h3 h4
  exact W.zald X.1 X.2.1 h4 (h3 _ _) (fun h => by cases h) (by rw [arrV_size]; exact hi) (arrV_read _ _ (Nat.lt_of_not_le fun q => hi (Or.inr q))) rfl rfl hd (kk X H locs ls hR hF hlo hL hn hz)
theorem pm_lald {a : Nat} {i : Int32} (hd : decode y.2.1 pc = .ok (.laload, 1)) (hk : M.1.2.2.1 a = 101) (hi : vp_in i (M.1.2.2.2.1 a)) (kk : pm_V x y h0 D b Q (pc + 1) L (.long (M.2.2 a i.toNatClampNeg) :: S) M) : pm_V x y h0 D b Q pc L (.int i :: .ref a :: S) M := by
  obtain ⟨p, l, e, R, s, m, args, below, meth, c⟩ := x
  intro X H locs ls hR hF hlo hL hn hz
  obtain ⟨cA, h3, h4⟩ := (hR.2.1 a (by omega)).2.2 (by omega)
  rw [hk] at h3 h4
  exact W.lald X.1 X.2.1 h4 (h3 _ _) (fun h => by cases h) (by rw [arrV_size]; exact hi) (arrV_read _ _ (Nat.lt_of_not_le fun q => hi (Or.inr q))) rfl rfl hd (kk X H locs ls hR hF hlo hL hn hz)
theorem pm_iast {a : Nat} {i : Int32} {v : Int32} (hd : decode y.2.1 pc = .ok (.iastore, 1)) (hk : M.1.2.2.1 a = 100) (hi : vp_in i (M.1.2.2.2.1 a)) (kk : pm_V x y h0 D b Q (pc + 1) L S (pm_wi M a i.toNatClampNeg v)) : pm_V x y h0 D b Q pc L (.int v :: .int i :: .ref a :: S) M := by
  obtain ⟨p, l, e, R, s, m, args, below, meth, c⟩ := x
  intro X H locs ls hR hF hlo hL hn hz
  obtain ⟨cA, h3, h4⟩ := (hR.2.1 a (by omega)).2.2 (by omega)
  rw [hk] at h3 h4
  refine W.iast (a := h0 + a) X.1 X.2.1 h4 (h3 _ _) (fun h => by cases h) (by rw [arrV_size]; exact hi) rfl rfl hd fun H' e1 e2 e3 => ?_
  rw [arrV_store] at e1
  refine kk X H' _ ls (hR.put (a := a) rfl rfl rfl (fun _ _ _ => rfl) (fun c hc k => by simp [pm_wi, hc]) (fun _ _ _ => rfl) e2 e3 ⟨fun h9 => ?_, fun _ => ?_⟩) (fun q hq => (e3 q (Nat.ne_of_lt (Nat.lt_of_lt_of_le hq (Nat.le_add_right h0 a)))).trans (hF q hq)) (fun w hw => ?_) hL hn hz
  · have h9 : M.1.2.2.1 a < 100 := h9
    omega
  · show ∃ cA, ArrOfT s cA (pm_et (M.1.2.2.1 a)) ∧ H'[h0 + a]? = some (arrV cA (M.1.2.2.2.1 a) (pm_ev (pm_wi M a i.toNatClampNeg v) (M.1.2.2.1 a) a))
    rw [hk]
    refine ⟨cA, h3, ?_⟩
    rw [e1]
    congr 2
    funext j
    by_cases ej : j = i.toNatClampNeg <;> simp [updV, pm_ev, pm_wi, ej]
  · rcases List.mem_append.mp hw with h | h
    · exact hlo w h
    · rw [List.mem_singleton.mp h]; exact Nat.le_add_right _ _
theorem pm_zast {a : Nat} {i : Int32} {v : Int32} (hd : decode y.2.1 pc = .ok (.bastore, 1)) (hk : M.1.2.2.1 a = 102) (hv : (v == 0 || v == 1) = true) (hi : vp_in i (M.1.2.2.2.1 a)) (kk : pm_V x y h0 D b Q (pc + 1) L S (pm_wi M a i.toNatClampNeg v)) : pm_V x y h0 D b Q pc L (.int v :: .int i :: .ref a :: S) M := by
  obtain ⟨p, l, e, R, s, m, args, below, meth, c⟩ := x
  intro X H locs ls hR hF hlo hL hn hz
  obtain ⟨cA, h3, h4⟩ := (hR.2.1 a (by omega)).2.2 (by omega)
  rw [hk] at h3 h4
  refine W.zast (a := h0 + a) X.1 X.2.1 h4 (h3 _ _) (fun h => by cases h) (by rw [arrV_size]; exact hi) rfl rfl hd fun H' e1 e2 e3 => ?_
  rw [(pm_fitz hv).1] at e1
  rw [arrV_store] at e1
  refine kk X H' _ ls (hR.put (a := a) rfl rfl rfl (fun _ _ _ => rfl) (fun c hc k => by simp [pm_wi, hc]) (fun _ _ _ => rfl) e2 e3 ⟨fun h9 => ?_, fun _ => ?_⟩) (fun q hq => (e3 q (Nat.ne_of_lt (Nat.lt_of_lt_of_le hq (Nat.le_add_right h0 a)))).trans (hF q hq)) (fun w hw => ?_) hL hn hz
  · have h9 : M.1.2.2.1 a < 100 := h9
    omega
  · show ∃ cA, ArrOfT s cA (pm_et (M.1.2.2.1 a)) ∧ H'[h0 + a]? = some (arrV cA (M.1.2.2.2.1 a) (pm_ev (pm_wi M a i.toNatClampNeg v) (M.1.2.2.1 a) a))
    rw [hk]
    refine ⟨cA, h3, ?_⟩
    rw [e1]
    congr 2
    funext j
    by_cases ej : j = i.toNatClampNeg <;> simp [updV, pm_ev, pm_wi, ej]
  · rcases List.mem_append.mp hw with h | h
    · exact hlo w h
    · rw [List.mem_singleton.mp h]; exact Nat.le_add_right _ _
theorem pm_last {a : Nat} {i : Int32} {v : Int64} (hd : decode y.2.1 pc = .ok (.lastore, 1)) (hk : M.1.2.2.1 a = 101) (hi : vp_in i (M.1.2.2.2.1 a)) (kk : pm_V x y h0 D b Q (pc + 1) L S (pm_wj M a i.toNatClampNeg v)) : pm_V x y h0 D b Q pc L (.long v :: .int i :: .ref a :: S) M := by
  obtain ⟨p, l, e, R, s, m, args, below, meth, c⟩ := x
  intro X H locs ls hR hF hlo hL hn hz
  obtain ⟨cA, h3, h4⟩ := (hR.2.1 a (by omega)).2.2 (by omega)
  rw [hk] at h3 h4
  refine W.last (a := h0 + a) X.1 X.2.1 h4 (h3 _ _) (fun h => by cases h) (by rw [arrV_size]; exact hi) rfl rfl hd fun H' e1 e2 e3 => ?_
  rw [arrV_store] at e1
  refine kk X H' _ ls (hR.put (a := a) rfl rfl rfl (fun _ _ _ => rfl) (fun _ _ _ => rfl) (fun c hc k => by simp [pm_wj, hc]) e2 e3 ⟨fun h9 => ?_, fun _ => ?_⟩) (fun q hq => (e3 q (Nat.ne_of_lt (Nat.lt_of_lt_of_le hq (Nat.le_add_right h0 a)))).trans (hF q hq)) (fun w hw => ?_) hL hn hz
  · have h9 : M.1.2.2.1 a < 100 := h9
    omega
  · show ∃ cA, ArrOfT s cA (pm_et (M.1.2.2.1 a)) ∧ H'[h0 + a]? = some (arrV cA (M.1.2.2.2.1 a) (pm_ev (pm_wj M a i.toNatClampNeg v) (M.1.2.2.1 a) a))
    rw [hk]
    refine ⟨cA, h3, ?_⟩
    rw [e1]
    congr 2
    funext j
    by_cases ej : j = i.toNatClampNeg <;> simp [updV, pm_ev, pm_wj, ej]
  · rcases List.mem_append.mp hw with h | h
    · exact hlo w h
    · rw [List.mem_singleton.mp h]; exact Nat.le_add_right _ _
def pm_na (M : pm_M) (kd N : Nat) : pm_M := ((M.1.1 + 1, M.1.2.1 + N, fun x => if x = M.1.1 then kd else M.1.2.2.1 x, fun x => if x = M.1.1 then N else M.1.2.2.2.1 x, fun x k => if x = M.1.1 then none else M.1.2.2.2.2 x k), fun x k => if x = M.1.1 then 0 else M.2.1 x k, fun x k => if x = M.1.1 then 0 else M.2.2 x k)
theorem pm_na_at {U : State} {H H' : Heap} {kd N : Nat} (hR : pm_R U h0 D M H) (z : H'.size = h0 + M.1.1 + 1) (o : ∀ q, q < h0 + M.1.1 → H'[q]? = H[q]?) (hn : pm_at U h0 D (pm_na M kd N) H' M.1.1) : pm_R U h0 D (pm_na M kd N) H' := by
  refine ⟨z, fun a ha => ?_, fun q c hq hc => ?_⟩
  rotate_left
  · by_cases e : q = h0 + M.1.1
    · subst e
      exact hn.ns hc
    · have hl : q < H'.size := (Array.getElem?_eq_some_iff.mp hc).1
      exact hR.2.2 q c hq (by rw [← o q (by omega)]; exact hc)
  by_cases e : a = M.1.1
  · subst e
    exact ⟨Nat.lt_succ_self _, hn⟩
  · have ha' : M.1.2.2.1 a < 999 := by simpa [pm_na, e] using ha
    obtain ⟨h1, h2⟩ := hR.2.1 a ha'
    exact ⟨Nat.lt_succ_of_lt h1, h2.kept (by simp [pm_na, e]) (by simp [pm_na, e]) (fun k => by simp [pm_na, e]) (fun k => by simp [pm_na, e]) (fun k => by simp [pm_na, e]) (o _ (by omega))⟩
theorem pm_newi {n : Int32} (N : Nat) (hd : decode y.2.1 pc = .ok (.newarray .int, 2)) (hw : Cond.arrayClass .int ∈ pm_tbl) (hn0 : ¬ n < 0) (hN : n.toNatClampNeg = N) (hb : N ≤ 1000000) (h1 : M.1.1 + 1 ≤ b.2.2.1) (h2 : M.1.2.1 + N ≤ b.2.2.2.1) (kk : pm_V x y h0 D b Q (pc + 2) L (.ref M.1.1 :: S) (pm_na M 100 N)) : pm_V x y h0 D b Q pc L (.int n :: S) M := by
  obtain ⟨p, l, e, R, s, m, args, below, meth, c⟩ := x
  intro X H locs ls hR hF hlo hL hn hz
  obtain ⟨X1, X2, X3, X4, X5, X6, X7, X8, X9, X10, X11, X12⟩ := id X
  refine W.newaK (atype := .int) X1 X2 (X5 _ hw) rfl hd rfl hn0 hN (by show N * 4 ≤ 536870912; omega) (by omega) (by omega) hR.1 fun H' cA e1 e2 e3 e4 => ?_
  have h9 := kk X H' locs ls (pm_na_at hR e2 e3 ⟨fun q => ?_, fun _ => ⟨cA, ?_, ?_⟩⟩) (fun q hq => (e3 q (by omega)).trans (hF q hq)) hlo hL (Nat.le_succ_of_le hn) (Nat.le_trans hz (Nat.le_add_right _ _))
  · have c1 : (pm_na M 100 N).1.1 - b.1 = M.1.1 - b.1 + 1 := by show M.1.1 + 1 - b.1 = _; omega
    have c2 : (pm_na M 100 N).1.2.1 - b.2.1 = M.1.2.1 - b.2.1 + N := by show M.1.2.1 + N - b.2.1 = _; omega
    rw [c1, c2] at h9
    exact h9
  · simp [pm_na] at q
  · have e : (pm_na M 100 N).1.2.2.1 M.1.1 = 100 := by simp [pm_na]
    rw [e]
    exact e4
  · rw [e1]
    have e : (pm_na M 100 N).1.2.2.1 M.1.1 = 100 := by simp [pm_na]
    have e5 : (pm_na M 100 N).1.2.2.2.1 M.1.1 = N := by simp [pm_na]
    rw [e, e5]
    congr 2
    funext j
    simp only [pm_ev, pm_na, if_pos]
    rfl
theorem pm_newj {n : Int32} (N : Nat) (hd : decode y.2.1 pc = .ok (.newarray .long, 2)) (hw : Cond.arrayClass .long ∈ pm_tbl) (hn0 : ¬ n < 0) (hN : n.toNatClampNeg = N) (hb : N ≤ 1000000) (h1 : M.1.1 + 1 ≤ b.2.2.1) (h2 : M.1.2.1 + N ≤ b.2.2.2.1) (kk : pm_V x y h0 D b Q (pc + 2) L (.ref M.1.1 :: S) (pm_na M 101 N)) : pm_V x y h0 D b Q pc L (.int n :: S) M := by
  obtain ⟨p, l, e, R, s, m, args, below, meth, c⟩ := x
  intro X H locs ls hR hF hlo hL hn hz
  obtain ⟨X1, X2, X3, X4, X5, X6, X7, X8, X9, X10, X11, X12⟩ := id X
  refine W.newaK (atype := .long) X1 X2 (X5 _ hw) rfl hd rfl hn0 hN (by show N * 8 ≤ 536870912; omega) (by omega) (by omega) hR.1 fun H' cA e1 e2 e3 e4 => ?_
  have h9 := kk X H' locs ls (pm_na_at hR e2 e3 ⟨fun q => ?_, fun _ => ⟨cA, ?_, ?_⟩⟩) (fun q hq => (e3 q (by omega)).trans (hF q hq)) hlo hL (Nat.le_succ_of_le hn) (Nat.le_trans hz (Nat.le_add_right _ _))
  · have c1 : (pm_na M 101 N).1.1 - b.1 = M.1.1 - b.1 + 1 := by show M.1.1 + 1 - b.1 = _; omega
    have c2 : (pm_na M 101 N).1.2.1 - b.2.1 = M.1.2.1 - b.2.1 + N := by show M.1.2.1 + N - b.2.1 = _; omega
    rw [c1, c2] at h9
    exact h9
  · simp [pm_na] at q
  · have e : (pm_na M 101 N).1.2.2.1 M.1.1 = 101 := by simp [pm_na]
    rw [e]
    exact e4
  · rw [e1]
    have e : (pm_na M 101 N).1.2.2.1 M.1.1 = 101 := by simp [pm_na]
    have e5 : (pm_na M 101 N).1.2.2.2.1 M.1.1 = N := by simp [pm_na]
    rw [e, e5]
    congr 2
    funext j
    simp only [pm_ev, pm_na, if_pos]
    rfl
theorem pm_newz {n : Int32} (N : Nat) (hd : decode y.2.1 pc = .ok (.newarray .boolean, 2)) (hw : Cond.arrayClass .boolean ∈ pm_tbl) (hn0 : ¬ n < 0) (hN : n.toNatClampNeg = N) (hb : N ≤ 1000000) (h1 : M.1.1 + 1 ≤ b.2.2.1) (h2 : M.1.2.1 + N ≤ b.2.2.2.1) (kk : pm_V x y h0 D b Q (pc + 2) L (.ref M.1.1 :: S) (pm_na M 102 N)) : pm_V x y h0 D b Q pc L (.int n :: S) M := by
  obtain ⟨p, l, e, R, s, m, args, below, meth, c⟩ := x
  intro X H locs ls hR hF hlo hL hn hz
  obtain ⟨X1, X2, X3, X4, X5, X6, X7, X8, X9, X10, X11, X12⟩ := id X
  refine W.newaK (atype := .boolean) X1 X2 (X5 _ hw) rfl hd rfl hn0 hN (by show N * 1 ≤ 536870912; omega) (by omega) (by omega) hR.1 fun H' cA e1 e2 e3 e4 => ?_
  have h9 := kk X H' locs ls (pm_na_at hR e2 e3 ⟨fun q => ?_, fun _ => ⟨cA, ?_, ?_⟩⟩) (fun q hq => (e3 q (by omega)).trans (hF q hq)) hlo hL (Nat.le_succ_of_le hn) (Nat.le_trans hz (Nat.le_add_right _ _))
  · have c1 : (pm_na M 102 N).1.1 - b.1 = M.1.1 - b.1 + 1 := by show M.1.1 + 1 - b.1 = _; omega
    have c2 : (pm_na M 102 N).1.2.1 - b.2.1 = M.1.2.1 - b.2.1 + N := by show M.1.2.1 + N - b.2.1 = _; omega
    rw [c1, c2] at h9
    exact h9
  · simp [pm_na] at q
  · have e : (pm_na M 102 N).1.2.2.1 M.1.1 = 102 := by simp [pm_na]
    rw [e]
    exact e4
  · rw [e1]
    have e : (pm_na M 102 N).1.2.2.1 M.1.1 = 102 := by simp [pm_na]
    have e5 : (pm_na M 102 N).1.2.2.2.1 M.1.1 = N := by simp [pm_na]
    rw [e, e5]
    congr 2
    funext j
    simp only [pm_ev, pm_na, if_pos]
    rfl
end PMB
