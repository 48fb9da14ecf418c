/-! the memory: what a read and a write need of the tables -/
def pm_cP (q : vw_C) : Prop := (∀ w ∈ u_ws q.1 q.2.1 q.2.2, w ∈ pm_tbl) ∧ (∀ a, a < q.2.2 → ∀ b, b < q.2.2 → a ≠ b → (q.2.1 a).2.1 ≠ (q.2.1 b).2.1) ∧ ∀ k, k < q.2.2 → ∃ ty, parseFieldDescriptor (q.2.1 k).2.2.1 = some ty
theorem pm_cPof {C : String} {T : u_T} {N : Nat} (ps : List Nat) (h : u_ws C T N = ps.filterMap (fun i => tables_1[i]?)) (hg : (u_ws C T N).all goodWord = true) (hn : (List.range N).all (fun a => (List.range N).all (fun b => decide (a = b) || decide ((T a).2.1 ≠ (T b).2.1))) = true) (hp : (List.range N).all (fun k => (parseFieldDescriptor (T k).2.2.1).isSome) = true) : pm_cP (C, T, N) := by
  refine ⟨fun w hw => ?_, fun a ha b hb hne => ?_, fun k hk => ?_⟩
  · have h1 := List.all_eq_true.mp hg w hw
    rw [h] at hw
    obtain ⟨i, -, hi⟩ := List.mem_filterMap.mp hw
    exact pm_ix i hi h1
  · have h1 := List.all_eq_true.mp (List.all_eq_true.mp hn a (List.mem_range.mpr ha)) b (List.mem_range.mpr hb)
    simp only [Bool.or_eq_true, decide_eq_true_eq] at h1
    exact h1.resolve_left hne
  · exact Option.isSome_iff_exists.mp (List.all_eq_true.mp hp k (List.mem_range.mpr hk))
set_option maxRecDepth 100000 in
theorem cp_BC : pm_cP ("BoxedCore", cl_BC, 14) := pm_cPof _ cw_BC (by decide +kernel) (by decide +kernel) (by decide +kernel)
set_option maxRecDepth 100000 in
theorem cp_Adapter : pm_cP ("BoxedCore$Adapter", cl_Adapter, 9) := pm_cPof _ cw_Adapter (by decide +kernel) (by decide +kernel) (by decide +kernel)
set_option maxRecDepth 100000 in
theorem cp_Checker : pm_cP ("BoxedCore$Checker", cl_Checker, 5) := pm_cPof _ cw_Checker (by decide +kernel) (by decide +kernel) (by decide +kernel)
set_option maxRecDepth 100000 in
theorem cp_Fault : pm_cP ("BoxedCore$Fault", cl_Fault, 2) := pm_cPof _ cw_Fault (by decide +kernel) (by decide +kernel) (by decide +kernel)
set_option maxRecDepth 100000 in
theorem cp_Frames : pm_cP ("BoxedCore$Frames", cl_Frames, 8) := pm_cPof _ cw_Frames (by decide +kernel) (by decide +kernel) (by decide +kernel)
set_option maxRecDepth 100000 in
theorem cp_Heap : pm_cP ("BoxedCore$Heap", cl_Heap, 10) := pm_cPof _ cw_Heap (by decide +kernel) (by decide +kernel) (by decide +kernel)
set_option maxRecDepth 100000 in
theorem cp_Machine : pm_cP ("BoxedCore$Machine", cl_Machine, 17) := pm_cPof _ cw_Machine (by decide +kernel) (by decide +kernel) (by decide +kernel)
set_option maxRecDepth 100000 in
theorem cp_Parser : pm_cP ("BoxedCore$Parser", cl_Parser, 15) := pm_cPof _ cw_Parser (by decide +kernel) (by decide +kernel) (by decide +kernel)
set_option maxRecDepth 100000 in
theorem cp_Table : pm_cP ("BoxedCore$Table", cl_Table, 10) := pm_cPof _ cw_Table (by decide +kernel) (by decide +kernel) (by decide +kernel)
set_option maxRecDepth 100000 in
theorem cp_Tokens : pm_cP ("BoxedCore$Tokens", cl_Tokens, 7) := pm_cPof _ cw_Tokens (by decide +kernel) (by decide +kernel) (by decide +kernel)
set_option maxRecDepth 100000 in
theorem cp_Tree : pm_cP ("BoxedCore$Tree", cl_Tree, 11) := pm_cPof _ cw_Tree (by decide +kernel) (by decide +kernel) (by decide +kernel)
set_option maxRecDepth 100000 in
theorem cp_Types : pm_cP ("BoxedCore$Types", cl_Types, 8) := pm_cPof _ cw_Types (by decide +kernel) (by decide +kernel) (by decide +kernel)
set_option maxRecDepth 100000 in
theorem cp_Md : pm_cP ("BoxedCoreModel", cl_Md, 119) := pm_cPof _ cw_Md (by decide +kernel) (by decide +kernel) (by decide +kernel)
theorem pm_cPall : ∀ q ∈ pm_cl, pm_cP q := List.forall_mem_cons.mpr ⟨cp_BC, List.forall_mem_cons.mpr ⟨cp_Adapter, List.forall_mem_cons.mpr ⟨cp_Checker, List.forall_mem_cons.mpr ⟨cp_Fault, List.forall_mem_cons.mpr ⟨cp_Frames, List.forall_mem_cons.mpr ⟨cp_Heap, List.forall_mem_cons.mpr ⟨cp_Machine, List.forall_mem_cons.mpr ⟨cp_Parser, List.forall_mem_cons.mpr ⟨cp_Table, List.forall_mem_cons.mpr ⟨cp_Tokens, List.forall_mem_cons.mpr ⟨cp_Tree, List.forall_mem_cons.mpr ⟨cp_Types, List.forall_mem_cons.mpr ⟨cp_Md, fun _ h => absurd h List.not_mem_nil⟩⟩⟩⟩⟩⟩⟩⟩⟩⟩⟩⟩⟩
theorem pm_ck_s {ci : Nat} {q : vw_C} (h : pm_cl[ci]? = some q) : pm_cP q := pm_cPall q (List.mem_of_getElem? h)
/-- a field by the pool index of the class own: (index, class, field, type code, final) -/
def pm_fP (own : String) (f : Nat × Nat × Nat × Nat × Bool) : Prop := ∃ q, pm_cl[f.2.1]? = some q ∧ f.2.1 < 100 ∧ f.2.2.1 < q.2.2 ∧ Cond.fieldLink own f.1 (q.2.1 f.2.2.1).1 (q.2.1 f.2.2.1).2.1 (q.2.1 f.2.2.1).2.2.1 ∈ pm_tbl ∧ pm_ft f.2.1 f.2.2.1 = f.2.2.2.1 ∧ (q.2.1 f.2.2.1).2.2.2 = f.2.2.2.2 ∧ (q.2.1 f.2.2.1).1 = pm_on f.2.1
def pm_fw (own : String) (f : Nat × Nat × Nat × Nat × Bool) : Cond := match pm_cl[f.2.1]? with
  | some q => Cond.fieldLink own f.1 (q.2.1 f.2.2.1).1 (q.2.1 f.2.2.1).2.1 (q.2.1 f.2.2.1).2.2.1
  | none => Cond.tt
def pm_fb (f : Nat × Nat × Nat × Nat × Bool) : Bool := match pm_cl[f.2.1]? with
  | some q => decide (f.2.1 < 100) && decide (f.2.2.1 < q.2.2) && decide (pm_ft f.2.1 f.2.2.1 = f.2.2.2.1) && decide ((q.2.1 f.2.2.1).2.2.2 = f.2.2.2.2) && decide ((q.2.1 f.2.2.1).1 = pm_on f.2.1)
  | none => false
theorem pm_fPof {own : String} (ft : List (Nat × Nat × Nat × Nat × Bool)) (ps : List Nat) (h : ft.map (pm_fw own) = ps.filterMap (fun i => tables_1[i]?)) (hb : ft.all pm_fb = true) : ∀ f ∈ ft, pm_fP own f := by
  intro f hf
  have h1 := List.all_eq_true.mp hb f hf
  have h2 : pm_fw own f ∈ ft.map (pm_fw own) := List.mem_map_of_mem hf
  rw [h] at h2
  obtain ⟨i, -, hi⟩ := List.mem_filterMap.mp h2
  unfold pm_fb at h1
  unfold pm_fw at hi
  cases hc : pm_cl[f.2.1]? with
  | none => rw [hc] at h1; cases h1
  | some q =>
    rw [hc] at h1 hi
    simp only [Bool.and_eq_true, decide_eq_true_eq] at h1
    exact ⟨q, hc, h1.1.1.1.1, h1.1.1.1.2, pm_ix i hi rfl, h1.1.1.2, h1.1.2, h1.2⟩
set_option maxRecDepth 100000 in
theorem fp_BC : ∀ f ∈ ft_BC, pm_fP "BoxedCore" f := pm_fPof _ fi_BC (by decide +kernel) (by decide +kernel)
set_option maxRecDepth 100000 in
theorem fp_Adapter : ∀ f ∈ ft_Adapter, pm_fP "BoxedCore$Adapter" f := pm_fPof _ fi_Adapter (by decide +kernel) (by decide +kernel)
set_option maxRecDepth 100000 in
theorem fp_Checker : ∀ f ∈ ft_Checker, pm_fP "BoxedCore$Checker" f := pm_fPof _ fi_Checker (by decide +kernel) (by decide +kernel)
set_option maxRecDepth 100000 in
theorem fp_Fault : ∀ f ∈ ft_Fault, pm_fP "BoxedCore$Fault" f := pm_fPof _ fi_Fault (by decide +kernel) (by decide +kernel)
set_option maxRecDepth 100000 in
theorem fp_Frames : ∀ f ∈ ft_Frames, pm_fP "BoxedCore$Frames" f := pm_fPof _ fi_Frames (by decide +kernel) (by decide +kernel)
set_option maxRecDepth 100000 in
theorem fp_Heap : ∀ f ∈ ft_Heap, pm_fP "BoxedCore$Heap" f := pm_fPof _ fi_Heap (by decide +kernel) (by decide +kernel)
set_option maxRecDepth 100000 in
theorem fp_Machine : ∀ f ∈ ft_Machine, pm_fP "BoxedCore$Machine" f := pm_fPof _ fi_Machine (by decide +kernel) (by decide +kernel)
set_option maxRecDepth 100000 in
theorem fp_Parser : ∀ f ∈ ft_Parser, pm_fP "BoxedCore$Parser" f := pm_fPof _ fi_Parser (by decide +kernel) (by decide +kernel)
set_option maxRecDepth 100000 in
theorem fp_Table : ∀ f ∈ ft_Table, pm_fP "BoxedCore$Table" f := pm_fPof _ fi_Table (by decide +kernel) (by decide +kernel)
set_option maxRecDepth 100000 in
theorem fp_Tokens : ∀ f ∈ ft_Tokens, pm_fP "BoxedCore$Tokens" f := pm_fPof _ fi_Tokens (by decide +kernel) (by decide +kernel)
set_option maxRecDepth 100000 in
theorem fp_Tree : ∀ f ∈ ft_Tree, pm_fP "BoxedCore$Tree" f := pm_fPof _ fi_Tree (by decide +kernel) (by decide +kernel)
set_option maxRecDepth 100000 in
theorem fp_Types : ∀ f ∈ ft_Types, pm_fP "BoxedCore$Types" f := pm_fPof _ fi_Types (by decide +kernel) (by decide +kernel)
set_option maxRecDepth 100000 in
theorem fp_Md : ∀ f ∈ ft_Md, pm_fP "BoxedCoreModel" f := pm_fPof _ fi_Md (by decide +kernel) (by decide +kernel)
theorem pm_ftab_s {own : String} {f : Nat × Nat × Nat × Nat × Bool} (hf : f ∈ pm_ftab own) : pm_fP own f := by
  unfold pm_ftab at hf
  by_cases h0 : own = "BoxedCore"
  · rw [if_pos h0] at hf; rw [h0]; exact fp_BC f hf
  rw [if_neg h0] at hf
  by_cases h1 : own = "BoxedCore$Adapter"
  · rw [if_pos h1] at hf; rw [h1]; exact fp_Adapter f hf
  rw [if_neg h1] at hf
  by_cases h2 : own = "BoxedCore$Checker"
  · rw [if_pos h2] at hf; rw [h2]; exact fp_Checker f hf
  rw [if_neg h2] at hf
  by_cases h3 : own = "BoxedCore$Fault"
  · rw [if_pos h3] at hf; rw [h3]; exact fp_Fault f hf
  rw [if_neg h3] at hf
  by_cases h4 : own = "BoxedCore$Frames"
  · rw [if_pos h4] at hf; rw [h4]; exact fp_Frames f hf
  rw [if_neg h4] at hf
  by_cases h5 : own = "BoxedCore$Heap"
  · rw [if_pos h5] at hf; rw [h5]; exact fp_Heap f hf
  rw [if_neg h5] at hf
  by_cases h6 : own = "BoxedCore$Machine"
  · rw [if_pos h6] at hf; rw [h6]; exact fp_Machine f hf
  rw [if_neg h6] at hf
  by_cases h7 : own = "BoxedCore$Parser"
  · rw [if_pos h7] at hf; rw [h7]; exact fp_Parser f hf
  rw [if_neg h7] at hf
  by_cases h8 : own = "BoxedCore$Table"
  · rw [if_pos h8] at hf; rw [h8]; exact fp_Table f hf
  rw [if_neg h8] at hf
  by_cases h9 : own = "BoxedCore$Tokens"
  · rw [if_pos h9] at hf; rw [h9]; exact fp_Tokens f hf
  rw [if_neg h9] at hf
  by_cases h10 : own = "BoxedCore$Tree"
  · rw [if_pos h10] at hf; rw [h10]; exact fp_Tree f hf
  rw [if_neg h10] at hf
  by_cases h11 : own = "BoxedCore$Types"
  · rw [if_pos h11] at hf; rw [h11]; exact fp_Types f hf
  rw [if_neg h11] at hf
  by_cases h12 : own = "BoxedCoreModel"
  · rw [if_pos h12] at hf; rw [h12]; exact fp_Md f hf
  rw [if_neg h12] at hf
  cases hf
theorem cc_Heap : ∀ f ∈ ([(28, 60000)] : List (Nat × Int32)), Cond.constant "BoxedCore$Heap" f.1 f.2 ∈ pm_tbl := List.forall_mem_cons.mpr ⟨pm_ix 338 (by decide +kernel) rfl, fun _ h => absurd h List.not_mem_nil⟩
theorem cc_Types : ∀ f ∈ ([(49, 65536), (54, 1000000)] : List (Nat × Int32)), Cond.constant "BoxedCore$Types" f.1 f.2 ∈ pm_tbl := List.forall_mem_cons.mpr ⟨pm_ix 754 (by decide +kernel) rfl, List.forall_mem_cons.mpr ⟨pm_ix 769 (by decide +kernel) rfl, fun _ h => absurd h List.not_mem_nil⟩⟩
theorem cc_Integer : ∀ f ∈ ([(265, 1431655765), (266, 858993459), (267, 252645135), (264, 65536)] : List (Nat × Int32)), Cond.constant "java/lang/Integer" f.1 f.2 ∈ pm_tbl := List.forall_mem_cons.mpr ⟨pm_ix 781 (by decide +kernel) rfl, List.forall_mem_cons.mpr ⟨pm_ix 782 (by decide +kernel) rfl, List.forall_mem_cons.mpr ⟨pm_ix 783 (by decide +kernel) rfl, List.forall_mem_cons.mpr ⟨pm_ix 1371 (by decide +kernel) rfl, fun _ h => absurd h List.not_mem_nil⟩⟩⟩⟩
theorem cc_StringUTF16 : ∀ f ∈ ([(20, 1073741823)] : List (Nat × Int32)), Cond.constant "java/lang/StringUTF16" f.1 f.2 ∈ pm_tbl := List.forall_mem_cons.mpr ⟨pm_ix 873 (by decide +kernel) rfl, fun _ h => absurd h List.not_mem_nil⟩
theorem cc_ArraysSupport : ∀ f ∈ ([(200, 2147483639)] : List (Nat × Int32)), Cond.constant "jdk/internal/util/ArraysSupport" f.1 f.2 ∈ pm_tbl := List.forall_mem_cons.mpr ⟨pm_ix 911 (by decide +kernel) rfl, fun _ h => absurd h List.not_mem_nil⟩
theorem cc_AbstractStringBuilder : ∀ f ∈ ([(39, 2147483647)] : List (Nat × Int32)), Cond.constant "java/lang/AbstractStringBuilder" f.1 f.2 ∈ pm_tbl := List.forall_mem_cons.mpr ⟨pm_ix 915 (by decide +kernel) rfl, fun _ h => absurd h List.not_mem_nil⟩
theorem cc_Machine : ∀ f ∈ ([(106, 20000000)] : List (Nat × Int32)), Cond.constant "BoxedCore$Machine" f.1 f.2 ∈ pm_tbl := List.forall_mem_cons.mpr ⟨pm_ix 1505 (by decide +kernel) rfl, fun _ h => absurd h List.not_mem_nil⟩
theorem cc_Adapter : ∀ f ∈ ([(48, 1000000)] : List (Nat × Int32)), Cond.constant "BoxedCore$Adapter" f.1 f.2 ∈ pm_tbl := List.forall_mem_cons.mpr ⟨pm_ix 1543 (by decide +kernel) rfl, fun _ h => absurd h List.not_mem_nil⟩
theorem cc_Md : ∀ f ∈ ([(30, 100000), (161, 60000)] : List (Nat × Int32)), Cond.constant "BoxedCoreModel" f.1 f.2 ∈ pm_tbl := List.forall_mem_cons.mpr ⟨pm_ix 1734 (by decide +kernel) rfl, List.forall_mem_cons.mpr ⟨pm_ix 1735 (by decide +kernel) rfl, fun _ h => absurd h List.not_mem_nil⟩⟩
theorem pm_ctab_s {own : String} {f : Nat × Int32} (hf : f ∈ pm_ctab own) : Cond.constant own f.1 f.2 ∈ pm_tbl := by
  unfold pm_ctab at hf
  by_cases h0 : own = "BoxedCore$Heap"
  · rw [if_pos h0] at hf; rw [h0]; exact cc_Heap f hf
  rw [if_neg h0] at hf
  by_cases h1 : own = "BoxedCore$Types"
  · rw [if_pos h1] at hf; rw [h1]; exact cc_Types f hf
  rw [if_neg h1] at hf
  by_cases h2 : own = "java/lang/Integer"
  · rw [if_pos h2] at hf; rw [h2]; exact cc_Integer f hf
  rw [if_neg h2] at hf
  by_cases h3 : own = "java/lang/StringUTF16"
  · rw [if_pos h3] at hf; rw [h3]; exact cc_StringUTF16 f hf
  rw [if_neg h3] at hf
  by_cases h4 : own = "jdk/internal/util/ArraysSupport"
  · rw [if_pos h4] at hf; rw [h4]; exact cc_ArraysSupport f hf
  rw [if_neg h4] at hf
  by_cases h5 : own = "java/lang/AbstractStringBuilder"
  · rw [if_pos h5] at hf; rw [h5]; exact cc_AbstractStringBuilder f hf
  rw [if_neg h5] at hf
  by_cases h6 : own = "BoxedCore$Machine"
  · rw [if_pos h6] at hf; rw [h6]; exact cc_Machine f hf
  rw [if_neg h6] at hf
  by_cases h7 : own = "BoxedCore$Adapter"
  · rw [if_pos h7] at hf; rw [h7]; exact cc_Adapter f hf
  rw [if_neg h7] at hf
  by_cases h8 : own = "BoxedCoreModel"
  · rw [if_pos h8] at hf; rw [h8]; exact cc_Md f hf
  rw [if_neg h8] at hf
  cases hf
theorem cj_Tokens : ∀ f ∈ ([(119, 37), (109, 9223372036854775807), (111, 10)] : List (Nat × Int64)), Cond.constantLong "BoxedCore$Tokens" f.1 f.2 ∈ pm_tbl := List.forall_mem_cons.mpr ⟨pm_ix 116 (by decide +kernel) rfl, List.forall_mem_cons.mpr ⟨pm_ix 615 (by decide +kernel) rfl, List.forall_mem_cons.mpr ⟨pm_ix 616 (by decide +kernel) rfl, fun _ h => absurd h List.not_mem_nil⟩⟩⟩
theorem cj_Heap : ∀ f ∈ ([(52, -1)] : List (Nat × Int64)), Cond.constantLong "BoxedCore$Heap" f.1 f.2 ∈ pm_tbl := List.forall_mem_cons.mpr ⟨pm_ix 1560 (by decide +kernel) rfl, fun _ h => absurd h List.not_mem_nil⟩
theorem cj_Md : ∀ f ∈ ([(268, 255), (283, 1735290732), (277, 256), (289, 111516182736740), (291, 7628140), (293, 28265), (295, 26217), (297, 1852139636), (299, 1702063205), (301, 28262), (303, 7631718), (305, 6581875), (321, 922337203685477580), (323, 10)] : List (Nat × Int64)), Cond.constantLong "BoxedCoreModel" f.1 f.2 ∈ pm_tbl := List.forall_mem_cons.mpr ⟨pm_ix 2106 (by decide +kernel) rfl, List.forall_mem_cons.mpr ⟨pm_ix 2145 (by decide +kernel) rfl, List.forall_mem_cons.mpr ⟨pm_ix 2150 (by decide +kernel) rfl, List.forall_mem_cons.mpr ⟨pm_ix 2151 (by decide +kernel) rfl, List.forall_mem_cons.mpr ⟨pm_ix 2152 (by decide +kernel) rfl, List.forall_mem_cons.mpr ⟨pm_ix 2153 (by decide +kernel) rfl, List.forall_mem_cons.mpr ⟨pm_ix 2154 (by decide +kernel) rfl, List.forall_mem_cons.mpr ⟨pm_ix 2155 (by decide +kernel) rfl, List.forall_mem_cons.mpr ⟨pm_ix 2156 (by decide +kernel) rfl, List.forall_mem_cons.mpr ⟨pm_ix 2157 (by decide +kernel) rfl, List.forall_mem_cons.mpr ⟨pm_ix 2158 (by decide +kernel) rfl, List.forall_mem_cons.mpr ⟨pm_ix 2159 (by decide +kernel) rfl, List.forall_mem_cons.mpr ⟨pm_ix 2160 (by decide +kernel) rfl, List.forall_mem_cons.mpr ⟨pm_ix 2161 (by decide +kernel) rfl, fun _ h => absurd h List.not_mem_nil⟩⟩⟩⟩⟩⟩⟩⟩⟩⟩⟩⟩⟩⟩
theorem cj_Law : ∀ f ∈ ([(39, 4294967295)] : List (Nat × Int64)), Cond.constantLong "BoxedCoreLaw" f.1 f.2 ∈ pm_tbl := List.forall_mem_cons.mpr ⟨pm_ix 2494 (by decide +kernel) rfl, fun _ h => absurd h List.not_mem_nil⟩
theorem pm_ltab_s {own : String} {f : Nat × Int64} (hf : f ∈ pm_ltab own) : Cond.constantLong own f.1 f.2 ∈ pm_tbl := by
  unfold pm_ltab at hf
  by_cases h0 : own = "BoxedCore$Tokens"
  · rw [if_pos h0] at hf; rw [h0]; exact cj_Tokens f hf
  rw [if_neg h0] at hf
  by_cases h1 : own = "BoxedCore$Heap"
  · rw [if_pos h1] at hf; rw [h1]; exact cj_Heap f hf
  rw [if_neg h1] at hf
  by_cases h2 : own = "BoxedCoreModel"
  · rw [if_pos h2] at hf; rw [h2]; exact cj_Md f hf
  rw [if_neg h2] at hf
  by_cases h3 : own = "BoxedCoreLaw"
  · rw [if_pos h3] at hf; rw [h3]; exact cj_Law f hf
  rw [if_neg h3] at hf
  cases hf
theorem pm_at.kept {U : State} {h0 : Nat} {D : pm_D} {M M' : pm_M} {H H' : Heap} {c : Nat} (h : pm_at U h0 D M H c) (hk : M'.1.2.2.1 c = M.1.2.2.1 c) (hl : M'.1.2.2.2.1 c = M.1.2.2.2.1 c) (hr : ∀ k, M'.1.2.2.2.2 c k = M.1.2.2.2.2 c k) (hi : ∀ k, M'.2.1 c k = M.2.1 c k) (hj : ∀ k, M'.2.2 c k = M.2.2 c k) (hH : H'[h0 + c]? = H[h0 + c]?) : pm_at U h0 D M' H' c := by
  have e1 : ∀ t k, pm_fv h0 M' t c k = pm_fv h0 M t c k := fun t k => by simp only [pm_fv, hr, hi, hj]
  have e2 : ∀ t, pm_ev M' t c = pm_ev M t c := fun t => funext fun j => by simp only [pm_ev, hi, hj]
  unfold pm_at
  rw [hk, hl]
  refine ⟨fun h1 => ?_, fun h1 => ?_⟩
  · obtain ⟨r, h2, h3⟩ := h.1 h1
    exact ⟨r, h2, (h3.kept hH).to (fun k _ => (e1 _ k).symm)⟩
  · obtain ⟨cA, h2, h3⟩ := h.2 h1
    exact ⟨cA, h2, by rw [hH, h3, e2]⟩
/-- one cell has changed -/
theorem pm_R.put {U : State} {h0 : Nat} {D : pm_D} {M M' : pm_M} {H H' : Heap} {a : Nat} (h : pm_R U h0 D M H) (hn : M'.1.1 = M.1.1) (hk : M'.1.2.2.1 = M.1.2.2.1) (hl : M'.1.2.2.2.1 = M.1.2.2.2.1) (hr : ∀ c, c ≠ a → ∀ k, M'.1.2.2.2.2 c k = M.1.2.2.2.2 c k) (hi : ∀ c, c ≠ a → ∀ k, M'.2.1 c k = M.2.1 c k) (hj : ∀ c, c ≠ a → ∀ k, M'.2.2 c k = M.2.2 c k)
    (hs : H'.size = H.size) (ho : ∀ q, q ≠ h0 + a → H'[q]? = H[q]?) (ha : pm_at U h0 D M' H' a) : pm_R U h0 D M' H' := by
  refine ⟨by rw [hs, hn]; exact h.1, fun c hc => ?_, fun q c hq hc => ?_⟩
  rotate_left
  · by_cases e : q = h0 + a
    · subst e
      exact ha.ns hc
    · exact h.2.2 q c hq (by rw [← ho q e]; exact hc)
  rw [hk] at hc
  refine ⟨by rw [hn]; exact (h.2.1 c hc).1, ?_⟩
  by_cases e : c = a
  · subst e
    exact ha
  · exact (h.2.1 c hc).2.kept (by rw [hk]) (by rw [hl]) (hr c e) (hi c e) (hj c e) (ho _ (by omega))
section PMM
variable {p : Program} {l : Launch} {e : Env} {R : Room} {s : State} {m : MethodId} {args : Array Value} {below : List Frame} {meth : Method} {c : Code} {H : Heap} {locs : List Loc} {cells slots : Nat} {Q : State → Prop} {cc : ByteArray} {pc : Nat} {ls : Array Slot} {rest : List Value} {h0 : Nat} {D : pm_D} {M M' : pm_M} {own : String}
theorem pm_getW (hx : p.tables.exec = Jvm.exec) (hb : c.code = cc) (hown : s.vm.findClass own = some m.cls) (hts : ∀ w ∈ pm_tbl, w.before args s = true) (hK : pm_K h0 D s) (hR : pm_R s h0 D M H) {a ci k idx : Nat} {q : vw_C} (hka : M.1.2.2.1 a = ci) (hci : ci < 100) (hc : pm_cl[ci]? = some q) (hk : k < q.2.2)
    (hl : Cond.fieldLink own idx (q.2.1 k).1 (q.2.1 k).2.1 (q.2.1 k).2.2.1 ∈ pm_tbl) (hdg : decode cc pc = .ok (.getfield idx, 3))
    (kk : W p l e R s m args below meth c H locs cells slots Q (F0 m (pc + 3) ls (pm_fv h0 M (pm_ft ci k) a k :: rest))) : W p l e R s m args below meth c H locs cells slots Q (F0 m pc ls (.ref (h0 + a) :: rest)) := by
  obtain ⟨C, T, N⟩ := q
  obtain ⟨hin, -, -⟩ := pm_ck_s hc
  obtain ⟨r, h1, cell, q1, q2, q3, q4⟩ := (hR.2.1 a (by omega)).2.1 (by omega)
  rw [hka] at h1 q2 q4
  have hr : r = (C, T, N) := Option.some.inj (h1.symm.trans hc)
  subst hr
  obtain ⟨hS, hfc, kC, hkC, hkind⟩ := hK.1.1 ci _ hc
  obtain ⟨cf, kf, fi, f, hi, hsl⟩ := hS k hk
  refine W.getf hx hb hown (hts _ hl) hi (u_facts hfc hkC (u_lays hts hin hk) hi).1 q1 (by rw [q3]; exact fun h => by cases h) ?_ rfl rfl hdg kk
  rw [hsl, q4 k hk]
theorem pm_putW (hx : p.tables.exec = Jvm.exec) (hb : c.code = cc) (hown : s.vm.findClass own = some m.cls) (hts : ∀ w ∈ pm_tbl, w.before args s = true) (hK : pm_K h0 D s) (hR : pm_R s h0 D M H) {a ci k idx : Nat} {q : vw_C} (hka : M.1.2.2.1 a = ci) (hci : ci < 100) (hc : pm_cl[ci]? = some q) (hk : k < q.2.2)
    (hl : Cond.fieldLink own idx (q.2.1 k).1 (q.2.1 k).2.1 (q.2.1 k).2.2.1 ∈ pm_tbl) (hfin : (q.2.1 k).2.2.2 = false ∨ ((q.2.1 k).2.2.2 = true ∧ meth.name = "<init>" ∧ (q.2.1 k).1 = own)) {v : Value} {ty : FieldType} (hd : parseFieldDescriptor (q.2.1 k).2.2.1 = some ty) (hn : narrow ty v = v) (hfit : fits ty v = true)
    (m1 : M'.1.1 = M.1.1) (m2 : M'.1.2.2.1 = M.1.2.2.1) (m3 : M'.1.2.2.2.1 = M.1.2.2.2.1) (m4 : ∀ c, c ≠ a → ∀ k, M'.1.2.2.2.2 c k = M.1.2.2.2.2 c k) (m5 : ∀ c, c ≠ a → ∀ k, M'.2.1 c k = M.2.1 c k) (m6 : ∀ c, c ≠ a → ∀ k, M'.2.2 c k = M.2.2 c k) (m7 : ∀ t j, j ≠ k → pm_fv h0 M' t a j = pm_fv h0 M t a j) (m8 : pm_fv h0 M' (pm_ft ci k) a k = v) (hdg : decode cc pc = .ok (.putfield idx, 3))
    (kk : ∀ (H' : Heap) (z : Loc), z.base = h0 + a → pm_R s h0 D M' H' → (∀ q, q < h0 → H'[q]? = H[q]?) → W p l e R s m args below meth c H' (locs ++ [z]) cells slots Q (F0 m (pc + 3) ls rest)) : W p l e R s m args below meth c H locs cells slots Q (F0 m pc ls (v :: .ref (h0 + a) :: rest)) := by
  obtain ⟨C, T, N⟩ := q
  obtain ⟨hin, hnm, hpa⟩ := pm_ck_s hc
  obtain ⟨r, h1, cell, q1, q2, q3, q4⟩ := (hR.2.1 a (by omega)).2.1 (by omega)
  rw [hka] at h1 q2 q4
  have hr : r = (C, T, N) := Option.some.inj (h1.symm.trans hc)
  subst hr
  have hpa2 : ∀ k, k < N → parseFieldDescriptor (T k).2.2.1 = some ((parseFieldDescriptor (T k).2.2.1).getD .int) := fun k hk => by
    obtain ⟨ty, e⟩ := hpa k hk
    rw [e]; rfl
  have hap := va_apart (D := D.1) (own := own) (C := C) (T := T) (N := N) hts hin (fun k => (parseFieldDescriptor (T k).2.2.1).getD .int) hpa2 hnm hK.1 hc
  obtain ⟨hS, hfc, kC, hkC, hkind⟩ := hK.1.1 ci _ hc
  obtain ⟨cf, kf, fi, f, hi, hsl⟩ := hS k hk
  have hst := (u_facts hfc hkC (u_lays hts hin hk) hi).1
  have hlay := hts _ (hin _ (u_in_lay hk))
  unfold u_lay at hlay
  have fin : ∀ H' : Heap, H'[h0 + a]? = some (cell.setSlot f.slot v) → H'.size = H.size → (∀ q, q ≠ h0 + a → H'[q]? = H[q]?) → W p l e R s m args below meth c H' (locs ++ [⟨h0 + a, f.slot⟩]) cells slots Q (F0 m (pc + 3) ls rest) := by
    intro H' e1 e2 e3
    rw [hsl] at e1
    refine kk H' _ rfl (hR.put m1 m2 m3 m4 m5 m6 e2 e3 ⟨fun _ => ?_, fun h9 => ?_⟩) (fun q hq => e3 q (by omega))
    · rw [m2, hka]
      refine ⟨_, hc, _, e1, q2, q3, fun j hj => ?_⟩
      rw [t_set q4 hap hk v j hj]
      by_cases ej : j = k
      · subst ej
        simp only [updV, if_pos]
        rw [m8]
      · simp only [updV, if_neg ej]
        rw [m7 _ j ej]
    · rw [m2, hka] at h9
      omega
  rcases hfin with hf | ⟨hf, hin2, hdecl⟩
  · rw [if_neg (by rw [hf]; decide)] at hlay
    have h6 := u_store hfc hkC hkind hlay hi hd hn hfit
    exact W.putK hx hb (f := f) ⟨hown, hts _ hl, ⟨_, _, _, hi⟩, hst⟩ (by rw [q2]; exact h6) q1 q3 (by rw [hsl]; exact k2_hasslot (q4 k hk)) rfl rfl hdg fin
  · rw [if_pos hf] at hlay
    have hcf : m.cls = cf := by
      obtain ⟨_, _, c', _, _, _, -, -, hf', -, -, -, hown2, -⟩ := Cond.laysFinal_spec hlay
      have e1 : c' = cf := by have := hi.symm.trans hf'; simp at this; exact this.1.symm
      rw [hdecl] at hown2
      rw [← e1]; exact Option.some.inj (hown.symm.trans hown2)
    have h6 := u_fits hfc hkC hkind (Or.inr hlay) hi hd hn hfit
    exact W.putFinK hx hb hown (hts _ hl) hi hst hcf hin2 (by rw [q2]; exact h6) q1 q3 (by rw [hsl]; exact k2_hasslot (q4 k hk)) rfl rfl hdg fin
end PMM
