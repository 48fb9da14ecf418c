/-! callees: their words; links -/
theorem pm_c1 {w : Cond} (i : Nat) (h : tables_1_1[i]? = some w) (hg : goodWord w = true) : w ∈ pm_tbl := pm_in (List.mem_append_left _ (List.mem_of_getElem? h)) hg
theorem pm_c2 {w : Cond} (i : Nat) (h : tables_1_2[i]? = some w) (hg : goodWord w = true) : w ∈ pm_tbl := pm_in (List.mem_append_right _ (List.mem_append_left _ (List.mem_of_getElem? h))) hg
theorem pm_c3 {w : Cond} (i : Nat) (h : tables_1_3[i]? = some w) (hg : goodWord w = true) : w ∈ pm_tbl := pm_in (List.mem_append_right _ (List.mem_append_right _ (List.mem_append_left _ (List.mem_of_getElem? h)))) hg
theorem pm_c4 {w : Cond} (i : Nat) (h : tables_1_4[i]? = some w) (hg : goodWord w = true) : w ∈ pm_tbl := pm_in (List.mem_append_right _ (List.mem_append_right _ (List.mem_append_right _ (List.mem_append_left _ (List.mem_of_getElem? h))))) hg
theorem pm_c5 {w : Cond} (i : Nat) (h : tables_1_5[i]? = some w) (hg : goodWord w = true) : w ∈ pm_tbl := pm_in (List.mem_append_right _ (List.mem_append_right _ (List.mem_append_right _ (List.mem_append_right _ (List.mem_append_left _ (List.mem_of_getElem? h)))))) hg
theorem pm_c6 {w : Cond} (i : Nat) (h : tables_1_6[i]? = some w) (hg : goodWord w = true) : w ∈ pm_tbl := pm_in (List.mem_append_right _ (List.mem_append_right _ (List.mem_append_right _ (List.mem_append_right _ (List.mem_append_right _ (List.mem_append_left _ (List.mem_of_getElem? h))))))) hg
theorem pm_c7 {w : Cond} (i : Nat) (h : tables_1_7[i]? = some w) (hg : goodWord w = true) : w ∈ pm_tbl := pm_in (List.mem_append_right _ (List.mem_append_right _ (List.mem_append_right _ (List.mem_append_right _ (List.mem_append_right _ (List.mem_append_right _ (List.mem_append_left _ (List.mem_of_getElem? h)))))))) hg
theorem pm_c8 {w : Cond} (i : Nat) (h : tables_1_8[i]? = some w) (hg : goodWord w = true) : w ∈ pm_tbl := pm_in (List.mem_append_right _ (List.mem_append_right _ (List.mem_append_right _ (List.mem_append_right _ (List.mem_append_right _ (List.mem_append_right _ (List.mem_append_right _ (List.mem_append_left _ (List.mem_of_getElem? h))))))))) hg
theorem pm_c9 {w : Cond} (i : Nat) (h : tables_1_9[i]? = some w) (hg : goodWord w = true) : w ∈ pm_tbl := pm_in (List.mem_append_right _ (List.mem_append_right _ (List.mem_append_right _ (List.mem_append_right _ (List.mem_append_right _ (List.mem_append_right _ (List.mem_append_right _ (List.mem_append_right _ (List.mem_append_left _ (List.mem_of_getElem? h)))))))))) hg
theorem pm_c10 {w : Cond} (i : Nat) (h : tables_1_10[i]? = some w) (hg : goodWord w = true) : w ∈ pm_tbl := pm_in (List.mem_append_right _ (List.mem_append_right _ (List.mem_append_right _ (List.mem_append_right _ (List.mem_append_right _ (List.mem_append_right _ (List.mem_append_right _ (List.mem_append_right _ (List.mem_append_right _ (List.mem_append_left _ (List.mem_of_getElem? h))))))))))) hg
theorem pm_c11 {w : Cond} (i : Nat) (h : tables_1_11[i]? = some w) (hg : goodWord w = true) : w ∈ pm_tbl := pm_in (List.mem_append_right _ (List.mem_append_right _ (List.mem_append_right _ (List.mem_append_right _ (List.mem_append_right _ (List.mem_append_right _ (List.mem_append_right _ (List.mem_append_right _ (List.mem_append_right _ (List.mem_append_right _ (List.mem_of_getElem? h))))))))))) hg
theorem pm_vs1 {y : MethodName × Nat} (i : Nat) (h : lw_privs_1[i]? = some y) (hg : goodWord (Cond.selects y.1.cls y.1 y.1) = true) : Cond.selects y.1.cls y.1 y.1 ∈ pm_tbl := List.mem_filter.mpr ⟨List.mem_append_left _ (List.mem_map.mpr ⟨y, List.mem_append_left _ (List.mem_of_getElem? h), rfl⟩), hg⟩
theorem pm_vs2 {y : MethodName × Nat} (i : Nat) (h : lw_privs_2[i]? = some y) (hg : goodWord (Cond.selects y.1.cls y.1 y.1) = true) : Cond.selects y.1.cls y.1 y.1 ∈ pm_tbl := List.mem_filter.mpr ⟨List.mem_append_left _ (List.mem_map.mpr ⟨y, List.mem_append_right _ (List.mem_append_left _ (List.mem_of_getElem? h)), rfl⟩), hg⟩
theorem pm_vs3 {y : MethodName × Nat} (i : Nat) (h : lw_privs_3[i]? = some y) (hg : goodWord (Cond.selects y.1.cls y.1 y.1) = true) : Cond.selects y.1.cls y.1 y.1 ∈ pm_tbl := List.mem_filter.mpr ⟨List.mem_append_left _ (List.mem_map.mpr ⟨y, List.mem_append_right _ (List.mem_append_right _ (List.mem_append_left _ (List.mem_of_getElem? h))), rfl⟩), hg⟩
theorem pm_vs4 {y : MethodName × Nat} (i : Nat) (h : lw_privs_4[i]? = some y) (hg : goodWord (Cond.selects y.1.cls y.1 y.1) = true) : Cond.selects y.1.cls y.1 y.1 ∈ pm_tbl := List.mem_filter.mpr ⟨List.mem_append_left _ (List.mem_map.mpr ⟨y, List.mem_append_right _ (List.mem_append_right _ (List.mem_append_right _ (List.mem_append_left _ (List.mem_of_getElem? h)))), rfl⟩), hg⟩
theorem pm_vs5 {y : MethodName × Nat} (i : Nat) (h : lw_privs_5[i]? = some y) (hg : goodWord (Cond.selects y.1.cls y.1 y.1) = true) : Cond.selects y.1.cls y.1 y.1 ∈ pm_tbl := List.mem_filter.mpr ⟨List.mem_append_left _ (List.mem_map.mpr ⟨y, List.mem_append_right _ (List.mem_append_right _ (List.mem_append_right _ (List.mem_append_right _ (List.mem_append_left _ (List.mem_of_getElem? h))))), rfl⟩), hg⟩
theorem pm_vs6 {y : MethodName × Nat} (i : Nat) (h : lw_privs_6[i]? = some y) (hg : goodWord (Cond.selects y.1.cls y.1 y.1) = true) : Cond.selects y.1.cls y.1 y.1 ∈ pm_tbl := List.mem_filter.mpr ⟨List.mem_append_left _ (List.mem_map.mpr ⟨y, List.mem_append_right _ (List.mem_append_right _ (List.mem_append_right _ (List.mem_append_right _ (List.mem_append_right _ (List.mem_append_left _ (List.mem_of_getElem? h)))))), rfl⟩), hg⟩
theorem pm_vs7 {y : MethodName × Nat} (i : Nat) (h : lw_privs_7[i]? = some y) (hg : goodWord (Cond.selects y.1.cls y.1 y.1) = true) : Cond.selects y.1.cls y.1 y.1 ∈ pm_tbl := List.mem_filter.mpr ⟨List.mem_append_left _ (List.mem_map.mpr ⟨y, List.mem_append_right _ (List.mem_append_right _ (List.mem_append_right _ (List.mem_append_right _ (List.mem_append_right _ (List.mem_append_right _ (List.mem_append_left _ (List.mem_of_getElem? h))))))), rfl⟩), hg⟩
theorem pm_vs8 {y : MethodName × Nat} (i : Nat) (h : lw_privs_8[i]? = some y) (hg : goodWord (Cond.selects y.1.cls y.1 y.1) = true) : Cond.selects y.1.cls y.1 y.1 ∈ pm_tbl := List.mem_filter.mpr ⟨List.mem_append_left _ (List.mem_map.mpr ⟨y, List.mem_append_right _ (List.mem_append_right _ (List.mem_append_right _ (List.mem_append_right _ (List.mem_append_right _ (List.mem_append_right _ (List.mem_append_right _ (List.mem_append_left _ (List.mem_of_getElem? h)))))))), rfl⟩), hg⟩
theorem pm_vs9 {y : MethodName × Nat} (i : Nat) (h : lw_privs_9[i]? = some y) (hg : goodWord (Cond.selects y.1.cls y.1 y.1) = true) : Cond.selects y.1.cls y.1 y.1 ∈ pm_tbl := List.mem_filter.mpr ⟨List.mem_append_left _ (List.mem_map.mpr ⟨y, List.mem_append_right _ (List.mem_append_right _ (List.mem_append_right _ (List.mem_append_right _ (List.mem_append_right _ (List.mem_append_right _ (List.mem_append_right _ (List.mem_append_right _ (List.mem_append_left _ (List.mem_of_getElem? h))))))))), rfl⟩), hg⟩
theorem pm_vs10 {y : MethodName × Nat} (i : Nat) (h : lw_privs_10[i]? = some y) (hg : goodWord (Cond.selects y.1.cls y.1 y.1) = true) : Cond.selects y.1.cls y.1 y.1 ∈ pm_tbl := List.mem_filter.mpr ⟨List.mem_append_left _ (List.mem_map.mpr ⟨y, List.mem_append_right _ (List.mem_append_right _ (List.mem_append_right _ (List.mem_append_right _ (List.mem_append_right _ (List.mem_append_right _ (List.mem_append_right _ (List.mem_append_right _ (List.mem_append_right _ (List.mem_append_left _ (List.mem_of_getElem? h)))))))))), rfl⟩), hg⟩
theorem pm_vs11 {y : MethodName × Nat} (i : Nat) (h : lw_privs_11[i]? = some y) (hg : goodWord (Cond.selects y.1.cls y.1 y.1) = true) : Cond.selects y.1.cls y.1 y.1 ∈ pm_tbl := List.mem_filter.mpr ⟨List.mem_append_left _ (List.mem_map.mpr ⟨y, List.mem_append_right _ (List.mem_append_right _ (List.mem_append_right _ (List.mem_append_right _ (List.mem_append_right _ (List.mem_append_right _ (List.mem_append_right _ (List.mem_append_right _ (List.mem_append_right _ (List.mem_append_right _ (List.mem_of_getElem? h)))))))))), rfl⟩), hg⟩
set_option maxRecDepth 100000 in
theorem k_BC_init : pm_kI m_BC_init 0 := ⟨⟨pm_c1 1 rfl rfl, pm_c1 36 rfl rfl, by decide, by decide, by decide +kernel, by decide⟩, pm_c1 35 rfl rfl, rfl⟩
set_option maxRecDepth 100000 in
theorem k_BC_feed : pm_kV m_BC_feed 0 2 := ⟨⟨pm_c1 1 rfl rfl, pm_c6 210 rfl rfl, by decide, by decide, by decide +kernel, by decide⟩, pm_c6 208 rfl rfl, pm_c6 209 rfl rfl, by decide, rfl⟩
set_option maxRecDepth 100000 in
theorem k_BC_wipe : pm_kV m_BC_wipe 0 0 := ⟨⟨pm_c1 1 rfl rfl, pm_c3 53 rfl rfl, by decide, by decide, by decide +kernel, by decide⟩, pm_c3 51 rfl rfl, pm_c3 52 rfl rfl, by decide, rfl⟩
set_option maxRecDepth 100000 in
theorem k_BC_compile : pm_kV m_BC_compile 0 0 := ⟨⟨pm_c1 1 rfl rfl, pm_c3 76 rfl rfl, by decide, by decide, by decide +kernel, by decide⟩, pm_c3 74 rfl rfl, pm_c3 75 rfl rfl, by decide, rfl⟩
set_option maxRecDepth 100000 in
theorem k_BC_place : pm_kV m_BC_place 0 0 := ⟨⟨pm_c1 1 rfl rfl, pm_c6 148 rfl rfl, by decide, by decide, by decide +kernel, by decide⟩, pm_c6 146 rfl rfl, pm_c6 147 rfl rfl, by decide, rfl⟩
set_option maxRecDepth 100000 in
theorem k_BC_defs : pm_kV m_BC_defs 0 0 := ⟨⟨pm_c1 1 rfl rfl, pm_c6 152 rfl rfl, by decide, by decide, by decide +kernel, by decide⟩, pm_c6 150 rfl rfl, pm_c6 151 rfl rfl, by decide, rfl⟩
set_option maxRecDepth 100000 in
theorem k_BC_def : pm_kV m_BC_def 0 2 := ⟨⟨pm_c1 1 rfl rfl, pm_c6 221 rfl rfl, by decide, by decide, by decide +kernel, by decide⟩, pm_c6 219 rfl rfl, pm_c6 220 rfl rfl, by decide, rfl⟩
set_option maxRecDepth 100000 in
theorem k_BC_argument : pm_kV m_BC_argument 0 1 := ⟨⟨pm_c1 1 rfl rfl, pm_c7 7 rfl rfl, by decide, by decide, by decide +kernel, by decide⟩, pm_c7 5 rfl rfl, pm_c7 6 rfl rfl, by decide, rfl⟩
set_option maxRecDepth 100000 in
theorem k_BC_run : pm_kV m_BC_run 0 3 := ⟨⟨pm_c1 1 rfl rfl, pm_c7 30 rfl rfl, by decide, by decide, by decide +kernel, by decide⟩, pm_c7 28 rfl rfl, pm_c7 29 rfl rfl, by decide, rfl⟩
set_option maxRecDepth 100000 in
theorem k_BC_told : pm_kV m_BC_told 0 1 := ⟨⟨pm_c1 1 rfl rfl, pm_c8 30 rfl rfl, by decide, by decide, by decide +kernel, by decide⟩, pm_c8 28 rfl rfl, pm_c8 29 rfl rfl, by decide, rfl⟩
set_option maxRecDepth 100000 in
theorem k_BC_sort : pm_kV m_BC_sort 0 1 := ⟨⟨pm_c1 1 rfl rfl, pm_c6 156 rfl rfl, by decide, by decide, by decide +kernel, by decide⟩, pm_c6 154 rfl rfl, pm_c6 155 rfl rfl, by decide, rfl⟩
set_option maxRecDepth 100000 in
theorem k_BC_result : pm_kV m_BC_result 0 1 := ⟨⟨pm_c1 1 rfl rfl, pm_c6 197 rfl rfl, by decide, by decide, by decide +kernel, by decide⟩, pm_c6 195 rfl rfl, pm_c6 196 rfl rfl, by decide, rfl⟩
set_option maxRecDepth 100000 in
theorem k_BC_forget : pm_kV m_BC_forget 0 0 := ⟨⟨pm_c1 1 rfl rfl, pm_c3 57 rfl rfl, by decide, by decide, by decide +kernel, by decide⟩, pm_c3 56 rfl rfl, pm_vs1 0 rfl rfl, by decide, rfl⟩
set_option maxRecDepth 100000 in
theorem k_BC_takesArguments : pm_kV m_BC_takesArguments 0 1 := ⟨⟨pm_c1 1 rfl rfl, pm_c7 35 rfl rfl, by decide, by decide, by decide +kernel, by decide⟩, pm_c7 34 rfl rfl, pm_vs4 6 rfl rfl, by decide, rfl⟩
set_option maxRecDepth 100000 in
theorem k_Md_init : pm_kI m_Md_init 0 := ⟨⟨pm_c1 18 rfl rfl, pm_c8 52 rfl rfl, by decide, by decide, by decide +kernel, by decide⟩, pm_c8 51 rfl rfl, rfl⟩
set_option maxRecDepth 100000 in
theorem k_Md_thrown : pm_kV m_Md_thrown 12 0 := ⟨⟨pm_c1 18 rfl rfl, pm_c9 181 rfl rfl, by decide, by decide, by decide +kernel, by decide⟩, pm_c9 179 rfl rfl, pm_c9 180 rfl rfl, by decide, rfl⟩
set_option maxRecDepth 100000 in
theorem k_Md_forget : pm_kV m_Md_forget 12 0 := ⟨⟨pm_c1 18 rfl rfl, pm_c9 190 rfl rfl, by decide, by decide, by decide +kernel, by decide⟩, pm_c9 189 rfl rfl, pm_vs6 2 rfl rfl, by decide, rfl⟩
set_option maxRecDepth 100000 in
theorem k_Md_feed : pm_kV m_Md_feed 12 2 := ⟨⟨pm_c1 18 rfl rfl, pm_c9 185 rfl rfl, by decide, by decide, by decide +kernel, by decide⟩, pm_c9 183 rfl rfl, pm_c9 184 rfl rfl, by decide, rfl⟩
set_option maxRecDepth 100000 in
theorem k_Md_wipe : pm_kV m_Md_wipe 12 0 := ⟨⟨pm_c1 18 rfl rfl, pm_c9 198 rfl rfl, by decide, by decide, by decide +kernel, by decide⟩, pm_c9 196 rfl rfl, pm_c9 197 rfl rfl, by decide, rfl⟩
set_option maxRecDepth 100000 in
theorem k_Md_fails : pm_kV m_Md_fails 12 2 := ⟨⟨pm_c1 18 rfl rfl, pm_c10 12 rfl rfl, by decide, by decide, by decide +kernel, by decide⟩, pm_c10 11 rfl rfl, pm_vs6 10 rfl rfl, by decide, rfl⟩
set_option maxRecDepth 100000 in
theorem k_Md_isLetter : pm_kS m_Md_isLetter 1 := ⟨⟨pm_c1 18 rfl rfl, pm_c9 217 rfl rfl, by decide, by decide, by decide +kernel, by decide⟩, pm_c9 216 rfl rfl⟩
set_option maxRecDepth 100000 in
theorem k_Md_isDigit : pm_kS m_Md_isDigit 1 := ⟨⟨pm_c1 18 rfl rfl, pm_c9 220 rfl rfl, by decide, by decide, by decide +kernel, by decide⟩, pm_c9 219 rfl rfl⟩
set_option maxRecDepth 100000 in
theorem k_Md_isHex : pm_kS m_Md_isHex 1 := ⟨⟨pm_c1 18 rfl rfl, pm_c10 4 rfl rfl, by decide, by decide, by decide +kernel, by decide⟩, pm_c10 3 rfl rfl⟩
set_option maxRecDepth 100000 in
theorem k_Md_octet : pm_kV m_Md_octet 12 1 := ⟨⟨pm_c1 18 rfl rfl, pm_c9 210 rfl rfl, by decide, by decide, by decide +kernel, by decide⟩, pm_c9 209 rfl rfl, pm_vs6 5 rfl rfl, by decide, rfl⟩
set_option maxRecDepth 100000 in
theorem k_Md_spells : pm_kV m_Md_spells 12 3 := ⟨⟨pm_c1 18 rfl rfl, pm_c9 229 rfl rfl, by decide, by decide, by decide +kernel, by decide⟩, pm_c9 228 rfl rfl, pm_vs6 8 rfl rfl, by decide, rfl⟩
set_option maxRecDepth 100000 in
theorem k_Md_wordAt : pm_kV m_Md_wordAt 12 2 := ⟨⟨pm_c1 18 rfl rfl, pm_c9 224 rfl rfl, by decide, by decide, by decide +kernel, by decide⟩, pm_c9 223 rfl rfl, pm_vs6 7 rfl rfl, by decide, rfl⟩
set_option maxRecDepth 100000 in
theorem k_Md_signAt : pm_kV m_Md_signAt 12 1 := ⟨⟨pm_c1 18 rfl rfl, pm_c10 8 rfl rfl, by decide, by decide, by decide +kernel, by decide⟩, pm_c10 7 rfl rfl, pm_vs6 9 rfl rfl, by decide, rfl⟩
set_option maxRecDepth 100000 in
theorem k_Md_tokenAt : pm_kV m_Md_tokenAt 12 1 := ⟨⟨pm_c1 18 rfl rfl, pm_c9 214 rfl rfl, by decide, by decide, by decide +kernel, by decide⟩, pm_c9 213 rfl rfl, pm_vs6 6 rfl rfl, by decide, rfl⟩
set_option maxRecDepth 100000 in
theorem k_Md_scan : pm_kV m_Md_scan 12 0 := ⟨⟨pm_c1 18 rfl rfl, pm_c9 206 rfl rfl, by decide, by decide, by decide +kernel, by decide⟩, pm_c9 205 rfl rfl, pm_vs6 4 rfl rfl, by decide, rfl⟩
set_option maxRecDepth 100000 in
theorem k_Md_isSame : pm_kV m_Md_isSame 12 2 := ⟨⟨pm_c1 18 rfl rfl, pm_c10 124 rfl rfl, by decide, by decide, by decide +kernel, by decide⟩, pm_c10 123 rfl rfl, pm_vs8 6 rfl rfl, by decide, rfl⟩
set_option maxRecDepth 100000 in
theorem k_Md_noTypes : pm_kV m_Md_noTypes 12 0 := ⟨⟨pm_c1 18 rfl rfl, pm_c8 59 rfl rfl, by decide, by decide, by decide +kernel, by decide⟩, pm_c8 58 rfl rfl, pm_vs6 1 rfl rfl, by decide, rfl⟩
set_option maxRecDepth 100000 in
theorem k_Md_typeOf : pm_kV m_Md_typeOf 12 3 := ⟨⟨pm_c1 18 rfl rfl, pm_c10 60 rfl rfl, by decide, by decide, by decide +kernel, by decide⟩, pm_c10 59 rfl rfl, pm_vs7 6 rfl rfl, by decide, rfl⟩
set_option maxRecDepth 100000 in
theorem k_Md_filled : pm_kV m_Md_filled 12 2 := ⟨⟨pm_c1 18 rfl rfl, pm_c10 160 rfl rfl, by decide, by decide, by decide +kernel, by decide⟩, pm_c10 159 rfl rfl, pm_vs8 15 rfl rfl, by decide, rfl⟩
set_option maxRecDepth 100000 in
theorem k_Md_mark : pm_kV m_Md_mark 12 1 := ⟨⟨pm_c1 18 rfl rfl, pm_c10 164 rfl rfl, by decide, by decide, by decide +kernel, by decide⟩, pm_c10 163 rfl rfl, pm_vs9 0 rfl rfl, by decide, rfl⟩
set_option maxRecDepth 100000 in
theorem k_Md_fits : pm_kV m_Md_fits 12 3 := ⟨⟨pm_c1 18 rfl rfl, pm_c10 156 rfl rfl, by decide, by decide, by decide +kernel, by decide⟩, pm_c10 155 rfl rfl, pm_vs8 14 rfl rfl, by decide, rfl⟩
set_option maxRecDepth 100000 in
theorem k_Md_stop : pm_kV m_Md_stop 12 2 := ⟨⟨pm_c1 18 rfl rfl, pm_c10 24 rfl rfl, by decide, by decide, by decide +kernel, by decide⟩, pm_c10 23 rfl rfl, pm_vs6 13 rfl rfl, by decide, rfl⟩
set_option maxRecDepth 100000 in
theorem k_Md_expect : pm_kV m_Md_expect 12 1 := ⟨⟨pm_c1 18 rfl rfl, pm_c10 36 rfl rfl, by decide, by decide, by decide +kernel, by decide⟩, pm_c10 35 rfl rfl, pm_vs7 0 rfl rfl, by decide, rfl⟩
set_option maxRecDepth 100000 in
theorem k_Md_declare : pm_kV m_Md_declare 12 0 := ⟨⟨pm_c1 18 rfl rfl, pm_c10 32 rfl rfl, by decide, by decide, by decide +kernel, by decide⟩, pm_c10 31 rfl rfl, pm_vs6 15 rfl rfl, by decide, rfl⟩
set_option maxRecDepth 100000 in
theorem k_Md_enter : pm_kV m_Md_enter 12 2 := ⟨⟨pm_c1 18 rfl rfl, pm_c10 76 rfl rfl, by decide, by decide, by decide +kernel, by decide⟩, pm_c10 75 rfl rfl, pm_vs7 10 rfl rfl, by decide, rfl⟩
set_option maxRecDepth 100000 in
theorem k_Md_localNamed : pm_kV m_Md_localNamed 12 1 := ⟨⟨pm_c1 18 rfl rfl, pm_c10 120 rfl rfl, by decide, by decide, by decide +kernel, by decide⟩, pm_c10 119 rfl rfl, pm_vs8 5 rfl rfl, by decide, rfl⟩
set_option maxRecDepth 100000 in
theorem k_Md_later : pm_kV m_Md_later 12 3 := ⟨⟨pm_c1 18 rfl rfl, pm_c10 44 rfl rfl, by decide, by decide, by decide +kernel, by decide⟩, pm_c10 43 rfl rfl, pm_vs7 2 rfl rfl, by decide, rfl⟩
set_option maxRecDepth 100000 in
theorem k_Md_take : pm_kV m_Md_take 12 0 := ⟨⟨pm_c1 18 rfl rfl, pm_c10 80 rfl rfl, by decide, by decide, by decide +kernel, by decide⟩, pm_c10 79 rfl rfl, pm_vs7 11 rfl rfl, by decide, rfl⟩
set_option maxRecDepth 100000 in
theorem k_Md_give : pm_kV m_Md_give 12 1 := ⟨⟨pm_c1 18 rfl rfl, pm_c10 88 rfl rfl, by decide, by decide, by decide +kernel, by decide⟩, pm_c10 87 rfl rfl, pm_vs7 13 rfl rfl, by decide, rfl⟩
set_option maxRecDepth 100000 in
theorem k_Md_takeType : pm_kV m_Md_takeType 12 0 := ⟨⟨pm_c1 18 rfl rfl, pm_c10 56 rfl rfl, by decide, by decide, by decide +kernel, by decide⟩, pm_c10 55 rfl rfl, pm_vs7 5 rfl rfl, by decide, rfl⟩
set_option maxRecDepth 100000 in
theorem k_Md_giveType : pm_kV m_Md_giveType 12 1 := ⟨⟨pm_c1 18 rfl rfl, pm_c10 64 rfl rfl, by decide, by decide, by decide +kernel, by decide⟩, pm_c10 63 rfl rfl, pm_vs7 7 rfl rfl, by decide, rfl⟩
set_option maxRecDepth 100000 in
theorem k_Md_node : pm_kV m_Md_node 12 5 := ⟨⟨pm_c1 18 rfl rfl, pm_c10 84 rfl rfl, by decide, by decide, by decide +kernel, by decide⟩, pm_c10 83 rfl rfl, pm_vs7 12 rfl rfl, by decide, rfl⟩
set_option maxRecDepth 100000 in
theorem k_Md_typeTask : pm_kV m_Md_typeTask 12 2 := ⟨⟨pm_c1 18 rfl rfl, pm_c10 52 rfl rfl, by decide, by decide, by decide +kernel, by decide⟩, pm_c10 51 rfl rfl, pm_vs7 4 rfl rfl, by decide, rfl⟩
set_option maxRecDepth 100000 in
theorem k_Md_expr : pm_kV m_Md_expr 12 0 := ⟨⟨pm_c1 18 rfl rfl, pm_c10 72 rfl rfl, by decide, by decide, by decide +kernel, by decide⟩, pm_c10 71 rfl rfl, pm_vs7 9 rfl rfl, by decide, rfl⟩
set_option maxRecDepth 100000 in
theorem k_Md_exprTask : pm_kV m_Md_exprTask 12 3 := ⟨⟨pm_c1 18 rfl rfl, pm_c10 68 rfl rfl, by decide, by decide, by decide +kernel, by decide⟩, pm_c10 67 rfl rfl, pm_vs7 8 rfl rfl, by decide, rfl⟩
set_option maxRecDepth 100000 in
theorem k_Md_sumTask : pm_kV m_Md_sumTask 12 3 := ⟨⟨pm_c1 18 rfl rfl, pm_c10 108 rfl rfl, by decide, by decide, by decide +kernel, by decide⟩, pm_c10 107 rfl rfl, pm_vs8 2 rfl rfl, by decide, rfl⟩
set_option maxRecDepth 100000 in
theorem k_Md_atom : pm_kV m_Md_atom 12 0 := ⟨⟨pm_c1 18 rfl rfl, pm_c10 116 rfl rfl, by decide, by decide, by decide +kernel, by decide⟩, pm_c10 115 rfl rfl, pm_vs8 4 rfl rfl, by decide, rfl⟩
set_option maxRecDepth 100000 in
theorem k_Md_row : pm_kV m_Md_row 12 2 := ⟨⟨pm_c1 18 rfl rfl, pm_c10 112 rfl rfl, by decide, by decide, by decide +kernel, by decide⟩, pm_c10 111 rfl rfl, pm_vs8 3 rfl rfl, by decide, rfl⟩
set_option maxRecDepth 100000 in
theorem k_Md_wrong : pm_kV m_Md_wrong 12 1 := ⟨⟨pm_c1 18 rfl rfl, pm_c10 104 rfl rfl, by decide, by decide, by decide +kernel, by decide⟩, pm_c10 103 rfl rfl, pm_vs8 1 rfl rfl, by decide, rfl⟩
set_option maxRecDepth 100000 in
theorem k_Md_lettersOfParameters : pm_kV m_Md_lettersOfParameters 12 0 := ⟨⟨pm_c1 18 rfl rfl, pm_c10 100 rfl rfl, by decide, by decide, by decide +kernel, by decide⟩, pm_c10 99 rfl rfl, pm_vs8 0 rfl rfl, by decide, rfl⟩
set_option maxRecDepth 100000 in
theorem k_Md_checkLetters : pm_kV m_Md_checkLetters 12 1 := ⟨⟨pm_c1 18 rfl rfl, pm_c10 96 rfl rfl, by decide, by decide, by decide +kernel, by decide⟩, pm_c10 95 rfl rfl, pm_vs7 15 rfl rfl, by decide, rfl⟩
set_option maxRecDepth 100000 in
theorem k_Md_checkFnType : pm_kV m_Md_checkFnType 12 2 := ⟨⟨pm_c1 18 rfl rfl, pm_c10 92 rfl rfl, by decide, by decide, by decide +kernel, by decide⟩, pm_c10 91 rfl rfl, pm_vs7 14 rfl rfl, by decide, rfl⟩
set_option maxRecDepth 100000 in
theorem k_Md_typeText : pm_kV m_Md_typeText 12 0 := ⟨⟨pm_c1 18 rfl rfl, pm_c10 40 rfl rfl, by decide, by decide, by decide +kernel, by decide⟩, pm_c10 39 rfl rfl, pm_vs7 1 rfl rfl, by decide, rfl⟩
set_option maxRecDepth 100000 in
theorem k_Md_work : pm_kV m_Md_work 12 1 := ⟨⟨pm_c1 18 rfl rfl, pm_c10 48 rfl rfl, by decide, by decide, by decide +kernel, by decide⟩, pm_c10 47 rfl rfl, pm_vs7 3 rfl rfl, by decide, rfl⟩
set_option maxRecDepth 100000 in
theorem k_Md_parameter : pm_kV m_Md_parameter 12 0 := ⟨⟨pm_c1 18 rfl rfl, pm_c10 28 rfl rfl, by decide, by decide, by decide +kernel, by decide⟩, pm_c10 27 rfl rfl, pm_vs6 14 rfl rfl, by decide, rfl⟩
set_option maxRecDepth 100000 in
theorem k_Md_define : pm_kV m_Md_define 12 0 := ⟨⟨pm_c1 18 rfl rfl, pm_c10 20 rfl rfl, by decide, by decide, by decide +kernel, by decide⟩, pm_c10 19 rfl rfl, pm_vs6 12 rfl rfl, by decide, rfl⟩
set_option maxRecDepth 100000 in
theorem k_Md_readAll : pm_kV m_Md_readAll 12 0 := ⟨⟨pm_c1 18 rfl rfl, pm_c10 16 rfl rfl, by decide, by decide, by decide +kernel, by decide⟩, pm_c10 15 rfl rfl, pm_vs6 11 rfl rfl, by decide, rfl⟩
set_option maxRecDepth 100000 in
theorem k_Md_names : pm_kV m_Md_names 12 0 := ⟨⟨pm_c1 18 rfl rfl, pm_c10 128 rfl rfl, by decide, by decide, by decide +kernel, by decide⟩, pm_c10 127 rfl rfl, pm_vs8 7 rfl rfl, by decide, rfl⟩
set_option maxRecDepth 100000 in
theorem k_Md_defNamed : pm_kV m_Md_defNamed 12 1 := ⟨⟨pm_c1 18 rfl rfl, pm_c10 144 rfl rfl, by decide, by decide, by decide +kernel, by decide⟩, pm_c10 143 rfl rfl, pm_vs8 11 rfl rfl, by decide, rfl⟩
set_option maxRecDepth 100000 in
theorem k_Md_typeAll : pm_kV m_Md_typeAll 12 0 := ⟨⟨pm_c1 18 rfl rfl, pm_c10 132 rfl rfl, by decide, by decide, by decide +kernel, by decide⟩, pm_c10 131 rfl rfl, pm_vs8 8 rfl rfl, by decide, rfl⟩
set_option maxRecDepth 100000 in
theorem k_Md_untyped : pm_kV m_Md_untyped 12 1 := ⟨⟨pm_c1 18 rfl rfl, pm_c10 148 rfl rfl, by decide, by decide, by decide +kernel, by decide⟩, pm_c10 147 rfl rfl, pm_vs8 12 rfl rfl, by decide, rfl⟩
set_option maxRecDepth 100000 in
theorem k_Md_typeOne : pm_kV m_Md_typeOne 12 1 := ⟨⟨pm_c1 18 rfl rfl, pm_c10 136 rfl rfl, by decide, by decide, by decide +kernel, by decide⟩, pm_c10 135 rfl rfl, pm_vs8 9 rfl rfl, by decide, rfl⟩
set_option maxRecDepth 100000 in
theorem k_Md_typeName : pm_kV m_Md_typeName 12 1 := ⟨⟨pm_c1 18 rfl rfl, pm_c10 140 rfl rfl, by decide, by decide, by decide +kernel, by decide⟩, pm_c10 139 rfl rfl, pm_vs8 10 rfl rfl, by decide, rfl⟩
set_option maxRecDepth 100000 in
theorem k_Md_typeRow : pm_kV m_Md_typeRow 12 1 := ⟨⟨pm_c1 18 rfl rfl, pm_c10 152 rfl rfl, by decide, by decide, by decide +kernel, by decide⟩, pm_c10 151 rfl rfl, pm_vs8 13 rfl rfl, by decide, rfl⟩
set_option maxRecDepth 100000 in
theorem k_Md_isCall : pm_kV m_Md_isCall 12 1 := ⟨⟨pm_c1 18 rfl rfl, pm_c10 175 rfl rfl, by decide, by decide, by decide +kernel, by decide⟩, pm_c10 174 rfl rfl, pm_vs9 2 rfl rfl, by decide, rfl⟩
set_option maxRecDepth 100000 in
theorem k_Md_isLetterType : pm_kS m_Md_isLetterType 1 := ⟨⟨pm_c1 18 rfl rfl, pm_c10 171 rfl rfl, by decide, by decide, by decide +kernel, by decide⟩, pm_c10 170 rfl rfl⟩
set_option maxRecDepth 100000 in
theorem k_Md_shorten : pm_kV m_Md_shorten 12 0 := ⟨⟨pm_c1 18 rfl rfl, pm_c10 168 rfl rfl, by decide, by decide, by decide +kernel, by decide⟩, pm_c10 167 rfl rfl, pm_vs9 1 rfl rfl, by decide, rfl⟩
set_option maxRecDepth 100000 in
theorem k_Md_compile : pm_kV m_Md_compile 12 0 := ⟨⟨pm_c1 18 rfl rfl, pm_c9 202 rfl rfl, by decide, by decide, by decide +kernel, by decide⟩, pm_c9 200 rfl rfl, pm_c9 201 rfl rfl, by decide, rfl⟩
set_option maxRecDepth 100000 in
theorem k_Md_place : pm_kV m_Md_place 12 0 := ⟨⟨pm_c1 18 rfl rfl, pm_c10 179 rfl rfl, by decide, by decide, by decide +kernel, by decide⟩, pm_c10 177 rfl rfl, pm_c10 178 rfl rfl, by decide, rfl⟩
set_option maxRecDepth 100000 in
theorem k_Md_defs : pm_kV m_Md_defs 12 0 := ⟨⟨pm_c1 18 rfl rfl, pm_c10 183 rfl rfl, by decide, by decide, by decide +kernel, by decide⟩, pm_c10 181 rfl rfl, pm_c10 182 rfl rfl, by decide, rfl⟩
set_option maxRecDepth 100000 in
theorem k_Md_noDef : pm_kV m_Md_noDef 12 1 := ⟨⟨pm_c1 18 rfl rfl, pm_c10 191 rfl rfl, by decide, by decide, by decide +kernel, by decide⟩, pm_c10 190 rfl rfl, pm_vs9 3 rfl rfl, by decide, rfl⟩
set_option maxRecDepth 100000 in
theorem k_Md_bits : pm_kS m_Md_bits 1 := ⟨⟨pm_c1 18 rfl rfl, pm_c10 194 rfl rfl, by decide, by decide, by decide +kernel, by decide⟩, pm_c10 193 rfl rfl⟩
set_option maxRecDepth 100000 in
theorem k_Md_def : pm_kV m_Md_def 12 2 := ⟨⟨pm_c1 18 rfl rfl, pm_c10 187 rfl rfl, by decide, by decide, by decide +kernel, by decide⟩, pm_c10 185 rfl rfl, pm_c10 186 rfl rfl, by decide, rfl⟩
set_option maxRecDepth 100000 in
theorem k_Md_clearRun : pm_kV m_Md_clearRun 12 0 := ⟨⟨pm_c1 18 rfl rfl, pm_c9 194 rfl rfl, by decide, by decide, by decide +kernel, by decide⟩, pm_c9 193 rfl rfl, pm_vs6 3 rfl rfl, by decide, rfl⟩
set_option maxRecDepth 100000 in
theorem k_Md_make : pm_kV m_Md_make 12 0 := ⟨⟨pm_c1 18 rfl rfl, pm_c11 5 rfl rfl, by decide, by decide, by decide +kernel, by decide⟩, pm_c11 4 rfl rfl, pm_vs9 13 rfl rfl, by decide, rfl⟩
set_option maxRecDepth 100000 in
theorem k_Md_makePair : pm_kV m_Md_makePair 12 4 := ⟨⟨pm_c1 18 rfl rfl, pm_c11 1 rfl rfl, by decide, by decide, by decide +kernel, by decide⟩, pm_c11 0 rfl rfl, pm_vs9 12 rfl rfl, by decide, rfl⟩
set_option maxRecDepth 100000 in
theorem k_Md_ask : pm_kV m_Md_ask 12 5 := ⟨⟨pm_c1 18 rfl rfl, pm_c10 237 rfl rfl, by decide, by decide, by decide +kernel, by decide⟩, pm_c10 236 rfl rfl, pm_vs9 11 rfl rfl, by decide, rfl⟩
set_option maxRecDepth 100000 in
theorem k_Md_answer : pm_kV m_Md_answer 12 2 := ⟨⟨pm_c1 18 rfl rfl, pm_c11 9 rfl rfl, by decide, by decide, by decide +kernel, by decide⟩, pm_c11 8 rfl rfl, pm_vs9 14 rfl rfl, by decide, rfl⟩
set_option maxRecDepth 100000 in
theorem k_Md_coverOf : pm_kV m_Md_coverOf 12 5 := ⟨⟨pm_c1 18 rfl rfl, pm_c11 21 rfl rfl, by decide, by decide, by decide +kernel, by decide⟩, pm_c11 20 rfl rfl, pm_vs10 1 rfl rfl, by decide, rfl⟩
set_option maxRecDepth 100000 in
theorem k_Md_boxOne : pm_kV m_Md_boxOne 12 3 := ⟨⟨pm_c1 18 rfl rfl, pm_c11 17 rfl rfl, by decide, by decide, by decide +kernel, by decide⟩, pm_c11 16 rfl rfl, pm_vs10 0 rfl rfl, by decide, rfl⟩
set_option maxRecDepth 100000 in
theorem k_Md_convertOne : pm_kV m_Md_convertOne 12 5 := ⟨⟨pm_c1 18 rfl rfl, pm_c11 13 rfl rfl, by decide, by decide, by decide +kernel, by decide⟩, pm_c11 12 rfl rfl, pm_vs9 15 rfl rfl, by decide, rfl⟩
set_option maxRecDepth 100000 in
theorem k_Md_convert : pm_kV m_Md_convert 12 3 := ⟨⟨pm_c1 18 rfl rfl, pm_c10 233 rfl rfl, by decide, by decide, by decide +kernel, by decide⟩, pm_c10 232 rfl rfl, pm_vs9 10 rfl rfl, by decide, rfl⟩
set_option maxRecDepth 100000 in
theorem k_Md_mayDeep : pm_kV m_Md_mayDeep 12 0 := ⟨⟨pm_c1 18 rfl rfl, pm_c10 214 rfl rfl, by decide, by decide, by decide +kernel, by decide⟩, pm_c10 213 rfl rfl, pm_vs9 6 rfl rfl, by decide, rfl⟩
set_option maxRecDepth 100000 in
theorem k_Md_push : pm_kV m_Md_push 12 3 := ⟨⟨pm_c1 18 rfl rfl, pm_c10 218 rfl rfl, by decide, by decide, by decide +kernel, by decide⟩, pm_c10 217 rfl rfl, pm_vs9 7 rfl rfl, by decide, rfl⟩
set_option maxRecDepth 100000 in
theorem k_Md_begin : pm_kV m_Md_begin 12 2 := ⟨⟨pm_c1 18 rfl rfl, pm_c10 210 rfl rfl, by decide, by decide, by decide +kernel, by decide⟩, pm_c10 209 rfl rfl, pm_vs9 5 rfl rfl, by decide, rfl⟩
set_option maxRecDepth 100000 in
theorem k_Md_finish : pm_kV m_Md_finish 12 2 := ⟨⟨pm_c1 18 rfl rfl, pm_c11 33 rfl rfl, by decide, by decide, by decide +kernel, by decide⟩, pm_c11 32 rfl rfl, pm_vs10 4 rfl rfl, by decide, rfl⟩
set_option maxRecDepth 100000 in
theorem k_Md_locals0 : pm_kV m_Md_locals0 12 1 := ⟨⟨pm_c1 18 rfl rfl, pm_c10 206 rfl rfl, by decide, by decide, by decide +kernel, by decide⟩, pm_c10 205 rfl rfl, pm_vs9 4 rfl rfl, by decide, rfl⟩
set_option maxRecDepth 100000 in
theorem k_Md_homeOf : pm_kV m_Md_homeOf 12 1 := ⟨⟨pm_c1 18 rfl rfl, pm_c11 29 rfl rfl, by decide, by decide, by decide +kernel, by decide⟩, pm_c11 28 rfl rfl, pm_vs10 3 rfl rfl, by decide, rfl⟩
set_option maxRecDepth 100000 in
theorem k_Md_callFunction : pm_kV m_Md_callFunction 12 1 := ⟨⟨pm_c1 18 rfl rfl, pm_c11 25 rfl rfl, by decide, by decide, by decide +kernel, by decide⟩, pm_c11 24 rfl rfl, pm_vs10 2 rfl rfl, by decide, rfl⟩
set_option maxRecDepth 100000 in
theorem k_Md_otherWay : pm_kS m_Md_otherWay 1 := ⟨⟨pm_c1 18 rfl rfl, pm_c10 229 rfl rfl, by decide, by decide, by decide +kernel, by decide⟩, pm_c10 228 rfl rfl⟩
set_option maxRecDepth 100000 in
theorem k_Md_workCover : pm_kV m_Md_workCover 12 1 := ⟨⟨pm_c1 18 rfl rfl, pm_c10 226 rfl rfl, by decide, by decide, by decide +kernel, by decide⟩, pm_c10 225 rfl rfl, pm_vs9 9 rfl rfl, by decide, rfl⟩
set_option maxRecDepth 100000 in
theorem k_Md_atomAt : pm_kV m_Md_atomAt 12 2 := ⟨⟨pm_c1 18 rfl rfl, pm_c11 53 rfl rfl, by decide, by decide, by decide +kernel, by decide⟩, pm_c11 52 rfl rfl, pm_vs10 9 rfl rfl, by decide, rfl⟩
set_option maxRecDepth 100000 in
theorem k_Md_callDef : pm_kV m_Md_callDef 12 3 := ⟨⟨pm_c1 18 rfl rfl, pm_c11 41 rfl rfl, by decide, by decide, by decide +kernel, by decide⟩, pm_c11 40 rfl rfl, pm_vs10 6 rfl rfl, by decide, rfl⟩
set_option maxRecDepth 100000 in
theorem k_Md_keepAtom : pm_kV m_Md_keepAtom 12 3 := ⟨⟨pm_c1 18 rfl rfl, pm_c11 49 rfl rfl, by decide, by decide, by decide +kernel, by decide⟩, pm_c11 48 rfl rfl, pm_vs10 8 rfl rfl, by decide, rfl⟩
set_option maxRecDepth 100000 in
theorem k_Md_resultOf : pm_kV m_Md_resultOf 12 2 := ⟨⟨pm_c1 18 rfl rfl, pm_c11 57 rfl rfl, by decide, by decide, by decide +kernel, by decide⟩, pm_c11 56 rfl rfl, pm_vs10 10 rfl rfl, by decide, rfl⟩
set_option maxRecDepth 100000 in
theorem k_Md_goOn : pm_kV m_Md_goOn 12 3 := ⟨⟨pm_c1 18 rfl rfl, pm_c11 61 rfl rfl, by decide, by decide, by decide +kernel, by decide⟩, pm_c11 60 rfl rfl, pm_vs10 11 rfl rfl, by decide, rfl⟩
set_option maxRecDepth 100000 in
theorem k_Md_workRow : pm_kV m_Md_workRow 12 2 := ⟨⟨pm_c1 18 rfl rfl, pm_c11 45 rfl rfl, by decide, by decide, by decide +kernel, by decide⟩, pm_c11 44 rfl rfl, pm_vs10 7 rfl rfl, by decide, rfl⟩
set_option maxRecDepth 100000 in
theorem k_Md_workName : pm_kV m_Md_workName 12 2 := ⟨⟨pm_c1 18 rfl rfl, pm_c11 37 rfl rfl, by decide, by decide, by decide +kernel, by decide⟩, pm_c11 36 rfl rfl, pm_vs10 5 rfl rfl, by decide, rfl⟩
set_option maxRecDepth 100000 in
theorem k_Md_workChoice : pm_kV m_Md_workChoice 12 2 := ⟨⟨pm_c1 18 rfl rfl, pm_c11 65 rfl rfl, by decide, by decide, by decide +kernel, by decide⟩, pm_c11 64 rfl rfl, pm_vs10 12 rfl rfl, by decide, rfl⟩
set_option maxRecDepth 100000 in
theorem k_Md_workTwo : pm_kV m_Md_workTwo 12 2 := ⟨⟨pm_c1 18 rfl rfl, pm_c11 77 rfl rfl, by decide, by decide, by decide +kernel, by decide⟩, pm_c11 76 rfl rfl, pm_vs10 15 rfl rfl, by decide, rfl⟩
set_option maxRecDepth 100000 in
theorem k_Md_workHalf : pm_kV m_Md_workHalf 12 2 := ⟨⟨pm_c1 18 rfl rfl, pm_c11 69 rfl rfl, by decide, by decide, by decide +kernel, by decide⟩, pm_c11 68 rfl rfl, pm_vs10 13 rfl rfl, by decide, rfl⟩
set_option maxRecDepth 100000 in
theorem k_Md_workFunction : pm_kV m_Md_workFunction 12 2 := ⟨⟨pm_c1 18 rfl rfl, pm_c11 73 rfl rfl, by decide, by decide, by decide +kernel, by decide⟩, pm_c11 72 rfl rfl, pm_vs10 14 rfl rfl, by decide, rfl⟩
set_option maxRecDepth 100000 in
theorem k_Md_go : pm_kV m_Md_go 12 0 := ⟨⟨pm_c1 18 rfl rfl, pm_c10 222 rfl rfl, by decide, by decide, by decide +kernel, by decide⟩, pm_c10 221 rfl rfl, pm_vs9 8 rfl rfl, by decide, rfl⟩
set_option maxRecDepth 100000 in
theorem k_Md_argument : pm_kV m_Md_argument 12 1 := ⟨⟨pm_c1 18 rfl rfl, pm_c10 198 rfl rfl, by decide, by decide, by decide +kernel, by decide⟩, pm_c10 196 rfl rfl, pm_c10 197 rfl rfl, by decide, rfl⟩
set_option maxRecDepth 100000 in
theorem k_Md_run : pm_kV m_Md_run 12 3 := ⟨⟨pm_c1 18 rfl rfl, pm_c10 202 rfl rfl, by decide, by decide, by decide +kernel, by decide⟩, pm_c10 200 rfl rfl, pm_c10 201 rfl rfl, by decide, rfl⟩
set_option maxRecDepth 100000 in
theorem k_Md_told : pm_kV m_Md_told 12 1 := ⟨⟨pm_c1 18 rfl rfl, pm_c11 81 rfl rfl, by decide, by decide, by decide +kernel, by decide⟩, pm_c11 79 rfl rfl, pm_c11 80 rfl rfl, by decide, rfl⟩
set_option maxRecDepth 100000 in
theorem k_Md_reach : pm_kV m_Md_reach 12 1 := ⟨⟨pm_c1 18 rfl rfl, pm_c11 89 rfl rfl, by decide, by decide, by decide +kernel, by decide⟩, pm_c11 88 rfl rfl, pm_vs11 0 rfl rfl, by decide, rfl⟩
set_option maxRecDepth 100000 in
theorem k_Md_sort : pm_kV m_Md_sort 12 1 := ⟨⟨pm_c1 18 rfl rfl, pm_c11 85 rfl rfl, by decide, by decide, by decide +kernel, by decide⟩, pm_c11 83 rfl rfl, pm_c11 84 rfl rfl, by decide, rfl⟩
set_option maxRecDepth 100000 in
theorem k_Md_result : pm_kV m_Md_result 12 1 := ⟨⟨pm_c1 18 rfl rfl, pm_c11 93 rfl rfl, by decide, by decide, by decide +kernel, by decide⟩, pm_c11 91 rfl rfl, pm_c11 92 rfl rfl, by decide, rfl⟩
set_option maxRecDepth 100000 in
theorem k_Adapter_init : pm_kI m_Adapter_init 3 := ⟨⟨pm_c1 16 rfl rfl, pm_c2 134 rfl rfl, by decide, by decide, by decide +kernel, by decide⟩, pm_c2 133 rfl rfl, rfl⟩
set_option maxRecDepth 100000 in
theorem k_Adapter_adapt : pm_kV m_Adapter_adapt 1 4 := ⟨⟨pm_c1 16 rfl rfl, pm_c7 98 rfl rfl, by decide, by decide, by decide +kernel, by decide⟩, pm_c7 96 rfl rfl, pm_c7 97 rfl rfl, by decide, rfl⟩
set_option maxRecDepth 100000 in
theorem k_Adapter_doTask : pm_kV m_Adapter_doTask 1 4 := ⟨⟨pm_c1 16 rfl rfl, pm_c7 111 rfl rfl, by decide, by decide, by decide +kernel, by decide⟩, pm_c7 110 rfl rfl, pm_vs4 13 rfl rfl, by decide, rfl⟩
set_option maxRecDepth 100000 in
theorem k_Adapter_addTask : pm_kV m_Adapter_addTask 1 3 := ⟨⟨pm_c1 16 rfl rfl, pm_c7 102 rfl rfl, by decide, by decide, by decide +kernel, by decide⟩, pm_c7 101 rfl rfl, pm_vs4 12 rfl rfl, by decide, rfl⟩
set_option maxRecDepth 100000 in
theorem k_Adapter_addResult : pm_kV m_Adapter_addResult 1 1 := ⟨⟨pm_c1 16 rfl rfl, pm_c7 124 rfl rfl, by decide, by decide, by decide +kernel, by decide⟩, pm_c7 123 rfl rfl, pm_vs4 15 rfl rfl, by decide, rfl⟩
set_option maxRecDepth 100000 in
theorem k_Adapter_popResult : pm_kV m_Adapter_popResult 1 0 := ⟨⟨pm_c1 16 rfl rfl, pm_c7 115 rfl rfl, by decide, by decide, by decide +kernel, by decide⟩, pm_c7 114 rfl rfl, pm_vs4 14 rfl rfl, by decide, rfl⟩
set_option maxRecDepth 100000 in
theorem k_Checker_init : pm_kI m_Checker_init 4 := ⟨⟨pm_c1 13 rfl rfl, pm_c2 68 rfl rfl, by decide, by decide, by decide +kernel, by decide⟩, pm_c2 67 rfl rfl, rfl⟩
set_option maxRecDepth 100000 in
theorem k_Checker_checkAll : pm_kV m_Checker_checkAll 2 0 := ⟨⟨pm_c1 13 rfl rfl, pm_c5 232 rfl rfl, by decide, by decide, by decide +kernel, by decide⟩, pm_c5 230 rfl rfl, pm_c5 231 rfl rfl, by decide, rfl⟩
set_option maxRecDepth 100000 in
theorem k_Checker_checkNode : pm_kV m_Checker_checkNode 2 1 := ⟨⟨pm_c1 13 rfl rfl, pm_c6 2 rfl rfl, by decide, by decide, by decide +kernel, by decide⟩, pm_c6 1 rfl rfl, pm_vs3 9 rfl rfl, by decide, rfl⟩
set_option maxRecDepth 100000 in
theorem k_Checker_resolve : pm_kV m_Checker_resolve 2 1 := ⟨⟨pm_c1 13 rfl rfl, pm_c6 7 rfl rfl, by decide, by decide, by decide +kernel, by decide⟩, pm_c6 6 rfl rfl, pm_vs3 10 rfl rfl, by decide, rfl⟩
set_option maxRecDepth 100000 in
theorem k_Checker_typeOf : pm_kV m_Checker_typeOf 2 1 := ⟨⟨pm_c1 13 rfl rfl, pm_c6 21 rfl rfl, by decide, by decide, by decide +kernel, by decide⟩, pm_c6 20 rfl rfl, pm_vs3 11 rfl rfl, by decide, rfl⟩
set_option maxRecDepth 100000 in
theorem k_Checker_typeOfLocal : pm_kV m_Checker_typeOfLocal 2 1 := ⟨⟨pm_c1 13 rfl rfl, pm_c6 37 rfl rfl, by decide, by decide, by decide +kernel, by decide⟩, pm_c6 36 rfl rfl, pm_vs3 12 rfl rfl, by decide, rfl⟩
set_option maxRecDepth 100000 in
theorem k_Checker_typeOfCall : pm_kV m_Checker_typeOfCall 2 1 := ⟨⟨pm_c1 13 rfl rfl, pm_c6 70 rfl rfl, by decide, by decide, by decide +kernel, by decide⟩, pm_c6 69 rfl rfl, pm_vs3 13 rfl rfl, by decide, rfl⟩
set_option maxRecDepth 100000 in
theorem k_Checker_fitAtoms : pm_kV m_Checker_fitAtoms 2 2 := ⟨⟨pm_c1 13 rfl rfl, pm_c6 78 rfl rfl, by decide, by decide, by decide +kernel, by decide⟩, pm_c6 77 rfl rfl, pm_vs3 14 rfl rfl, by decide, rfl⟩
set_option maxRecDepth 100000 in
theorem k_Checker_answersLetter : pm_kV m_Checker_answersLetter 2 1 := ⟨⟨pm_c1 13 rfl rfl, pm_c6 102 rfl rfl, by decide, by decide, by decide +kernel, by decide⟩, pm_c6 101 rfl rfl, pm_vs4 0 rfl rfl, by decide, rfl⟩
set_option maxRecDepth 100000 in
theorem k_Checker_fit : pm_kV m_Checker_fit 2 4 := ⟨⟨pm_c1 13 rfl rfl, pm_c6 82 rfl rfl, by decide, by decide, by decide +kernel, by decide⟩, pm_c6 81 rfl rfl, pm_vs3 15 rfl rfl, by decide, rfl⟩
set_option maxRecDepth 100000 in
theorem k_Checker_substitute : pm_kV m_Checker_substitute 2 3 := ⟨⟨pm_c1 13 rfl rfl, pm_c6 110 rfl rfl, by decide, by decide, by decide +kernel, by decide⟩, pm_c6 109 rfl rfl, pm_vs4 1 rfl rfl, by decide, rfl⟩
set_option maxRecDepth 100000 in
theorem k_Checker_countAll : pm_kV m_Checker_countAll 2 0 := ⟨⟨pm_c1 13 rfl rfl, pm_c6 130 rfl rfl, by decide, by decide, by decide +kernel, by decide⟩, pm_c6 129 rfl rfl, pm_vs4 2 rfl rfl, by decide, rfl⟩
set_option maxRecDepth 100000 in
theorem k_Checker_countCall : pm_kV m_Checker_countCall 2 2 := ⟨⟨pm_c1 13 rfl rfl, pm_c6 135 rfl rfl, by decide, by decide, by decide +kernel, by decide⟩, pm_c6 134 rfl rfl, pm_vs4 3 rfl rfl, by decide, rfl⟩
set_option maxRecDepth 100000 in
theorem k_Fault_init : pm_kI m_Fault_init 0 := ⟨⟨pm_c1 2 rfl rfl, pm_c1 44 rfl rfl, by decide, by decide, by decide +kernel, by decide⟩, pm_c1 43 rfl rfl, rfl⟩
set_option maxRecDepth 100000 in
theorem k_Fault_clear : pm_kV m_Fault_clear 3 0 := ⟨⟨pm_c1 2 rfl rfl, pm_c3 80 rfl rfl, by decide, by decide, by decide +kernel, by decide⟩, pm_c3 78 rfl rfl, pm_c3 79 rfl rfl, by decide, rfl⟩
set_option maxRecDepth 100000 in
theorem k_Fault_tell : pm_kV m_Fault_tell 3 2 := ⟨⟨pm_c1 2 rfl rfl, pm_c3 107 rfl rfl, by decide, by decide, by decide +kernel, by decide⟩, pm_c3 105 rfl rfl, pm_c3 106 rfl rfl, by decide, rfl⟩
set_option maxRecDepth 100000 in
theorem k_Fault_isTold : pm_kV m_Fault_isTold 3 0 := ⟨⟨pm_c1 2 rfl rfl, pm_c3 103 rfl rfl, by decide, by decide, by decide +kernel, by decide⟩, pm_c3 101 rfl rfl, pm_c3 102 rfl rfl, by decide, rfl⟩
set_option maxRecDepth 100000 in
theorem k_Fault_what : pm_kV m_Fault_what 3 0 := ⟨⟨pm_c1 2 rfl rfl, pm_c6 143 rfl rfl, by decide, by decide, by decide +kernel, by decide⟩, pm_c6 141 rfl rfl, pm_c6 142 rfl rfl, by decide, rfl⟩
set_option maxRecDepth 100000 in
theorem k_Fault_where : pm_kV m_Fault_where 3 0 := ⟨⟨pm_c1 2 rfl rfl, pm_c5 227 rfl rfl, by decide, by decide, by decide +kernel, by decide⟩, pm_c5 225 rfl rfl, pm_c5 226 rfl rfl, by decide, rfl⟩
set_option maxRecDepth 100000 in
theorem k_Frames_init : pm_kI m_Frames_init 0 := ⟨⟨pm_c1 17 rfl rfl, pm_c2 168 rfl rfl, by decide, by decide, by decide +kernel, by decide⟩, pm_c2 167 rfl rfl, rfl⟩
set_option maxRecDepth 100000 in
theorem k_Frames_clear : pm_kV m_Frames_clear 4 0 := ⟨⟨pm_c1 17 rfl rfl, pm_c3 72 rfl rfl, by decide, by decide, by decide +kernel, by decide⟩, pm_c3 70 rfl rfl, pm_c3 71 rfl rfl, by decide, rfl⟩
set_option maxRecDepth 100000 in
theorem k_Frames_isEmpty : pm_kV m_Frames_isEmpty 4 0 := ⟨⟨pm_c1 17 rfl rfl, pm_c7 151 rfl rfl, by decide, by decide, by decide +kernel, by decide⟩, pm_c7 149 rfl rfl, pm_c7 150 rfl rfl, by decide, rfl⟩
set_option maxRecDepth 100000 in
theorem k_Frames_isFull : pm_kV m_Frames_isFull 4 0 := ⟨⟨pm_c1 17 rfl rfl, pm_c7 73 rfl rfl, by decide, by decide, by decide +kernel, by decide⟩, pm_c7 71 rfl rfl, pm_c7 72 rfl rfl, by decide, rfl⟩
set_option maxRecDepth 100000 in
theorem k_Frames_deepest : pm_kV m_Frames_deepest 4 0 := ⟨⟨pm_c1 17 rfl rfl, pm_c8 47 rfl rfl, by decide, by decide, by decide +kernel, by decide⟩, pm_c8 45 rfl rfl, pm_c8 46 rfl rfl, by decide, rfl⟩
set_option maxRecDepth 100000 in
theorem k_Frames_push : pm_kV m_Frames_push 4 2 := ⟨⟨pm_c1 17 rfl rfl, pm_c7 77 rfl rfl, by decide, by decide, by decide +kernel, by decide⟩, pm_c7 75 rfl rfl, pm_c7 76 rfl rfl, by decide, rfl⟩
set_option maxRecDepth 100000 in
theorem k_Frames_pop : pm_kV m_Frames_pop 4 0 := ⟨⟨pm_c1 17 rfl rfl, pm_c7 168 rfl rfl, by decide, by decide, by decide +kernel, by decide⟩, pm_c7 166 rfl rfl, pm_c7 167 rfl rfl, by decide, rfl⟩
set_option maxRecDepth 100000 in
theorem k_Frames_node : pm_kV m_Frames_node 4 0 := ⟨⟨pm_c1 17 rfl rfl, pm_c7 159 rfl rfl, by decide, by decide, by decide +kernel, by decide⟩, pm_c7 157 rfl rfl, pm_c7 158 rfl rfl, by decide, rfl⟩
set_option maxRecDepth 100000 in
theorem k_Frames_state : pm_kV m_Frames_state 4 0 := ⟨⟨pm_c1 17 rfl rfl, pm_c7 181 rfl rfl, by decide, by decide, by decide +kernel, by decide⟩, pm_c7 179 rfl rfl, pm_c7 180 rfl rfl, by decide, rfl⟩
set_option maxRecDepth 100000 in
theorem k_Frames_setState : pm_kV m_Frames_setState 4 1 := ⟨⟨pm_c1 17 rfl rfl, pm_c7 189 rfl rfl, by decide, by decide, by decide +kernel, by decide⟩, pm_c7 187 rfl rfl, pm_c7 188 rfl rfl, by decide, rfl⟩
set_option maxRecDepth 100000 in
theorem k_Frames_base : pm_kV m_Frames_base 4 0 := ⟨⟨pm_c1 17 rfl rfl, pm_c7 172 rfl rfl, by decide, by decide, by decide +kernel, by decide⟩, pm_c7 170 rfl rfl, pm_c7 171 rfl rfl, by decide, rfl⟩
set_option maxRecDepth 100000 in
theorem k_Frames_atom : pm_kV m_Frames_atom 4 0 := ⟨⟨pm_c1 17 rfl rfl, pm_c7 218 rfl rfl, by decide, by decide, by decide +kernel, by decide⟩, pm_c7 216 rfl rfl, pm_c7 217 rfl rfl, by decide, rfl⟩
set_option maxRecDepth 100000 in
theorem k_Frames_setAtom : pm_kV m_Frames_setAtom 4 1 := ⟨⟨pm_c1 17 rfl rfl, pm_c7 210 rfl rfl, by decide, by decide, by decide +kernel, by decide⟩, pm_c7 208 rfl rfl, pm_c7 209 rfl rfl, by decide, rfl⟩
set_option maxRecDepth 100000 in
theorem k_Frames_heldCount : pm_kV m_Frames_heldCount 4 0 := ⟨⟨pm_c1 17 rfl rfl, pm_c7 227 rfl rfl, by decide, by decide, by decide +kernel, by decide⟩, pm_c7 225 rfl rfl, pm_c7 226 rfl rfl, by decide, rfl⟩
set_option maxRecDepth 100000 in
theorem k_Frames_hold : pm_kV m_Frames_hold 4 1 := ⟨⟨pm_c1 17 rfl rfl, pm_c7 90 rfl rfl, by decide, by decide, by decide +kernel, by decide⟩, pm_c7 88 rfl rfl, pm_c7 89 rfl rfl, by decide, rfl⟩
set_option maxRecDepth 100000 in
theorem k_Frames_dropHeld : pm_kV m_Frames_dropHeld 4 0 := ⟨⟨pm_c1 17 rfl rfl, pm_c8 10 rfl rfl, by decide, by decide, by decide +kernel, by decide⟩, pm_c8 8 rfl rfl, pm_c8 9 rfl rfl, by decide, rfl⟩
set_option maxRecDepth 100000 in
theorem k_Frames_held : pm_kV m_Frames_held 4 1 := ⟨⟨pm_c1 17 rfl rfl, pm_c7 231 rfl rfl, by decide, by decide, by decide +kernel, by decide⟩, pm_c7 229 rfl rfl, pm_c7 230 rfl rfl, by decide, rfl⟩
set_option maxRecDepth 100000 in
theorem k_Heap_init : pm_kI m_Heap_init 0 := ⟨⟨pm_c1 15 rfl rfl, pm_c2 96 rfl rfl, by decide, by decide, by decide +kernel, by decide⟩, pm_c2 95 rfl rfl, rfl⟩
set_option maxRecDepth 100000 in
theorem k_Heap_clear : pm_kV m_Heap_clear 5 0 := ⟨⟨pm_c1 15 rfl rfl, pm_c3 65 rfl rfl, by decide, by decide, by decide +kernel, by decide⟩, pm_c3 63 rfl rfl, pm_c3 64 rfl rfl, by decide, rfl⟩
set_option maxRecDepth 100000 in
theorem k_Heap_isOver : pm_kV m_Heap_isOver 5 0 := ⟨⟨pm_c1 15 rfl rfl, pm_c7 107 rfl rfl, by decide, by decide, by decide +kernel, by decide⟩, pm_c7 105 rfl rfl, pm_c7 106 rfl rfl, by decide, rfl⟩
set_option maxRecDepth 100000 in
theorem k_Heap_madeOf : pm_kV m_Heap_madeOf 5 1 := ⟨⟨pm_c1 15 rfl rfl, pm_c8 39 rfl rfl, by decide, by decide, by decide +kernel, by decide⟩, pm_c8 37 rfl rfl, pm_c8 38 rfl rfl, by decide, rfl⟩
set_option maxRecDepth 100000 in
theorem k_Heap_openedBoxes : pm_kV m_Heap_openedBoxes 5 0 := ⟨⟨pm_c1 15 rfl rfl, pm_c8 43 rfl rfl, by decide, by decide, by decide +kernel, by decide⟩, pm_c8 41 rfl rfl, pm_c8 42 rfl rfl, by decide, rfl⟩
set_option maxRecDepth 100000 in
theorem k_Heap_make : pm_kV m_Heap_make 5 4 := ⟨⟨pm_c1 15 rfl rfl, pm_c7 119 rfl rfl, by decide, by decide, by decide +kernel, by decide⟩, pm_c7 117 rfl rfl, pm_c7 118 rfl rfl, by decide, rfl⟩
set_option maxRecDepth 100000 in
theorem k_Heap_openBox : pm_kV m_Heap_openBox 5 1 := ⟨⟨pm_c1 15 rfl rfl, pm_c7 130 rfl rfl, by decide, by decide, by decide +kernel, by decide⟩, pm_c7 128 rfl rfl, pm_c7 129 rfl rfl, by decide, rfl⟩
set_option maxRecDepth 100000 in
theorem k_Heap_kind : pm_kV m_Heap_kind 5 1 := ⟨⟨pm_c1 15 rfl rfl, pm_c6 190 rfl rfl, by decide, by decide, by decide +kernel, by decide⟩, pm_c6 188 rfl rfl, pm_c6 189 rfl rfl, by decide, rfl⟩
set_option maxRecDepth 100000 in
theorem k_Heap_first : pm_kV m_Heap_first 5 1 := ⟨⟨pm_c1 15 rfl rfl, pm_c6 182 rfl rfl, by decide, by decide, by decide +kernel, by decide⟩, pm_c6 180 rfl rfl, pm_c6 181 rfl rfl, by decide, rfl⟩
set_option maxRecDepth 100000 in
theorem k_Heap_second : pm_kV m_Heap_second 5 1 := ⟨⟨pm_c1 15 rfl rfl, pm_c6 186 rfl rfl, by decide, by decide, by decide +kernel, by decide⟩, pm_c6 184 rfl rfl, pm_c6 185 rfl rfl, by decide, rfl⟩
set_option maxRecDepth 100000 in
theorem k_Heap_site : pm_kV m_Heap_site 5 1 := ⟨⟨pm_c1 15 rfl rfl, pm_c7 94 rfl rfl, by decide, by decide, by decide +kernel, by decide⟩, pm_c7 92 rfl rfl, pm_c7 93 rfl rfl, by decide, rfl⟩
set_option maxRecDepth 100000 in
theorem k_Heap_claim : pm_kV m_Heap_claim 5 1 := ⟨⟨pm_c1 15 rfl rfl, pm_c7 50 rfl rfl, by decide, by decide, by decide +kernel, by decide⟩, pm_c7 48 rfl rfl, pm_c7 49 rfl rfl, by decide, rfl⟩
set_option maxRecDepth 100000 in
theorem k_Heap_local : pm_kV m_Heap_local 5 2 := ⟨⟨pm_c1 15 rfl rfl, pm_c7 145 rfl rfl, by decide, by decide, by decide +kernel, by decide⟩, pm_c7 143 rfl rfl, pm_c7 144 rfl rfl, by decide, rfl⟩
set_option maxRecDepth 100000 in
theorem k_Heap_setLocal : pm_kV m_Heap_setLocal 5 3 := ⟨⟨pm_c1 15 rfl rfl, pm_c7 55 rfl rfl, by decide, by decide, by decide +kernel, by decide⟩, pm_c7 53 rfl rfl, pm_c7 54 rfl rfl, by decide, rfl⟩
set_option maxRecDepth 100000 in
theorem k_Heap_hasLocal : pm_kV m_Heap_hasLocal 5 2 := ⟨⟨pm_c1 15 rfl rfl, pm_c7 59 rfl rfl, by decide, by decide, by decide +kernel, by decide⟩, pm_c7 58 rfl rfl, pm_vs4 7 rfl rfl, by decide, rfl⟩
set_option maxRecDepth 100000 in
theorem k_Machine_init : pm_kI m_Machine_init 3 := ⟨⟨pm_c1 14 rfl rfl, pm_c2 90 rfl rfl, by decide, by decide, by decide +kernel, by decide⟩, pm_c2 89 rfl rfl, rfl⟩
set_option maxRecDepth 100000 in
theorem k_Machine_forget : pm_kV m_Machine_forget 6 0 := ⟨⟨pm_c1 14 rfl rfl, pm_c3 61 rfl rfl, by decide, by decide, by decide +kernel, by decide⟩, pm_c3 59 rfl rfl, pm_c3 60 rfl rfl, by decide, rfl⟩
set_option maxRecDepth 100000 in
theorem k_Machine_start : pm_kV m_Machine_start 6 4 := ⟨⟨pm_c1 14 rfl rfl, pm_c7 43 rfl rfl, by decide, by decide, by decide +kernel, by decide⟩, pm_c7 41 rfl rfl, pm_c7 42 rfl rfl, by decide, rfl⟩
set_option maxRecDepth 100000 in
theorem k_Machine_countOf : pm_kV m_Machine_countOf 6 1 := ⟨⟨pm_c1 14 rfl rfl, pm_c8 35 rfl rfl, by decide, by decide, by decide +kernel, by decide⟩, pm_c8 33 rfl rfl, pm_c8 34 rfl rfl, by decide, rfl⟩
set_option maxRecDepth 100000 in
theorem k_Machine_sortAt : pm_kV m_Machine_sortAt 6 1 := ⟨⟨pm_c1 14 rfl rfl, pm_c6 160 rfl rfl, by decide, by decide, by decide +kernel, by decide⟩, pm_c6 158 rfl rfl, pm_c6 159 rfl rfl, by decide, rfl⟩
set_option maxRecDepth 100000 in
theorem k_Machine_wordAt : pm_kV m_Machine_wordAt 6 1 := ⟨⟨pm_c1 14 rfl rfl, pm_c6 201 rfl rfl, by decide, by decide, by decide +kernel, by decide⟩, pm_c6 199 rfl rfl, pm_c6 200 rfl rfl, by decide, rfl⟩
set_option maxRecDepth 100000 in
theorem k_Machine_sortOfBox : pm_kS m_Machine_sortOfBox 1 := ⟨⟨pm_c1 14 rfl rfl, pm_c6 193 rfl rfl, by decide, by decide, by decide +kernel, by decide⟩, pm_c6 192 rfl rfl⟩
set_option maxRecDepth 100000 in
theorem k_Machine_typeAt : pm_kV m_Machine_typeAt 6 1 := ⟨⟨pm_c1 14 rfl rfl, pm_c6 164 rfl rfl, by decide, by decide, by decide +kernel, by decide⟩, pm_c6 163 rfl rfl, pm_vs4 4 rfl rfl, by decide, rfl⟩
set_option maxRecDepth 100000 in
theorem k_Machine_valueAt : pm_kV m_Machine_valueAt 6 1 := ⟨⟨pm_c1 14 rfl rfl, pm_c6 178 rfl rfl, by decide, by decide, by decide +kernel, by decide⟩, pm_c6 177 rfl rfl, pm_vs4 5 rfl rfl, by decide, rfl⟩
set_option maxRecDepth 100000 in
theorem k_Machine_lengthOf : pm_kS m_Machine_lengthOf 1 := ⟨⟨pm_c1 14 rfl rfl, pm_c6 167 rfl rfl, by decide, by decide, by decide +kernel, by decide⟩, pm_c6 166 rfl rfl⟩
set_option maxRecDepth 100000 in
theorem k_Machine_goInto : pm_kV m_Machine_goInto 6 2 := ⟨⟨pm_c1 14 rfl rfl, pm_c7 64 rfl rfl, by decide, by decide, by decide +kernel, by decide⟩, pm_c7 63 rfl rfl, pm_vs4 8 rfl rfl, by decide, rfl⟩
set_option maxRecDepth 100000 in
theorem k_Machine_enter : pm_kV m_Machine_enter 6 0 := ⟨⟨pm_c1 14 rfl rfl, pm_c7 69 rfl rfl, by decide, by decide, by decide +kernel, by decide⟩, pm_c7 68 rfl rfl, pm_vs4 9 rfl rfl, by decide, rfl⟩
set_option maxRecDepth 100000 in
theorem k_Machine_finish : pm_kV m_Machine_finish 6 1 := ⟨⟨pm_c1 14 rfl rfl, pm_c7 164 rfl rfl, by decide, by decide, by decide +kernel, by decide⟩, pm_c7 163 rfl rfl, pm_vs5 2 rfl rfl, by decide, rfl⟩
set_option maxRecDepth 100000 in
theorem k_Machine_workPart : pm_kV m_Machine_workPart 6 2 := ⟨⟨pm_c1 14 rfl rfl, pm_c7 185 rfl rfl, by decide, by decide, by decide +kernel, by decide⟩, pm_c7 184 rfl rfl, pm_vs5 4 rfl rfl, by decide, rfl⟩
set_option maxRecDepth 100000 in
theorem k_Machine_resume : pm_kV m_Machine_resume 6 0 := ⟨⟨pm_c1 14 rfl rfl, pm_c7 155 rfl rfl, by decide, by decide, by decide +kernel, by decide⟩, pm_c7 154 rfl rfl, pm_vs5 1 rfl rfl, by decide, rfl⟩
set_option maxRecDepth 100000 in
theorem k_Machine_workLet : pm_kV m_Machine_workLet 6 1 := ⟨⟨pm_c1 14 rfl rfl, pm_c7 177 rfl rfl, by decide, by decide, by decide +kernel, by decide⟩, pm_c7 176 rfl rfl, pm_vs5 3 rfl rfl, by decide, rfl⟩
set_option maxRecDepth 100000 in
theorem k_Machine_workIf : pm_kV m_Machine_workIf 6 1 := ⟨⟨pm_c1 14 rfl rfl, pm_c7 194 rfl rfl, by decide, by decide, by decide +kernel, by decide⟩, pm_c7 193 rfl rfl, pm_vs5 5 rfl rfl, by decide, rfl⟩
set_option maxRecDepth 100000 in
theorem k_Machine_workHalf : pm_kV m_Machine_workHalf 6 1 := ⟨⟨pm_c1 14 rfl rfl, pm_c7 198 rfl rfl, by decide, by decide, by decide +kernel, by decide⟩, pm_c7 197 rfl rfl, pm_vs5 6 rfl rfl, by decide, rfl⟩
set_option maxRecDepth 100000 in
theorem k_Machine_workBoth : pm_kV m_Machine_workBoth 6 1 := ⟨⟨pm_c1 14 rfl rfl, pm_c8 18 rfl rfl, by decide, by decide, by decide +kernel, by decide⟩, pm_c8 17 rfl rfl, pm_vs5 15 rfl rfl, by decide, rfl⟩
set_option maxRecDepth 100000 in
theorem k_Machine_join : pm_kV m_Machine_join 6 3 := ⟨⟨pm_c1 14 rfl rfl, pm_c8 22 rfl rfl, by decide, by decide, by decide +kernel, by decide⟩, pm_c8 21 rfl rfl, pm_vs6 0 rfl rfl, by decide, rfl⟩
set_option maxRecDepth 100000 in
theorem k_Machine_workCall : pm_kV m_Machine_workCall 6 1 := ⟨⟨pm_c1 14 rfl rfl, pm_c7 202 rfl rfl, by decide, by decide, by decide +kernel, by decide⟩, pm_c7 201 rfl rfl, pm_vs5 7 rfl rfl, by decide, rfl⟩
set_option maxRecDepth 100000 in
theorem k_Machine_beginCall : pm_kV m_Machine_beginCall 6 1 := ⟨⟨pm_c1 14 rfl rfl, pm_c7 206 rfl rfl, by decide, by decide, by decide +kernel, by decide⟩, pm_c7 205 rfl rfl, pm_vs5 8 rfl rfl, by decide, rfl⟩
set_option maxRecDepth 100000 in
theorem k_Machine_workAtom : pm_kV m_Machine_workAtom 6 1 := ⟨⟨pm_c1 14 rfl rfl, pm_c7 214 rfl rfl, by decide, by decide, by decide +kernel, by decide⟩, pm_c7 213 rfl rfl, pm_vs5 9 rfl rfl, by decide, rfl⟩
set_option maxRecDepth 100000 in
theorem k_Machine_takeArgument : pm_kV m_Machine_takeArgument 6 1 := ⟨⟨pm_c1 14 rfl rfl, pm_c7 236 rfl rfl, by decide, by decide, by decide +kernel, by decide⟩, pm_c7 235 rfl rfl, pm_vs5 11 rfl rfl, by decide, rfl⟩
set_option maxRecDepth 100000 in
theorem k_Machine_callDef : pm_kV m_Machine_callDef 6 1 := ⟨⟨pm_c1 14 rfl rfl, pm_c7 223 rfl rfl, by decide, by decide, by decide +kernel, by decide⟩, pm_c7 222 rfl rfl, pm_vs5 10 rfl rfl, by decide, rfl⟩
set_option maxRecDepth 100000 in
theorem k_Machine_takeResult : pm_kV m_Machine_takeResult 6 1 := ⟨⟨pm_c1 14 rfl rfl, pm_c8 2 rfl rfl, by decide, by decide, by decide +kernel, by decide⟩, pm_c8 1 rfl rfl, pm_vs5 12 rfl rfl, by decide, rfl⟩
set_option maxRecDepth 100000 in
theorem k_Machine_goOnCalling : pm_kV m_Machine_goOnCalling 6 0 := ⟨⟨pm_c1 14 rfl rfl, pm_c8 6 rfl rfl, by decide, by decide, by decide +kernel, by decide⟩, pm_c8 5 rfl rfl, pm_vs5 13 rfl rfl, by decide, rfl⟩
set_option maxRecDepth 100000 in
theorem k_Machine_applyCallee : pm_kV m_Machine_applyCallee 6 0 := ⟨⟨pm_c1 14 rfl rfl, pm_c7 82 rfl rfl, by decide, by decide, by decide +kernel, by decide⟩, pm_c7 81 rfl rfl, pm_vs4 10 rfl rfl, by decide, rfl⟩
set_option maxRecDepth 100000 in
theorem k_Machine_enterFunction : pm_kV m_Machine_enterFunction 6 0 := ⟨⟨pm_c1 14 rfl rfl, pm_c7 140 rfl rfl, by decide, by decide, by decide +kernel, by decide⟩, pm_c7 139 rfl rfl, pm_vs5 0 rfl rfl, by decide, rfl⟩
set_option maxRecDepth 100000 in
theorem k_Machine_enterCover : pm_kV m_Machine_enterCover 6 1 := ⟨⟨pm_c1 14 rfl rfl, pm_c7 86 rfl rfl, by decide, by decide, by decide +kernel, by decide⟩, pm_c7 85 rfl rfl, pm_vs4 11 rfl rfl, by decide, rfl⟩
set_option maxRecDepth 100000 in
theorem k_Machine_leaveCover : pm_kV m_Machine_leaveCover 6 0 := ⟨⟨pm_c1 14 rfl rfl, pm_c8 14 rfl rfl, by decide, by decide, by decide +kernel, by decide⟩, pm_c8 13 rfl rfl, pm_vs5 14 rfl rfl, by decide, rfl⟩
set_option maxRecDepth 100000 in
theorem k_Parser_init : pm_kI m_Parser_init 6 := ⟨⟨pm_c1 12 rfl rfl, pm_c2 16 rfl rfl, by decide, by decide, by decide +kernel, by decide⟩, pm_c2 15 rfl rfl, rfl⟩
set_option maxRecDepth 100000 in
theorem k_Parser_readProgram : pm_kV m_Parser_readProgram 7 0 := ⟨⟨pm_c1 12 rfl rfl, pm_c3 159 rfl rfl, by decide, by decide, by decide +kernel, by decide⟩, pm_c3 157 rfl rfl, pm_c3 158 rfl rfl, by decide, rfl⟩
set_option maxRecDepth 100000 in
theorem k_Parser_readDef : pm_kV m_Parser_readDef 7 0 := ⟨⟨pm_c1 12 rfl rfl, pm_c3 176 rfl rfl, by decide, by decide, by decide +kernel, by decide⟩, pm_c3 175 rfl rfl, pm_vs1 11 rfl rfl, by decide, rfl⟩
set_option maxRecDepth 100000 in
theorem k_Parser_readParameter : pm_kV m_Parser_readParameter 7 0 := ⟨⟨pm_c1 12 rfl rfl, pm_c3 209 rfl rfl, by decide, by decide, by decide +kernel, by decide⟩, pm_c3 208 rfl rfl, pm_vs1 14 rfl rfl, by decide, rfl⟩
set_option maxRecDepth 100000 in
theorem k_Parser_readLocal : pm_kV m_Parser_readLocal 7 0 := ⟨⟨pm_c1 12 rfl rfl, pm_c3 217 rfl rfl, by decide, by decide, by decide +kernel, by decide⟩, pm_c3 216 rfl rfl, pm_vs1 15 rfl rfl, by decide, rfl⟩
set_option maxRecDepth 100000 in
theorem k_Parser_readType : pm_kV m_Parser_readType 7 2 := ⟨⟨pm_c1 12 rfl rfl, pm_c4 1 rfl rfl, by decide, by decide, by decide +kernel, by decide⟩, pm_c4 0 rfl rfl, pm_vs2 2 rfl rfl, by decide, rfl⟩
set_option maxRecDepth 100000 in
theorem k_Parser_readPart : pm_kV m_Parser_readPart 7 2 := ⟨⟨pm_c1 12 rfl rfl, pm_c4 5 rfl rfl, by decide, by decide, by decide +kernel, by decide⟩, pm_c4 4 rfl rfl, pm_vs2 3 rfl rfl, by decide, rfl⟩
set_option maxRecDepth 100000 in
theorem k_Parser_readBase : pm_kV m_Parser_readBase 7 2 := ⟨⟨pm_c1 12 rfl rfl, pm_c4 9 rfl rfl, by decide, by decide, by decide +kernel, by decide⟩, pm_c4 8 rfl rfl, pm_vs2 4 rfl rfl, by decide, rfl⟩
set_option maxRecDepth 100000 in
theorem k_Parser_readLetter : pm_kV m_Parser_readLetter 7 1 := ⟨⟨pm_c1 12 rfl rfl, pm_c4 17 rfl rfl, by decide, by decide, by decide +kernel, by decide⟩, pm_c4 16 rfl rfl, pm_vs2 6 rfl rfl, by decide, rfl⟩
set_option maxRecDepth 100000 in
theorem k_Parser_countLeaf : pm_kV m_Parser_countLeaf 7 0 := ⟨⟨pm_c1 12 rfl rfl, pm_c4 13 rfl rfl, by decide, by decide, by decide +kernel, by decide⟩, pm_c4 12 rfl rfl, pm_vs2 5 rfl rfl, by decide, rfl⟩
set_option maxRecDepth 100000 in
theorem k_Parser_pushBase : pm_kV m_Parser_pushBase 7 1 := ⟨⟨pm_c1 12 rfl rfl, pm_c4 25 rfl rfl, by decide, by decide, by decide +kernel, by decide⟩, pm_c4 24 rfl rfl, pm_vs2 7 rfl rfl, by decide, rfl⟩
set_option maxRecDepth 100000 in
theorem k_Parser_popBase : pm_kV m_Parser_popBase 7 0 := ⟨⟨pm_c1 12 rfl rfl, pm_c4 29 rfl rfl, by decide, by decide, by decide +kernel, by decide⟩, pm_c4 28 rfl rfl, pm_vs2 8 rfl rfl, by decide, rfl⟩
set_option maxRecDepth 100000 in
theorem k_Parser_readExpr : pm_kV m_Parser_readExpr 7 1 := ⟨⟨pm_c1 12 rfl rfl, pm_c4 71 rfl rfl, by decide, by decide, by decide +kernel, by decide⟩, pm_c4 70 rfl rfl, pm_vs2 10 rfl rfl, by decide, rfl⟩
set_option maxRecDepth 100000 in
theorem k_Parser_readLet : pm_kV m_Parser_readLet 7 1 := ⟨⟨pm_c1 12 rfl rfl, pm_c4 75 rfl rfl, by decide, by decide, by decide +kernel, by decide⟩, pm_c4 74 rfl rfl, pm_vs2 11 rfl rfl, by decide, rfl⟩
set_option maxRecDepth 100000 in
theorem k_Parser_readIf : pm_kV m_Parser_readIf 7 1 := ⟨⟨pm_c1 12 rfl rfl, pm_c5 154 rfl rfl, by decide, by decide, by decide +kernel, by decide⟩, pm_c5 153 rfl rfl, pm_vs2 14 rfl rfl, by decide, rfl⟩
set_option maxRecDepth 100000 in
theorem k_Parser_readFn : pm_kV m_Parser_readFn 7 1 := ⟨⟨pm_c1 12 rfl rfl, pm_c5 158 rfl rfl, by decide, by decide, by decide +kernel, by decide⟩, pm_c5 157 rfl rfl, pm_vs2 15 rfl rfl, by decide, rfl⟩
set_option maxRecDepth 100000 in
theorem k_Parser_readComparison : pm_kV m_Parser_readComparison 7 1 := ⟨⟨pm_c1 12 rfl rfl, pm_c5 166 rfl rfl, by decide, by decide, by decide +kernel, by decide⟩, pm_c5 165 rfl rfl, pm_vs3 0 rfl rfl, by decide, rfl⟩
set_option maxRecDepth 100000 in
theorem k_Parser_readSum : pm_kV m_Parser_readSum 7 1 := ⟨⟨pm_c1 12 rfl rfl, pm_c5 170 rfl rfl, by decide, by decide, by decide +kernel, by decide⟩, pm_c5 169 rfl rfl, pm_vs3 1 rfl rfl, by decide, rfl⟩
set_option maxRecDepth 100000 in
theorem k_Parser_readCall : pm_kV m_Parser_readCall 7 1 := ⟨⟨pm_c1 12 rfl rfl, pm_c5 174 rfl rfl, by decide, by decide, by decide +kernel, by decide⟩, pm_c5 173 rfl rfl, pm_vs3 2 rfl rfl, by decide, rfl⟩
set_option maxRecDepth 100000 in
theorem k_Parser_readAtoms : pm_kV m_Parser_readAtoms 7 2 := ⟨⟨pm_c1 12 rfl rfl, pm_c5 202 rfl rfl, by decide, by decide, by decide +kernel, by decide⟩, pm_c5 201 rfl rfl, pm_vs3 7 rfl rfl, by decide, rfl⟩
set_option maxRecDepth 100000 in
theorem k_Parser_readAtom : pm_kV m_Parser_readAtom 7 1 := ⟨⟨pm_c1 12 rfl rfl, pm_c5 178 rfl rfl, by decide, by decide, by decide +kernel, by decide⟩, pm_c5 177 rfl rfl, pm_vs3 3 rfl rfl, by decide, rfl⟩
set_option maxRecDepth 100000 in
theorem k_Parser_readLeafExpr : pm_kV m_Parser_readLeafExpr 7 2 := ⟨⟨pm_c1 12 rfl rfl, pm_c5 182 rfl rfl, by decide, by decide, by decide +kernel, by decide⟩, pm_c5 181 rfl rfl, pm_vs3 4 rfl rfl, by decide, rfl⟩
set_option maxRecDepth 100000 in
theorem k_Parser_readBrackets : pm_kV m_Parser_readBrackets 7 1 := ⟨⟨pm_c1 12 rfl rfl, pm_c5 186 rfl rfl, by decide, by decide, by decide +kernel, by decide⟩, pm_c5 185 rfl rfl, pm_vs3 5 rfl rfl, by decide, rfl⟩
set_option maxRecDepth 100000 in
theorem k_Parser_beginsAtom : pm_kV m_Parser_beginsAtom 7 0 := ⟨⟨pm_c1 12 rfl rfl, pm_c5 190 rfl rfl, by decide, by decide, by decide +kernel, by decide⟩, pm_c5 189 rfl rfl, pm_vs3 6 rfl rfl, by decide, rfl⟩
set_option maxRecDepth 100000 in
theorem k_Parser_isSumSign : pm_kV m_Parser_isSumSign 7 0 := ⟨⟨pm_c1 12 rfl rfl, pm_c5 214 rfl rfl, by decide, by decide, by decide +kernel, by decide⟩, pm_c5 213 rfl rfl, pm_vs3 8 rfl rfl, by decide, rfl⟩
set_option maxRecDepth 100000 in
theorem k_Parser_bind : pm_kV m_Parser_bind 7 2 := ⟨⟨pm_c1 12 rfl rfl, pm_c3 233 rfl rfl, by decide, by decide, by decide +kernel, by decide⟩, pm_c3 232 rfl rfl, pm_vs2 1 rfl rfl, by decide, rfl⟩
set_option maxRecDepth 100000 in
theorem k_Parser_unbind : pm_kV m_Parser_unbind 7 0 := ⟨⟨pm_c1 12 rfl rfl, pm_c4 83 rfl rfl, by decide, by decide, by decide +kernel, by decide⟩, pm_c4 82 rfl rfl, pm_vs2 12 rfl rfl, by decide, rfl⟩
set_option maxRecDepth 100000 in
theorem k_Parser_findLocal : pm_kV m_Parser_findLocal 7 1 := ⟨⟨pm_c1 12 rfl rfl, pm_c3 229 rfl rfl, by decide, by decide, by decide +kernel, by decide⟩, pm_c3 228 rfl rfl, pm_vs2 0 rfl rfl, by decide, rfl⟩
set_option maxRecDepth 100000 in
theorem k_Parser_kind : pm_kV m_Parser_kind 7 0 := ⟨⟨pm_c1 12 rfl rfl, pm_c3 167 rfl rfl, by decide, by decide, by decide +kernel, by decide⟩, pm_c3 166 rfl rfl, pm_vs1 10 rfl rfl, by decide, rfl⟩
set_option maxRecDepth 100000 in
theorem k_Parser_here : pm_kV m_Parser_here 7 0 := ⟨⟨pm_c1 12 rfl rfl, pm_c3 184 rfl rfl, by decide, by decide, by decide +kernel, by decide⟩, pm_c3 183 rfl rfl, pm_vs1 12 rfl rfl, by decide, rfl⟩
set_option maxRecDepth 100000 in
theorem k_Parser_expect : pm_kV m_Parser_expect 7 1 := ⟨⟨pm_c1 12 rfl rfl, pm_c3 193 rfl rfl, by decide, by decide, by decide +kernel, by decide⟩, pm_c3 192 rfl rfl, pm_vs1 13 rfl rfl, by decide, rfl⟩
set_option maxRecDepth 100000 in
theorem k_Table_init : pm_kI m_Table_init 0 := ⟨⟨pm_c1 11 rfl rfl, pm_c1 219 rfl rfl, by decide, by decide, by decide +kernel, by decide⟩, pm_c1 218 rfl rfl, rfl⟩
set_option maxRecDepth 100000 in
theorem k_Table_clear : pm_kV m_Table_clear 8 0 := ⟨⟨pm_c1 11 rfl rfl, pm_c3 93 rfl rfl, by decide, by decide, by decide +kernel, by decide⟩, pm_c3 91 rfl rfl, pm_c3 92 rfl rfl, by decide, rfl⟩
set_option maxRecDepth 100000 in
theorem k_Table_size : pm_kV m_Table_size 8 0 := ⟨⟨pm_c1 11 rfl rfl, pm_c3 180 rfl rfl, by decide, by decide, by decide +kernel, by decide⟩, pm_c3 178 rfl rfl, pm_c3 179 rfl rfl, by decide, rfl⟩
set_option maxRecDepth 100000 in
theorem k_Table_add : pm_kV m_Table_add 8 2 := ⟨⟨pm_c1 11 rfl rfl, pm_c3 205 rfl rfl, by decide, by decide, by decide +kernel, by decide⟩, pm_c3 203 rfl rfl, pm_c3 204 rfl rfl, by decide, rfl⟩
set_option maxRecDepth 100000 in
theorem k_Table_find : pm_kV m_Table_find 8 1 := ⟨⟨pm_c1 11 rfl rfl, pm_c3 201 rfl rfl, by decide, by decide, by decide +kernel, by decide⟩, pm_c3 199 rfl rfl, pm_c3 200 rfl rfl, by decide, rfl⟩
set_option maxRecDepth 100000 in
theorem k_Table_placeOf : pm_kV m_Table_placeOf 8 1 := ⟨⟨pm_c1 11 rfl rfl, pm_c6 126 rfl rfl, by decide, by decide, by decide +kernel, by decide⟩, pm_c6 124 rfl rfl, pm_c6 125 rfl rfl, by decide, rfl⟩
set_option maxRecDepth 100000 in
theorem k_Table_type : pm_kV m_Table_type 8 1 := ⟨⟨pm_c1 11 rfl rfl, pm_c6 49 rfl rfl, by decide, by decide, by decide +kernel, by decide⟩, pm_c6 47 rfl rfl, pm_c6 48 rfl rfl, by decide, rfl⟩
set_option maxRecDepth 100000 in
theorem k_Table_setType : pm_kV m_Table_setType 8 2 := ⟨⟨pm_c1 11 rfl rfl, pm_c4 67 rfl rfl, by decide, by decide, by decide +kernel, by decide⟩, pm_c4 65 rfl rfl, pm_c4 66 rfl rfl, by decide, rfl⟩
set_option maxRecDepth 100000 in
theorem k_Table_root : pm_kV m_Table_root 8 1 := ⟨⟨pm_c1 11 rfl rfl, pm_c6 122 rfl rfl, by decide, by decide, by decide +kernel, by decide⟩, pm_c6 120 rfl rfl, pm_c6 121 rfl rfl, by decide, rfl⟩
set_option maxRecDepth 100000 in
theorem k_Table_end : pm_kV m_Table_end 8 1 := ⟨⟨pm_c1 11 rfl rfl, pm_c5 238 rfl rfl, by decide, by decide, by decide +kernel, by decide⟩, pm_c5 236 rfl rfl, pm_c5 237 rfl rfl, by decide, rfl⟩
set_option maxRecDepth 100000 in
theorem k_Table_setRoot : pm_kV m_Table_setRoot 8 3 := ⟨⟨pm_c1 11 rfl rfl, pm_c5 222 rfl rfl, by decide, by decide, by decide +kernel, by decide⟩, pm_c5 220 rfl rfl, pm_c5 221 rfl rfl, by decide, rfl⟩
set_option maxRecDepth 100000 in
theorem k_Table_parameters : pm_kV m_Table_parameters 8 1 := ⟨⟨pm_c1 11 rfl rfl, pm_c3 213 rfl rfl, by decide, by decide, by decide +kernel, by decide⟩, pm_c3 211 rfl rfl, pm_c3 212 rfl rfl, by decide, rfl⟩
set_option maxRecDepth 100000 in
theorem k_Table_locals : pm_kV m_Table_locals 8 1 := ⟨⟨pm_c1 11 rfl rfl, pm_c3 221 rfl rfl, by decide, by decide, by decide +kernel, by decide⟩, pm_c3 219 rfl rfl, pm_c3 220 rfl rfl, by decide, rfl⟩
set_option maxRecDepth 100000 in
theorem k_Table_addLocal : pm_kV m_Table_addLocal 8 1 := ⟨⟨pm_c1 11 rfl rfl, pm_c3 225 rfl rfl, by decide, by decide, by decide +kernel, by decide⟩, pm_c3 223 rfl rfl, pm_c3 224 rfl rfl, by decide, rfl⟩
set_option maxRecDepth 100000 in
theorem k_Table_localType : pm_kV m_Table_localType 8 2 := ⟨⟨pm_c1 11 rfl rfl, pm_c6 45 rfl rfl, by decide, by decide, by decide +kernel, by decide⟩, pm_c6 43 rfl rfl, pm_c6 44 rfl rfl, by decide, rfl⟩
set_option maxRecDepth 100000 in
theorem k_Table_setLocalType : pm_kV m_Table_setLocalType 8 3 := ⟨⟨pm_c1 11 rfl rfl, pm_c4 53 rfl rfl, by decide, by decide, by decide +kernel, by decide⟩, pm_c4 51 rfl rfl, pm_c4 52 rfl rfl, by decide, rfl⟩
set_option maxRecDepth 100000 in
theorem k_Table_localBound : pm_kV m_Table_localBound 8 2 := ⟨⟨pm_c1 11 rfl rfl, pm_c6 41 rfl rfl, by decide, by decide, by decide +kernel, by decide⟩, pm_c6 39 rfl rfl, pm_c6 40 rfl rfl, by decide, rfl⟩
set_option maxRecDepth 100000 in
theorem k_Table_setLocalBound : pm_kV m_Table_setLocalBound 8 3 := ⟨⟨pm_c1 11 rfl rfl, pm_c4 79 rfl rfl, by decide, by decide, by decide +kernel, by decide⟩, pm_c4 77 rfl rfl, pm_c4 78 rfl rfl, by decide, rfl⟩
set_option maxRecDepth 100000 in
theorem k_Table_tally : pm_kV m_Table_tally 8 2 := ⟨⟨pm_c1 11 rfl rfl, pm_c6 239 rfl rfl, by decide, by decide, by decide +kernel, by decide⟩, pm_c6 237 rfl rfl, pm_c6 238 rfl rfl, by decide, rfl⟩
set_option maxRecDepth 100000 in
theorem k_Table_count : pm_kV m_Table_count 8 3 := ⟨⟨pm_c1 11 rfl rfl, pm_c3 237 rfl rfl, by decide, by decide, by decide +kernel, by decide⟩, pm_c3 235 rfl rfl, pm_c3 236 rfl rfl, by decide, rfl⟩
set_option maxRecDepth 100000 in
theorem k_Table_hasLocal : pm_kV m_Table_hasLocal 8 2 := ⟨⟨pm_c1 11 rfl rfl, pm_c4 57 rfl rfl, by decide, by decide, by decide +kernel, by decide⟩, pm_c4 56 rfl rfl, pm_vs2 9 rfl rfl, by decide, rfl⟩
set_option maxRecDepth 100000 in
theorem k_Tokens_init : pm_kI m_Tokens_init 1 := ⟨⟨pm_c1 3 rfl rfl, pm_c1 59 rfl rfl, by decide, by decide, by decide +kernel, by decide⟩, pm_c1 58 rfl rfl, rfl⟩
set_option maxRecDepth 100000 in
theorem k_Tokens_kind : pm_kV m_Tokens_kind 9 1 := ⟨⟨pm_c1 3 rfl rfl, pm_c3 172 rfl rfl, by decide, by decide, by decide +kernel, by decide⟩, pm_c3 170 rfl rfl, pm_c3 171 rfl rfl, by decide, rfl⟩
set_option maxRecDepth 100000 in
theorem k_Tokens_placeOf : pm_kV m_Tokens_placeOf 9 1 := ⟨⟨pm_c1 3 rfl rfl, pm_c3 188 rfl rfl, by decide, by decide, by decide +kernel, by decide⟩, pm_c3 186 rfl rfl, pm_c3 187 rfl rfl, by decide, rfl⟩
set_option maxRecDepth 100000 in
theorem k_Tokens_value : pm_kV m_Tokens_value 9 1 := ⟨⟨pm_c1 3 rfl rfl, pm_c3 197 rfl rfl, by decide, by decide, by decide +kernel, by decide⟩, pm_c3 195 rfl rfl, pm_c3 196 rfl rfl, by decide, rfl⟩
set_option maxRecDepth 100000 in
theorem k_Tokens_size : pm_kV m_Tokens_size 9 0 := ⟨⟨pm_c1 3 rfl rfl, pm_c3 163 rfl rfl, by decide, by decide, by decide +kernel, by decide⟩, pm_c3 161 rfl rfl, pm_c3 162 rfl rfl, by decide, rfl⟩
set_option maxRecDepth 100000 in
theorem k_Tokens_scan : pm_kV m_Tokens_scan 9 2 := ⟨⟨pm_c1 3 rfl rfl, pm_c3 98 rfl rfl, by decide, by decide, by decide +kernel, by decide⟩, pm_c3 96 rfl rfl, pm_c3 97 rfl rfl, by decide, rfl⟩
set_option maxRecDepth 100000 in
theorem k_Tokens_scanToken : pm_kV m_Tokens_scanToken 9 2 := ⟨⟨pm_c1 3 rfl rfl, pm_c3 111 rfl rfl, by decide, by decide, by decide +kernel, by decide⟩, pm_c3 110 rfl rfl, pm_vs1 1 rfl rfl, by decide, rfl⟩
set_option maxRecDepth 100000 in
theorem k_Tokens_scanName : pm_kV m_Tokens_scanName 9 2 := ⟨⟨pm_c1 3 rfl rfl, pm_c3 122 rfl rfl, by decide, by decide, by decide +kernel, by decide⟩, pm_c3 121 rfl rfl, pm_vs1 3 rfl rfl, by decide, rfl⟩
set_option maxRecDepth 100000 in
theorem k_Tokens_kindOfName : pm_kV m_Tokens_kindOfName 9 1 := ⟨⟨pm_c1 3 rfl rfl, pm_c3 126 rfl rfl, by decide, by decide, by decide +kernel, by decide⟩, pm_c3 125 rfl rfl, pm_vs1 4 rfl rfl, by decide, rfl⟩
set_option maxRecDepth 100000 in
theorem k_Tokens_scanNumber : pm_kV m_Tokens_scanNumber 9 2 := ⟨⟨pm_c1 3 rfl rfl, pm_c3 134 rfl rfl, by decide, by decide, by decide +kernel, by decide⟩, pm_c3 133 rfl rfl, pm_vs1 6 rfl rfl, by decide, rfl⟩
set_option maxRecDepth 100000 in
theorem k_Tokens_scanBits : pm_kV m_Tokens_scanBits 9 2 := ⟨⟨pm_c1 3 rfl rfl, pm_c3 140 rfl rfl, by decide, by decide, by decide +kernel, by decide⟩, pm_c3 139 rfl rfl, pm_vs1 7 rfl rfl, by decide, rfl⟩
set_option maxRecDepth 100000 in
theorem k_Tokens_scanLetter : pm_kV m_Tokens_scanLetter 9 2 := ⟨⟨pm_c1 3 rfl rfl, pm_c3 147 rfl rfl, by decide, by decide, by decide +kernel, by decide⟩, pm_c3 146 rfl rfl, pm_vs1 8 rfl rfl, by decide, rfl⟩
set_option maxRecDepth 100000 in
theorem k_Tokens_scanSign : pm_kV m_Tokens_scanSign 9 2 := ⟨⟨pm_c1 3 rfl rfl, pm_c3 151 rfl rfl, by decide, by decide, by decide +kernel, by decide⟩, pm_c3 150 rfl rfl, pm_vs1 9 rfl rfl, by decide, rfl⟩
set_option maxRecDepth 100000 in
theorem k_Tokens_add : pm_kV m_Tokens_add 9 3 := ⟨⟨pm_c1 3 rfl rfl, pm_c3 130 rfl rfl, by decide, by decide, by decide +kernel, by decide⟩, pm_c3 129 rfl rfl, pm_vs1 5 rfl rfl, by decide, rfl⟩
set_option maxRecDepth 100000 in
theorem k_Tokens_octetAt : pm_kV m_Tokens_octetAt 9 2 := ⟨⟨pm_c1 3 rfl rfl, pm_c3 115 rfl rfl, by decide, by decide, by decide +kernel, by decide⟩, pm_c3 114 rfl rfl, pm_vs1 2 rfl rfl, by decide, rfl⟩
set_option maxRecDepth 100000 in
theorem k_Tokens_isLetter : pm_kS m_Tokens_isLetter 1 := ⟨⟨pm_c1 3 rfl rfl, pm_c3 118 rfl rfl, by decide, by decide, by decide +kernel, by decide⟩, pm_c3 117 rfl rfl⟩
set_option maxRecDepth 100000 in
theorem k_Tokens_isDigit : pm_kS m_Tokens_isDigit 1 := ⟨⟨pm_c1 3 rfl rfl, pm_c1 115 rfl rfl, by decide, by decide, by decide +kernel, by decide⟩, pm_c1 114 rfl rfl⟩
set_option maxRecDepth 100000 in
theorem k_Tokens_hexDigit : pm_kS m_Tokens_hexDigit 1 := ⟨⟨pm_c1 3 rfl rfl, pm_c3 143 rfl rfl, by decide, by decide, by decide +kernel, by decide⟩, pm_c3 142 rfl rfl⟩
set_option maxRecDepth 100000 in
theorem k_Tokens_withOctet : pm_kS m_Tokens_withOctet 2 := ⟨⟨pm_c1 3 rfl rfl, pm_c1 112 rfl rfl, by decide, by decide, by decide +kernel, by decide⟩, pm_c1 111 rfl rfl⟩
set_option maxRecDepth 100000 in
theorem k_Tree_init : pm_kI m_Tree_init 0 := ⟨⟨pm_c1 10 rfl rfl, pm_c1 178 rfl rfl, by decide, by decide, by decide +kernel, by decide⟩, pm_c1 177 rfl rfl, rfl⟩
set_option maxRecDepth 100000 in
theorem k_Tree_clear : pm_kV m_Tree_clear 10 0 := ⟨⟨pm_c1 10 rfl rfl, pm_c3 89 rfl rfl, by decide, by decide, by decide +kernel, by decide⟩, pm_c3 87 rfl rfl, pm_c3 88 rfl rfl, by decide, rfl⟩
set_option maxRecDepth 100000 in
theorem k_Tree_size : pm_kV m_Tree_size 10 0 := ⟨⟨pm_c1 10 rfl rfl, pm_c5 218 rfl rfl, by decide, by decide, by decide +kernel, by decide⟩, pm_c5 216 rfl rfl, pm_c5 217 rfl rfl, by decide, rfl⟩
set_option maxRecDepth 100000 in
theorem k_Tree_add : pm_kV m_Tree_add 10 5 := ⟨⟨pm_c1 10 rfl rfl, pm_c4 88 rfl rfl, by decide, by decide, by decide +kernel, by decide⟩, pm_c4 86 rfl rfl, pm_c4 87 rfl rfl, by decide, rfl⟩
set_option maxRecDepth 100000 in
theorem k_Tree_kind : pm_kV m_Tree_kind 10 1 := ⟨⟨pm_c1 10 rfl rfl, pm_c5 194 rfl rfl, by decide, by decide, by decide +kernel, by decide⟩, pm_c5 192 rfl rfl, pm_c5 193 rfl rfl, by decide, rfl⟩
set_option maxRecDepth 100000 in
theorem k_Tree_turnInto : pm_kV m_Tree_turnInto 10 2 := ⟨⟨pm_c1 10 rfl rfl, pm_c5 198 rfl rfl, by decide, by decide, by decide +kernel, by decide⟩, pm_c5 196 rfl rfl, pm_c5 197 rfl rfl, by decide, rfl⟩
set_option maxRecDepth 100000 in
theorem k_Tree_placeOf : pm_kV m_Tree_placeOf 10 1 := ⟨⟨pm_c1 10 rfl rfl, pm_c5 210 rfl rfl, by decide, by decide, by decide +kernel, by decide⟩, pm_c5 208 rfl rfl, pm_c5 209 rfl rfl, by decide, rfl⟩
set_option maxRecDepth 100000 in
theorem k_Tree_first : pm_kV m_Tree_first 10 1 := ⟨⟨pm_c1 10 rfl rfl, pm_c6 25 rfl rfl, by decide, by decide, by decide +kernel, by decide⟩, pm_c6 23 rfl rfl, pm_c6 24 rfl rfl, by decide, rfl⟩
set_option maxRecDepth 100000 in
theorem k_Tree_second : pm_kV m_Tree_second 10 1 := ⟨⟨pm_c1 10 rfl rfl, pm_c6 33 rfl rfl, by decide, by decide, by decide +kernel, by decide⟩, pm_c6 31 rfl rfl, pm_c6 32 rfl rfl, by decide, rfl⟩
set_option maxRecDepth 100000 in
theorem k_Tree_third : pm_kV m_Tree_third 10 1 := ⟨⟨pm_c1 10 rfl rfl, pm_c6 53 rfl rfl, by decide, by decide, by decide +kernel, by decide⟩, pm_c6 51 rfl rfl, pm_c6 52 rfl rfl, by decide, rfl⟩
set_option maxRecDepth 100000 in
theorem k_Tree_next : pm_kV m_Tree_next 10 1 := ⟨⟨pm_c1 10 rfl rfl, pm_c6 74 rfl rfl, by decide, by decide, by decide +kernel, by decide⟩, pm_c6 72 rfl rfl, pm_c6 73 rfl rfl, by decide, rfl⟩
set_option maxRecDepth 100000 in
theorem k_Tree_chain : pm_kV m_Tree_chain 10 2 := ⟨⟨pm_c1 10 rfl rfl, pm_c5 206 rfl rfl, by decide, by decide, by decide +kernel, by decide⟩, pm_c5 204 rfl rfl, pm_c5 205 rfl rfl, by decide, rfl⟩
set_option maxRecDepth 100000 in
theorem k_Tree_type : pm_kV m_Tree_type 10 1 := ⟨⟨pm_c1 10 rfl rfl, pm_c6 29 rfl rfl, by decide, by decide, by decide +kernel, by decide⟩, pm_c6 27 rfl rfl, pm_c6 28 rfl rfl, by decide, rfl⟩
set_option maxRecDepth 100000 in
theorem k_Tree_setType : pm_kV m_Tree_setType 10 2 := ⟨⟨pm_c1 10 rfl rfl, pm_c6 118 rfl rfl, by decide, by decide, by decide +kernel, by decide⟩, pm_c6 116 rfl rfl, pm_c6 117 rfl rfl, by decide, rfl⟩
set_option maxRecDepth 100000 in
theorem k_Tree_value : pm_kV m_Tree_value 10 1 := ⟨⟨pm_c1 10 rfl rfl, pm_c6 11 rfl rfl, by decide, by decide, by decide +kernel, by decide⟩, pm_c6 9 rfl rfl, pm_c6 10 rfl rfl, by decide, rfl⟩
set_option maxRecDepth 100000 in
theorem k_Tree_setValue : pm_kV m_Tree_setValue 10 2 := ⟨⟨pm_c1 10 rfl rfl, pm_c5 162 rfl rfl, by decide, by decide, by decide +kernel, by decide⟩, pm_c5 160 rfl rfl, pm_c5 161 rfl rfl, by decide, rfl⟩
set_option maxRecDepth 100000 in
theorem k_Tree_isShort : pm_kV m_Tree_isShort 10 1 := ⟨⟨pm_c1 10 rfl rfl, pm_c6 139 rfl rfl, by decide, by decide, by decide +kernel, by decide⟩, pm_c6 137 rfl rfl, pm_c6 138 rfl rfl, by decide, rfl⟩
set_option maxRecDepth 100000 in
theorem k_Tree_markShort : pm_kV m_Tree_markShort 10 1 := ⟨⟨pm_c1 10 rfl rfl, pm_c6 106 rfl rfl, by decide, by decide, by decide +kernel, by decide⟩, pm_c6 104 rfl rfl, pm_c6 105 rfl rfl, by decide, rfl⟩
set_option maxRecDepth 100000 in
theorem k_Tree_fit : pm_kV m_Tree_fit 10 2 := ⟨⟨pm_c1 10 rfl rfl, pm_c6 94 rfl rfl, by decide, by decide, by decide +kernel, by decide⟩, pm_c6 92 rfl rfl, pm_c6 93 rfl rfl, by decide, rfl⟩
set_option maxRecDepth 100000 in
theorem k_Tree_setFit : pm_kV m_Tree_setFit 10 3 := ⟨⟨pm_c1 10 rfl rfl, pm_c6 98 rfl rfl, by decide, by decide, by decide +kernel, by decide⟩, pm_c6 96 rfl rfl, pm_c6 97 rfl rfl, by decide, rfl⟩
set_option maxRecDepth 100000 in
theorem k_Types_init : pm_kI m_Types_init 0 := ⟨⟨pm_c1 8 rfl rfl, pm_c1 144 rfl rfl, by decide, by decide, by decide +kernel, by decide⟩, pm_c1 143 rfl rfl, rfl⟩
set_option maxRecDepth 100000 in
theorem k_Types_clear : pm_kV m_Types_clear 11 0 := ⟨⟨pm_c1 8 rfl rfl, pm_c3 84 rfl rfl, by decide, by decide, by decide +kernel, by decide⟩, pm_c3 82 rfl rfl, pm_c3 83 rfl rfl, by decide, rfl⟩
set_option maxRecDepth 100000 in
theorem k_Types_letter : pm_kV m_Types_letter 11 1 := ⟨⟨pm_c1 8 rfl rfl, pm_c4 21 rfl rfl, by decide, by decide, by decide +kernel, by decide⟩, pm_c4 19 rfl rfl, pm_c4 20 rfl rfl, by decide, rfl⟩
set_option maxRecDepth 100000 in
theorem k_Types_letterNumber : pm_kV m_Types_letterNumber 11 1 := ⟨⟨pm_c1 8 rfl rfl, pm_c6 90 rfl rfl, by decide, by decide, by decide +kernel, by decide⟩, pm_c6 88 rfl rfl, pm_c6 89 rfl rfl, by decide, rfl⟩
set_option maxRecDepth 100000 in
theorem k_Types_kind : pm_kV m_Types_kind 11 1 := ⟨⟨pm_c1 8 rfl rfl, pm_c6 58 rfl rfl, by decide, by decide, by decide +kernel, by decide⟩, pm_c6 56 rfl rfl, pm_c6 57 rfl rfl, by decide, rfl⟩
set_option maxRecDepth 100000 in
theorem k_Types_left : pm_kV m_Types_left 11 1 := ⟨⟨pm_c1 8 rfl rfl, pm_c6 62 rfl rfl, by decide, by decide, by decide +kernel, by decide⟩, pm_c6 60 rfl rfl, pm_c6 61 rfl rfl, by decide, rfl⟩
set_option maxRecDepth 100000 in
theorem k_Types_right : pm_kV m_Types_right 11 1 := ⟨⟨pm_c1 8 rfl rfl, pm_c6 66 rfl rfl, by decide, by decide, by decide +kernel, by decide⟩, pm_c6 64 rfl rfl, pm_c6 65 rfl rfl, by decide, rfl⟩
set_option maxRecDepth 100000 in
theorem k_Types_leaves : pm_kV m_Types_leaves 11 1 := ⟨⟨pm_c1 8 rfl rfl, pm_c6 114 rfl rfl, by decide, by decide, by decide +kernel, by decide⟩, pm_c6 112 rfl rfl, pm_c6 113 rfl rfl, by decide, rfl⟩
set_option maxRecDepth 100000 in
theorem k_Types_letters : pm_kV m_Types_letters 11 1 := ⟨⟨pm_c1 8 rfl rfl, pm_c6 86 rfl rfl, by decide, by decide, by decide +kernel, by decide⟩, pm_c6 84 rfl rfl, pm_c6 85 rfl rfl, by decide, rfl⟩
set_option maxRecDepth 100000 in
theorem k_Types_make : pm_kV m_Types_make 11 3 := ⟨⟨pm_c1 8 rfl rfl, pm_c4 33 rfl rfl, by decide, by decide, by decide +kernel, by decide⟩, pm_c4 31 rfl rfl, pm_c4 32 rfl rfl, by decide, rfl⟩
set_option maxRecDepth 100000 in
theorem k_Integer_bitCount : pm_kS m_Integer_bitCount 1 := ⟨⟨pm_c1 25 rfl rfl, pm_c4 60 rfl rfl, by decide, by decide, by decide +kernel, by decide⟩, pm_c4 59 rfl rfl⟩
set_option maxRecDepth 100000 in
theorem k_Integer_numberOfLeadingZeros : pm_kS m_Integer_numberOfLeadingZeros 1 := ⟨⟨pm_c1 25 rfl rfl, pm_c6 170 rfl rfl, by decide, by decide, by decide +kernel, by decide⟩, pm_c6 169 rfl rfl⟩
set_option maxRecDepth 100000 in
theorem k_Math_max : pm_kS m_Math_max 2 := ⟨⟨pm_c1 9 rfl rfl, pm_c3 155 rfl rfl, by decide, by decide, by decide +kernel, by decide⟩, pm_c3 154 rfl rfl⟩
set_option maxRecDepth 100000 in
theorem k_Math_min : pm_kS m_Math_min 2 := ⟨⟨pm_c1 9 rfl rfl, pm_c1 148 rfl rfl, by decide, by decide, by decide +kernel, by decide⟩, pm_c1 147 rfl rfl⟩
set_option maxRecDepth 100000 in
theorem k_Arrays_copyOf_0 : pm_kS m_Arrays_copyOf_0 2 := ⟨⟨pm_c1 23 rfl rfl, pm_c4 198 rfl rfl, by decide, by decide, by decide +kernel, by decide⟩, pm_c4 197 rfl rfl⟩
set_option maxRecDepth 100000 in
theorem k_Arrays_copyOf_1 : pm_kS m_Arrays_copyOf_1 2 := ⟨⟨pm_c1 23 rfl rfl, pm_c4 37 rfl rfl, by decide, by decide, by decide +kernel, by decide⟩, pm_c4 36 rfl rfl⟩
set_option maxRecDepth 100000 in
theorem k_Arrays_fill_0 : pm_kS m_Arrays_fill_0 2 := ⟨⟨pm_c1 23 rfl rfl, pm_c3 68 rfl rfl, by decide, by decide, by decide +kernel, by decide⟩, pm_c3 67 rfl rfl⟩
set_option maxRecDepth 100000 in
theorem k_Arrays_fill_1 : pm_kS m_Arrays_fill_1 4 := ⟨⟨pm_c1 23 rfl rfl, pm_c4 91 rfl rfl, by decide, by decide, by decide +kernel, by decide⟩, pm_c4 90 rfl rfl⟩
set_option maxRecDepth 100000 in
theorem k_Arrays_rangeCheck : pm_kS m_Arrays_rangeCheck 3 := ⟨⟨pm_c1 23 rfl rfl, pm_c4 94 rfl rfl, by decide, by decide, by decide +kernel, by decide⟩, pm_c4 93 rfl rfl⟩
set_option maxRecDepth 100000 in
theorem l_BC_1 : Cond.methodLink "BoxedCore" 1 ⟨"java/lang/Object", "<init>", "()V"⟩ ∈ pm_tbl := pm_c1 37 rfl rfl
set_option maxRecDepth 100000 in
theorem l_BC_29 : Cond.methodLink "BoxedCore" 29 ⟨"BoxedCore$Tokens", "<init>", "(LBoxedCore$Fault;)V"⟩ ∈ pm_tbl := pm_c1 57 rfl rfl
set_option maxRecDepth 100000 in
theorem l_BC_38 : Cond.methodLink "BoxedCore" 38 ⟨"BoxedCore$Types", "<init>", "()V"⟩ ∈ pm_tbl := pm_c1 142 rfl rfl
set_option maxRecDepth 100000 in
theorem l_BC_45 : Cond.methodLink "BoxedCore" 45 ⟨"BoxedCore$Tree", "<init>", "()V"⟩ ∈ pm_tbl := pm_c1 176 rfl rfl
set_option maxRecDepth 100000 in
theorem l_BC_52 : Cond.methodLink "BoxedCore" 52 ⟨"BoxedCore$Table", "<init>", "()V"⟩ ∈ pm_tbl := pm_c1 217 rfl rfl
set_option maxRecDepth 100000 in
theorem l_BC_59 : Cond.methodLink "BoxedCore" 59 ⟨"BoxedCore$Parser", "<init>", "(LBoxedCore$Tokens;LBoxedCore$Types;LBoxedCore$Tree;LBoxedCore$Table;LBoxedCore$Fault;LBoxedCore$Fault;)V"⟩ ∈ pm_tbl := pm_c2 14 rfl rfl
set_option maxRecDepth 100000 in
theorem l_BC_68 : Cond.methodLink "BoxedCore" 68 ⟨"BoxedCore$Checker", "<init>", "(LBoxedCore$Types;LBoxedCore$Tree;LBoxedCore$Table;LBoxedCore$Fault;)V"⟩ ∈ pm_tbl := pm_c2 66 rfl rfl
set_option maxRecDepth 100000 in
theorem l_BC_77 : Cond.methodLink "BoxedCore" 77 ⟨"BoxedCore$Machine", "<init>", "(LBoxedCore$Types;LBoxedCore$Tree;LBoxedCore$Table;)V"⟩ ∈ pm_tbl := pm_c2 88 rfl rfl
set_option maxRecDepth 100000 in
theorem l_BC_92 : Cond.methodLink "BoxedCore" 92 ⟨"java/lang/IllegalArgumentException", "<init>", "(Ljava/lang/String;)V"⟩ ∈ pm_tbl := pm_c6 213 rfl rfl
set_option maxRecDepth 100000 in
theorem l_BC_95 : Cond.methodLink "BoxedCore" 95 ⟨"BoxedCore", "forget", "()V"⟩ ∈ pm_tbl := pm_c3 54 rfl rfl
set_option maxRecDepth 100000 in
theorem l_BC_102 : Cond.methodLink "BoxedCore" 102 ⟨"BoxedCore$Fault", "clear", "()V"⟩ ∈ pm_tbl := pm_c3 77 rfl rfl
set_option maxRecDepth 100000 in
theorem l_BC_105 : Cond.methodLink "BoxedCore" 105 ⟨"BoxedCore$Types", "clear", "()V"⟩ ∈ pm_tbl := pm_c3 81 rfl rfl
set_option maxRecDepth 100000 in
theorem l_BC_106 : Cond.methodLink "BoxedCore" 106 ⟨"BoxedCore$Tree", "clear", "()V"⟩ ∈ pm_tbl := pm_c3 86 rfl rfl
set_option maxRecDepth 100000 in
theorem l_BC_107 : Cond.methodLink "BoxedCore" 107 ⟨"BoxedCore$Table", "clear", "()V"⟩ ∈ pm_tbl := pm_c3 90 rfl rfl
set_option maxRecDepth 100000 in
theorem l_BC_108 : Cond.methodLink "BoxedCore" 108 ⟨"BoxedCore$Tokens", "scan", "([II)V"⟩ ∈ pm_tbl := pm_c3 95 rfl rfl
set_option maxRecDepth 100000 in
theorem l_BC_112 : Cond.methodLink "BoxedCore" 112 ⟨"BoxedCore$Parser", "readProgram", "()V"⟩ ∈ pm_tbl := pm_c3 156 rfl rfl
set_option maxRecDepth 100000 in
theorem l_BC_115 : Cond.methodLink "BoxedCore" 115 ⟨"BoxedCore$Fault", "isTold", "()Z"⟩ ∈ pm_tbl := pm_c5 223 rfl rfl
set_option maxRecDepth 100000 in
theorem l_BC_119 : Cond.methodLink "BoxedCore" 119 ⟨"BoxedCore$Fault", "where", "()I"⟩ ∈ pm_tbl := pm_c5 224 rfl rfl
set_option maxRecDepth 100000 in
theorem l_BC_123 : Cond.methodLink "BoxedCore" 123 ⟨"BoxedCore$Fault", "tell", "(II)V"⟩ ∈ pm_tbl := pm_c5 228 rfl rfl
set_option maxRecDepth 100000 in
theorem l_BC_127 : Cond.methodLink "BoxedCore" 127 ⟨"BoxedCore$Checker", "checkAll", "()V"⟩ ∈ pm_tbl := pm_c5 229 rfl rfl
set_option maxRecDepth 100000 in
theorem l_BC_130 : Cond.methodLink "BoxedCore" 130 ⟨"BoxedCore$Fault", "what", "()I"⟩ ∈ pm_tbl := pm_c6 140 rfl rfl
set_option maxRecDepth 100000 in
theorem l_BC_133 : Cond.methodLink "BoxedCore" 133 ⟨"BoxedCore$Table", "size", "()I"⟩ ∈ pm_tbl := pm_c6 144 rfl rfl
set_option maxRecDepth 100000 in
theorem l_BC_135 : Cond.methodLink "BoxedCore" 135 ⟨"BoxedCore", "defs", "()I"⟩ ∈ pm_tbl := pm_c6 222 rfl rfl
set_option maxRecDepth 100000 in
theorem l_BC_142 : Cond.methodLink "BoxedCore" 142 ⟨"java/lang/IndexOutOfBoundsException", "<init>", "(Ljava/lang/String;)V"⟩ ∈ pm_tbl := pm_c6 233 rfl rfl
set_option maxRecDepth 100000 in
theorem l_BC_143 : Cond.methodLink "BoxedCore" 143 ⟨"BoxedCore$Table", "tally", "(II)I"⟩ ∈ pm_tbl := pm_c6 236 rfl rfl
set_option maxRecDepth 100000 in
theorem l_BC_154 : Cond.methodLink "BoxedCore" 154 ⟨"java/lang/IllegalStateException", "<init>", "(Ljava/lang/String;)V"⟩ ∈ pm_tbl := pm_c7 18 rfl rfl
set_option maxRecDepth 100000 in
theorem l_BC_157 : Cond.methodLink "BoxedCore" 157 ⟨"BoxedCore", "takesArguments", "(I)Z"⟩ ∈ pm_tbl := pm_c7 32 rfl rfl
set_option maxRecDepth 100000 in
theorem l_BC_163 : Cond.methodLink "BoxedCore" 163 ⟨"BoxedCore$Machine", "start", "(I[JZI)I"⟩ ∈ pm_tbl := pm_c7 40 rfl rfl
set_option maxRecDepth 100000 in
theorem l_BC_169 : Cond.methodLink "BoxedCore" 169 ⟨"BoxedCore$Machine", "countOf", "(I)I"⟩ ∈ pm_tbl := pm_c8 32 rfl rfl
set_option maxRecDepth 100000 in
theorem l_BC_173 : Cond.methodLink "BoxedCore" 173 ⟨"BoxedCore$Machine", "sortAt", "(I)I"⟩ ∈ pm_tbl := pm_c6 157 rfl rfl
set_option maxRecDepth 100000 in
theorem l_BC_176 : Cond.methodLink "BoxedCore" 176 ⟨"BoxedCore$Machine", "wordAt", "(I)J"⟩ ∈ pm_tbl := pm_c6 198 rfl rfl
set_option maxRecDepth 100000 in
theorem l_BC_180 : Cond.methodLink "BoxedCore" 180 ⟨"BoxedCore$Machine", "forget", "()V"⟩ ∈ pm_tbl := pm_c3 58 rfl rfl
set_option maxRecDepth 100000 in
theorem l_BC_181 : Cond.methodLink "BoxedCore" 181 ⟨"BoxedCore$Table", "parameters", "(I)I"⟩ ∈ pm_tbl := pm_c7 36 rfl rfl
set_option maxRecDepth 100000 in
theorem l_BC_184 : Cond.methodLink "BoxedCore" 184 ⟨"BoxedCore$Table", "localType", "(II)I"⟩ ∈ pm_tbl := pm_c7 37 rfl rfl
set_option maxRecDepth 100000 in
theorem l_BC_187 : Cond.methodLink "BoxedCore" 187 ⟨"BoxedCore$Types", "kind", "(I)I"⟩ ∈ pm_tbl := pm_c7 38 rfl rfl
set_option maxRecDepth 100000 in
theorem l_Adapter_3 : Cond.methodLink "BoxedCore$Adapter" 3 ⟨"java/lang/Object", "<init>", "()V"⟩ ∈ pm_tbl := pm_c2 135 rfl rfl
set_option maxRecDepth 100000 in
theorem l_Adapter_44 : Cond.methodLink "BoxedCore$Adapter" 44 ⟨"BoxedCore$Adapter", "addTask", "(IIJ)V"⟩ ∈ pm_tbl := pm_c7 99 rfl rfl
set_option maxRecDepth 100000 in
theorem l_Adapter_49 : Cond.methodLink "BoxedCore$Adapter" 49 ⟨"BoxedCore$Heap", "isOver", "()Z"⟩ ∈ pm_tbl := pm_c7 104 rfl rfl
set_option maxRecDepth 100000 in
theorem l_Adapter_55 : Cond.methodLink "BoxedCore$Adapter" 55 ⟨"BoxedCore$Adapter", "doTask", "(IIJZ)V"⟩ ∈ pm_tbl := pm_c7 108 rfl rfl
set_option maxRecDepth 100000 in
theorem l_Adapter_59 : Cond.methodLink "BoxedCore$Adapter" 59 ⟨"BoxedCore$Adapter", "popResult", "()J"⟩ ∈ pm_tbl := pm_c7 112 rfl rfl
set_option maxRecDepth 100000 in
theorem l_Adapter_63 : Cond.methodLink "BoxedCore$Adapter" 63 ⟨"BoxedCore$Heap", "make", "(IJJI)J"⟩ ∈ pm_tbl := pm_c7 116 rfl rfl
set_option maxRecDepth 100000 in
theorem l_Adapter_67 : Cond.methodLink "BoxedCore$Adapter" 67 ⟨"BoxedCore$Adapter", "addResult", "(J)V"⟩ ∈ pm_tbl := pm_c7 121 rfl rfl
set_option maxRecDepth 100000 in
theorem l_Adapter_71 : Cond.methodLink "BoxedCore$Adapter" 71 ⟨"BoxedCore$Types", "letters", "(I)I"⟩ ∈ pm_tbl := pm_c7 125 rfl rfl
set_option maxRecDepth 100000 in
theorem l_Adapter_77 : Cond.methodLink "BoxedCore$Adapter" 77 ⟨"BoxedCore$Types", "kind", "(I)I"⟩ ∈ pm_tbl := pm_c7 126 rfl rfl
set_option maxRecDepth 100000 in
theorem l_Adapter_80 : Cond.methodLink "BoxedCore$Adapter" 80 ⟨"BoxedCore$Heap", "openBox", "(J)J"⟩ ∈ pm_tbl := pm_c7 127 rfl rfl
set_option maxRecDepth 100000 in
theorem l_Adapter_84 : Cond.methodLink "BoxedCore$Adapter" 84 ⟨"BoxedCore$Types", "right", "(I)I"⟩ ∈ pm_tbl := pm_c7 131 rfl rfl
set_option maxRecDepth 100000 in
theorem l_Adapter_87 : Cond.methodLink "BoxedCore$Adapter" 87 ⟨"BoxedCore$Heap", "second", "(J)J"⟩ ∈ pm_tbl := pm_c7 132 rfl rfl
set_option maxRecDepth 100000 in
theorem l_Adapter_90 : Cond.methodLink "BoxedCore$Adapter" 90 ⟨"BoxedCore$Types", "left", "(I)I"⟩ ∈ pm_tbl := pm_c7 133 rfl rfl
set_option maxRecDepth 100000 in
theorem l_Adapter_93 : Cond.methodLink "BoxedCore$Adapter" 93 ⟨"BoxedCore$Heap", "first", "(J)J"⟩ ∈ pm_tbl := pm_c7 134 rfl rfl
set_option maxRecDepth 100000 in
theorem l_Adapter_96 : Cond.methodLink "BoxedCore$Adapter" 96 ⟨"BoxedCore$Types", "letterNumber", "(I)I"⟩ ∈ pm_tbl := pm_c7 135 rfl rfl
set_option maxRecDepth 100000 in
theorem l_Adapter_99 : Cond.methodLink "BoxedCore$Adapter" 99 ⟨"BoxedCore$Tree", "fit", "(II)I"⟩ ∈ pm_tbl := pm_c7 136 rfl rfl
set_option maxRecDepth 100000 in
theorem l_Checker_3 : Cond.methodLink "BoxedCore$Checker" 3 ⟨"java/lang/Object", "<init>", "()V"⟩ ∈ pm_tbl := pm_c2 69 rfl rfl
set_option maxRecDepth 100000 in
theorem l_Checker_27 : Cond.methodLink "BoxedCore$Checker" 27 ⟨"BoxedCore$Table", "size", "()I"⟩ ∈ pm_tbl := pm_c5 233 rfl rfl
set_option maxRecDepth 100000 in
theorem l_Checker_33 : Cond.methodLink "BoxedCore$Checker" 33 ⟨"BoxedCore$Fault", "isTold", "()Z"⟩ ∈ pm_tbl := pm_c5 234 rfl rfl
set_option maxRecDepth 100000 in
theorem l_Checker_43 : Cond.methodLink "BoxedCore$Checker" 43 ⟨"BoxedCore$Table", "end", "(I)I"⟩ ∈ pm_tbl := pm_c5 235 rfl rfl
set_option maxRecDepth 100000 in
theorem l_Checker_47 : Cond.methodLink "BoxedCore$Checker" 47 ⟨"BoxedCore$Checker", "checkNode", "(I)V"⟩ ∈ pm_tbl := pm_c5 239 rfl rfl
set_option maxRecDepth 100000 in
theorem l_Checker_51 : Cond.methodLink "BoxedCore$Checker" 51 ⟨"BoxedCore$Table", "root", "(I)I"⟩ ∈ pm_tbl := pm_c6 119 rfl rfl
set_option maxRecDepth 100000 in
theorem l_Checker_54 : Cond.methodLink "BoxedCore$Checker" 54 ⟨"BoxedCore$Tree", "type", "(I)I"⟩ ∈ pm_tbl := pm_c6 26 rfl rfl
set_option maxRecDepth 100000 in
theorem l_Checker_59 : Cond.methodLink "BoxedCore$Checker" 59 ⟨"BoxedCore$Table", "type", "(I)I"⟩ ∈ pm_tbl := pm_c6 46 rfl rfl
set_option maxRecDepth 100000 in
theorem l_Checker_60 : Cond.methodLink "BoxedCore$Checker" 60 ⟨"BoxedCore$Table", "placeOf", "(I)I"⟩ ∈ pm_tbl := pm_c6 123 rfl rfl
set_option maxRecDepth 100000 in
theorem l_Checker_63 : Cond.methodLink "BoxedCore$Checker" 63 ⟨"BoxedCore$Fault", "tell", "(II)V"⟩ ∈ pm_tbl := pm_c6 14 rfl rfl
set_option maxRecDepth 100000 in
theorem l_Checker_67 : Cond.methodLink "BoxedCore$Checker" 67 ⟨"BoxedCore$Checker", "countAll", "()V"⟩ ∈ pm_tbl := pm_c6 127 rfl rfl
set_option maxRecDepth 100000 in
theorem l_Checker_70 : Cond.methodLink "BoxedCore$Checker" 70 ⟨"BoxedCore$Tree", "kind", "(I)I"⟩ ∈ pm_tbl := pm_c6 3 rfl rfl
set_option maxRecDepth 100000 in
theorem l_Checker_73 : Cond.methodLink "BoxedCore$Checker" 73 ⟨"BoxedCore$Checker", "resolve", "(I)V"⟩ ∈ pm_tbl := pm_c6 4 rfl rfl
set_option maxRecDepth 100000 in
theorem l_Checker_76 : Cond.methodLink "BoxedCore$Checker" 76 ⟨"BoxedCore$Checker", "typeOf", "(I)I"⟩ ∈ pm_tbl := pm_c6 18 rfl rfl
set_option maxRecDepth 100000 in
theorem l_Checker_79 : Cond.methodLink "BoxedCore$Checker" 79 ⟨"BoxedCore$Types", "leaves", "(I)I"⟩ ∈ pm_tbl := pm_c6 111 rfl rfl
set_option maxRecDepth 100000 in
theorem l_Checker_84 : Cond.methodLink "BoxedCore$Checker" 84 ⟨"BoxedCore$Tree", "placeOf", "(I)I"⟩ ∈ pm_tbl := pm_c6 13 rfl rfl
set_option maxRecDepth 100000 in
theorem l_Checker_85 : Cond.methodLink "BoxedCore$Checker" 85 ⟨"BoxedCore$Tree", "setType", "(II)V"⟩ ∈ pm_tbl := pm_c6 115 rfl rfl
set_option maxRecDepth 100000 in
theorem l_Checker_88 : Cond.methodLink "BoxedCore$Checker" 88 ⟨"BoxedCore$Tree", "value", "(I)J"⟩ ∈ pm_tbl := pm_c6 8 rfl rfl
set_option maxRecDepth 100000 in
theorem l_Checker_92 : Cond.methodLink "BoxedCore$Checker" 92 ⟨"BoxedCore$Table", "find", "(J)I"⟩ ∈ pm_tbl := pm_c6 12 rfl rfl
set_option maxRecDepth 100000 in
theorem l_Checker_96 : Cond.methodLink "BoxedCore$Checker" 96 ⟨"BoxedCore$Table", "parameters", "(I)I"⟩ ∈ pm_tbl := pm_c6 15 rfl rfl
set_option maxRecDepth 100000 in
theorem l_Checker_99 : Cond.methodLink "BoxedCore$Checker" 99 ⟨"BoxedCore$Tree", "turnInto", "(II)V"⟩ ∈ pm_tbl := pm_c6 16 rfl rfl
set_option maxRecDepth 100000 in
theorem l_Checker_102 : Cond.methodLink "BoxedCore$Checker" 102 ⟨"BoxedCore$Tree", "setValue", "(IJ)V"⟩ ∈ pm_tbl := pm_c6 17 rfl rfl
set_option maxRecDepth 100000 in
theorem l_Checker_106 : Cond.methodLink "BoxedCore$Checker" 106 ⟨"BoxedCore$Tree", "first", "(I)I"⟩ ∈ pm_tbl := pm_c6 22 rfl rfl
set_option maxRecDepth 100000 in
theorem l_Checker_109 : Cond.methodLink "BoxedCore$Checker" 109 ⟨"BoxedCore$Tree", "second", "(I)I"⟩ ∈ pm_tbl := pm_c6 30 rfl rfl
set_option maxRecDepth 100000 in
theorem l_Checker_112 : Cond.methodLink "BoxedCore$Checker" 112 ⟨"BoxedCore$Checker", "typeOfLocal", "(I)I"⟩ ∈ pm_tbl := pm_c6 34 rfl rfl
set_option maxRecDepth 100000 in
theorem l_Checker_115 : Cond.methodLink "BoxedCore$Checker" 115 ⟨"BoxedCore$Tree", "third", "(I)I"⟩ ∈ pm_tbl := pm_c6 50 rfl rfl
set_option maxRecDepth 100000 in
theorem l_Checker_118 : Cond.methodLink "BoxedCore$Checker" 118 ⟨"BoxedCore$Types", "make", "(III)I"⟩ ∈ pm_tbl := pm_c6 54 rfl rfl
set_option maxRecDepth 100000 in
theorem l_Checker_122 : Cond.methodLink "BoxedCore$Checker" 122 ⟨"BoxedCore$Types", "kind", "(I)I"⟩ ∈ pm_tbl := pm_c6 55 rfl rfl
set_option maxRecDepth 100000 in
theorem l_Checker_123 : Cond.methodLink "BoxedCore$Checker" 123 ⟨"BoxedCore$Types", "left", "(I)I"⟩ ∈ pm_tbl := pm_c6 59 rfl rfl
set_option maxRecDepth 100000 in
theorem l_Checker_126 : Cond.methodLink "BoxedCore$Checker" 126 ⟨"BoxedCore$Types", "right", "(I)I"⟩ ∈ pm_tbl := pm_c6 63 rfl rfl
set_option maxRecDepth 100000 in
theorem l_Checker_129 : Cond.methodLink "BoxedCore$Checker" 129 ⟨"BoxedCore$Checker", "typeOfCall", "(I)I"⟩ ∈ pm_tbl := pm_c6 67 rfl rfl
set_option maxRecDepth 100000 in
theorem l_Checker_132 : Cond.methodLink "BoxedCore$Checker" 132 ⟨"BoxedCore$Table", "localBound", "(II)I"⟩ ∈ pm_tbl := pm_c6 38 rfl rfl
set_option maxRecDepth 100000 in
theorem l_Checker_136 : Cond.methodLink "BoxedCore$Checker" 136 ⟨"BoxedCore$Table", "localType", "(II)I"⟩ ∈ pm_tbl := pm_c6 42 rfl rfl
set_option maxRecDepth 100000 in
theorem l_Checker_139 : Cond.methodLink "BoxedCore$Checker" 139 ⟨"BoxedCore$Tree", "next", "(I)I"⟩ ∈ pm_tbl := pm_c6 71 rfl rfl
set_option maxRecDepth 100000 in
theorem l_Checker_142 : Cond.methodLink "BoxedCore$Checker" 142 ⟨"BoxedCore$Checker", "fitAtoms", "(II)Z"⟩ ∈ pm_tbl := pm_c6 75 rfl rfl
set_option maxRecDepth 100000 in
theorem l_Checker_146 : Cond.methodLink "BoxedCore$Checker" 146 ⟨"BoxedCore$Checker", "substitute", "(III)I"⟩ ∈ pm_tbl := pm_c6 107 rfl rfl
set_option maxRecDepth 100000 in
theorem l_Checker_149 : Cond.methodLink "BoxedCore$Checker" 149 ⟨"BoxedCore$Checker", "fit", "(IIII)Z"⟩ ∈ pm_tbl := pm_c6 79 rfl rfl
set_option maxRecDepth 100000 in
theorem l_Checker_153 : Cond.methodLink "BoxedCore$Checker" 153 ⟨"BoxedCore$Checker", "answersLetter", "(I)Z"⟩ ∈ pm_tbl := pm_c6 99 rfl rfl
set_option maxRecDepth 100000 in
theorem l_Checker_157 : Cond.methodLink "BoxedCore$Checker" 157 ⟨"BoxedCore$Tree", "markShort", "(I)V"⟩ ∈ pm_tbl := pm_c6 103 rfl rfl
set_option maxRecDepth 100000 in
theorem l_Checker_160 : Cond.methodLink "BoxedCore$Checker" 160 ⟨"BoxedCore$Types", "letters", "(I)I"⟩ ∈ pm_tbl := pm_c6 83 rfl rfl
set_option maxRecDepth 100000 in
theorem l_Checker_163 : Cond.methodLink "BoxedCore$Checker" 163 ⟨"BoxedCore$Types", "letterNumber", "(I)I"⟩ ∈ pm_tbl := pm_c6 87 rfl rfl
set_option maxRecDepth 100000 in
theorem l_Checker_166 : Cond.methodLink "BoxedCore$Checker" 166 ⟨"BoxedCore$Tree", "fit", "(II)I"⟩ ∈ pm_tbl := pm_c6 91 rfl rfl
set_option maxRecDepth 100000 in
theorem l_Checker_168 : Cond.methodLink "BoxedCore$Checker" 168 ⟨"BoxedCore$Tree", "setFit", "(III)V"⟩ ∈ pm_tbl := pm_c6 95 rfl rfl
set_option maxRecDepth 100000 in
theorem l_Checker_172 : Cond.methodLink "BoxedCore$Checker" 172 ⟨"BoxedCore$Table", "count", "(III)V"⟩ ∈ pm_tbl := pm_c6 131 rfl rfl
set_option maxRecDepth 100000 in
theorem l_Checker_175 : Cond.methodLink "BoxedCore$Checker" 175 ⟨"BoxedCore$Checker", "countCall", "(II)V"⟩ ∈ pm_tbl := pm_c6 132 rfl rfl
set_option maxRecDepth 100000 in
theorem l_Checker_178 : Cond.methodLink "BoxedCore$Checker" 178 ⟨"BoxedCore$Tree", "isShort", "(I)Z"⟩ ∈ pm_tbl := pm_c6 136 rfl rfl
set_option maxRecDepth 100000 in
theorem l_Fault_3 : Cond.methodLink "BoxedCore$Fault" 3 ⟨"java/lang/Object", "<init>", "()V"⟩ ∈ pm_tbl := pm_c1 45 rfl rfl
set_option maxRecDepth 100000 in
theorem l_Frames_5 : Cond.methodLink "BoxedCore$Frames" 5 ⟨"java/lang/Object", "<init>", "()V"⟩ ∈ pm_tbl := pm_c2 169 rfl rfl
set_option maxRecDepth 100000 in
theorem l_Frames_40 : Cond.methodLink "BoxedCore$Frames" 40 ⟨"java/lang/Math", "max", "(II)I"⟩ ∈ pm_tbl := pm_c7 78 rfl rfl
set_option maxRecDepth 100000 in
theorem l_Frames_46 : Cond.methodLink "BoxedCore$Frames" 46 ⟨"BoxedCore$Frames", "heldCount", "()I"⟩ ∈ pm_tbl := pm_c7 232 rfl rfl
set_option maxRecDepth 100000 in
theorem l_Heap_3 : Cond.methodLink "BoxedCore$Heap" 3 ⟨"java/lang/Object", "<init>", "()V"⟩ ∈ pm_tbl := pm_c2 97 rfl rfl
set_option maxRecDepth 100000 in
theorem l_Heap_46 : Cond.methodLink "BoxedCore$Heap" 46 ⟨"java/util/Arrays", "fill", "([II)V"⟩ ∈ pm_tbl := pm_c3 66 rfl rfl
set_option maxRecDepth 100000 in
theorem l_Heap_54 : Cond.methodLink "BoxedCore$Heap" 54 ⟨"BoxedCore$Heap", "hasLocal", "(II)Z"⟩ ∈ pm_tbl := pm_c7 56 rfl rfl
set_option maxRecDepth 100000 in
theorem l_Machine_3 : Cond.methodLink "BoxedCore$Machine" 3 ⟨"java/lang/Object", "<init>", "()V"⟩ ∈ pm_tbl := pm_c2 91 rfl rfl
set_option maxRecDepth 100000 in
theorem l_Machine_25 : Cond.methodLink "BoxedCore$Machine" 25 ⟨"BoxedCore$Heap", "<init>", "()V"⟩ ∈ pm_tbl := pm_c2 94 rfl rfl
set_option maxRecDepth 100000 in
theorem l_Machine_32 : Cond.methodLink "BoxedCore$Machine" 32 ⟨"BoxedCore$Adapter", "<init>", "(LBoxedCore$Types;LBoxedCore$Tree;LBoxedCore$Heap;)V"⟩ ∈ pm_tbl := pm_c2 132 rfl rfl
set_option maxRecDepth 100000 in
theorem l_Machine_41 : Cond.methodLink "BoxedCore$Machine" 41 ⟨"BoxedCore$Frames", "<init>", "()V"⟩ ∈ pm_tbl := pm_c2 166 rfl rfl
set_option maxRecDepth 100000 in
theorem l_Machine_46 : Cond.methodLink "BoxedCore$Machine" 46 ⟨"BoxedCore$Heap", "clear", "()V"⟩ ∈ pm_tbl := pm_c3 62 rfl rfl
set_option maxRecDepth 100000 in
theorem l_Machine_49 : Cond.methodLink "BoxedCore$Machine" 49 ⟨"BoxedCore$Frames", "clear", "()V"⟩ ∈ pm_tbl := pm_c3 69 rfl rfl
set_option maxRecDepth 100000 in
theorem l_Machine_64 : Cond.methodLink "BoxedCore$Machine" 64 ⟨"BoxedCore$Machine", "forget", "()V"⟩ ∈ pm_tbl := pm_c7 44 rfl rfl
set_option maxRecDepth 100000 in
theorem l_Machine_74 : Cond.methodLink "BoxedCore$Machine" 74 ⟨"BoxedCore$Table", "type", "(I)I"⟩ ∈ pm_tbl := pm_c7 45 rfl rfl
set_option maxRecDepth 100000 in
theorem l_Machine_83 : Cond.methodLink "BoxedCore$Machine" 83 ⟨"BoxedCore$Table", "locals", "(I)I"⟩ ∈ pm_tbl := pm_c7 46 rfl rfl
set_option maxRecDepth 100000 in
theorem l_Machine_86 : Cond.methodLink "BoxedCore$Machine" 86 ⟨"BoxedCore$Heap", "claim", "(I)I"⟩ ∈ pm_tbl := pm_c7 47 rfl rfl
set_option maxRecDepth 100000 in
theorem l_Machine_92 : Cond.methodLink "BoxedCore$Machine" 92 ⟨"BoxedCore$Table", "parameters", "(I)I"⟩ ∈ pm_tbl := pm_c7 51 rfl rfl
set_option maxRecDepth 100000 in
theorem l_Machine_95 : Cond.methodLink "BoxedCore$Machine" 95 ⟨"BoxedCore$Heap", "setLocal", "(IIJ)V"⟩ ∈ pm_tbl := pm_c7 52 rfl rfl
set_option maxRecDepth 100000 in
theorem l_Machine_99 : Cond.methodLink "BoxedCore$Machine" 99 ⟨"BoxedCore$Table", "root", "(I)I"⟩ ∈ pm_tbl := pm_c7 60 rfl rfl
set_option maxRecDepth 100000 in
theorem l_Machine_102 : Cond.methodLink "BoxedCore$Machine" 102 ⟨"BoxedCore$Machine", "goInto", "(II)V"⟩ ∈ pm_tbl := pm_c7 61 rfl rfl
set_option maxRecDepth 100000 in
theorem l_Machine_110 : Cond.methodLink "BoxedCore$Machine" 110 ⟨"BoxedCore$Machine", "enter", "()V"⟩ ∈ pm_tbl := pm_c7 66 rfl rfl
set_option maxRecDepth 100000 in
theorem l_Machine_113 : Cond.methodLink "BoxedCore$Machine" 113 ⟨"BoxedCore$Machine", "applyCallee", "()V"⟩ ∈ pm_tbl := pm_c7 79 rfl rfl
set_option maxRecDepth 100000 in
theorem l_Machine_116 : Cond.methodLink "BoxedCore$Machine" 116 ⟨"BoxedCore$Frames", "isEmpty", "()Z"⟩ ∈ pm_tbl := pm_c7 148 rfl rfl
set_option maxRecDepth 100000 in
theorem l_Machine_120 : Cond.methodLink "BoxedCore$Machine" 120 ⟨"BoxedCore$Machine", "resume", "()V"⟩ ∈ pm_tbl := pm_c7 152 rfl rfl
set_option maxRecDepth 100000 in
theorem l_Machine_123 : Cond.methodLink "BoxedCore$Machine" 123 ⟨"BoxedCore$Heap", "isOver", "()Z"⟩ ∈ pm_tbl := pm_c8 23 rfl rfl
set_option maxRecDepth 100000 in
theorem l_Machine_126 : Cond.methodLink "BoxedCore$Machine" 126 ⟨"BoxedCore$Heap", "madeOf", "(I)I"⟩ ∈ pm_tbl := pm_c8 36 rfl rfl
set_option maxRecDepth 100000 in
theorem l_Machine_129 : Cond.methodLink "BoxedCore$Machine" 129 ⟨"BoxedCore$Heap", "openedBoxes", "()I"⟩ ∈ pm_tbl := pm_c8 40 rfl rfl
set_option maxRecDepth 100000 in
theorem l_Machine_133 : Cond.methodLink "BoxedCore$Machine" 133 ⟨"BoxedCore$Frames", "deepest", "()I"⟩ ∈ pm_tbl := pm_c8 44 rfl rfl
set_option maxRecDepth 100000 in
theorem l_Machine_136 : Cond.methodLink "BoxedCore$Machine" 136 ⟨"BoxedCore$Machine", "typeAt", "(I)I"⟩ ∈ pm_tbl := pm_c6 161 rfl rfl
set_option maxRecDepth 100000 in
theorem l_Machine_139 : Cond.methodLink "BoxedCore$Machine" 139 ⟨"BoxedCore$Types", "kind", "(I)I"⟩ ∈ pm_tbl := pm_c6 172 rfl rfl
set_option maxRecDepth 100000 in
theorem l_Machine_144 : Cond.methodLink "BoxedCore$Machine" 144 ⟨"BoxedCore$Machine", "valueAt", "(I)J"⟩ ∈ pm_tbl := pm_c6 175 rfl rfl
set_option maxRecDepth 100000 in
theorem l_Machine_148 : Cond.methodLink "BoxedCore$Machine" 148 ⟨"BoxedCore$Heap", "kind", "(J)I"⟩ ∈ pm_tbl := pm_c6 187 rfl rfl
set_option maxRecDepth 100000 in
theorem l_Machine_151 : Cond.methodLink "BoxedCore$Machine" 151 ⟨"BoxedCore$Machine", "sortOfBox", "(I)I"⟩ ∈ pm_tbl := pm_c6 191 rfl rfl
set_option maxRecDepth 100000 in
theorem l_Machine_154 : Cond.methodLink "BoxedCore$Machine" 154 ⟨"BoxedCore$Machine", "sortAt", "(I)I"⟩ ∈ pm_tbl := pm_c6 202 rfl rfl
set_option maxRecDepth 100000 in
theorem l_Machine_157 : Cond.methodLink "BoxedCore$Machine" 157 ⟨"BoxedCore$Heap", "first", "(J)J"⟩ ∈ pm_tbl := pm_c6 179 rfl rfl
set_option maxRecDepth 100000 in
theorem l_Machine_161 : Cond.methodLink "BoxedCore$Machine" 161 ⟨"BoxedCore$Machine", "lengthOf", "(I)I"⟩ ∈ pm_tbl := pm_c6 165 rfl rfl
set_option maxRecDepth 100000 in
theorem l_Machine_164 : Cond.methodLink "BoxedCore$Machine" 164 ⟨"BoxedCore$Types", "left", "(I)I"⟩ ∈ pm_tbl := pm_c6 173 rfl rfl
set_option maxRecDepth 100000 in
theorem l_Machine_167 : Cond.methodLink "BoxedCore$Machine" 167 ⟨"BoxedCore$Types", "right", "(I)I"⟩ ∈ pm_tbl := pm_c6 174 rfl rfl
set_option maxRecDepth 100000 in
theorem l_Machine_170 : Cond.methodLink "BoxedCore$Machine" 170 ⟨"BoxedCore$Heap", "second", "(J)J"⟩ ∈ pm_tbl := pm_c6 183 rfl rfl
set_option maxRecDepth 100000 in
theorem l_Machine_173 : Cond.methodLink "BoxedCore$Machine" 173 ⟨"java/lang/Integer", "numberOfLeadingZeros", "(I)I"⟩ ∈ pm_tbl := pm_c6 168 rfl rfl
set_option maxRecDepth 100000 in
theorem l_Machine_181 : Cond.methodLink "BoxedCore$Machine" 181 ⟨"BoxedCore$Frames", "isFull", "()Z"⟩ ∈ pm_tbl := pm_c7 70 rfl rfl
set_option maxRecDepth 100000 in
theorem l_Machine_184 : Cond.methodLink "BoxedCore$Machine" 184 ⟨"BoxedCore$Frames", "push", "(II)V"⟩ ∈ pm_tbl := pm_c7 74 rfl rfl
set_option maxRecDepth 100000 in
theorem l_Machine_187 : Cond.methodLink "BoxedCore$Machine" 187 ⟨"BoxedCore$Frames", "pop", "()V"⟩ ∈ pm_tbl := pm_c7 165 rfl rfl
set_option maxRecDepth 100000 in
theorem l_Machine_190 : Cond.methodLink "BoxedCore$Machine" 190 ⟨"BoxedCore$Frames", "setState", "(I)V"⟩ ∈ pm_tbl := pm_c7 186 rfl rfl
set_option maxRecDepth 100000 in
theorem l_Machine_194 : Cond.methodLink "BoxedCore$Machine" 194 ⟨"BoxedCore$Frames", "base", "()I"⟩ ∈ pm_tbl := pm_c7 169 rfl rfl
set_option maxRecDepth 100000 in
theorem l_Machine_196 : Cond.methodLink "BoxedCore$Machine" 196 ⟨"BoxedCore$Frames", "node", "()I"⟩ ∈ pm_tbl := pm_c7 156 rfl rfl
set_option maxRecDepth 100000 in
theorem l_Machine_199 : Cond.methodLink "BoxedCore$Machine" 199 ⟨"BoxedCore$Tree", "kind", "(I)I"⟩ ∈ pm_tbl := pm_c7 160 rfl rfl
set_option maxRecDepth 100000 in
theorem l_Machine_202 : Cond.methodLink "BoxedCore$Machine" 202 ⟨"BoxedCore$Tree", "value", "(I)J"⟩ ∈ pm_tbl := pm_c7 141 rfl rfl
set_option maxRecDepth 100000 in
theorem l_Machine_204 : Cond.methodLink "BoxedCore$Machine" 204 ⟨"BoxedCore$Machine", "finish", "(J)V"⟩ ∈ pm_tbl := pm_c7 161 rfl rfl
set_option maxRecDepth 100000 in
theorem l_Machine_208 : Cond.methodLink "BoxedCore$Machine" 208 ⟨"BoxedCore$Tree", "first", "(I)I"⟩ ∈ pm_tbl := pm_c7 147 rfl rfl
set_option maxRecDepth 100000 in
theorem l_Machine_210 : Cond.methodLink "BoxedCore$Machine" 210 ⟨"BoxedCore$Heap", "local", "(II)J"⟩ ∈ pm_tbl := pm_c7 142 rfl rfl
set_option maxRecDepth 100000 in
theorem l_Machine_214 : Cond.methodLink "BoxedCore$Machine" 214 ⟨"BoxedCore$Heap", "make", "(IJJI)J"⟩ ∈ pm_tbl := pm_c7 173 rfl rfl
set_option maxRecDepth 100000 in
theorem l_Machine_218 : Cond.methodLink "BoxedCore$Machine" 218 ⟨"BoxedCore$Machine", "workLet", "(I)V"⟩ ∈ pm_tbl := pm_c7 174 rfl rfl
set_option maxRecDepth 100000 in
theorem l_Machine_221 : Cond.methodLink "BoxedCore$Machine" 221 ⟨"BoxedCore$Machine", "workIf", "(I)V"⟩ ∈ pm_tbl := pm_c7 191 rfl rfl
set_option maxRecDepth 100000 in
theorem l_Machine_224 : Cond.methodLink "BoxedCore$Machine" 224 ⟨"BoxedCore$Machine", "workHalf", "(I)V"⟩ ∈ pm_tbl := pm_c7 195 rfl rfl
set_option maxRecDepth 100000 in
theorem l_Machine_227 : Cond.methodLink "BoxedCore$Machine" 227 ⟨"BoxedCore$Machine", "workCall", "(I)V"⟩ ∈ pm_tbl := pm_c7 199 rfl rfl
set_option maxRecDepth 100000 in
theorem l_Machine_230 : Cond.methodLink "BoxedCore$Machine" 230 ⟨"BoxedCore$Machine", "leaveCover", "()V"⟩ ∈ pm_tbl := pm_c8 11 rfl rfl
set_option maxRecDepth 100000 in
theorem l_Machine_233 : Cond.methodLink "BoxedCore$Machine" 233 ⟨"BoxedCore$Machine", "workBoth", "(I)V"⟩ ∈ pm_tbl := pm_c8 15 rfl rfl
set_option maxRecDepth 100000 in
theorem l_Machine_236 : Cond.methodLink "BoxedCore$Machine" 236 ⟨"BoxedCore$Frames", "state", "()I"⟩ ∈ pm_tbl := pm_c7 178 rfl rfl
set_option maxRecDepth 100000 in
theorem l_Machine_239 : Cond.methodLink "BoxedCore$Machine" 239 ⟨"BoxedCore$Machine", "workPart", "(II)V"⟩ ∈ pm_tbl := pm_c7 182 rfl rfl
set_option maxRecDepth 100000 in
theorem l_Machine_242 : Cond.methodLink "BoxedCore$Machine" 242 ⟨"BoxedCore$Tree", "third", "(I)I"⟩ ∈ pm_tbl := pm_c7 146 rfl rfl
set_option maxRecDepth 100000 in
theorem l_Machine_245 : Cond.methodLink "BoxedCore$Machine" 245 ⟨"BoxedCore$Tree", "second", "(I)I"⟩ ∈ pm_tbl := pm_c7 190 rfl rfl
set_option maxRecDepth 100000 in
theorem l_Machine_247 : Cond.methodLink "BoxedCore$Machine" 247 ⟨"BoxedCore$Frames", "hold", "(J)V"⟩ ∈ pm_tbl := pm_c7 87 rfl rfl
set_option maxRecDepth 100000 in
theorem l_Machine_250 : Cond.methodLink "BoxedCore$Machine" 250 ⟨"BoxedCore$Frames", "held", "(I)J"⟩ ∈ pm_tbl := pm_c7 228 rfl rfl
set_option maxRecDepth 100000 in
theorem l_Machine_253 : Cond.methodLink "BoxedCore$Machine" 253 ⟨"BoxedCore$Machine", "join", "(IJJ)J"⟩ ∈ pm_tbl := pm_c8 19 rfl rfl
set_option maxRecDepth 100000 in
theorem l_Machine_257 : Cond.methodLink "BoxedCore$Machine" 257 ⟨"BoxedCore$Machine", "beginCall", "(I)V"⟩ ∈ pm_tbl := pm_c7 203 rfl rfl
set_option maxRecDepth 100000 in
theorem l_Machine_260 : Cond.methodLink "BoxedCore$Machine" 260 ⟨"BoxedCore$Machine", "takeArgument", "(I)V"⟩ ∈ pm_tbl := pm_c7 233 rfl rfl
set_option maxRecDepth 100000 in
theorem l_Machine_263 : Cond.methodLink "BoxedCore$Machine" 263 ⟨"BoxedCore$Machine", "takeResult", "(I)V"⟩ ∈ pm_tbl := pm_c7 239 rfl rfl
set_option maxRecDepth 100000 in
theorem l_Machine_269 : Cond.methodLink "BoxedCore$Machine" 269 ⟨"BoxedCore$Machine", "goOnCalling", "()V"⟩ ∈ pm_tbl := pm_c8 3 rfl rfl
set_option maxRecDepth 100000 in
theorem l_Machine_272 : Cond.methodLink "BoxedCore$Machine" 272 ⟨"BoxedCore$Frames", "setAtom", "(I)V"⟩ ∈ pm_tbl := pm_c7 207 rfl rfl
set_option maxRecDepth 100000 in
theorem l_Machine_275 : Cond.methodLink "BoxedCore$Machine" 275 ⟨"BoxedCore$Machine", "workAtom", "(I)V"⟩ ∈ pm_tbl := pm_c7 211 rfl rfl
set_option maxRecDepth 100000 in
theorem l_Machine_278 : Cond.methodLink "BoxedCore$Machine" 278 ⟨"BoxedCore$Machine", "callDef", "(I)V"⟩ ∈ pm_tbl := pm_c7 220 rfl rfl
set_option maxRecDepth 100000 in
theorem l_Machine_281 : Cond.methodLink "BoxedCore$Machine" 281 ⟨"BoxedCore$Frames", "atom", "()I"⟩ ∈ pm_tbl := pm_c7 215 rfl rfl
set_option maxRecDepth 100000 in
theorem l_Machine_284 : Cond.methodLink "BoxedCore$Machine" 284 ⟨"BoxedCore$Tree", "next", "(I)I"⟩ ∈ pm_tbl := pm_c7 219 rfl rfl
set_option maxRecDepth 100000 in
theorem l_Machine_287 : Cond.methodLink "BoxedCore$Machine" 287 ⟨"BoxedCore$Frames", "heldCount", "()I"⟩ ∈ pm_tbl := pm_c7 224 rfl rfl
set_option maxRecDepth 100000 in
theorem l_Machine_290 : Cond.methodLink "BoxedCore$Machine" 290 ⟨"BoxedCore$Tree", "isShort", "(I)Z"⟩ ∈ pm_tbl := pm_c7 237 rfl rfl
set_option maxRecDepth 100000 in
theorem l_Machine_294 : Cond.methodLink "BoxedCore$Machine" 294 ⟨"BoxedCore$Table", "localType", "(II)I"⟩ ∈ pm_tbl := pm_c7 238 rfl rfl
set_option maxRecDepth 100000 in
theorem l_Machine_298 : Cond.methodLink "BoxedCore$Machine" 298 ⟨"BoxedCore$Adapter", "adapt", "(JIIZ)J"⟩ ∈ pm_tbl := pm_c7 95 rfl rfl
set_option maxRecDepth 100000 in
theorem l_Machine_302 : Cond.methodLink "BoxedCore$Machine" 302 ⟨"BoxedCore$Frames", "dropHeld", "()V"⟩ ∈ pm_tbl := pm_c8 7 rfl rfl
set_option maxRecDepth 100000 in
theorem l_Machine_305 : Cond.methodLink "BoxedCore$Machine" 305 ⟨"BoxedCore$Machine", "enterCover", "(Z)V"⟩ ∈ pm_tbl := pm_c7 83 rfl rfl
set_option maxRecDepth 100000 in
theorem l_Machine_309 : Cond.methodLink "BoxedCore$Machine" 309 ⟨"BoxedCore$Machine", "enterFunction", "()V"⟩ ∈ pm_tbl := pm_c7 137 rfl rfl
set_option maxRecDepth 100000 in
theorem l_Machine_312 : Cond.methodLink "BoxedCore$Machine" 312 ⟨"BoxedCore$Heap", "site", "(J)I"⟩ ∈ pm_tbl := pm_c7 91 rfl rfl
set_option maxRecDepth 100000 in
theorem l_Parser_3 : Cond.methodLink "BoxedCore$Parser" 3 ⟨"java/lang/Object", "<init>", "()V"⟩ ∈ pm_tbl := pm_c2 17 rfl rfl
set_option maxRecDepth 100000 in
theorem l_Parser_51 : Cond.methodLink "BoxedCore$Parser" 51 ⟨"BoxedCore$Tokens", "size", "()I"⟩ ∈ pm_tbl := pm_c3 160 rfl rfl
set_option maxRecDepth 100000 in
theorem l_Parser_57 : Cond.methodLink "BoxedCore$Parser" 57 ⟨"BoxedCore$Parser", "kind", "()I"⟩ ∈ pm_tbl := pm_c3 164 rfl rfl
set_option maxRecDepth 100000 in
theorem l_Parser_60 : Cond.methodLink "BoxedCore$Parser" 60 ⟨"BoxedCore$Parser", "readDef", "()V"⟩ ∈ pm_tbl := pm_c3 173 rfl rfl
set_option maxRecDepth 100000 in
theorem l_Parser_63 : Cond.methodLink "BoxedCore$Parser" 63 ⟨"BoxedCore$Table", "size", "()I"⟩ ∈ pm_tbl := pm_c3 177 rfl rfl
set_option maxRecDepth 100000 in
theorem l_Parser_66 : Cond.methodLink "BoxedCore$Parser" 66 ⟨"BoxedCore$Parser", "here", "()I"⟩ ∈ pm_tbl := pm_c3 181 rfl rfl
set_option maxRecDepth 100000 in
theorem l_Parser_69 : Cond.methodLink "BoxedCore$Parser" 69 ⟨"BoxedCore$Fault", "tell", "(II)V"⟩ ∈ pm_tbl := pm_c3 189 rfl rfl
set_option maxRecDepth 100000 in
theorem l_Parser_73 : Cond.methodLink "BoxedCore$Parser" 73 ⟨"BoxedCore$Parser", "expect", "(I)V"⟩ ∈ pm_tbl := pm_c3 190 rfl rfl
set_option maxRecDepth 100000 in
theorem l_Parser_77 : Cond.methodLink "BoxedCore$Parser" 77 ⟨"BoxedCore$Fault", "isTold", "()Z"⟩ ∈ pm_tbl := pm_c3 168 rfl rfl
set_option maxRecDepth 100000 in
theorem l_Parser_81 : Cond.methodLink "BoxedCore$Parser" 81 ⟨"BoxedCore$Tokens", "value", "(I)J"⟩ ∈ pm_tbl := pm_c3 194 rfl rfl
set_option maxRecDepth 100000 in
theorem l_Parser_85 : Cond.methodLink "BoxedCore$Parser" 85 ⟨"BoxedCore$Table", "find", "(J)I"⟩ ∈ pm_tbl := pm_c3 198 rfl rfl
set_option maxRecDepth 100000 in
theorem l_Parser_89 : Cond.methodLink "BoxedCore$Parser" 89 ⟨"BoxedCore$Tokens", "placeOf", "(I)I"⟩ ∈ pm_tbl := pm_c3 185 rfl rfl
set_option maxRecDepth 100000 in
theorem l_Parser_93 : Cond.methodLink "BoxedCore$Parser" 93 ⟨"BoxedCore$Table", "add", "(JI)I"⟩ ∈ pm_tbl := pm_c3 202 rfl rfl
set_option maxRecDepth 100000 in
theorem l_Parser_106 : Cond.methodLink "BoxedCore$Parser" 106 ⟨"BoxedCore$Parser", "readParameter", "()V"⟩ ∈ pm_tbl := pm_c3 206 rfl rfl
set_option maxRecDepth 100000 in
theorem l_Parser_109 : Cond.methodLink "BoxedCore$Parser" 109 ⟨"java/lang/Integer", "bitCount", "(I)I"⟩ ∈ pm_tbl := pm_c4 58 rfl rfl
set_option maxRecDepth 100000 in
theorem l_Parser_114 : Cond.methodLink "BoxedCore$Parser" 114 ⟨"BoxedCore$Table", "count", "(III)V"⟩ ∈ pm_tbl := pm_c3 234 rfl rfl
set_option maxRecDepth 100000 in
theorem l_Parser_118 : Cond.methodLink "BoxedCore$Parser" 118 ⟨"BoxedCore$Parser", "readType", "(IZ)I"⟩ ∈ pm_tbl := pm_c3 238 rfl rfl
set_option maxRecDepth 100000 in
theorem l_Parser_122 : Cond.methodLink "BoxedCore$Parser" 122 ⟨"BoxedCore$Table", "setType", "(II)V"⟩ ∈ pm_tbl := pm_c4 64 rfl rfl
set_option maxRecDepth 100000 in
theorem l_Parser_125 : Cond.methodLink "BoxedCore$Parser" 125 ⟨"BoxedCore$Parser", "readExpr", "(I)I"⟩ ∈ pm_tbl := pm_c4 68 rfl rfl
set_option maxRecDepth 100000 in
theorem l_Parser_128 : Cond.methodLink "BoxedCore$Parser" 128 ⟨"BoxedCore$Tree", "size", "()I"⟩ ∈ pm_tbl := pm_c5 215 rfl rfl
set_option maxRecDepth 100000 in
theorem l_Parser_131 : Cond.methodLink "BoxedCore$Parser" 131 ⟨"BoxedCore$Table", "setRoot", "(III)V"⟩ ∈ pm_tbl := pm_c5 219 rfl rfl
set_option maxRecDepth 100000 in
theorem l_Parser_134 : Cond.methodLink "BoxedCore$Parser" 134 ⟨"BoxedCore$Table", "parameters", "(I)I"⟩ ∈ pm_tbl := pm_c3 210 rfl rfl
set_option maxRecDepth 100000 in
theorem l_Parser_137 : Cond.methodLink "BoxedCore$Parser" 137 ⟨"BoxedCore$Parser", "readLocal", "()I"⟩ ∈ pm_tbl := pm_c3 214 rfl rfl
set_option maxRecDepth 100000 in
theorem l_Parser_140 : Cond.methodLink "BoxedCore$Parser" 140 ⟨"BoxedCore$Parser", "findLocal", "(J)I"⟩ ∈ pm_tbl := pm_c3 226 rfl rfl
set_option maxRecDepth 100000 in
theorem l_Parser_143 : Cond.methodLink "BoxedCore$Parser" 143 ⟨"BoxedCore$Parser", "bind", "(JI)V"⟩ ∈ pm_tbl := pm_c3 230 rfl rfl
set_option maxRecDepth 100000 in
theorem l_Parser_147 : Cond.methodLink "BoxedCore$Parser" 147 ⟨"BoxedCore$Table", "setLocalType", "(III)V"⟩ ∈ pm_tbl := pm_c4 50 rfl rfl
set_option maxRecDepth 100000 in
theorem l_Parser_150 : Cond.methodLink "BoxedCore$Parser" 150 ⟨"BoxedCore$Table", "locals", "(I)I"⟩ ∈ pm_tbl := pm_c3 218 rfl rfl
set_option maxRecDepth 100000 in
theorem l_Parser_153 : Cond.methodLink "BoxedCore$Parser" 153 ⟨"BoxedCore$Table", "addLocal", "(I)I"⟩ ∈ pm_tbl := pm_c3 222 rfl rfl
set_option maxRecDepth 100000 in
theorem l_Parser_162 : Cond.methodLink "BoxedCore$Parser" 162 ⟨"BoxedCore$Parser", "readPart", "(IZ)I"⟩ ∈ pm_tbl := pm_c4 2 rfl rfl
set_option maxRecDepth 100000 in
theorem l_Parser_167 : Cond.methodLink "BoxedCore$Parser" 167 ⟨"BoxedCore$Types", "make", "(III)I"⟩ ∈ pm_tbl := pm_c4 30 rfl rfl
set_option maxRecDepth 100000 in
theorem l_Parser_171 : Cond.methodLink "BoxedCore$Parser" 171 ⟨"BoxedCore$Parser", "readBase", "(IZ)I"⟩ ∈ pm_tbl := pm_c4 6 rfl rfl
set_option maxRecDepth 100000 in
theorem l_Parser_174 : Cond.methodLink "BoxedCore$Parser" 174 ⟨"BoxedCore$Parser", "pushBase", "(I)V"⟩ ∈ pm_tbl := pm_c4 22 rfl rfl
set_option maxRecDepth 100000 in
theorem l_Parser_177 : Cond.methodLink "BoxedCore$Parser" 177 ⟨"BoxedCore$Parser", "popBase", "()I"⟩ ∈ pm_tbl := pm_c4 26 rfl rfl
set_option maxRecDepth 100000 in
theorem l_Parser_180 : Cond.methodLink "BoxedCore$Parser" 180 ⟨"BoxedCore$Parser", "countLeaf", "()V"⟩ ∈ pm_tbl := pm_c4 10 rfl rfl
set_option maxRecDepth 100000 in
theorem l_Parser_183 : Cond.methodLink "BoxedCore$Parser" 183 ⟨"BoxedCore$Parser", "readLetter", "(Z)I"⟩ ∈ pm_tbl := pm_c4 14 rfl rfl
set_option maxRecDepth 100000 in
theorem l_Parser_187 : Cond.methodLink "BoxedCore$Parser" 187 ⟨"BoxedCore$Types", "letter", "(I)I"⟩ ∈ pm_tbl := pm_c4 18 rfl rfl
set_option maxRecDepth 100000 in
theorem l_Parser_190 : Cond.methodLink "BoxedCore$Parser" 190 ⟨"BoxedCore$Parser", "readLet", "(I)I"⟩ ∈ pm_tbl := pm_c4 72 rfl rfl
set_option maxRecDepth 100000 in
theorem l_Parser_193 : Cond.methodLink "BoxedCore$Parser" 193 ⟨"BoxedCore$Parser", "readIf", "(I)I"⟩ ∈ pm_tbl := pm_c5 151 rfl rfl
set_option maxRecDepth 100000 in
theorem l_Parser_196 : Cond.methodLink "BoxedCore$Parser" 196 ⟨"BoxedCore$Parser", "readFn", "(I)I"⟩ ∈ pm_tbl := pm_c5 155 rfl rfl
set_option maxRecDepth 100000 in
theorem l_Parser_199 : Cond.methodLink "BoxedCore$Parser" 199 ⟨"BoxedCore$Parser", "readComparison", "(I)I"⟩ ∈ pm_tbl := pm_c5 163 rfl rfl
set_option maxRecDepth 100000 in
theorem l_Parser_202 : Cond.methodLink "BoxedCore$Parser" 202 ⟨"BoxedCore$Table", "setLocalBound", "(III)V"⟩ ∈ pm_tbl := pm_c4 76 rfl rfl
set_option maxRecDepth 100000 in
theorem l_Parser_205 : Cond.methodLink "BoxedCore$Parser" 205 ⟨"BoxedCore$Parser", "unbind", "()V"⟩ ∈ pm_tbl := pm_c4 80 rfl rfl
set_option maxRecDepth 100000 in
theorem l_Parser_208 : Cond.methodLink "BoxedCore$Parser" 208 ⟨"BoxedCore$Tree", "add", "(IIIII)I"⟩ ∈ pm_tbl := pm_c4 85 rfl rfl
set_option maxRecDepth 100000 in
theorem l_Parser_211 : Cond.methodLink "BoxedCore$Parser" 211 ⟨"BoxedCore$Tree", "setValue", "(IJ)V"⟩ ∈ pm_tbl := pm_c5 159 rfl rfl
set_option maxRecDepth 100000 in
theorem l_Parser_215 : Cond.methodLink "BoxedCore$Parser" 215 ⟨"BoxedCore$Parser", "readSum", "(I)I"⟩ ∈ pm_tbl := pm_c5 167 rfl rfl
set_option maxRecDepth 100000 in
theorem l_Parser_218 : Cond.methodLink "BoxedCore$Parser" 218 ⟨"BoxedCore$Parser", "readCall", "(I)I"⟩ ∈ pm_tbl := pm_c5 171 rfl rfl
set_option maxRecDepth 100000 in
theorem l_Parser_221 : Cond.methodLink "BoxedCore$Parser" 221 ⟨"BoxedCore$Parser", "isSumSign", "()Z"⟩ ∈ pm_tbl := pm_c5 211 rfl rfl
set_option maxRecDepth 100000 in
theorem l_Parser_224 : Cond.methodLink "BoxedCore$Parser" 224 ⟨"BoxedCore$Parser", "readAtom", "(I)I"⟩ ∈ pm_tbl := pm_c5 175 rfl rfl
set_option maxRecDepth 100000 in
theorem l_Parser_227 : Cond.methodLink "BoxedCore$Parser" 227 ⟨"BoxedCore$Parser", "beginsAtom", "()Z"⟩ ∈ pm_tbl := pm_c5 187 rfl rfl
set_option maxRecDepth 100000 in
theorem l_Parser_230 : Cond.methodLink "BoxedCore$Parser" 230 ⟨"BoxedCore$Tree", "kind", "(I)I"⟩ ∈ pm_tbl := pm_c5 191 rfl rfl
set_option maxRecDepth 100000 in
theorem l_Parser_232 : Cond.methodLink "BoxedCore$Parser" 232 ⟨"BoxedCore$Tree", "turnInto", "(II)V"⟩ ∈ pm_tbl := pm_c5 195 rfl rfl
set_option maxRecDepth 100000 in
theorem l_Parser_235 : Cond.methodLink "BoxedCore$Parser" 235 ⟨"BoxedCore$Parser", "readAtoms", "(II)I"⟩ ∈ pm_tbl := pm_c5 199 rfl rfl
set_option maxRecDepth 100000 in
theorem l_Parser_239 : Cond.methodLink "BoxedCore$Parser" 239 ⟨"BoxedCore$Tree", "chain", "(II)V"⟩ ∈ pm_tbl := pm_c5 203 rfl rfl
set_option maxRecDepth 100000 in
theorem l_Parser_242 : Cond.methodLink "BoxedCore$Parser" 242 ⟨"BoxedCore$Tree", "placeOf", "(I)I"⟩ ∈ pm_tbl := pm_c5 207 rfl rfl
set_option maxRecDepth 100000 in
theorem l_Parser_243 : Cond.methodLink "BoxedCore$Parser" 243 ⟨"BoxedCore$Parser", "readLeafExpr", "(II)I"⟩ ∈ pm_tbl := pm_c5 179 rfl rfl
set_option maxRecDepth 100000 in
theorem l_Parser_246 : Cond.methodLink "BoxedCore$Parser" 246 ⟨"BoxedCore$Parser", "readBrackets", "(I)I"⟩ ∈ pm_tbl := pm_c5 183 rfl rfl
set_option maxRecDepth 100000 in
theorem l_Parser_249 : Cond.methodLink "BoxedCore$Parser" 249 ⟨"java/lang/Math", "max", "(II)I"⟩ ∈ pm_tbl := pm_c4 84 rfl rfl
set_option maxRecDepth 100000 in
theorem l_Parser_254 : Cond.methodLink "BoxedCore$Parser" 254 ⟨"BoxedCore$Tokens", "kind", "(I)I"⟩ ∈ pm_tbl := pm_c3 169 rfl rfl
set_option maxRecDepth 100000 in
theorem l_Table_3 : Cond.methodLink "BoxedCore$Table" 3 ⟨"java/lang/Object", "<init>", "()V"⟩ ∈ pm_tbl := pm_c1 220 rfl rfl
set_option maxRecDepth 100000 in
theorem l_Table_44 : Cond.methodLink "BoxedCore$Table" 44 ⟨"java/util/Arrays", "fill", "([II)V"⟩ ∈ pm_tbl := pm_c3 94 rfl rfl
set_option maxRecDepth 100000 in
theorem l_Table_50 : Cond.methodLink "BoxedCore$Table" 50 ⟨"BoxedCore$Table", "hasLocal", "(II)Z"⟩ ∈ pm_tbl := pm_c4 54 rfl rfl
set_option maxRecDepth 100000 in
theorem l_Tokens_3 : Cond.methodLink "BoxedCore$Tokens" 3 ⟨"java/lang/Object", "<init>", "()V"⟩ ∈ pm_tbl := pm_c1 60 rfl rfl
set_option maxRecDepth 100000 in
theorem l_Tokens_31 : Cond.methodLink "BoxedCore$Tokens" 31 ⟨"java/lang/String", "length", "()I"⟩ ∈ pm_tbl := pm_c1 62 rfl rfl
set_option maxRecDepth 100000 in
theorem l_Tokens_37 : Cond.methodLink "BoxedCore$Tokens" 37 ⟨"java/lang/String", "charAt", "(I)C"⟩ ∈ pm_tbl := pm_c1 72 rfl rfl
set_option maxRecDepth 100000 in
theorem l_Tokens_41 : Cond.methodLink "BoxedCore$Tokens" 41 ⟨"BoxedCore$Tokens", "withOctet", "(JI)J"⟩ ∈ pm_tbl := pm_c1 110 rfl rfl
set_option maxRecDepth 100000 in
theorem l_Tokens_51 : Cond.methodLink "BoxedCore$Tokens" 51 ⟨"java/lang/Math", "min", "(II)I"⟩ ∈ pm_tbl := pm_c3 99 rfl rfl
set_option maxRecDepth 100000 in
theorem l_Tokens_57 : Cond.methodLink "BoxedCore$Tokens" 57 ⟨"BoxedCore$Fault", "isTold", "()Z"⟩ ∈ pm_tbl := pm_c3 100 rfl rfl
set_option maxRecDepth 100000 in
theorem l_Tokens_63 : Cond.methodLink "BoxedCore$Tokens" 63 ⟨"BoxedCore$Fault", "tell", "(II)V"⟩ ∈ pm_tbl := pm_c3 104 rfl rfl
set_option maxRecDepth 100000 in
theorem l_Tokens_67 : Cond.methodLink "BoxedCore$Tokens" 67 ⟨"BoxedCore$Tokens", "scanToken", "([II)I"⟩ ∈ pm_tbl := pm_c3 108 rfl rfl
set_option maxRecDepth 100000 in
theorem l_Tokens_71 : Cond.methodLink "BoxedCore$Tokens" 71 ⟨"java/lang/Math", "max", "(II)I"⟩ ∈ pm_tbl := pm_c3 153 rfl rfl
set_option maxRecDepth 100000 in
theorem l_Tokens_74 : Cond.methodLink "BoxedCore$Tokens" 74 ⟨"BoxedCore$Tokens", "octetAt", "([II)I"⟩ ∈ pm_tbl := pm_c3 112 rfl rfl
set_option maxRecDepth 100000 in
theorem l_Tokens_77 : Cond.methodLink "BoxedCore$Tokens" 77 ⟨"BoxedCore$Tokens", "isLetter", "(I)Z"⟩ ∈ pm_tbl := pm_c3 116 rfl rfl
set_option maxRecDepth 100000 in
theorem l_Tokens_81 : Cond.methodLink "BoxedCore$Tokens" 81 ⟨"BoxedCore$Tokens", "scanName", "([II)I"⟩ ∈ pm_tbl := pm_c3 119 rfl rfl
set_option maxRecDepth 100000 in
theorem l_Tokens_84 : Cond.methodLink "BoxedCore$Tokens" 84 ⟨"BoxedCore$Tokens", "isDigit", "(I)Z"⟩ ∈ pm_tbl := pm_c1 113 rfl rfl
set_option maxRecDepth 100000 in
theorem l_Tokens_87 : Cond.methodLink "BoxedCore$Tokens" 87 ⟨"BoxedCore$Tokens", "scanNumber", "([II)I"⟩ ∈ pm_tbl := pm_c3 131 rfl rfl
set_option maxRecDepth 100000 in
theorem l_Tokens_90 : Cond.methodLink "BoxedCore$Tokens" 90 ⟨"BoxedCore$Tokens", "scanBits", "([II)I"⟩ ∈ pm_tbl := pm_c3 137 rfl rfl
set_option maxRecDepth 100000 in
theorem l_Tokens_93 : Cond.methodLink "BoxedCore$Tokens" 93 ⟨"BoxedCore$Tokens", "scanLetter", "([II)I"⟩ ∈ pm_tbl := pm_c3 144 rfl rfl
set_option maxRecDepth 100000 in
theorem l_Tokens_96 : Cond.methodLink "BoxedCore$Tokens" 96 ⟨"BoxedCore$Tokens", "scanSign", "([II)I"⟩ ∈ pm_tbl := pm_c3 148 rfl rfl
set_option maxRecDepth 100000 in
theorem l_Tokens_99 : Cond.methodLink "BoxedCore$Tokens" 99 ⟨"BoxedCore$Tokens", "kindOfName", "(J)I"⟩ ∈ pm_tbl := pm_c3 123 rfl rfl
set_option maxRecDepth 100000 in
theorem l_Tokens_103 : Cond.methodLink "BoxedCore$Tokens" 103 ⟨"BoxedCore$Tokens", "add", "(IIJ)V"⟩ ∈ pm_tbl := pm_c3 127 rfl rfl
set_option maxRecDepth 100000 in
theorem l_Tokens_113 : Cond.methodLink "BoxedCore$Tokens" 113 ⟨"BoxedCore$Tokens", "hexDigit", "(I)I"⟩ ∈ pm_tbl := pm_c3 141 rfl rfl
set_option maxRecDepth 100000 in
theorem l_Tree_3 : Cond.methodLink "BoxedCore$Tree" 3 ⟨"java/lang/Object", "<init>", "()V"⟩ ∈ pm_tbl := pm_c1 179 rfl rfl
set_option maxRecDepth 100000 in
theorem l_Tree_50 : Cond.methodLink "BoxedCore$Tree" 50 ⟨"java/util/Arrays", "fill", "([IIII)V"⟩ ∈ pm_tbl := pm_c4 89 rfl rfl
set_option maxRecDepth 100000 in
theorem l_Types_5 : Cond.methodLink "BoxedCore$Types" 5 ⟨"java/lang/Object", "<init>", "()V"⟩ ∈ pm_tbl := pm_c1 145 rfl rfl
set_option maxRecDepth 100000 in
theorem l_Types_33 : Cond.methodLink "BoxedCore$Types" 33 ⟨"java/lang/Math", "min", "(II)I"⟩ ∈ pm_tbl := pm_c1 146 rfl rfl
set_option maxRecDepth 100000 in
theorem l_Types_43 : Cond.methodLink "BoxedCore$Types" 43 ⟨"java/util/Arrays", "fill", "([II)V"⟩ ∈ pm_tbl := pm_c3 85 rfl rfl
set_option maxRecDepth 100000 in
theorem l_Types_50 : Cond.methodLink "BoxedCore$Types" 50 ⟨"java/util/Arrays", "copyOf", "([II)[I"⟩ ∈ pm_tbl := pm_c4 35 rfl rfl
set_option maxRecDepth 100000 in
theorem l_Law_7 : Cond.methodLink "BoxedCoreLaw" 7 ⟨"BoxedCore", "feed", "(IJ)I"⟩ ∈ pm_tbl := pm_c6 207 rfl rfl
set_option maxRecDepth 100000 in
theorem l_Law_15 : Cond.methodLink "BoxedCoreLaw" 15 ⟨"BoxedCore", "def", "(II)I"⟩ ∈ pm_tbl := pm_c6 218 rfl rfl
set_option maxRecDepth 100000 in
theorem l_Law_21 : Cond.methodLink "BoxedCoreLaw" 21 ⟨"BoxedCore", "argument", "(J)I"⟩ ∈ pm_tbl := pm_c7 4 rfl rfl
set_option maxRecDepth 100000 in
theorem l_Law_27 : Cond.methodLink "BoxedCoreLaw" 27 ⟨"BoxedCore", "run", "(IZI)I"⟩ ∈ pm_tbl := pm_c7 27 rfl rfl
set_option maxRecDepth 100000 in
theorem l_Law_31 : Cond.methodLink "BoxedCoreLaw" 31 ⟨"BoxedCore", "told", "(I)I"⟩ ∈ pm_tbl := pm_c8 27 rfl rfl
set_option maxRecDepth 100000 in
theorem l_Law_35 : Cond.methodLink "BoxedCoreLaw" 35 ⟨"BoxedCore", "<init>", "()V"⟩ ∈ pm_tbl := pm_c1 34 rfl rfl
set_option maxRecDepth 100000 in
theorem l_Law_38 : Cond.methodLink "BoxedCoreLaw" 38 ⟨"BoxedCoreModel", "<init>", "()V"⟩ ∈ pm_tbl := pm_c8 50 rfl rfl
set_option maxRecDepth 100000 in
theorem l_Law_41 : Cond.methodLink "BoxedCoreLaw" 41 ⟨"BoxedCoreLaw", "feed", "(LBoxedCore;IJ[J)I"⟩ ∈ pm_tbl := pm_c6 203 rfl rfl
set_option maxRecDepth 100000 in
theorem l_Law_46 : Cond.methodLink "BoxedCoreLaw" 46 ⟨"BoxedCoreModel", "feed", "(IJ)I"⟩ ∈ pm_tbl := pm_c9 182 rfl rfl
set_option maxRecDepth 100000 in
theorem l_Law_47 : Cond.methodLink "BoxedCoreLaw" 47 ⟨"BoxedCoreModel", "thrown", "()I"⟩ ∈ pm_tbl := pm_c9 178 rfl rfl
set_option maxRecDepth 100000 in
theorem l_Law_51 : Cond.methodLink "BoxedCoreLaw" 51 ⟨"BoxedCore", "wipe", "()I"⟩ ∈ pm_tbl := pm_c3 50 rfl rfl
set_option maxRecDepth 100000 in
theorem l_Law_54 : Cond.methodLink "BoxedCoreLaw" 54 ⟨"BoxedCoreModel", "wipe", "()I"⟩ ∈ pm_tbl := pm_c9 195 rfl rfl
set_option maxRecDepth 100000 in
theorem l_Law_55 : Cond.methodLink "BoxedCoreLaw" 55 ⟨"BoxedCore", "compile", "()I"⟩ ∈ pm_tbl := pm_c3 73 rfl rfl
set_option maxRecDepth 100000 in
theorem l_Law_58 : Cond.methodLink "BoxedCoreLaw" 58 ⟨"BoxedCoreModel", "compile", "()I"⟩ ∈ pm_tbl := pm_c9 199 rfl rfl
set_option maxRecDepth 100000 in
theorem l_Law_59 : Cond.methodLink "BoxedCoreLaw" 59 ⟨"BoxedCore", "place", "()I"⟩ ∈ pm_tbl := pm_c6 145 rfl rfl
set_option maxRecDepth 100000 in
theorem l_Law_62 : Cond.methodLink "BoxedCoreLaw" 62 ⟨"BoxedCoreModel", "place", "()I"⟩ ∈ pm_tbl := pm_c10 176 rfl rfl
set_option maxRecDepth 100000 in
theorem l_Law_63 : Cond.methodLink "BoxedCoreLaw" 63 ⟨"BoxedCore", "defs", "()I"⟩ ∈ pm_tbl := pm_c6 149 rfl rfl
set_option maxRecDepth 100000 in
theorem l_Law_66 : Cond.methodLink "BoxedCoreLaw" 66 ⟨"BoxedCoreModel", "defs", "()I"⟩ ∈ pm_tbl := pm_c10 180 rfl rfl
set_option maxRecDepth 100000 in
theorem l_Law_67 : Cond.methodLink "BoxedCoreLaw" 67 ⟨"BoxedCoreLaw", "def", "(LBoxedCore;II[J)I"⟩ ∈ pm_tbl := pm_c6 214 rfl rfl
set_option maxRecDepth 100000 in
theorem l_Law_70 : Cond.methodLink "BoxedCoreLaw" 70 ⟨"BoxedCoreModel", "def", "(II)I"⟩ ∈ pm_tbl := pm_c10 184 rfl rfl
set_option maxRecDepth 100000 in
theorem l_Law_71 : Cond.methodLink "BoxedCoreLaw" 71 ⟨"BoxedCoreLaw", "argument", "(LBoxedCore;J[J)I"⟩ ∈ pm_tbl := pm_c7 0 rfl rfl
set_option maxRecDepth 100000 in
theorem l_Law_74 : Cond.methodLink "BoxedCoreLaw" 74 ⟨"BoxedCoreModel", "argument", "(J)I"⟩ ∈ pm_tbl := pm_c10 195 rfl rfl
set_option maxRecDepth 100000 in
theorem l_Law_75 : Cond.methodLink "BoxedCoreLaw" 75 ⟨"BoxedCoreLaw", "run", "(LBoxedCore;IZI[J)I"⟩ ∈ pm_tbl := pm_c7 24 rfl rfl
set_option maxRecDepth 100000 in
theorem l_Law_78 : Cond.methodLink "BoxedCoreLaw" 78 ⟨"BoxedCoreModel", "run", "(IZI)I"⟩ ∈ pm_tbl := pm_c10 199 rfl rfl
set_option maxRecDepth 100000 in
theorem l_Law_79 : Cond.methodLink "BoxedCoreLaw" 79 ⟨"BoxedCoreLaw", "told", "(LBoxedCore;I[J)I"⟩ ∈ pm_tbl := pm_c8 24 rfl rfl
set_option maxRecDepth 100000 in
theorem l_Law_82 : Cond.methodLink "BoxedCoreLaw" 82 ⟨"BoxedCoreModel", "told", "(I)I"⟩ ∈ pm_tbl := pm_c11 78 rfl rfl
set_option maxRecDepth 100000 in
theorem l_Law_83 : Cond.methodLink "BoxedCoreLaw" 83 ⟨"BoxedCore", "sort", "(I)I"⟩ ∈ pm_tbl := pm_c6 153 rfl rfl
set_option maxRecDepth 100000 in
theorem l_Law_86 : Cond.methodLink "BoxedCoreLaw" 86 ⟨"BoxedCoreModel", "sort", "(I)I"⟩ ∈ pm_tbl := pm_c11 82 rfl rfl
set_option maxRecDepth 100000 in
theorem l_Law_87 : Cond.methodLink "BoxedCoreLaw" 87 ⟨"BoxedCore", "result", "(I)J"⟩ ∈ pm_tbl := pm_c6 194 rfl rfl
set_option maxRecDepth 100000 in
theorem l_Law_91 : Cond.methodLink "BoxedCoreLaw" 91 ⟨"BoxedCoreModel", "result", "(I)J"⟩ ∈ pm_tbl := pm_c11 90 rfl rfl
set_option maxRecDepth 100000 in
theorem l_Md_1 : Cond.methodLink "BoxedCoreModel" 1 ⟨"java/lang/Object", "<init>", "()V"⟩ ∈ pm_tbl := pm_c8 53 rfl rfl
set_option maxRecDepth 100000 in
theorem l_Md_243 : Cond.methodLink "BoxedCoreModel" 243 ⟨"BoxedCoreModel", "noTypes", "()V"⟩ ∈ pm_tbl := pm_c8 56 rfl rfl
set_option maxRecDepth 100000 in
theorem l_Md_262 : Cond.methodLink "BoxedCoreModel" 262 ⟨"BoxedCoreModel", "clearRun", "()V"⟩ ∈ pm_tbl := pm_c9 191 rfl rfl
set_option maxRecDepth 100000 in
theorem l_Md_270 : Cond.methodLink "BoxedCoreModel" 270 ⟨"BoxedCoreModel", "forget", "()V"⟩ ∈ pm_tbl := pm_c9 187 rfl rfl
set_option maxRecDepth 100000 in
theorem l_Md_273 : Cond.methodLink "BoxedCoreModel" 273 ⟨"BoxedCoreModel", "isDigit", "(I)Z"⟩ ∈ pm_tbl := pm_c9 218 rfl rfl
set_option maxRecDepth 100000 in
theorem l_Md_279 : Cond.methodLink "BoxedCoreModel" 279 ⟨"BoxedCoreModel", "octet", "(I)I"⟩ ∈ pm_tbl := pm_c9 207 rfl rfl
set_option maxRecDepth 100000 in
theorem l_Md_285 : Cond.methodLink "BoxedCoreModel" 285 ⟨"BoxedCoreModel", "spells", "(IIJ)Z"⟩ ∈ pm_tbl := pm_c9 226 rfl rfl
set_option maxRecDepth 100000 in
theorem l_Md_314 : Cond.methodLink "BoxedCoreModel" 314 ⟨"BoxedCoreModel", "isLetter", "(I)Z"⟩ ∈ pm_tbl := pm_c9 215 rfl rfl
set_option maxRecDepth 100000 in
theorem l_Md_317 : Cond.methodLink "BoxedCoreModel" 317 ⟨"BoxedCoreModel", "wordAt", "(II)I"⟩ ∈ pm_tbl := pm_c9 221 rfl rfl
set_option maxRecDepth 100000 in
theorem l_Md_325 : Cond.methodLink "BoxedCoreModel" 325 ⟨"BoxedCoreModel", "isHex", "(I)Z"⟩ ∈ pm_tbl := pm_c10 2 rfl rfl
set_option maxRecDepth 100000 in
theorem l_Md_328 : Cond.methodLink "BoxedCoreModel" 328 ⟨"BoxedCoreModel", "signAt", "(I)I"⟩ ∈ pm_tbl := pm_c10 5 rfl rfl
set_option maxRecDepth 100000 in
theorem l_Md_334 : Cond.methodLink "BoxedCoreModel" 334 ⟨"BoxedCoreModel", "tokenAt", "(I)I"⟩ ∈ pm_tbl := pm_c9 211 rfl rfl
set_option maxRecDepth 100000 in
theorem l_Md_337 : Cond.methodLink "BoxedCoreModel" 337 ⟨"BoxedCoreModel", "fails", "(II)Z"⟩ ∈ pm_tbl := pm_c10 9 rfl rfl
set_option maxRecDepth 100000 in
theorem l_Md_341 : Cond.methodLink "BoxedCoreModel" 341 ⟨"BoxedCoreModel", "mark", "(I)V"⟩ ∈ pm_tbl := pm_c10 161 rfl rfl
set_option maxRecDepth 100000 in
theorem l_Md_345 : Cond.methodLink "BoxedCoreModel" 345 ⟨"BoxedCoreModel", "typeOf", "(ZII)I"⟩ ∈ pm_tbl := pm_c10 57 rfl rfl
set_option maxRecDepth 100000 in
theorem l_Md_355 : Cond.methodLink "BoxedCoreModel" 355 ⟨"BoxedCoreModel", "stop", "(II)V"⟩ ∈ pm_tbl := pm_c10 21 rfl rfl
set_option maxRecDepth 100000 in
theorem l_Md_365 : Cond.methodLink "BoxedCoreModel" 365 ⟨"BoxedCoreModel", "isSame", "(II)Z"⟩ ∈ pm_tbl := pm_c10 121 rfl rfl
set_option maxRecDepth 100000 in
theorem l_Md_383 : Cond.methodLink "BoxedCoreModel" 383 ⟨"BoxedCoreModel", "later", "(III)V"⟩ ∈ pm_tbl := pm_c10 41 rfl rfl
set_option maxRecDepth 100000 in
theorem l_Md_387 : Cond.methodLink "BoxedCoreModel" 387 ⟨"BoxedCoreModel", "takeType", "()I"⟩ ∈ pm_tbl := pm_c10 53 rfl rfl
set_option maxRecDepth 100000 in
theorem l_Md_391 : Cond.methodLink "BoxedCoreModel" 391 ⟨"BoxedCoreModel", "giveType", "(I)V"⟩ ∈ pm_tbl := pm_c10 61 rfl rfl
set_option maxRecDepth 100000 in
theorem l_Md_397 : Cond.methodLink "BoxedCoreModel" 397 ⟨"BoxedCoreModel", "expect", "(I)V"⟩ ∈ pm_tbl := pm_c10 33 rfl rfl
set_option maxRecDepth 100000 in
theorem l_Md_403 : Cond.methodLink "BoxedCoreModel" 403 ⟨"BoxedCoreModel", "declare", "()I"⟩ ∈ pm_tbl := pm_c10 29 rfl rfl
set_option maxRecDepth 100000 in
theorem l_Md_406 : Cond.methodLink "BoxedCoreModel" 406 ⟨"BoxedCoreModel", "expr", "()V"⟩ ∈ pm_tbl := pm_c10 69 rfl rfl
set_option maxRecDepth 100000 in
theorem l_Md_409 : Cond.methodLink "BoxedCoreModel" 409 ⟨"BoxedCoreModel", "enter", "(II)V"⟩ ∈ pm_tbl := pm_c10 73 rfl rfl
set_option maxRecDepth 100000 in
theorem l_Md_412 : Cond.methodLink "BoxedCoreModel" 412 ⟨"BoxedCoreModel", "take", "()I"⟩ ∈ pm_tbl := pm_c10 77 rfl rfl
set_option maxRecDepth 100000 in
theorem l_Md_415 : Cond.methodLink "BoxedCoreModel" 415 ⟨"BoxedCoreModel", "node", "(IIIII)I"⟩ ∈ pm_tbl := pm_c10 81 rfl rfl
set_option maxRecDepth 100000 in
theorem l_Md_419 : Cond.methodLink "BoxedCoreModel" 419 ⟨"BoxedCoreModel", "give", "(I)V"⟩ ∈ pm_tbl := pm_c10 85 rfl rfl
set_option maxRecDepth 100000 in
theorem l_Md_422 : Cond.methodLink "BoxedCoreModel" 422 ⟨"BoxedCoreModel", "checkFnType", "(II)V"⟩ ∈ pm_tbl := pm_c10 89 rfl rfl
set_option maxRecDepth 100000 in
theorem l_Md_425 : Cond.methodLink "BoxedCoreModel" 425 ⟨"BoxedCoreModel", "sumTask", "(III)V"⟩ ∈ pm_tbl := pm_c10 105 rfl rfl
set_option maxRecDepth 100000 in
theorem l_Md_428 : Cond.methodLink "BoxedCoreModel" 428 ⟨"BoxedCoreModel", "row", "(IZ)V"⟩ ∈ pm_tbl := pm_c10 109 rfl rfl
set_option maxRecDepth 100000 in
theorem l_Md_432 : Cond.methodLink "BoxedCoreModel" 432 ⟨"BoxedCoreModel", "atom", "()V"⟩ ∈ pm_tbl := pm_c10 113 rfl rfl
set_option maxRecDepth 100000 in
theorem l_Md_435 : Cond.methodLink "BoxedCoreModel" 435 ⟨"BoxedCoreModel", "localNamed", "(I)I"⟩ ∈ pm_tbl := pm_c10 117 rfl rfl
set_option maxRecDepth 100000 in
theorem l_Md_438 : Cond.methodLink "BoxedCoreModel" 438 ⟨"BoxedCoreModel", "lettersOfParameters", "()I"⟩ ∈ pm_tbl := pm_c10 97 rfl rfl
set_option maxRecDepth 100000 in
theorem l_Md_441 : Cond.methodLink "BoxedCoreModel" 441 ⟨"BoxedCoreModel", "wrong", "(I)V"⟩ ∈ pm_tbl := pm_c10 101 rfl rfl
set_option maxRecDepth 100000 in
theorem l_Md_444 : Cond.methodLink "BoxedCoreModel" 444 ⟨"BoxedCoreModel", "checkLetters", "(I)V"⟩ ∈ pm_tbl := pm_c10 93 rfl rfl
set_option maxRecDepth 100000 in
theorem l_Md_447 : Cond.methodLink "BoxedCoreModel" 447 ⟨"BoxedCoreModel", "work", "(I)V"⟩ ∈ pm_tbl := pm_c10 45 rfl rfl
set_option maxRecDepth 100000 in
theorem l_Md_450 : Cond.methodLink "BoxedCoreModel" 450 ⟨"BoxedCoreModel", "typeTask", "(II)V"⟩ ∈ pm_tbl := pm_c10 49 rfl rfl
set_option maxRecDepth 100000 in
theorem l_Md_453 : Cond.methodLink "BoxedCoreModel" 453 ⟨"BoxedCoreModel", "exprTask", "(III)V"⟩ ∈ pm_tbl := pm_c10 65 rfl rfl
set_option maxRecDepth 100000 in
theorem l_Md_456 : Cond.methodLink "BoxedCoreModel" 456 ⟨"BoxedCoreModel", "typeText", "()I"⟩ ∈ pm_tbl := pm_c10 37 rfl rfl
set_option maxRecDepth 100000 in
theorem l_Md_459 : Cond.methodLink "BoxedCoreModel" 459 ⟨"BoxedCoreModel", "parameter", "()V"⟩ ∈ pm_tbl := pm_c10 25 rfl rfl
set_option maxRecDepth 100000 in
theorem l_Md_462 : Cond.methodLink "BoxedCoreModel" 462 ⟨"BoxedCoreModel", "define", "()V"⟩ ∈ pm_tbl := pm_c10 17 rfl rfl
set_option maxRecDepth 100000 in
theorem l_Md_468 : Cond.methodLink "BoxedCoreModel" 468 ⟨"BoxedCoreModel", "typeOne", "(I)Z"⟩ ∈ pm_tbl := pm_c10 133 rfl rfl
set_option maxRecDepth 100000 in
theorem l_Md_471 : Cond.methodLink "BoxedCoreModel" 471 ⟨"BoxedCoreModel", "untyped", "(I)Z"⟩ ∈ pm_tbl := pm_c10 145 rfl rfl
set_option maxRecDepth 100000 in
theorem l_Md_474 : Cond.methodLink "BoxedCoreModel" 474 ⟨"BoxedCoreModel", "typeName", "(I)Z"⟩ ∈ pm_tbl := pm_c10 137 rfl rfl
set_option maxRecDepth 100000 in
theorem l_Md_477 : Cond.methodLink "BoxedCoreModel" 477 ⟨"BoxedCoreModel", "typeRow", "(I)Z"⟩ ∈ pm_tbl := pm_c10 149 rfl rfl
set_option maxRecDepth 100000 in
theorem l_Md_480 : Cond.methodLink "BoxedCoreModel" 480 ⟨"BoxedCoreModel", "defNamed", "(I)I"⟩ ∈ pm_tbl := pm_c10 141 rfl rfl
set_option maxRecDepth 100000 in
theorem l_Md_483 : Cond.methodLink "BoxedCoreModel" 483 ⟨"BoxedCoreModel", "fits", "(III)Z"⟩ ∈ pm_tbl := pm_c10 153 rfl rfl
set_option maxRecDepth 100000 in
theorem l_Md_487 : Cond.methodLink "BoxedCoreModel" 487 ⟨"BoxedCoreModel", "filled", "(II)I"⟩ ∈ pm_tbl := pm_c10 157 rfl rfl
set_option maxRecDepth 100000 in
theorem l_Md_490 : Cond.methodLink "BoxedCoreModel" 490 ⟨"BoxedCoreModel", "isLetterType", "(I)Z"⟩ ∈ pm_tbl := pm_c10 169 rfl rfl
set_option maxRecDepth 100000 in
theorem l_Md_493 : Cond.methodLink "BoxedCoreModel" 493 ⟨"BoxedCoreModel", "isCall", "(I)Z"⟩ ∈ pm_tbl := pm_c10 172 rfl rfl
set_option maxRecDepth 100000 in
theorem l_Md_496 : Cond.methodLink "BoxedCoreModel" 496 ⟨"BoxedCoreModel", "scan", "()Z"⟩ ∈ pm_tbl := pm_c9 203 rfl rfl
set_option maxRecDepth 100000 in
theorem l_Md_500 : Cond.methodLink "BoxedCoreModel" 500 ⟨"BoxedCoreModel", "readAll", "()Z"⟩ ∈ pm_tbl := pm_c10 13 rfl rfl
set_option maxRecDepth 100000 in
theorem l_Md_503 : Cond.methodLink "BoxedCoreModel" 503 ⟨"BoxedCoreModel", "names", "()Z"⟩ ∈ pm_tbl := pm_c10 125 rfl rfl
set_option maxRecDepth 100000 in
theorem l_Md_506 : Cond.methodLink "BoxedCoreModel" 506 ⟨"BoxedCoreModel", "typeAll", "()Z"⟩ ∈ pm_tbl := pm_c10 129 rfl rfl
set_option maxRecDepth 100000 in
theorem l_Md_509 : Cond.methodLink "BoxedCoreModel" 509 ⟨"BoxedCoreModel", "shorten", "()V"⟩ ∈ pm_tbl := pm_c10 165 rfl rfl
set_option maxRecDepth 100000 in
theorem l_Md_512 : Cond.methodLink "BoxedCoreModel" 512 ⟨"BoxedCoreModel", "noDef", "(I)Z"⟩ ∈ pm_tbl := pm_c10 188 rfl rfl
set_option maxRecDepth 100000 in
theorem l_Md_515 : Cond.methodLink "BoxedCoreModel" 515 ⟨"BoxedCoreModel", "bits", "(I)I"⟩ ∈ pm_tbl := pm_c10 192 rfl rfl
set_option maxRecDepth 100000 in
theorem l_Md_560 : Cond.methodLink "BoxedCoreModel" 560 ⟨"BoxedCoreModel", "make", "()I"⟩ ∈ pm_tbl := pm_c11 2 rfl rfl
set_option maxRecDepth 100000 in
theorem l_Md_575 : Cond.methodLink "BoxedCoreModel" 575 ⟨"BoxedCoreModel", "answer", "(IJ)V"⟩ ∈ pm_tbl := pm_c11 6 rfl rfl
set_option maxRecDepth 100000 in
theorem l_Md_579 : Cond.methodLink "BoxedCoreModel" 579 ⟨"BoxedCoreModel", "boxOne", "(ZIJ)V"⟩ ∈ pm_tbl := pm_c11 14 rfl rfl
set_option maxRecDepth 100000 in
theorem l_Md_583 : Cond.methodLink "BoxedCoreModel" 583 ⟨"BoxedCoreModel", "ask", "(IIIIJ)V"⟩ ∈ pm_tbl := pm_c10 234 rfl rfl
set_option maxRecDepth 100000 in
theorem l_Md_587 : Cond.methodLink "BoxedCoreModel" 587 ⟨"BoxedCoreModel", "coverOf", "(IIIIJ)V"⟩ ∈ pm_tbl := pm_c11 18 rfl rfl
set_option maxRecDepth 100000 in
theorem l_Md_590 : Cond.methodLink "BoxedCoreModel" 590 ⟨"BoxedCoreModel", "makePair", "(IJIJ)V"⟩ ∈ pm_tbl := pm_c10 238 rfl rfl
set_option maxRecDepth 100000 in
theorem l_Md_594 : Cond.methodLink "BoxedCoreModel" 594 ⟨"BoxedCoreModel", "convertOne", "(IIIIJ)V"⟩ ∈ pm_tbl := pm_c11 10 rfl rfl
set_option maxRecDepth 100000 in
theorem l_Md_597 : Cond.methodLink "BoxedCoreModel" 597 ⟨"BoxedCoreModel", "mayDeep", "()Z"⟩ ∈ pm_tbl := pm_c10 211 rfl rfl
set_option maxRecDepth 100000 in
theorem l_Md_603 : Cond.methodLink "BoxedCoreModel" 603 ⟨"BoxedCoreModel", "push", "(ZII)V"⟩ ∈ pm_tbl := pm_c10 215 rfl rfl
set_option maxRecDepth 100000 in
theorem l_Md_613 : Cond.methodLink "BoxedCoreModel" 613 ⟨"BoxedCoreModel", "homeOf", "(I)I"⟩ ∈ pm_tbl := pm_c11 26 rfl rfl
set_option maxRecDepth 100000 in
theorem l_Md_616 : Cond.methodLink "BoxedCoreModel" 616 ⟨"BoxedCoreModel", "locals0", "(I)I"⟩ ∈ pm_tbl := pm_c10 203 rfl rfl
set_option maxRecDepth 100000 in
theorem l_Md_619 : Cond.methodLink "BoxedCoreModel" 619 ⟨"BoxedCoreModel", "begin", "(II)V"⟩ ∈ pm_tbl := pm_c10 207 rfl rfl
set_option maxRecDepth 100000 in
theorem l_Md_622 : Cond.methodLink "BoxedCoreModel" 622 ⟨"BoxedCoreModel", "otherWay", "(I)I"⟩ ∈ pm_tbl := pm_c10 227 rfl rfl
set_option maxRecDepth 100000 in
theorem l_Md_625 : Cond.methodLink "BoxedCoreModel" 625 ⟨"BoxedCoreModel", "convert", "(III)V"⟩ ∈ pm_tbl := pm_c10 230 rfl rfl
set_option maxRecDepth 100000 in
theorem l_Md_628 : Cond.methodLink "BoxedCoreModel" 628 ⟨"BoxedCoreModel", "callFunction", "(I)V"⟩ ∈ pm_tbl := pm_c11 22 rfl rfl
set_option maxRecDepth 100000 in
theorem l_Md_631 : Cond.methodLink "BoxedCoreModel" 631 ⟨"BoxedCoreModel", "finish", "(IJ)V"⟩ ∈ pm_tbl := pm_c11 30 rfl rfl
set_option maxRecDepth 100000 in
theorem l_Md_634 : Cond.methodLink "BoxedCoreModel" 634 ⟨"BoxedCoreModel", "atomAt", "(II)I"⟩ ∈ pm_tbl := pm_c11 50 rfl rfl
set_option maxRecDepth 100000 in
theorem l_Md_640 : Cond.methodLink "BoxedCoreModel" 640 ⟨"BoxedCoreModel", "keepAtom", "(III)V"⟩ ∈ pm_tbl := pm_c11 46 rfl rfl
set_option maxRecDepth 100000 in
theorem l_Md_643 : Cond.methodLink "BoxedCoreModel" 643 ⟨"BoxedCoreModel", "callDef", "(III)V"⟩ ∈ pm_tbl := pm_c11 38 rfl rfl
set_option maxRecDepth 100000 in
theorem l_Md_646 : Cond.methodLink "BoxedCoreModel" 646 ⟨"BoxedCoreModel", "resultOf", "(II)V"⟩ ∈ pm_tbl := pm_c11 54 rfl rfl
set_option maxRecDepth 100000 in
theorem l_Md_649 : Cond.methodLink "BoxedCoreModel" 649 ⟨"BoxedCoreModel", "goOn", "(III)V"⟩ ∈ pm_tbl := pm_c11 58 rfl rfl
set_option maxRecDepth 100000 in
theorem l_Md_652 : Cond.methodLink "BoxedCoreModel" 652 ⟨"BoxedCoreModel", "workCover", "(I)V"⟩ ∈ pm_tbl := pm_c10 223 rfl rfl
set_option maxRecDepth 100000 in
theorem l_Md_655 : Cond.methodLink "BoxedCoreModel" 655 ⟨"BoxedCoreModel", "workName", "(II)V"⟩ ∈ pm_tbl := pm_c11 34 rfl rfl
set_option maxRecDepth 100000 in
theorem l_Md_658 : Cond.methodLink "BoxedCoreModel" 658 ⟨"BoxedCoreModel", "workRow", "(II)V"⟩ ∈ pm_tbl := pm_c11 42 rfl rfl
set_option maxRecDepth 100000 in
theorem l_Md_661 : Cond.methodLink "BoxedCoreModel" 661 ⟨"BoxedCoreModel", "workChoice", "(II)V"⟩ ∈ pm_tbl := pm_c11 62 rfl rfl
set_option maxRecDepth 100000 in
theorem l_Md_664 : Cond.methodLink "BoxedCoreModel" 664 ⟨"BoxedCoreModel", "workHalf", "(II)V"⟩ ∈ pm_tbl := pm_c11 66 rfl rfl
set_option maxRecDepth 100000 in
theorem l_Md_667 : Cond.methodLink "BoxedCoreModel" 667 ⟨"BoxedCoreModel", "workFunction", "(II)V"⟩ ∈ pm_tbl := pm_c11 70 rfl rfl
set_option maxRecDepth 100000 in
theorem l_Md_670 : Cond.methodLink "BoxedCoreModel" 670 ⟨"BoxedCoreModel", "workTwo", "(II)V"⟩ ∈ pm_tbl := pm_c11 74 rfl rfl
set_option maxRecDepth 100000 in
theorem l_Md_673 : Cond.methodLink "BoxedCoreModel" 673 ⟨"BoxedCoreModel", "go", "()V"⟩ ∈ pm_tbl := pm_c10 219 rfl rfl
set_option maxRecDepth 100000 in
theorem l_Md_676 : Cond.methodLink "BoxedCoreModel" 676 ⟨"BoxedCoreModel", "reach", "(I)Z"⟩ ∈ pm_tbl := pm_c11 86 rfl rfl
set_option maxRecDepth 100000 in
theorem l_AbstractStringBuilder_108 : Cond.methodLink "java/lang/AbstractStringBuilder" 108 ⟨"java/util/Arrays", "copyOf", "([BI)[B"⟩ ∈ pm_tbl := pm_c4 196 rfl rfl
set_option maxRecDepth 100000 in
theorem l_Arrays_13 : Cond.methodLink "java/util/Arrays" 13 ⟨"java/util/Arrays", "rangeCheck", "(III)V"⟩ ∈ pm_tbl := pm_c4 92 rfl rfl
set_option maxRecDepth 100000 in
theorem l_Arrays_304 : Cond.methodLink "java/util/Arrays" 304 ⟨"java/lang/Math", "min", "(II)I"⟩ ∈ pm_tbl := pm_c4 45 rfl rfl
set_option maxRecDepth 100000 in
theorem l_ArraysSupport_194 : Cond.methodLink "jdk/internal/util/ArraysSupport" 194 ⟨"java/lang/Math", "max", "(II)I"⟩ ∈ pm_tbl := pm_c4 190 rfl rfl
