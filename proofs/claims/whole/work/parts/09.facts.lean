/-! callees: their words; links -/
set_option maxRecDepth 100000 in
theorem k_BC_init : pm_kI m_BC_init 0 := ⟨⟨pm_ix 1 (by decide +kernel) rfl, pm_ix 36 (by decide +kernel) rfl, by decide, by decide, by decide +kernel, by decide⟩, pm_ix 35 (by decide +kernel) rfl, rfl⟩
set_option maxRecDepth 100000 in
theorem k_BC_feed : pm_kV m_BC_feed 0 2 := ⟨⟨pm_ix 1 (by decide +kernel) rfl, pm_ix 1410 (by decide +kernel) rfl, by decide, by decide, by decide +kernel, by decide⟩, pm_ix 1408 (by decide +kernel) rfl, pm_ix 1409 (by decide +kernel) rfl, by decide, by decide +kernel⟩
set_option maxRecDepth 100000 in
theorem k_BC_wipe : pm_kV m_BC_wipe 0 0 := ⟨⟨pm_ix 1 (by decide +kernel) rfl, pm_ix 533 (by decide +kernel) rfl, by decide, by decide, by decide +kernel, by decide⟩, pm_ix 531 (by decide +kernel) rfl, pm_ix 532 (by decide +kernel) rfl, by decide, by decide +kernel⟩
set_option maxRecDepth 100000 in
theorem k_BC_compile : pm_kV m_BC_compile 0 0 := ⟨⟨pm_ix 1 (by decide +kernel) rfl, pm_ix 556 (by decide +kernel) rfl, by decide, by decide, by decide +kernel, by decide⟩, pm_ix 554 (by decide +kernel) rfl, pm_ix 555 (by decide +kernel) rfl, by decide, by decide +kernel⟩
set_option maxRecDepth 100000 in
theorem k_BC_place : pm_kV m_BC_place 0 0 := ⟨⟨pm_ix 1 (by decide +kernel) rfl, pm_ix 1348 (by decide +kernel) rfl, by decide, by decide, by decide +kernel, by decide⟩, pm_ix 1346 (by decide +kernel) rfl, pm_ix 1347 (by decide +kernel) rfl, by decide, by decide +kernel⟩
set_option maxRecDepth 100000 in
theorem k_BC_defs : pm_kV m_BC_defs 0 0 := ⟨⟨pm_ix 1 (by decide +kernel) rfl, pm_ix 1352 (by decide +kernel) rfl, by decide, by decide, by decide +kernel, by decide⟩, pm_ix 1350 (by decide +kernel) rfl, pm_ix 1351 (by decide +kernel) rfl, by decide, by decide +kernel⟩
set_option maxRecDepth 100000 in
theorem k_BC_def : pm_kV m_BC_def 0 2 := ⟨⟨pm_ix 1 (by decide +kernel) rfl, pm_ix 1421 (by decide +kernel) rfl, by decide, by decide, by decide +kernel, by decide⟩, pm_ix 1419 (by decide +kernel) rfl, pm_ix 1420 (by decide +kernel) rfl, by decide, by decide +kernel⟩
set_option maxRecDepth 100000 in
theorem k_BC_argument : pm_kV m_BC_argument 0 1 := ⟨⟨pm_ix 1 (by decide +kernel) rfl, pm_ix 1447 (by decide +kernel) rfl, by decide, by decide, by decide +kernel, by decide⟩, pm_ix 1445 (by decide +kernel) rfl, pm_ix 1446 (by decide +kernel) rfl, by decide, by decide +kernel⟩
set_option maxRecDepth 100000 in
theorem k_BC_run : pm_kV m_BC_run 0 3 := ⟨⟨pm_ix 1 (by decide +kernel) rfl, pm_ix 1470 (by decide +kernel) rfl, by decide, by decide, by decide +kernel, by decide⟩, pm_ix 1468 (by decide +kernel) rfl, pm_ix 1469 (by decide +kernel) rfl, by decide, by decide +kernel⟩
set_option maxRecDepth 100000 in
theorem k_BC_told : pm_kV m_BC_told 0 1 := ⟨⟨pm_ix 1 (by decide +kernel) rfl, pm_ix 1710 (by decide +kernel) rfl, by decide, by decide, by decide +kernel, by decide⟩, pm_ix 1708 (by decide +kernel) rfl, pm_ix 1709 (by decide +kernel) rfl, by decide, by decide +kernel⟩
set_option maxRecDepth 100000 in
theorem k_BC_sort : pm_kV m_BC_sort 0 1 := ⟨⟨pm_ix 1 (by decide +kernel) rfl, pm_ix 1356 (by decide +kernel) rfl, by decide, by decide, by decide +kernel, by decide⟩, pm_ix 1354 (by decide +kernel) rfl, pm_ix 1355 (by decide +kernel) rfl, by decide, by decide +kernel⟩
set_option maxRecDepth 100000 in
theorem k_BC_result : pm_kV m_BC_result 0 1 := ⟨⟨pm_ix 1 (by decide +kernel) rfl, pm_ix 1397 (by decide +kernel) rfl, by decide, by decide, by decide +kernel, by decide⟩, pm_ix 1395 (by decide +kernel) rfl, pm_ix 1396 (by decide +kernel) rfl, by decide, by decide +kernel⟩
set_option maxRecDepth 100000 in
theorem k_BC_forget : pm_kV m_BC_forget 0 0 := ⟨⟨pm_ix 1 (by decide +kernel) rfl, pm_ix 537 (by decide +kernel) rfl, by decide, by decide, by decide +kernel, by decide⟩, pm_ix 536 (by decide +kernel) rfl, pm_is 0 (by decide +kernel) rfl, by decide, by decide +kernel⟩
set_option maxRecDepth 100000 in
theorem k_BC_takesArguments : pm_kV m_BC_takesArguments 0 1 := ⟨⟨pm_ix 1 (by decide +kernel) rfl, pm_ix 1475 (by decide +kernel) rfl, by decide, by decide, by decide +kernel, by decide⟩, pm_ix 1474 (by decide +kernel) rfl, pm_is 54 (by decide +kernel) rfl, by decide, by decide +kernel⟩
set_option maxRecDepth 100000 in
theorem k_Md_init : pm_kI m_Md_init 0 := ⟨⟨pm_ix 18 (by decide +kernel) rfl, pm_ix 1732 (by decide +kernel) rfl, by decide, by decide, by decide +kernel, by decide⟩, pm_ix 1731 (by decide +kernel) rfl, rfl⟩
set_option maxRecDepth 100000 in
theorem k_Md_thrown : pm_kV m_Md_thrown 12 0 := ⟨⟨pm_ix 18 (by decide +kernel) rfl, pm_ix 2101 (by decide +kernel) rfl, by decide, by decide, by decide +kernel, by decide⟩, pm_ix 2099 (by decide +kernel) rfl, pm_ix 2100 (by decide +kernel) rfl, by decide, by decide +kernel⟩
set_option maxRecDepth 100000 in
theorem k_Md_forget : pm_kV m_Md_forget 12 0 := ⟨⟨pm_ix 18 (by decide +kernel) rfl, pm_ix 2110 (by decide +kernel) rfl, by decide, by decide, by decide +kernel, by decide⟩, pm_ix 2109 (by decide +kernel) rfl, pm_is 82 (by decide +kernel) rfl, by decide, by decide +kernel⟩
set_option maxRecDepth 100000 in
theorem k_Md_feed : pm_kV m_Md_feed 12 2 := ⟨⟨pm_ix 18 (by decide +kernel) rfl, pm_ix 2105 (by decide +kernel) rfl, by decide, by decide, by decide +kernel, by decide⟩, pm_ix 2103 (by decide +kernel) rfl, pm_ix 2104 (by decide +kernel) rfl, by decide, by decide +kernel⟩
set_option maxRecDepth 100000 in
theorem k_Md_wipe : pm_kV m_Md_wipe 12 0 := ⟨⟨pm_ix 18 (by decide +kernel) rfl, pm_ix 2118 (by decide +kernel) rfl, by decide, by decide, by decide +kernel, by decide⟩, pm_ix 2116 (by decide +kernel) rfl, pm_ix 2117 (by decide +kernel) rfl, by decide, by decide +kernel⟩
set_option maxRecDepth 100000 in
theorem k_Md_fails : pm_kV m_Md_fails 12 2 := ⟨⟨pm_ix 18 (by decide +kernel) rfl, pm_ix 2172 (by decide +kernel) rfl, by decide, by decide, by decide +kernel, by decide⟩, pm_ix 2171 (by decide +kernel) rfl, pm_is 90 (by decide +kernel) rfl, by decide, by decide +kernel⟩
set_option maxRecDepth 100000 in
theorem k_Md_isLetter : pm_kS m_Md_isLetter 1 := ⟨⟨pm_ix 18 (by decide +kernel) rfl, pm_ix 2137 (by decide +kernel) rfl, by decide, by decide, by decide +kernel, by decide⟩, pm_ix 2136 (by decide +kernel) rfl⟩
set_option maxRecDepth 100000 in
theorem k_Md_isDigit : pm_kS m_Md_isDigit 1 := ⟨⟨pm_ix 18 (by decide +kernel) rfl, pm_ix 2140 (by decide +kernel) rfl, by decide, by decide, by decide +kernel, by decide⟩, pm_ix 2139 (by decide +kernel) rfl⟩
set_option maxRecDepth 100000 in
theorem k_Md_isHex : pm_kS m_Md_isHex 1 := ⟨⟨pm_ix 18 (by decide +kernel) rfl, pm_ix 2164 (by decide +kernel) rfl, by decide, by decide, by decide +kernel, by decide⟩, pm_ix 2163 (by decide +kernel) rfl⟩
set_option maxRecDepth 100000 in
theorem k_Md_octet : pm_kV m_Md_octet 12 1 := ⟨⟨pm_ix 18 (by decide +kernel) rfl, pm_ix 2130 (by decide +kernel) rfl, by decide, by decide, by decide +kernel, by decide⟩, pm_ix 2129 (by decide +kernel) rfl, pm_is 85 (by decide +kernel) rfl, by decide, by decide +kernel⟩
set_option maxRecDepth 100000 in
theorem k_Md_spells : pm_kV m_Md_spells 12 3 := ⟨⟨pm_ix 18 (by decide +kernel) rfl, pm_ix 2149 (by decide +kernel) rfl, by decide, by decide, by decide +kernel, by decide⟩, pm_ix 2148 (by decide +kernel) rfl, pm_is 88 (by decide +kernel) rfl, by decide, by decide +kernel⟩
set_option maxRecDepth 100000 in
theorem k_Md_wordAt : pm_kV m_Md_wordAt 12 2 := ⟨⟨pm_ix 18 (by decide +kernel) rfl, pm_ix 2144 (by decide +kernel) rfl, by decide, by decide, by decide +kernel, by decide⟩, pm_ix 2143 (by decide +kernel) rfl, pm_is 87 (by decide +kernel) rfl, by decide, by decide +kernel⟩
set_option maxRecDepth 100000 in
theorem k_Md_signAt : pm_kV m_Md_signAt 12 1 := ⟨⟨pm_ix 18 (by decide +kernel) rfl, pm_ix 2168 (by decide +kernel) rfl, by decide, by decide, by decide +kernel, by decide⟩, pm_ix 2167 (by decide +kernel) rfl, pm_is 89 (by decide +kernel) rfl, by decide, by decide +kernel⟩
set_option maxRecDepth 100000 in
theorem k_Md_tokenAt : pm_kV m_Md_tokenAt 12 1 := ⟨⟨pm_ix 18 (by decide +kernel) rfl, pm_ix 2134 (by decide +kernel) rfl, by decide, by decide, by decide +kernel, by decide⟩, pm_ix 2133 (by decide +kernel) rfl, pm_is 86 (by decide +kernel) rfl, by decide, by decide +kernel⟩
set_option maxRecDepth 100000 in
theorem k_Md_scan : pm_kV m_Md_scan 12 0 := ⟨⟨pm_ix 18 (by decide +kernel) rfl, pm_ix 2126 (by decide +kernel) rfl, by decide, by decide, by decide +kernel, by decide⟩, pm_ix 2125 (by decide +kernel) rfl, pm_is 84 (by decide +kernel) rfl, by decide, by decide +kernel⟩
set_option maxRecDepth 100000 in
theorem k_Md_isSame : pm_kV m_Md_isSame 12 2 := ⟨⟨pm_ix 18 (by decide +kernel) rfl, pm_ix 2284 (by decide +kernel) rfl, by decide, by decide, by decide +kernel, by decide⟩, pm_ix 2283 (by decide +kernel) rfl, pm_is 118 (by decide +kernel) rfl, by decide, by decide +kernel⟩
set_option maxRecDepth 100000 in
theorem k_Md_noTypes : pm_kV m_Md_noTypes 12 0 := ⟨⟨pm_ix 18 (by decide +kernel) rfl, pm_ix 1739 (by decide +kernel) rfl, by decide, by decide, by decide +kernel, by decide⟩, pm_ix 1738 (by decide +kernel) rfl, pm_is 81 (by decide +kernel) rfl, by decide, by decide +kernel⟩
set_option maxRecDepth 100000 in
theorem k_Md_typeOf : pm_kV m_Md_typeOf 12 3 := ⟨⟨pm_ix 18 (by decide +kernel) rfl, pm_ix 2220 (by decide +kernel) rfl, by decide, by decide, by decide +kernel, by decide⟩, pm_ix 2219 (by decide +kernel) rfl, pm_is 102 (by decide +kernel) rfl, by decide, by decide +kernel⟩
set_option maxRecDepth 100000 in
theorem k_Md_filled : pm_kV m_Md_filled 12 2 := ⟨⟨pm_ix 18 (by decide +kernel) rfl, pm_ix 2320 (by decide +kernel) rfl, by decide, by decide, by decide +kernel, by decide⟩, pm_ix 2319 (by decide +kernel) rfl, pm_is 127 (by decide +kernel) rfl, by decide, by decide +kernel⟩
set_option maxRecDepth 100000 in
theorem k_Md_mark : pm_kV m_Md_mark 12 1 := ⟨⟨pm_ix 18 (by decide +kernel) rfl, pm_ix 2324 (by decide +kernel) rfl, by decide, by decide, by decide +kernel, by decide⟩, pm_ix 2323 (by decide +kernel) rfl, pm_is 128 (by decide +kernel) rfl, by decide, by decide +kernel⟩
set_option maxRecDepth 100000 in
theorem k_Md_fits : pm_kV m_Md_fits 12 3 := ⟨⟨pm_ix 18 (by decide +kernel) rfl, pm_ix 2316 (by decide +kernel) rfl, by decide, by decide, by decide +kernel, by decide⟩, pm_ix 2315 (by decide +kernel) rfl, pm_is 126 (by decide +kernel) rfl, by decide, by decide +kernel⟩
set_option maxRecDepth 100000 in
theorem k_Md_stop : pm_kV m_Md_stop 12 2 := ⟨⟨pm_ix 18 (by decide +kernel) rfl, pm_ix 2184 (by decide +kernel) rfl, by decide, by decide, by decide +kernel, by decide⟩, pm_ix 2183 (by decide +kernel) rfl, pm_is 93 (by decide +kernel) rfl, by decide, by decide +kernel⟩
set_option maxRecDepth 100000 in
theorem k_Md_expect : pm_kV m_Md_expect 12 1 := ⟨⟨pm_ix 18 (by decide +kernel) rfl, pm_ix 2196 (by decide +kernel) rfl, by decide, by decide, by decide +kernel, by decide⟩, pm_ix 2195 (by decide +kernel) rfl, pm_is 96 (by decide +kernel) rfl, by decide, by decide +kernel⟩
set_option maxRecDepth 100000 in
theorem k_Md_declare : pm_kV m_Md_declare 12 0 := ⟨⟨pm_ix 18 (by decide +kernel) rfl, pm_ix 2192 (by decide +kernel) rfl, by decide, by decide, by decide +kernel, by decide⟩, pm_ix 2191 (by decide +kernel) rfl, pm_is 95 (by decide +kernel) rfl, by decide, by decide +kernel⟩
set_option maxRecDepth 100000 in
theorem k_Md_enter : pm_kV m_Md_enter 12 2 := ⟨⟨pm_ix 18 (by decide +kernel) rfl, pm_ix 2236 (by decide +kernel) rfl, by decide, by decide, by decide +kernel, by decide⟩, pm_ix 2235 (by decide +kernel) rfl, pm_is 106 (by decide +kernel) rfl, by decide, by decide +kernel⟩
set_option maxRecDepth 100000 in
theorem k_Md_localNamed : pm_kV m_Md_localNamed 12 1 := ⟨⟨pm_ix 18 (by decide +kernel) rfl, pm_ix 2280 (by decide +kernel) rfl, by decide, by decide, by decide +kernel, by decide⟩, pm_ix 2279 (by decide +kernel) rfl, pm_is 117 (by decide +kernel) rfl, by decide, by decide +kernel⟩
set_option maxRecDepth 100000 in
theorem k_Md_later : pm_kV m_Md_later 12 3 := ⟨⟨pm_ix 18 (by decide +kernel) rfl, pm_ix 2204 (by decide +kernel) rfl, by decide, by decide, by decide +kernel, by decide⟩, pm_ix 2203 (by decide +kernel) rfl, pm_is 98 (by decide +kernel) rfl, by decide, by decide +kernel⟩
set_option maxRecDepth 100000 in
theorem k_Md_take : pm_kV m_Md_take 12 0 := ⟨⟨pm_ix 18 (by decide +kernel) rfl, pm_ix 2240 (by decide +kernel) rfl, by decide, by decide, by decide +kernel, by decide⟩, pm_ix 2239 (by decide +kernel) rfl, pm_is 107 (by decide +kernel) rfl, by decide, by decide +kernel⟩
set_option maxRecDepth 100000 in
theorem k_Md_give : pm_kV m_Md_give 12 1 := ⟨⟨pm_ix 18 (by decide +kernel) rfl, pm_ix 2248 (by decide +kernel) rfl, by decide, by decide, by decide +kernel, by decide⟩, pm_ix 2247 (by decide +kernel) rfl, pm_is 109 (by decide +kernel) rfl, by decide, by decide +kernel⟩
set_option maxRecDepth 100000 in
theorem k_Md_takeType : pm_kV m_Md_takeType 12 0 := ⟨⟨pm_ix 18 (by decide +kernel) rfl, pm_ix 2216 (by decide +kernel) rfl, by decide, by decide, by decide +kernel, by decide⟩, pm_ix 2215 (by decide +kernel) rfl, pm_is 101 (by decide +kernel) rfl, by decide, by decide +kernel⟩
set_option maxRecDepth 100000 in
theorem k_Md_giveType : pm_kV m_Md_giveType 12 1 := ⟨⟨pm_ix 18 (by decide +kernel) rfl, pm_ix 2224 (by decide +kernel) rfl, by decide, by decide, by decide +kernel, by decide⟩, pm_ix 2223 (by decide +kernel) rfl, pm_is 103 (by decide +kernel) rfl, by decide, by decide +kernel⟩
set_option maxRecDepth 100000 in
theorem k_Md_node : pm_kV m_Md_node 12 5 := ⟨⟨pm_ix 18 (by decide +kernel) rfl, pm_ix 2244 (by decide +kernel) rfl, by decide, by decide, by decide +kernel, by decide⟩, pm_ix 2243 (by decide +kernel) rfl, pm_is 108 (by decide +kernel) rfl, by decide, by decide +kernel⟩
set_option maxRecDepth 100000 in
theorem k_Md_typeTask : pm_kV m_Md_typeTask 12 2 := ⟨⟨pm_ix 18 (by decide +kernel) rfl, pm_ix 2212 (by decide +kernel) rfl, by decide, by decide, by decide +kernel, by decide⟩, pm_ix 2211 (by decide +kernel) rfl, pm_is 100 (by decide +kernel) rfl, by decide, by decide +kernel⟩
set_option maxRecDepth 100000 in
theorem k_Md_expr : pm_kV m_Md_expr 12 0 := ⟨⟨pm_ix 18 (by decide +kernel) rfl, pm_ix 2232 (by decide +kernel) rfl, by decide, by decide, by decide +kernel, by decide⟩, pm_ix 2231 (by decide +kernel) rfl, pm_is 105 (by decide +kernel) rfl, by decide, by decide +kernel⟩
set_option maxRecDepth 100000 in
theorem k_Md_exprTask : pm_kV m_Md_exprTask 12 3 := ⟨⟨pm_ix 18 (by decide +kernel) rfl, pm_ix 2228 (by decide +kernel) rfl, by decide, by decide, by decide +kernel, by decide⟩, pm_ix 2227 (by decide +kernel) rfl, pm_is 104 (by decide +kernel) rfl, by decide, by decide +kernel⟩
set_option maxRecDepth 100000 in
theorem k_Md_sumTask : pm_kV m_Md_sumTask 12 3 := ⟨⟨pm_ix 18 (by decide +kernel) rfl, pm_ix 2268 (by decide +kernel) rfl, by decide, by decide, by decide +kernel, by decide⟩, pm_ix 2267 (by decide +kernel) rfl, pm_is 114 (by decide +kernel) rfl, by decide, by decide +kernel⟩
set_option maxRecDepth 100000 in
theorem k_Md_atom : pm_kV m_Md_atom 12 0 := ⟨⟨pm_ix 18 (by decide +kernel) rfl, pm_ix 2276 (by decide +kernel) rfl, by decide, by decide, by decide +kernel, by decide⟩, pm_ix 2275 (by decide +kernel) rfl, pm_is 116 (by decide +kernel) rfl, by decide, by decide +kernel⟩
set_option maxRecDepth 100000 in
theorem k_Md_row : pm_kV m_Md_row 12 2 := ⟨⟨pm_ix 18 (by decide +kernel) rfl, pm_ix 2272 (by decide +kernel) rfl, by decide, by decide, by decide +kernel, by decide⟩, pm_ix 2271 (by decide +kernel) rfl, pm_is 115 (by decide +kernel) rfl, by decide, by decide +kernel⟩
set_option maxRecDepth 100000 in
theorem k_Md_wrong : pm_kV m_Md_wrong 12 1 := ⟨⟨pm_ix 18 (by decide +kernel) rfl, pm_ix 2264 (by decide +kernel) rfl, by decide, by decide, by decide +kernel, by decide⟩, pm_ix 2263 (by decide +kernel) rfl, pm_is 113 (by decide +kernel) rfl, by decide, by decide +kernel⟩
set_option maxRecDepth 100000 in
theorem k_Md_lettersOfParameters : pm_kV m_Md_lettersOfParameters 12 0 := ⟨⟨pm_ix 18 (by decide +kernel) rfl, pm_ix 2260 (by decide +kernel) rfl, by decide, by decide, by decide +kernel, by decide⟩, pm_ix 2259 (by decide +kernel) rfl, pm_is 112 (by decide +kernel) rfl, by decide, by decide +kernel⟩
set_option maxRecDepth 100000 in
theorem k_Md_checkLetters : pm_kV m_Md_checkLetters 12 1 := ⟨⟨pm_ix 18 (by decide +kernel) rfl, pm_ix 2256 (by decide +kernel) rfl, by decide, by decide, by decide +kernel, by decide⟩, pm_ix 2255 (by decide +kernel) rfl, pm_is 111 (by decide +kernel) rfl, by decide, by decide +kernel⟩
set_option maxRecDepth 100000 in
theorem k_Md_checkFnType : pm_kV m_Md_checkFnType 12 2 := ⟨⟨pm_ix 18 (by decide +kernel) rfl, pm_ix 2252 (by decide +kernel) rfl, by decide, by decide, by decide +kernel, by decide⟩, pm_ix 2251 (by decide +kernel) rfl, pm_is 110 (by decide +kernel) rfl, by decide, by decide +kernel⟩
set_option maxRecDepth 100000 in
theorem k_Md_typeText : pm_kV m_Md_typeText 12 0 := ⟨⟨pm_ix 18 (by decide +kernel) rfl, pm_ix 2200 (by decide +kernel) rfl, by decide, by decide, by decide +kernel, by decide⟩, pm_ix 2199 (by decide +kernel) rfl, pm_is 97 (by decide +kernel) rfl, by decide, by decide +kernel⟩
set_option maxRecDepth 100000 in
theorem k_Md_work : pm_kV m_Md_work 12 1 := ⟨⟨pm_ix 18 (by decide +kernel) rfl, pm_ix 2208 (by decide +kernel) rfl, by decide, by decide, by decide +kernel, by decide⟩, pm_ix 2207 (by decide +kernel) rfl, pm_is 99 (by decide +kernel) rfl, by decide, by decide +kernel⟩
set_option maxRecDepth 100000 in
theorem k_Md_parameter : pm_kV m_Md_parameter 12 0 := ⟨⟨pm_ix 18 (by decide +kernel) rfl, pm_ix 2188 (by decide +kernel) rfl, by decide, by decide, by decide +kernel, by decide⟩, pm_ix 2187 (by decide +kernel) rfl, pm_is 94 (by decide +kernel) rfl, by decide, by decide +kernel⟩
set_option maxRecDepth 100000 in
theorem k_Md_define : pm_kV m_Md_define 12 0 := ⟨⟨pm_ix 18 (by decide +kernel) rfl, pm_ix 2180 (by decide +kernel) rfl, by decide, by decide, by decide +kernel, by decide⟩, pm_ix 2179 (by decide +kernel) rfl, pm_is 92 (by decide +kernel) rfl, by decide, by decide +kernel⟩
set_option maxRecDepth 100000 in
theorem k_Md_readAll : pm_kV m_Md_readAll 12 0 := ⟨⟨pm_ix 18 (by decide +kernel) rfl, pm_ix 2176 (by decide +kernel) rfl, by decide, by decide, by decide +kernel, by decide⟩, pm_ix 2175 (by decide +kernel) rfl, pm_is 91 (by decide +kernel) rfl, by decide, by decide +kernel⟩
set_option maxRecDepth 100000 in
theorem k_Md_names : pm_kV m_Md_names 12 0 := ⟨⟨pm_ix 18 (by decide +kernel) rfl, pm_ix 2288 (by decide +kernel) rfl, by decide, by decide, by decide +kernel, by decide⟩, pm_ix 2287 (by decide +kernel) rfl, pm_is 119 (by decide +kernel) rfl, by decide, by decide +kernel⟩
set_option maxRecDepth 100000 in
theorem k_Md_defNamed : pm_kV m_Md_defNamed 12 1 := ⟨⟨pm_ix 18 (by decide +kernel) rfl, pm_ix 2304 (by decide +kernel) rfl, by decide, by decide, by decide +kernel, by decide⟩, pm_ix 2303 (by decide +kernel) rfl, pm_is 123 (by decide +kernel) rfl, by decide, by decide +kernel⟩
set_option maxRecDepth 100000 in
theorem k_Md_typeAll : pm_kV m_Md_typeAll 12 0 := ⟨⟨pm_ix 18 (by decide +kernel) rfl, pm_ix 2292 (by decide +kernel) rfl, by decide, by decide, by decide +kernel, by decide⟩, pm_ix 2291 (by decide +kernel) rfl, pm_is 120 (by decide +kernel) rfl, by decide, by decide +kernel⟩
set_option maxRecDepth 100000 in
theorem k_Md_untyped : pm_kV m_Md_untyped 12 1 := ⟨⟨pm_ix 18 (by decide +kernel) rfl, pm_ix 2308 (by decide +kernel) rfl, by decide, by decide, by decide +kernel, by decide⟩, pm_ix 2307 (by decide +kernel) rfl, pm_is 124 (by decide +kernel) rfl, by decide, by decide +kernel⟩
set_option maxRecDepth 100000 in
theorem k_Md_typeOne : pm_kV m_Md_typeOne 12 1 := ⟨⟨pm_ix 18 (by decide +kernel) rfl, pm_ix 2296 (by decide +kernel) rfl, by decide, by decide, by decide +kernel, by decide⟩, pm_ix 2295 (by decide +kernel) rfl, pm_is 121 (by decide +kernel) rfl, by decide, by decide +kernel⟩
set_option maxRecDepth 100000 in
theorem k_Md_typeName : pm_kV m_Md_typeName 12 1 := ⟨⟨pm_ix 18 (by decide +kernel) rfl, pm_ix 2300 (by decide +kernel) rfl, by decide, by decide, by decide +kernel, by decide⟩, pm_ix 2299 (by decide +kernel) rfl, pm_is 122 (by decide +kernel) rfl, by decide, by decide +kernel⟩
set_option maxRecDepth 100000 in
theorem k_Md_typeRow : pm_kV m_Md_typeRow 12 1 := ⟨⟨pm_ix 18 (by decide +kernel) rfl, pm_ix 2312 (by decide +kernel) rfl, by decide, by decide, by decide +kernel, by decide⟩, pm_ix 2311 (by decide +kernel) rfl, pm_is 125 (by decide +kernel) rfl, by decide, by decide +kernel⟩
set_option maxRecDepth 100000 in
theorem k_Md_isCall : pm_kV m_Md_isCall 12 1 := ⟨⟨pm_ix 18 (by decide +kernel) rfl, pm_ix 2335 (by decide +kernel) rfl, by decide, by decide, by decide +kernel, by decide⟩, pm_ix 2334 (by decide +kernel) rfl, pm_is 130 (by decide +kernel) rfl, by decide, by decide +kernel⟩
set_option maxRecDepth 100000 in
theorem k_Md_isLetterType : pm_kS m_Md_isLetterType 1 := ⟨⟨pm_ix 18 (by decide +kernel) rfl, pm_ix 2331 (by decide +kernel) rfl, by decide, by decide, by decide +kernel, by decide⟩, pm_ix 2330 (by decide +kernel) rfl⟩
set_option maxRecDepth 100000 in
theorem k_Md_shorten : pm_kV m_Md_shorten 12 0 := ⟨⟨pm_ix 18 (by decide +kernel) rfl, pm_ix 2328 (by decide +kernel) rfl, by decide, by decide, by decide +kernel, by decide⟩, pm_ix 2327 (by decide +kernel) rfl, pm_is 129 (by decide +kernel) rfl, by decide, by decide +kernel⟩
set_option maxRecDepth 100000 in
theorem k_Md_compile : pm_kV m_Md_compile 12 0 := ⟨⟨pm_ix 18 (by decide +kernel) rfl, pm_ix 2122 (by decide +kernel) rfl, by decide, by decide, by decide +kernel, by decide⟩, pm_ix 2120 (by decide +kernel) rfl, pm_ix 2121 (by decide +kernel) rfl, by decide, by decide +kernel⟩
set_option maxRecDepth 100000 in
theorem k_Md_place : pm_kV m_Md_place 12 0 := ⟨⟨pm_ix 18 (by decide +kernel) rfl, pm_ix 2339 (by decide +kernel) rfl, by decide, by decide, by decide +kernel, by decide⟩, pm_ix 2337 (by decide +kernel) rfl, pm_ix 2338 (by decide +kernel) rfl, by decide, by decide +kernel⟩
set_option maxRecDepth 100000 in
theorem k_Md_defs : pm_kV m_Md_defs 12 0 := ⟨⟨pm_ix 18 (by decide +kernel) rfl, pm_ix 2343 (by decide +kernel) rfl, by decide, by decide, by decide +kernel, by decide⟩, pm_ix 2341 (by decide +kernel) rfl, pm_ix 2342 (by decide +kernel) rfl, by decide, by decide +kernel⟩
set_option maxRecDepth 100000 in
theorem k_Md_noDef : pm_kV m_Md_noDef 12 1 := ⟨⟨pm_ix 18 (by decide +kernel) rfl, pm_ix 2351 (by decide +kernel) rfl, by decide, by decide, by decide +kernel, by decide⟩, pm_ix 2350 (by decide +kernel) rfl, pm_is 131 (by decide +kernel) rfl, by decide, by decide +kernel⟩
set_option maxRecDepth 100000 in
theorem k_Md_bits : pm_kS m_Md_bits 1 := ⟨⟨pm_ix 18 (by decide +kernel) rfl, pm_ix 2354 (by decide +kernel) rfl, by decide, by decide, by decide +kernel, by decide⟩, pm_ix 2353 (by decide +kernel) rfl⟩
set_option maxRecDepth 100000 in
theorem k_Md_def : pm_kV m_Md_def 12 2 := ⟨⟨pm_ix 18 (by decide +kernel) rfl, pm_ix 2347 (by decide +kernel) rfl, by decide, by decide, by decide +kernel, by decide⟩, pm_ix 2345 (by decide +kernel) rfl, pm_ix 2346 (by decide +kernel) rfl, by decide, by decide +kernel⟩
set_option maxRecDepth 100000 in
theorem k_Md_clearRun : pm_kV m_Md_clearRun 12 0 := ⟨⟨pm_ix 18 (by decide +kernel) rfl, pm_ix 2114 (by decide +kernel) rfl, by decide, by decide, by decide +kernel, by decide⟩, pm_ix 2113 (by decide +kernel) rfl, pm_is 83 (by decide +kernel) rfl, by decide, by decide +kernel⟩
set_option maxRecDepth 100000 in
theorem k_Md_make : pm_kV m_Md_make 12 0 := ⟨⟨pm_ix 18 (by decide +kernel) rfl, pm_ix 2405 (by decide +kernel) rfl, by decide, by decide, by decide +kernel, by decide⟩, pm_ix 2404 (by decide +kernel) rfl, pm_is 141 (by decide +kernel) rfl, by decide, by decide +kernel⟩
set_option maxRecDepth 100000 in
theorem k_Md_makePair : pm_kV m_Md_makePair 12 4 := ⟨⟨pm_ix 18 (by decide +kernel) rfl, pm_ix 2401 (by decide +kernel) rfl, by decide, by decide, by decide +kernel, by decide⟩, pm_ix 2400 (by decide +kernel) rfl, pm_is 140 (by decide +kernel) rfl, by decide, by decide +kernel⟩
set_option maxRecDepth 100000 in
theorem k_Md_ask : pm_kV m_Md_ask 12 5 := ⟨⟨pm_ix 18 (by decide +kernel) rfl, pm_ix 2397 (by decide +kernel) rfl, by decide, by decide, by decide +kernel, by decide⟩, pm_ix 2396 (by decide +kernel) rfl, pm_is 139 (by decide +kernel) rfl, by decide, by decide +kernel⟩
set_option maxRecDepth 100000 in
theorem k_Md_answer : pm_kV m_Md_answer 12 2 := ⟨⟨pm_ix 18 (by decide +kernel) rfl, pm_ix 2409 (by decide +kernel) rfl, by decide, by decide, by decide +kernel, by decide⟩, pm_ix 2408 (by decide +kernel) rfl, pm_is 142 (by decide +kernel) rfl, by decide, by decide +kernel⟩
set_option maxRecDepth 100000 in
theorem k_Md_coverOf : pm_kV m_Md_coverOf 12 5 := ⟨⟨pm_ix 18 (by decide +kernel) rfl, pm_ix 2421 (by decide +kernel) rfl, by decide, by decide, by decide +kernel, by decide⟩, pm_ix 2420 (by decide +kernel) rfl, pm_is 145 (by decide +kernel) rfl, by decide, by decide +kernel⟩
set_option maxRecDepth 100000 in
theorem k_Md_boxOne : pm_kV m_Md_boxOne 12 3 := ⟨⟨pm_ix 18 (by decide +kernel) rfl, pm_ix 2417 (by decide +kernel) rfl, by decide, by decide, by decide +kernel, by decide⟩, pm_ix 2416 (by decide +kernel) rfl, pm_is 144 (by decide +kernel) rfl, by decide, by decide +kernel⟩
set_option maxRecDepth 100000 in
theorem k_Md_convertOne : pm_kV m_Md_convertOne 12 5 := ⟨⟨pm_ix 18 (by decide +kernel) rfl, pm_ix 2413 (by decide +kernel) rfl, by decide, by decide, by decide +kernel, by decide⟩, pm_ix 2412 (by decide +kernel) rfl, pm_is 143 (by decide +kernel) rfl, by decide, by decide +kernel⟩
set_option maxRecDepth 100000 in
theorem k_Md_convert : pm_kV m_Md_convert 12 3 := ⟨⟨pm_ix 18 (by decide +kernel) rfl, pm_ix 2393 (by decide +kernel) rfl, by decide, by decide, by decide +kernel, by decide⟩, pm_ix 2392 (by decide +kernel) rfl, pm_is 138 (by decide +kernel) rfl, by decide, by decide +kernel⟩
set_option maxRecDepth 100000 in
theorem k_Md_mayDeep : pm_kV m_Md_mayDeep 12 0 := ⟨⟨pm_ix 18 (by decide +kernel) rfl, pm_ix 2374 (by decide +kernel) rfl, by decide, by decide, by decide +kernel, by decide⟩, pm_ix 2373 (by decide +kernel) rfl, pm_is 134 (by decide +kernel) rfl, by decide, by decide +kernel⟩
set_option maxRecDepth 100000 in
theorem k_Md_push : pm_kV m_Md_push 12 3 := ⟨⟨pm_ix 18 (by decide +kernel) rfl, pm_ix 2378 (by decide +kernel) rfl, by decide, by decide, by decide +kernel, by decide⟩, pm_ix 2377 (by decide +kernel) rfl, pm_is 135 (by decide +kernel) rfl, by decide, by decide +kernel⟩
set_option maxRecDepth 100000 in
theorem k_Md_begin : pm_kV m_Md_begin 12 2 := ⟨⟨pm_ix 18 (by decide +kernel) rfl, pm_ix 2370 (by decide +kernel) rfl, by decide, by decide, by decide +kernel, by decide⟩, pm_ix 2369 (by decide +kernel) rfl, pm_is 133 (by decide +kernel) rfl, by decide, by decide +kernel⟩
set_option maxRecDepth 100000 in
theorem k_Md_finish : pm_kV m_Md_finish 12 2 := ⟨⟨pm_ix 18 (by decide +kernel) rfl, pm_ix 2433 (by decide +kernel) rfl, by decide, by decide, by decide +kernel, by decide⟩, pm_ix 2432 (by decide +kernel) rfl, pm_is 148 (by decide +kernel) rfl, by decide, by decide +kernel⟩
set_option maxRecDepth 100000 in
theorem k_Md_locals0 : pm_kV m_Md_locals0 12 1 := ⟨⟨pm_ix 18 (by decide +kernel) rfl, pm_ix 2366 (by decide +kernel) rfl, by decide, by decide, by decide +kernel, by decide⟩, pm_ix 2365 (by decide +kernel) rfl, pm_is 132 (by decide +kernel) rfl, by decide, by decide +kernel⟩
set_option maxRecDepth 100000 in
theorem k_Md_homeOf : pm_kV m_Md_homeOf 12 1 := ⟨⟨pm_ix 18 (by decide +kernel) rfl, pm_ix 2429 (by decide +kernel) rfl, by decide, by decide, by decide +kernel, by decide⟩, pm_ix 2428 (by decide +kernel) rfl, pm_is 147 (by decide +kernel) rfl, by decide, by decide +kernel⟩
set_option maxRecDepth 100000 in
theorem k_Md_callFunction : pm_kV m_Md_callFunction 12 1 := ⟨⟨pm_ix 18 (by decide +kernel) rfl, pm_ix 2425 (by decide +kernel) rfl, by decide, by decide, by decide +kernel, by decide⟩, pm_ix 2424 (by decide +kernel) rfl, pm_is 146 (by decide +kernel) rfl, by decide, by decide +kernel⟩
set_option maxRecDepth 100000 in
theorem k_Md_otherWay : pm_kS m_Md_otherWay 1 := ⟨⟨pm_ix 18 (by decide +kernel) rfl, pm_ix 2389 (by decide +kernel) rfl, by decide, by decide, by decide +kernel, by decide⟩, pm_ix 2388 (by decide +kernel) rfl⟩
set_option maxRecDepth 100000 in
theorem k_Md_workCover : pm_kV m_Md_workCover 12 1 := ⟨⟨pm_ix 18 (by decide +kernel) rfl, pm_ix 2386 (by decide +kernel) rfl, by decide, by decide, by decide +kernel, by decide⟩, pm_ix 2385 (by decide +kernel) rfl, pm_is 137 (by decide +kernel) rfl, by decide, by decide +kernel⟩
set_option maxRecDepth 100000 in
theorem k_Md_atomAt : pm_kV m_Md_atomAt 12 2 := ⟨⟨pm_ix 18 (by decide +kernel) rfl, pm_ix 2453 (by decide +kernel) rfl, by decide, by decide, by decide +kernel, by decide⟩, pm_ix 2452 (by decide +kernel) rfl, pm_is 153 (by decide +kernel) rfl, by decide, by decide +kernel⟩
set_option maxRecDepth 100000 in
theorem k_Md_callDef : pm_kV m_Md_callDef 12 3 := ⟨⟨pm_ix 18 (by decide +kernel) rfl, pm_ix 2441 (by decide +kernel) rfl, by decide, by decide, by decide +kernel, by decide⟩, pm_ix 2440 (by decide +kernel) rfl, pm_is 150 (by decide +kernel) rfl, by decide, by decide +kernel⟩
set_option maxRecDepth 100000 in
theorem k_Md_keepAtom : pm_kV m_Md_keepAtom 12 3 := ⟨⟨pm_ix 18 (by decide +kernel) rfl, pm_ix 2449 (by decide +kernel) rfl, by decide, by decide, by decide +kernel, by decide⟩, pm_ix 2448 (by decide +kernel) rfl, pm_is 152 (by decide +kernel) rfl, by decide, by decide +kernel⟩
set_option maxRecDepth 100000 in
theorem k_Md_resultOf : pm_kV m_Md_resultOf 12 2 := ⟨⟨pm_ix 18 (by decide +kernel) rfl, pm_ix 2457 (by decide +kernel) rfl, by decide, by decide, by decide +kernel, by decide⟩, pm_ix 2456 (by decide +kernel) rfl, pm_is 154 (by decide +kernel) rfl, by decide, by decide +kernel⟩
set_option maxRecDepth 100000 in
theorem k_Md_goOn : pm_kV m_Md_goOn 12 3 := ⟨⟨pm_ix 18 (by decide +kernel) rfl, pm_ix 2461 (by decide +kernel) rfl, by decide, by decide, by decide +kernel, by decide⟩, pm_ix 2460 (by decide +kernel) rfl, pm_is 155 (by decide +kernel) rfl, by decide, by decide +kernel⟩
set_option maxRecDepth 100000 in
theorem k_Md_workRow : pm_kV m_Md_workRow 12 2 := ⟨⟨pm_ix 18 (by decide +kernel) rfl, pm_ix 2445 (by decide +kernel) rfl, by decide, by decide, by decide +kernel, by decide⟩, pm_ix 2444 (by decide +kernel) rfl, pm_is 151 (by decide +kernel) rfl, by decide, by decide +kernel⟩
set_option maxRecDepth 100000 in
theorem k_Md_workName : pm_kV m_Md_workName 12 2 := ⟨⟨pm_ix 18 (by decide +kernel) rfl, pm_ix 2437 (by decide +kernel) rfl, by decide, by decide, by decide +kernel, by decide⟩, pm_ix 2436 (by decide +kernel) rfl, pm_is 149 (by decide +kernel) rfl, by decide, by decide +kernel⟩
set_option maxRecDepth 100000 in
theorem k_Md_workChoice : pm_kV m_Md_workChoice 12 2 := ⟨⟨pm_ix 18 (by decide +kernel) rfl, pm_ix 2465 (by decide +kernel) rfl, by decide, by decide, by decide +kernel, by decide⟩, pm_ix 2464 (by decide +kernel) rfl, pm_is 156 (by decide +kernel) rfl, by decide, by decide +kernel⟩
set_option maxRecDepth 100000 in
theorem k_Md_workTwo : pm_kV m_Md_workTwo 12 2 := ⟨⟨pm_ix 18 (by decide +kernel) rfl, pm_ix 2477 (by decide +kernel) rfl, by decide, by decide, by decide +kernel, by decide⟩, pm_ix 2476 (by decide +kernel) rfl, pm_is 159 (by decide +kernel) rfl, by decide, by decide +kernel⟩
set_option maxRecDepth 100000 in
theorem k_Md_workHalf : pm_kV m_Md_workHalf 12 2 := ⟨⟨pm_ix 18 (by decide +kernel) rfl, pm_ix 2469 (by decide +kernel) rfl, by decide, by decide, by decide +kernel, by decide⟩, pm_ix 2468 (by decide +kernel) rfl, pm_is 157 (by decide +kernel) rfl, by decide, by decide +kernel⟩
set_option maxRecDepth 100000 in
theorem k_Md_workFunction : pm_kV m_Md_workFunction 12 2 := ⟨⟨pm_ix 18 (by decide +kernel) rfl, pm_ix 2473 (by decide +kernel) rfl, by decide, by decide, by decide +kernel, by decide⟩, pm_ix 2472 (by decide +kernel) rfl, pm_is 158 (by decide +kernel) rfl, by decide, by decide +kernel⟩
set_option maxRecDepth 100000 in
theorem k_Md_go : pm_kV m_Md_go 12 0 := ⟨⟨pm_ix 18 (by decide +kernel) rfl, pm_ix 2382 (by decide +kernel) rfl, by decide, by decide, by decide +kernel, by decide⟩, pm_ix 2381 (by decide +kernel) rfl, pm_is 136 (by decide +kernel) rfl, by decide, by decide +kernel⟩
set_option maxRecDepth 100000 in
theorem k_Md_argument : pm_kV m_Md_argument 12 1 := ⟨⟨pm_ix 18 (by decide +kernel) rfl, pm_ix 2358 (by decide +kernel) rfl, by decide, by decide, by decide +kernel, by decide⟩, pm_ix 2356 (by decide +kernel) rfl, pm_ix 2357 (by decide +kernel) rfl, by decide, by decide +kernel⟩
set_option maxRecDepth 100000 in
theorem k_Md_run : pm_kV m_Md_run 12 3 := ⟨⟨pm_ix 18 (by decide +kernel) rfl, pm_ix 2362 (by decide +kernel) rfl, by decide, by decide, by decide +kernel, by decide⟩, pm_ix 2360 (by decide +kernel) rfl, pm_ix 2361 (by decide +kernel) rfl, by decide, by decide +kernel⟩
set_option maxRecDepth 100000 in
theorem k_Md_told : pm_kV m_Md_told 12 1 := ⟨⟨pm_ix 18 (by decide +kernel) rfl, pm_ix 2481 (by decide +kernel) rfl, by decide, by decide, by decide +kernel, by decide⟩, pm_ix 2479 (by decide +kernel) rfl, pm_ix 2480 (by decide +kernel) rfl, by decide, by decide +kernel⟩
set_option maxRecDepth 100000 in
theorem k_Md_reach : pm_kV m_Md_reach 12 1 := ⟨⟨pm_ix 18 (by decide +kernel) rfl, pm_ix 2489 (by decide +kernel) rfl, by decide, by decide, by decide +kernel, by decide⟩, pm_ix 2488 (by decide +kernel) rfl, pm_is 160 (by decide +kernel) rfl, by decide, by decide +kernel⟩
set_option maxRecDepth 100000 in
theorem k_Md_sort : pm_kV m_Md_sort 12 1 := ⟨⟨pm_ix 18 (by decide +kernel) rfl, pm_ix 2485 (by decide +kernel) rfl, by decide, by decide, by decide +kernel, by decide⟩, pm_ix 2483 (by decide +kernel) rfl, pm_ix 2484 (by decide +kernel) rfl, by decide, by decide +kernel⟩
set_option maxRecDepth 100000 in
theorem k_Md_result : pm_kV m_Md_result 12 1 := ⟨⟨pm_ix 18 (by decide +kernel) rfl, pm_ix 2493 (by decide +kernel) rfl, by decide, by decide, by decide +kernel, by decide⟩, pm_ix 2491 (by decide +kernel) rfl, pm_ix 2492 (by decide +kernel) rfl, by decide, by decide +kernel⟩
set_option maxRecDepth 100000 in
theorem k_Adapter_init : pm_kI m_Adapter_init 3 := ⟨⟨pm_ix 16 (by decide +kernel) rfl, pm_ix 374 (by decide +kernel) rfl, by decide, by decide, by decide +kernel, by decide⟩, pm_ix 373 (by decide +kernel) rfl, rfl⟩
set_option maxRecDepth 100000 in
theorem k_Adapter_adapt : pm_kV m_Adapter_adapt 1 4 := ⟨⟨pm_ix 16 (by decide +kernel) rfl, pm_ix 1538 (by decide +kernel) rfl, by decide, by decide, by decide +kernel, by decide⟩, pm_ix 1536 (by decide +kernel) rfl, pm_ix 1537 (by decide +kernel) rfl, by decide, by decide +kernel⟩
set_option maxRecDepth 100000 in
theorem k_Adapter_doTask : pm_kV m_Adapter_doTask 1 4 := ⟨⟨pm_ix 16 (by decide +kernel) rfl, pm_ix 1551 (by decide +kernel) rfl, by decide, by decide, by decide +kernel, by decide⟩, pm_ix 1550 (by decide +kernel) rfl, pm_is 61 (by decide +kernel) rfl, by decide, by decide +kernel⟩
set_option maxRecDepth 100000 in
theorem k_Adapter_addTask : pm_kV m_Adapter_addTask 1 3 := ⟨⟨pm_ix 16 (by decide +kernel) rfl, pm_ix 1542 (by decide +kernel) rfl, by decide, by decide, by decide +kernel, by decide⟩, pm_ix 1541 (by decide +kernel) rfl, pm_is 60 (by decide +kernel) rfl, by decide, by decide +kernel⟩
set_option maxRecDepth 100000 in
theorem k_Adapter_addResult : pm_kV m_Adapter_addResult 1 1 := ⟨⟨pm_ix 16 (by decide +kernel) rfl, pm_ix 1564 (by decide +kernel) rfl, by decide, by decide, by decide +kernel, by decide⟩, pm_ix 1563 (by decide +kernel) rfl, pm_is 63 (by decide +kernel) rfl, by decide, by decide +kernel⟩
set_option maxRecDepth 100000 in
theorem k_Adapter_popResult : pm_kV m_Adapter_popResult 1 0 := ⟨⟨pm_ix 16 (by decide +kernel) rfl, pm_ix 1555 (by decide +kernel) rfl, by decide, by decide, by decide +kernel, by decide⟩, pm_ix 1554 (by decide +kernel) rfl, pm_is 62 (by decide +kernel) rfl, by decide, by decide +kernel⟩
set_option maxRecDepth 100000 in
theorem k_Checker_init : pm_kI m_Checker_init 4 := ⟨⟨pm_ix 13 (by decide +kernel) rfl, pm_ix 308 (by decide +kernel) rfl, by decide, by decide, by decide +kernel, by decide⟩, pm_ix 307 (by decide +kernel) rfl, rfl⟩
set_option maxRecDepth 100000 in
theorem k_Checker_checkAll : pm_kV m_Checker_checkAll 2 0 := ⟨⟨pm_ix 13 (by decide +kernel) rfl, pm_ix 1192 (by decide +kernel) rfl, by decide, by decide, by decide +kernel, by decide⟩, pm_ix 1190 (by decide +kernel) rfl, pm_ix 1191 (by decide +kernel) rfl, by decide, by decide +kernel⟩
set_option maxRecDepth 100000 in
theorem k_Checker_checkNode : pm_kV m_Checker_checkNode 2 1 := ⟨⟨pm_ix 13 (by decide +kernel) rfl, pm_ix 1202 (by decide +kernel) rfl, by decide, by decide, by decide +kernel, by decide⟩, pm_ix 1201 (by decide +kernel) rfl, pm_is 41 (by decide +kernel) rfl, by decide, by decide +kernel⟩
set_option maxRecDepth 100000 in
theorem k_Checker_resolve : pm_kV m_Checker_resolve 2 1 := ⟨⟨pm_ix 13 (by decide +kernel) rfl, pm_ix 1207 (by decide +kernel) rfl, by decide, by decide, by decide +kernel, by decide⟩, pm_ix 1206 (by decide +kernel) rfl, pm_is 42 (by decide +kernel) rfl, by decide, by decide +kernel⟩
set_option maxRecDepth 100000 in
theorem k_Checker_typeOf : pm_kV m_Checker_typeOf 2 1 := ⟨⟨pm_ix 13 (by decide +kernel) rfl, pm_ix 1221 (by decide +kernel) rfl, by decide, by decide, by decide +kernel, by decide⟩, pm_ix 1220 (by decide +kernel) rfl, pm_is 43 (by decide +kernel) rfl, by decide, by decide +kernel⟩
set_option maxRecDepth 100000 in
theorem k_Checker_typeOfLocal : pm_kV m_Checker_typeOfLocal 2 1 := ⟨⟨pm_ix 13 (by decide +kernel) rfl, pm_ix 1237 (by decide +kernel) rfl, by decide, by decide, by decide +kernel, by decide⟩, pm_ix 1236 (by decide +kernel) rfl, pm_is 44 (by decide +kernel) rfl, by decide, by decide +kernel⟩
set_option maxRecDepth 100000 in
theorem k_Checker_typeOfCall : pm_kV m_Checker_typeOfCall 2 1 := ⟨⟨pm_ix 13 (by decide +kernel) rfl, pm_ix 1270 (by decide +kernel) rfl, by decide, by decide, by decide +kernel, by decide⟩, pm_ix 1269 (by decide +kernel) rfl, pm_is 45 (by decide +kernel) rfl, by decide, by decide +kernel⟩
set_option maxRecDepth 100000 in
theorem k_Checker_fitAtoms : pm_kV m_Checker_fitAtoms 2 2 := ⟨⟨pm_ix 13 (by decide +kernel) rfl, pm_ix 1278 (by decide +kernel) rfl, by decide, by decide, by decide +kernel, by decide⟩, pm_ix 1277 (by decide +kernel) rfl, pm_is 46 (by decide +kernel) rfl, by decide, by decide +kernel⟩
set_option maxRecDepth 100000 in
theorem k_Checker_answersLetter : pm_kV m_Checker_answersLetter 2 1 := ⟨⟨pm_ix 13 (by decide +kernel) rfl, pm_ix 1302 (by decide +kernel) rfl, by decide, by decide, by decide +kernel, by decide⟩, pm_ix 1301 (by decide +kernel) rfl, pm_is 48 (by decide +kernel) rfl, by decide, by decide +kernel⟩
set_option maxRecDepth 100000 in
theorem k_Checker_fit : pm_kV m_Checker_fit 2 4 := ⟨⟨pm_ix 13 (by decide +kernel) rfl, pm_ix 1282 (by decide +kernel) rfl, by decide, by decide, by decide +kernel, by decide⟩, pm_ix 1281 (by decide +kernel) rfl, pm_is 47 (by decide +kernel) rfl, by decide, by decide +kernel⟩
set_option maxRecDepth 100000 in
theorem k_Checker_substitute : pm_kV m_Checker_substitute 2 3 := ⟨⟨pm_ix 13 (by decide +kernel) rfl, pm_ix 1310 (by decide +kernel) rfl, by decide, by decide, by decide +kernel, by decide⟩, pm_ix 1309 (by decide +kernel) rfl, pm_is 49 (by decide +kernel) rfl, by decide, by decide +kernel⟩
set_option maxRecDepth 100000 in
theorem k_Checker_countAll : pm_kV m_Checker_countAll 2 0 := ⟨⟨pm_ix 13 (by decide +kernel) rfl, pm_ix 1330 (by decide +kernel) rfl, by decide, by decide, by decide +kernel, by decide⟩, pm_ix 1329 (by decide +kernel) rfl, pm_is 50 (by decide +kernel) rfl, by decide, by decide +kernel⟩
set_option maxRecDepth 100000 in
theorem k_Checker_countCall : pm_kV m_Checker_countCall 2 2 := ⟨⟨pm_ix 13 (by decide +kernel) rfl, pm_ix 1335 (by decide +kernel) rfl, by decide, by decide, by decide +kernel, by decide⟩, pm_ix 1334 (by decide +kernel) rfl, pm_is 51 (by decide +kernel) rfl, by decide, by decide +kernel⟩
set_option maxRecDepth 100000 in
theorem k_Fault_init : pm_kI m_Fault_init 0 := ⟨⟨pm_ix 2 (by decide +kernel) rfl, pm_ix 44 (by decide +kernel) rfl, by decide, by decide, by decide +kernel, by decide⟩, pm_ix 43 (by decide +kernel) rfl, rfl⟩
set_option maxRecDepth 100000 in
theorem k_Fault_clear : pm_kV m_Fault_clear 3 0 := ⟨⟨pm_ix 2 (by decide +kernel) rfl, pm_ix 560 (by decide +kernel) rfl, by decide, by decide, by decide +kernel, by decide⟩, pm_ix 558 (by decide +kernel) rfl, pm_ix 559 (by decide +kernel) rfl, by decide, by decide +kernel⟩
set_option maxRecDepth 100000 in
theorem k_Fault_tell : pm_kV m_Fault_tell 3 2 := ⟨⟨pm_ix 2 (by decide +kernel) rfl, pm_ix 587 (by decide +kernel) rfl, by decide, by decide, by decide +kernel, by decide⟩, pm_ix 585 (by decide +kernel) rfl, pm_ix 586 (by decide +kernel) rfl, by decide, by decide +kernel⟩
set_option maxRecDepth 100000 in
theorem k_Fault_isTold : pm_kV m_Fault_isTold 3 0 := ⟨⟨pm_ix 2 (by decide +kernel) rfl, pm_ix 583 (by decide +kernel) rfl, by decide, by decide, by decide +kernel, by decide⟩, pm_ix 581 (by decide +kernel) rfl, pm_ix 582 (by decide +kernel) rfl, by decide, by decide +kernel⟩
set_option maxRecDepth 100000 in
theorem k_Fault_what : pm_kV m_Fault_what 3 0 := ⟨⟨pm_ix 2 (by decide +kernel) rfl, pm_ix 1343 (by decide +kernel) rfl, by decide, by decide, by decide +kernel, by decide⟩, pm_ix 1341 (by decide +kernel) rfl, pm_ix 1342 (by decide +kernel) rfl, by decide, by decide +kernel⟩
set_option maxRecDepth 100000 in
theorem k_Fault_where : pm_kV m_Fault_where 3 0 := ⟨⟨pm_ix 2 (by decide +kernel) rfl, pm_ix 1187 (by decide +kernel) rfl, by decide, by decide, by decide +kernel, by decide⟩, pm_ix 1185 (by decide +kernel) rfl, pm_ix 1186 (by decide +kernel) rfl, by decide, by decide +kernel⟩
set_option maxRecDepth 100000 in
theorem k_Frames_init : pm_kI m_Frames_init 0 := ⟨⟨pm_ix 17 (by decide +kernel) rfl, pm_ix 408 (by decide +kernel) rfl, by decide, by decide, by decide +kernel, by decide⟩, pm_ix 407 (by decide +kernel) rfl, rfl⟩
set_option maxRecDepth 100000 in
theorem k_Frames_clear : pm_kV m_Frames_clear 4 0 := ⟨⟨pm_ix 17 (by decide +kernel) rfl, pm_ix 552 (by decide +kernel) rfl, by decide, by decide, by decide +kernel, by decide⟩, pm_ix 550 (by decide +kernel) rfl, pm_ix 551 (by decide +kernel) rfl, by decide, by decide +kernel⟩
set_option maxRecDepth 100000 in
theorem k_Frames_isEmpty : pm_kV m_Frames_isEmpty 4 0 := ⟨⟨pm_ix 17 (by decide +kernel) rfl, pm_ix 1591 (by decide +kernel) rfl, by decide, by decide, by decide +kernel, by decide⟩, pm_ix 1589 (by decide +kernel) rfl, pm_ix 1590 (by decide +kernel) rfl, by decide, by decide +kernel⟩
set_option maxRecDepth 100000 in
theorem k_Frames_isFull : pm_kV m_Frames_isFull 4 0 := ⟨⟨pm_ix 17 (by decide +kernel) rfl, pm_ix 1513 (by decide +kernel) rfl, by decide, by decide, by decide +kernel, by decide⟩, pm_ix 1511 (by decide +kernel) rfl, pm_ix 1512 (by decide +kernel) rfl, by decide, by decide +kernel⟩
set_option maxRecDepth 100000 in
theorem k_Frames_deepest : pm_kV m_Frames_deepest 4 0 := ⟨⟨pm_ix 17 (by decide +kernel) rfl, pm_ix 1727 (by decide +kernel) rfl, by decide, by decide, by decide +kernel, by decide⟩, pm_ix 1725 (by decide +kernel) rfl, pm_ix 1726 (by decide +kernel) rfl, by decide, by decide +kernel⟩
set_option maxRecDepth 100000 in
theorem k_Frames_push : pm_kV m_Frames_push 4 2 := ⟨⟨pm_ix 17 (by decide +kernel) rfl, pm_ix 1517 (by decide +kernel) rfl, by decide, by decide, by decide +kernel, by decide⟩, pm_ix 1515 (by decide +kernel) rfl, pm_ix 1516 (by decide +kernel) rfl, by decide, by decide +kernel⟩
set_option maxRecDepth 100000 in
theorem k_Frames_pop : pm_kV m_Frames_pop 4 0 := ⟨⟨pm_ix 17 (by decide +kernel) rfl, pm_ix 1608 (by decide +kernel) rfl, by decide, by decide, by decide +kernel, by decide⟩, pm_ix 1606 (by decide +kernel) rfl, pm_ix 1607 (by decide +kernel) rfl, by decide, by decide +kernel⟩
set_option maxRecDepth 100000 in
theorem k_Frames_node : pm_kV m_Frames_node 4 0 := ⟨⟨pm_ix 17 (by decide +kernel) rfl, pm_ix 1599 (by decide +kernel) rfl, by decide, by decide, by decide +kernel, by decide⟩, pm_ix 1597 (by decide +kernel) rfl, pm_ix 1598 (by decide +kernel) rfl, by decide, by decide +kernel⟩
set_option maxRecDepth 100000 in
theorem k_Frames_state : pm_kV m_Frames_state 4 0 := ⟨⟨pm_ix 17 (by decide +kernel) rfl, pm_ix 1621 (by decide +kernel) rfl, by decide, by decide, by decide +kernel, by decide⟩, pm_ix 1619 (by decide +kernel) rfl, pm_ix 1620 (by decide +kernel) rfl, by decide, by decide +kernel⟩
set_option maxRecDepth 100000 in
theorem k_Frames_setState : pm_kV m_Frames_setState 4 1 := ⟨⟨pm_ix 17 (by decide +kernel) rfl, pm_ix 1629 (by decide +kernel) rfl, by decide, by decide, by decide +kernel, by decide⟩, pm_ix 1627 (by decide +kernel) rfl, pm_ix 1628 (by decide +kernel) rfl, by decide, by decide +kernel⟩
set_option maxRecDepth 100000 in
theorem k_Frames_base : pm_kV m_Frames_base 4 0 := ⟨⟨pm_ix 17 (by decide +kernel) rfl, pm_ix 1612 (by decide +kernel) rfl, by decide, by decide, by decide +kernel, by decide⟩, pm_ix 1610 (by decide +kernel) rfl, pm_ix 1611 (by decide +kernel) rfl, by decide, by decide +kernel⟩
set_option maxRecDepth 100000 in
theorem k_Frames_atom : pm_kV m_Frames_atom 4 0 := ⟨⟨pm_ix 17 (by decide +kernel) rfl, pm_ix 1658 (by decide +kernel) rfl, by decide, by decide, by decide +kernel, by decide⟩, pm_ix 1656 (by decide +kernel) rfl, pm_ix 1657 (by decide +kernel) rfl, by decide, by decide +kernel⟩
set_option maxRecDepth 100000 in
theorem k_Frames_setAtom : pm_kV m_Frames_setAtom 4 1 := ⟨⟨pm_ix 17 (by decide +kernel) rfl, pm_ix 1650 (by decide +kernel) rfl, by decide, by decide, by decide +kernel, by decide⟩, pm_ix 1648 (by decide +kernel) rfl, pm_ix 1649 (by decide +kernel) rfl, by decide, by decide +kernel⟩
set_option maxRecDepth 100000 in
theorem k_Frames_heldCount : pm_kV m_Frames_heldCount 4 0 := ⟨⟨pm_ix 17 (by decide +kernel) rfl, pm_ix 1667 (by decide +kernel) rfl, by decide, by decide, by decide +kernel, by decide⟩, pm_ix 1665 (by decide +kernel) rfl, pm_ix 1666 (by decide +kernel) rfl, by decide, by decide +kernel⟩
set_option maxRecDepth 100000 in
theorem k_Frames_hold : pm_kV m_Frames_hold 4 1 := ⟨⟨pm_ix 17 (by decide +kernel) rfl, pm_ix 1530 (by decide +kernel) rfl, by decide, by decide, by decide +kernel, by decide⟩, pm_ix 1528 (by decide +kernel) rfl, pm_ix 1529 (by decide +kernel) rfl, by decide, by decide +kernel⟩
set_option maxRecDepth 100000 in
theorem k_Frames_dropHeld : pm_kV m_Frames_dropHeld 4 0 := ⟨⟨pm_ix 17 (by decide +kernel) rfl, pm_ix 1690 (by decide +kernel) rfl, by decide, by decide, by decide +kernel, by decide⟩, pm_ix 1688 (by decide +kernel) rfl, pm_ix 1689 (by decide +kernel) rfl, by decide, by decide +kernel⟩
set_option maxRecDepth 100000 in
theorem k_Frames_held : pm_kV m_Frames_held 4 1 := ⟨⟨pm_ix 17 (by decide +kernel) rfl, pm_ix 1671 (by decide +kernel) rfl, by decide, by decide, by decide +kernel, by decide⟩, pm_ix 1669 (by decide +kernel) rfl, pm_ix 1670 (by decide +kernel) rfl, by decide, by decide +kernel⟩
set_option maxRecDepth 100000 in
theorem k_Heap_init : pm_kI m_Heap_init 0 := ⟨⟨pm_ix 15 (by decide +kernel) rfl, pm_ix 336 (by decide +kernel) rfl, by decide, by decide, by decide +kernel, by decide⟩, pm_ix 335 (by decide +kernel) rfl, rfl⟩
set_option maxRecDepth 100000 in
theorem k_Heap_clear : pm_kV m_Heap_clear 5 0 := ⟨⟨pm_ix 15 (by decide +kernel) rfl, pm_ix 545 (by decide +kernel) rfl, by decide, by decide, by decide +kernel, by decide⟩, pm_ix 543 (by decide +kernel) rfl, pm_ix 544 (by decide +kernel) rfl, by decide, by decide +kernel⟩
set_option maxRecDepth 100000 in
theorem k_Heap_isOver : pm_kV m_Heap_isOver 5 0 := ⟨⟨pm_ix 15 (by decide +kernel) rfl, pm_ix 1547 (by decide +kernel) rfl, by decide, by decide, by decide +kernel, by decide⟩, pm_ix 1545 (by decide +kernel) rfl, pm_ix 1546 (by decide +kernel) rfl, by decide, by decide +kernel⟩
set_option maxRecDepth 100000 in
theorem k_Heap_madeOf : pm_kV m_Heap_madeOf 5 1 := ⟨⟨pm_ix 15 (by decide +kernel) rfl, pm_ix 1719 (by decide +kernel) rfl, by decide, by decide, by decide +kernel, by decide⟩, pm_ix 1717 (by decide +kernel) rfl, pm_ix 1718 (by decide +kernel) rfl, by decide, by decide +kernel⟩
set_option maxRecDepth 100000 in
theorem k_Heap_openedBoxes : pm_kV m_Heap_openedBoxes 5 0 := ⟨⟨pm_ix 15 (by decide +kernel) rfl, pm_ix 1723 (by decide +kernel) rfl, by decide, by decide, by decide +kernel, by decide⟩, pm_ix 1721 (by decide +kernel) rfl, pm_ix 1722 (by decide +kernel) rfl, by decide, by decide +kernel⟩
set_option maxRecDepth 100000 in
theorem k_Heap_make : pm_kV m_Heap_make 5 4 := ⟨⟨pm_ix 15 (by decide +kernel) rfl, pm_ix 1559 (by decide +kernel) rfl, by decide, by decide, by decide +kernel, by decide⟩, pm_ix 1557 (by decide +kernel) rfl, pm_ix 1558 (by decide +kernel) rfl, by decide, by decide +kernel⟩
set_option maxRecDepth 100000 in
theorem k_Heap_openBox : pm_kV m_Heap_openBox 5 1 := ⟨⟨pm_ix 15 (by decide +kernel) rfl, pm_ix 1570 (by decide +kernel) rfl, by decide, by decide, by decide +kernel, by decide⟩, pm_ix 1568 (by decide +kernel) rfl, pm_ix 1569 (by decide +kernel) rfl, by decide, by decide +kernel⟩
set_option maxRecDepth 100000 in
theorem k_Heap_kind : pm_kV m_Heap_kind 5 1 := ⟨⟨pm_ix 15 (by decide +kernel) rfl, pm_ix 1390 (by decide +kernel) rfl, by decide, by decide, by decide +kernel, by decide⟩, pm_ix 1388 (by decide +kernel) rfl, pm_ix 1389 (by decide +kernel) rfl, by decide, by decide +kernel⟩
set_option maxRecDepth 100000 in
theorem k_Heap_first : pm_kV m_Heap_first 5 1 := ⟨⟨pm_ix 15 (by decide +kernel) rfl, pm_ix 1382 (by decide +kernel) rfl, by decide, by decide, by decide +kernel, by decide⟩, pm_ix 1380 (by decide +kernel) rfl, pm_ix 1381 (by decide +kernel) rfl, by decide, by decide +kernel⟩
set_option maxRecDepth 100000 in
theorem k_Heap_second : pm_kV m_Heap_second 5 1 := ⟨⟨pm_ix 15 (by decide +kernel) rfl, pm_ix 1386 (by decide +kernel) rfl, by decide, by decide, by decide +kernel, by decide⟩, pm_ix 1384 (by decide +kernel) rfl, pm_ix 1385 (by decide +kernel) rfl, by decide, by decide +kernel⟩
set_option maxRecDepth 100000 in
theorem k_Heap_site : pm_kV m_Heap_site 5 1 := ⟨⟨pm_ix 15 (by decide +kernel) rfl, pm_ix 1534 (by decide +kernel) rfl, by decide, by decide, by decide +kernel, by decide⟩, pm_ix 1532 (by decide +kernel) rfl, pm_ix 1533 (by decide +kernel) rfl, by decide, by decide +kernel⟩
set_option maxRecDepth 100000 in
theorem k_Heap_claim : pm_kV m_Heap_claim 5 1 := ⟨⟨pm_ix 15 (by decide +kernel) rfl, pm_ix 1490 (by decide +kernel) rfl, by decide, by decide, by decide +kernel, by decide⟩, pm_ix 1488 (by decide +kernel) rfl, pm_ix 1489 (by decide +kernel) rfl, by decide, by decide +kernel⟩
set_option maxRecDepth 100000 in
theorem k_Heap_local : pm_kV m_Heap_local 5 2 := ⟨⟨pm_ix 15 (by decide +kernel) rfl, pm_ix 1585 (by decide +kernel) rfl, by decide, by decide, by decide +kernel, by decide⟩, pm_ix 1583 (by decide +kernel) rfl, pm_ix 1584 (by decide +kernel) rfl, by decide, by decide +kernel⟩
set_option maxRecDepth 100000 in
theorem k_Heap_setLocal : pm_kV m_Heap_setLocal 5 3 := ⟨⟨pm_ix 15 (by decide +kernel) rfl, pm_ix 1495 (by decide +kernel) rfl, by decide, by decide, by decide +kernel, by decide⟩, pm_ix 1493 (by decide +kernel) rfl, pm_ix 1494 (by decide +kernel) rfl, by decide, by decide +kernel⟩
set_option maxRecDepth 100000 in
theorem k_Heap_hasLocal : pm_kV m_Heap_hasLocal 5 2 := ⟨⟨pm_ix 15 (by decide +kernel) rfl, pm_ix 1499 (by decide +kernel) rfl, by decide, by decide, by decide +kernel, by decide⟩, pm_ix 1498 (by decide +kernel) rfl, pm_is 55 (by decide +kernel) rfl, by decide, by decide +kernel⟩
set_option maxRecDepth 100000 in
theorem k_Machine_init : pm_kI m_Machine_init 3 := ⟨⟨pm_ix 14 (by decide +kernel) rfl, pm_ix 330 (by decide +kernel) rfl, by decide, by decide, by decide +kernel, by decide⟩, pm_ix 329 (by decide +kernel) rfl, rfl⟩
set_option maxRecDepth 100000 in
theorem k_Machine_forget : pm_kV m_Machine_forget 6 0 := ⟨⟨pm_ix 14 (by decide +kernel) rfl, pm_ix 541 (by decide +kernel) rfl, by decide, by decide, by decide +kernel, by decide⟩, pm_ix 539 (by decide +kernel) rfl, pm_ix 540 (by decide +kernel) rfl, by decide, by decide +kernel⟩
set_option maxRecDepth 100000 in
theorem k_Machine_start : pm_kV m_Machine_start 6 4 := ⟨⟨pm_ix 14 (by decide +kernel) rfl, pm_ix 1483 (by decide +kernel) rfl, by decide, by decide, by decide +kernel, by decide⟩, pm_ix 1481 (by decide +kernel) rfl, pm_ix 1482 (by decide +kernel) rfl, by decide, by decide +kernel⟩
set_option maxRecDepth 100000 in
theorem k_Machine_countOf : pm_kV m_Machine_countOf 6 1 := ⟨⟨pm_ix 14 (by decide +kernel) rfl, pm_ix 1715 (by decide +kernel) rfl, by decide, by decide, by decide +kernel, by decide⟩, pm_ix 1713 (by decide +kernel) rfl, pm_ix 1714 (by decide +kernel) rfl, by decide, by decide +kernel⟩
set_option maxRecDepth 100000 in
theorem k_Machine_sortAt : pm_kV m_Machine_sortAt 6 1 := ⟨⟨pm_ix 14 (by decide +kernel) rfl, pm_ix 1360 (by decide +kernel) rfl, by decide, by decide, by decide +kernel, by decide⟩, pm_ix 1358 (by decide +kernel) rfl, pm_ix 1359 (by decide +kernel) rfl, by decide, by decide +kernel⟩
set_option maxRecDepth 100000 in
theorem k_Machine_wordAt : pm_kV m_Machine_wordAt 6 1 := ⟨⟨pm_ix 14 (by decide +kernel) rfl, pm_ix 1401 (by decide +kernel) rfl, by decide, by decide, by decide +kernel, by decide⟩, pm_ix 1399 (by decide +kernel) rfl, pm_ix 1400 (by decide +kernel) rfl, by decide, by decide +kernel⟩
set_option maxRecDepth 100000 in
theorem k_Machine_sortOfBox : pm_kS m_Machine_sortOfBox 1 := ⟨⟨pm_ix 14 (by decide +kernel) rfl, pm_ix 1393 (by decide +kernel) rfl, by decide, by decide, by decide +kernel, by decide⟩, pm_ix 1392 (by decide +kernel) rfl⟩
set_option maxRecDepth 100000 in
theorem k_Machine_typeAt : pm_kV m_Machine_typeAt 6 1 := ⟨⟨pm_ix 14 (by decide +kernel) rfl, pm_ix 1364 (by decide +kernel) rfl, by decide, by decide, by decide +kernel, by decide⟩, pm_ix 1363 (by decide +kernel) rfl, pm_is 52 (by decide +kernel) rfl, by decide, by decide +kernel⟩
set_option maxRecDepth 100000 in
theorem k_Machine_valueAt : pm_kV m_Machine_valueAt 6 1 := ⟨⟨pm_ix 14 (by decide +kernel) rfl, pm_ix 1378 (by decide +kernel) rfl, by decide, by decide, by decide +kernel, by decide⟩, pm_ix 1377 (by decide +kernel) rfl, pm_is 53 (by decide +kernel) rfl, by decide, by decide +kernel⟩
set_option maxRecDepth 100000 in
theorem k_Machine_lengthOf : pm_kS m_Machine_lengthOf 1 := ⟨⟨pm_ix 14 (by decide +kernel) rfl, pm_ix 1367 (by decide +kernel) rfl, by decide, by decide, by decide +kernel, by decide⟩, pm_ix 1366 (by decide +kernel) rfl⟩
set_option maxRecDepth 100000 in
theorem k_Machine_goInto : pm_kV m_Machine_goInto 6 2 := ⟨⟨pm_ix 14 (by decide +kernel) rfl, pm_ix 1504 (by decide +kernel) rfl, by decide, by decide, by decide +kernel, by decide⟩, pm_ix 1503 (by decide +kernel) rfl, pm_is 56 (by decide +kernel) rfl, by decide, by decide +kernel⟩
set_option maxRecDepth 100000 in
theorem k_Machine_enter : pm_kV m_Machine_enter 6 0 := ⟨⟨pm_ix 14 (by decide +kernel) rfl, pm_ix 1509 (by decide +kernel) rfl, by decide, by decide, by decide +kernel, by decide⟩, pm_ix 1508 (by decide +kernel) rfl, pm_is 57 (by decide +kernel) rfl, by decide, by decide +kernel⟩
set_option maxRecDepth 100000 in
theorem k_Machine_finish : pm_kV m_Machine_finish 6 1 := ⟨⟨pm_ix 14 (by decide +kernel) rfl, pm_ix 1604 (by decide +kernel) rfl, by decide, by decide, by decide +kernel, by decide⟩, pm_ix 1603 (by decide +kernel) rfl, pm_is 66 (by decide +kernel) rfl, by decide, by decide +kernel⟩
set_option maxRecDepth 100000 in
theorem k_Machine_workPart : pm_kV m_Machine_workPart 6 2 := ⟨⟨pm_ix 14 (by decide +kernel) rfl, pm_ix 1625 (by decide +kernel) rfl, by decide, by decide, by decide +kernel, by decide⟩, pm_ix 1624 (by decide +kernel) rfl, pm_is 68 (by decide +kernel) rfl, by decide, by decide +kernel⟩
set_option maxRecDepth 100000 in
theorem k_Machine_resume : pm_kV m_Machine_resume 6 0 := ⟨⟨pm_ix 14 (by decide +kernel) rfl, pm_ix 1595 (by decide +kernel) rfl, by decide, by decide, by decide +kernel, by decide⟩, pm_ix 1594 (by decide +kernel) rfl, pm_is 65 (by decide +kernel) rfl, by decide, by decide +kernel⟩
set_option maxRecDepth 100000 in
theorem k_Machine_workLet : pm_kV m_Machine_workLet 6 1 := ⟨⟨pm_ix 14 (by decide +kernel) rfl, pm_ix 1617 (by decide +kernel) rfl, by decide, by decide, by decide +kernel, by decide⟩, pm_ix 1616 (by decide +kernel) rfl, pm_is 67 (by decide +kernel) rfl, by decide, by decide +kernel⟩
set_option maxRecDepth 100000 in
theorem k_Machine_workIf : pm_kV m_Machine_workIf 6 1 := ⟨⟨pm_ix 14 (by decide +kernel) rfl, pm_ix 1634 (by decide +kernel) rfl, by decide, by decide, by decide +kernel, by decide⟩, pm_ix 1633 (by decide +kernel) rfl, pm_is 69 (by decide +kernel) rfl, by decide, by decide +kernel⟩
set_option maxRecDepth 100000 in
theorem k_Machine_workHalf : pm_kV m_Machine_workHalf 6 1 := ⟨⟨pm_ix 14 (by decide +kernel) rfl, pm_ix 1638 (by decide +kernel) rfl, by decide, by decide, by decide +kernel, by decide⟩, pm_ix 1637 (by decide +kernel) rfl, pm_is 70 (by decide +kernel) rfl, by decide, by decide +kernel⟩
set_option maxRecDepth 100000 in
theorem k_Machine_workBoth : pm_kV m_Machine_workBoth 6 1 := ⟨⟨pm_ix 14 (by decide +kernel) rfl, pm_ix 1698 (by decide +kernel) rfl, by decide, by decide, by decide +kernel, by decide⟩, pm_ix 1697 (by decide +kernel) rfl, pm_is 79 (by decide +kernel) rfl, by decide, by decide +kernel⟩
set_option maxRecDepth 100000 in
theorem k_Machine_join : pm_kV m_Machine_join 6 3 := ⟨⟨pm_ix 14 (by decide +kernel) rfl, pm_ix 1702 (by decide +kernel) rfl, by decide, by decide, by decide +kernel, by decide⟩, pm_ix 1701 (by decide +kernel) rfl, pm_is 80 (by decide +kernel) rfl, by decide, by decide +kernel⟩
set_option maxRecDepth 100000 in
theorem k_Machine_workCall : pm_kV m_Machine_workCall 6 1 := ⟨⟨pm_ix 14 (by decide +kernel) rfl, pm_ix 1642 (by decide +kernel) rfl, by decide, by decide, by decide +kernel, by decide⟩, pm_ix 1641 (by decide +kernel) rfl, pm_is 71 (by decide +kernel) rfl, by decide, by decide +kernel⟩
set_option maxRecDepth 100000 in
theorem k_Machine_beginCall : pm_kV m_Machine_beginCall 6 1 := ⟨⟨pm_ix 14 (by decide +kernel) rfl, pm_ix 1646 (by decide +kernel) rfl, by decide, by decide, by decide +kernel, by decide⟩, pm_ix 1645 (by decide +kernel) rfl, pm_is 72 (by decide +kernel) rfl, by decide, by decide +kernel⟩
set_option maxRecDepth 100000 in
theorem k_Machine_workAtom : pm_kV m_Machine_workAtom 6 1 := ⟨⟨pm_ix 14 (by decide +kernel) rfl, pm_ix 1654 (by decide +kernel) rfl, by decide, by decide, by decide +kernel, by decide⟩, pm_ix 1653 (by decide +kernel) rfl, pm_is 73 (by decide +kernel) rfl, by decide, by decide +kernel⟩
set_option maxRecDepth 100000 in
theorem k_Machine_takeArgument : pm_kV m_Machine_takeArgument 6 1 := ⟨⟨pm_ix 14 (by decide +kernel) rfl, pm_ix 1676 (by decide +kernel) rfl, by decide, by decide, by decide +kernel, by decide⟩, pm_ix 1675 (by decide +kernel) rfl, pm_is 75 (by decide +kernel) rfl, by decide, by decide +kernel⟩
set_option maxRecDepth 100000 in
theorem k_Machine_callDef : pm_kV m_Machine_callDef 6 1 := ⟨⟨pm_ix 14 (by decide +kernel) rfl, pm_ix 1663 (by decide +kernel) rfl, by decide, by decide, by decide +kernel, by decide⟩, pm_ix 1662 (by decide +kernel) rfl, pm_is 74 (by decide +kernel) rfl, by decide, by decide +kernel⟩
set_option maxRecDepth 100000 in
theorem k_Machine_takeResult : pm_kV m_Machine_takeResult 6 1 := ⟨⟨pm_ix 14 (by decide +kernel) rfl, pm_ix 1682 (by decide +kernel) rfl, by decide, by decide, by decide +kernel, by decide⟩, pm_ix 1681 (by decide +kernel) rfl, pm_is 76 (by decide +kernel) rfl, by decide, by decide +kernel⟩
set_option maxRecDepth 100000 in
theorem k_Machine_goOnCalling : pm_kV m_Machine_goOnCalling 6 0 := ⟨⟨pm_ix 14 (by decide +kernel) rfl, pm_ix 1686 (by decide +kernel) rfl, by decide, by decide, by decide +kernel, by decide⟩, pm_ix 1685 (by decide +kernel) rfl, pm_is 77 (by decide +kernel) rfl, by decide, by decide +kernel⟩
set_option maxRecDepth 100000 in
theorem k_Machine_applyCallee : pm_kV m_Machine_applyCallee 6 0 := ⟨⟨pm_ix 14 (by decide +kernel) rfl, pm_ix 1522 (by decide +kernel) rfl, by decide, by decide, by decide +kernel, by decide⟩, pm_ix 1521 (by decide +kernel) rfl, pm_is 58 (by decide +kernel) rfl, by decide, by decide +kernel⟩
set_option maxRecDepth 100000 in
theorem k_Machine_enterFunction : pm_kV m_Machine_enterFunction 6 0 := ⟨⟨pm_ix 14 (by decide +kernel) rfl, pm_ix 1580 (by decide +kernel) rfl, by decide, by decide, by decide +kernel, by decide⟩, pm_ix 1579 (by decide +kernel) rfl, pm_is 64 (by decide +kernel) rfl, by decide, by decide +kernel⟩
set_option maxRecDepth 100000 in
theorem k_Machine_enterCover : pm_kV m_Machine_enterCover 6 1 := ⟨⟨pm_ix 14 (by decide +kernel) rfl, pm_ix 1526 (by decide +kernel) rfl, by decide, by decide, by decide +kernel, by decide⟩, pm_ix 1525 (by decide +kernel) rfl, pm_is 59 (by decide +kernel) rfl, by decide, by decide +kernel⟩
set_option maxRecDepth 100000 in
theorem k_Machine_leaveCover : pm_kV m_Machine_leaveCover 6 0 := ⟨⟨pm_ix 14 (by decide +kernel) rfl, pm_ix 1694 (by decide +kernel) rfl, by decide, by decide, by decide +kernel, by decide⟩, pm_ix 1693 (by decide +kernel) rfl, pm_is 78 (by decide +kernel) rfl, by decide, by decide +kernel⟩
set_option maxRecDepth 100000 in
theorem k_Parser_init : pm_kI m_Parser_init 6 := ⟨⟨pm_ix 12 (by decide +kernel) rfl, pm_ix 256 (by decide +kernel) rfl, by decide, by decide, by decide +kernel, by decide⟩, pm_ix 255 (by decide +kernel) rfl, rfl⟩
set_option maxRecDepth 100000 in
theorem k_Parser_readProgram : pm_kV m_Parser_readProgram 7 0 := ⟨⟨pm_ix 12 (by decide +kernel) rfl, pm_ix 639 (by decide +kernel) rfl, by decide, by decide, by decide +kernel, by decide⟩, pm_ix 637 (by decide +kernel) rfl, pm_ix 638 (by decide +kernel) rfl, by decide, by decide +kernel⟩
set_option maxRecDepth 100000 in
theorem k_Parser_readDef : pm_kV m_Parser_readDef 7 0 := ⟨⟨pm_ix 12 (by decide +kernel) rfl, pm_ix 656 (by decide +kernel) rfl, by decide, by decide, by decide +kernel, by decide⟩, pm_ix 655 (by decide +kernel) rfl, pm_is 11 (by decide +kernel) rfl, by decide, by decide +kernel⟩
set_option maxRecDepth 100000 in
theorem k_Parser_readParameter : pm_kV m_Parser_readParameter 7 0 := ⟨⟨pm_ix 12 (by decide +kernel) rfl, pm_ix 689 (by decide +kernel) rfl, by decide, by decide, by decide +kernel, by decide⟩, pm_ix 688 (by decide +kernel) rfl, pm_is 14 (by decide +kernel) rfl, by decide, by decide +kernel⟩
set_option maxRecDepth 100000 in
theorem k_Parser_readLocal : pm_kV m_Parser_readLocal 7 0 := ⟨⟨pm_ix 12 (by decide +kernel) rfl, pm_ix 697 (by decide +kernel) rfl, by decide, by decide, by decide +kernel, by decide⟩, pm_ix 696 (by decide +kernel) rfl, pm_is 15 (by decide +kernel) rfl, by decide, by decide +kernel⟩
set_option maxRecDepth 100000 in
theorem k_Parser_readType : pm_kV m_Parser_readType 7 2 := ⟨⟨pm_ix 12 (by decide +kernel) rfl, pm_ix 721 (by decide +kernel) rfl, by decide, by decide, by decide +kernel, by decide⟩, pm_ix 720 (by decide +kernel) rfl, pm_is 18 (by decide +kernel) rfl, by decide, by decide +kernel⟩
set_option maxRecDepth 100000 in
theorem k_Parser_readPart : pm_kV m_Parser_readPart 7 2 := ⟨⟨pm_ix 12 (by decide +kernel) rfl, pm_ix 725 (by decide +kernel) rfl, by decide, by decide, by decide +kernel, by decide⟩, pm_ix 724 (by decide +kernel) rfl, pm_is 19 (by decide +kernel) rfl, by decide, by decide +kernel⟩
set_option maxRecDepth 100000 in
theorem k_Parser_readBase : pm_kV m_Parser_readBase 7 2 := ⟨⟨pm_ix 12 (by decide +kernel) rfl, pm_ix 729 (by decide +kernel) rfl, by decide, by decide, by decide +kernel, by decide⟩, pm_ix 728 (by decide +kernel) rfl, pm_is 20 (by decide +kernel) rfl, by decide, by decide +kernel⟩
set_option maxRecDepth 100000 in
theorem k_Parser_readLetter : pm_kV m_Parser_readLetter 7 1 := ⟨⟨pm_ix 12 (by decide +kernel) rfl, pm_ix 737 (by decide +kernel) rfl, by decide, by decide, by decide +kernel, by decide⟩, pm_ix 736 (by decide +kernel) rfl, pm_is 22 (by decide +kernel) rfl, by decide, by decide +kernel⟩
set_option maxRecDepth 100000 in
theorem k_Parser_countLeaf : pm_kV m_Parser_countLeaf 7 0 := ⟨⟨pm_ix 12 (by decide +kernel) rfl, pm_ix 733 (by decide +kernel) rfl, by decide, by decide, by decide +kernel, by decide⟩, pm_ix 732 (by decide +kernel) rfl, pm_is 21 (by decide +kernel) rfl, by decide, by decide +kernel⟩
set_option maxRecDepth 100000 in
theorem k_Parser_pushBase : pm_kV m_Parser_pushBase 7 1 := ⟨⟨pm_ix 12 (by decide +kernel) rfl, pm_ix 745 (by decide +kernel) rfl, by decide, by decide, by decide +kernel, by decide⟩, pm_ix 744 (by decide +kernel) rfl, pm_is 23 (by decide +kernel) rfl, by decide, by decide +kernel⟩
set_option maxRecDepth 100000 in
theorem k_Parser_popBase : pm_kV m_Parser_popBase 7 0 := ⟨⟨pm_ix 12 (by decide +kernel) rfl, pm_ix 749 (by decide +kernel) rfl, by decide, by decide, by decide +kernel, by decide⟩, pm_ix 748 (by decide +kernel) rfl, pm_is 24 (by decide +kernel) rfl, by decide, by decide +kernel⟩
set_option maxRecDepth 100000 in
theorem k_Parser_readExpr : pm_kV m_Parser_readExpr 7 1 := ⟨⟨pm_ix 12 (by decide +kernel) rfl, pm_ix 791 (by decide +kernel) rfl, by decide, by decide, by decide +kernel, by decide⟩, pm_ix 790 (by decide +kernel) rfl, pm_is 26 (by decide +kernel) rfl, by decide, by decide +kernel⟩
set_option maxRecDepth 100000 in
theorem k_Parser_readLet : pm_kV m_Parser_readLet 7 1 := ⟨⟨pm_ix 12 (by decide +kernel) rfl, pm_ix 795 (by decide +kernel) rfl, by decide, by decide, by decide +kernel, by decide⟩, pm_ix 794 (by decide +kernel) rfl, pm_is 27 (by decide +kernel) rfl, by decide, by decide +kernel⟩
set_option maxRecDepth 100000 in
theorem k_Parser_readIf : pm_kV m_Parser_readIf 7 1 := ⟨⟨pm_ix 12 (by decide +kernel) rfl, pm_ix 1114 (by decide +kernel) rfl, by decide, by decide, by decide +kernel, by decide⟩, pm_ix 1113 (by decide +kernel) rfl, pm_is 30 (by decide +kernel) rfl, by decide, by decide +kernel⟩
set_option maxRecDepth 100000 in
theorem k_Parser_readFn : pm_kV m_Parser_readFn 7 1 := ⟨⟨pm_ix 12 (by decide +kernel) rfl, pm_ix 1118 (by decide +kernel) rfl, by decide, by decide, by decide +kernel, by decide⟩, pm_ix 1117 (by decide +kernel) rfl, pm_is 31 (by decide +kernel) rfl, by decide, by decide +kernel⟩
set_option maxRecDepth 100000 in
theorem k_Parser_readComparison : pm_kV m_Parser_readComparison 7 1 := ⟨⟨pm_ix 12 (by decide +kernel) rfl, pm_ix 1126 (by decide +kernel) rfl, by decide, by decide, by decide +kernel, by decide⟩, pm_ix 1125 (by decide +kernel) rfl, pm_is 32 (by decide +kernel) rfl, by decide, by decide +kernel⟩
set_option maxRecDepth 100000 in
theorem k_Parser_readSum : pm_kV m_Parser_readSum 7 1 := ⟨⟨pm_ix 12 (by decide +kernel) rfl, pm_ix 1130 (by decide +kernel) rfl, by decide, by decide, by decide +kernel, by decide⟩, pm_ix 1129 (by decide +kernel) rfl, pm_is 33 (by decide +kernel) rfl, by decide, by decide +kernel⟩
set_option maxRecDepth 100000 in
theorem k_Parser_readCall : pm_kV m_Parser_readCall 7 1 := ⟨⟨pm_ix 12 (by decide +kernel) rfl, pm_ix 1134 (by decide +kernel) rfl, by decide, by decide, by decide +kernel, by decide⟩, pm_ix 1133 (by decide +kernel) rfl, pm_is 34 (by decide +kernel) rfl, by decide, by decide +kernel⟩
set_option maxRecDepth 100000 in
theorem k_Parser_readAtoms : pm_kV m_Parser_readAtoms 7 2 := ⟨⟨pm_ix 12 (by decide +kernel) rfl, pm_ix 1162 (by decide +kernel) rfl, by decide, by decide, by decide +kernel, by decide⟩, pm_ix 1161 (by decide +kernel) rfl, pm_is 39 (by decide +kernel) rfl, by decide, by decide +kernel⟩
set_option maxRecDepth 100000 in
theorem k_Parser_readAtom : pm_kV m_Parser_readAtom 7 1 := ⟨⟨pm_ix 12 (by decide +kernel) rfl, pm_ix 1138 (by decide +kernel) rfl, by decide, by decide, by decide +kernel, by decide⟩, pm_ix 1137 (by decide +kernel) rfl, pm_is 35 (by decide +kernel) rfl, by decide, by decide +kernel⟩
set_option maxRecDepth 100000 in
theorem k_Parser_readLeafExpr : pm_kV m_Parser_readLeafExpr 7 2 := ⟨⟨pm_ix 12 (by decide +kernel) rfl, pm_ix 1142 (by decide +kernel) rfl, by decide, by decide, by decide +kernel, by decide⟩, pm_ix 1141 (by decide +kernel) rfl, pm_is 36 (by decide +kernel) rfl, by decide, by decide +kernel⟩
set_option maxRecDepth 100000 in
theorem k_Parser_readBrackets : pm_kV m_Parser_readBrackets 7 1 := ⟨⟨pm_ix 12 (by decide +kernel) rfl, pm_ix 1146 (by decide +kernel) rfl, by decide, by decide, by decide +kernel, by decide⟩, pm_ix 1145 (by decide +kernel) rfl, pm_is 37 (by decide +kernel) rfl, by decide, by decide +kernel⟩
set_option maxRecDepth 100000 in
theorem k_Parser_beginsAtom : pm_kV m_Parser_beginsAtom 7 0 := ⟨⟨pm_ix 12 (by decide +kernel) rfl, pm_ix 1150 (by decide +kernel) rfl, by decide, by decide, by decide +kernel, by decide⟩, pm_ix 1149 (by decide +kernel) rfl, pm_is 38 (by decide +kernel) rfl, by decide, by decide +kernel⟩
set_option maxRecDepth 100000 in
theorem k_Parser_isSumSign : pm_kV m_Parser_isSumSign 7 0 := ⟨⟨pm_ix 12 (by decide +kernel) rfl, pm_ix 1174 (by decide +kernel) rfl, by decide, by decide, by decide +kernel, by decide⟩, pm_ix 1173 (by decide +kernel) rfl, pm_is 40 (by decide +kernel) rfl, by decide, by decide +kernel⟩
set_option maxRecDepth 100000 in
theorem k_Parser_bind : pm_kV m_Parser_bind 7 2 := ⟨⟨pm_ix 12 (by decide +kernel) rfl, pm_ix 713 (by decide +kernel) rfl, by decide, by decide, by decide +kernel, by decide⟩, pm_ix 712 (by decide +kernel) rfl, pm_is 17 (by decide +kernel) rfl, by decide, by decide +kernel⟩
set_option maxRecDepth 100000 in
theorem k_Parser_unbind : pm_kV m_Parser_unbind 7 0 := ⟨⟨pm_ix 12 (by decide +kernel) rfl, pm_ix 803 (by decide +kernel) rfl, by decide, by decide, by decide +kernel, by decide⟩, pm_ix 802 (by decide +kernel) rfl, pm_is 28 (by decide +kernel) rfl, by decide, by decide +kernel⟩
set_option maxRecDepth 100000 in
theorem k_Parser_findLocal : pm_kV m_Parser_findLocal 7 1 := ⟨⟨pm_ix 12 (by decide +kernel) rfl, pm_ix 709 (by decide +kernel) rfl, by decide, by decide, by decide +kernel, by decide⟩, pm_ix 708 (by decide +kernel) rfl, pm_is 16 (by decide +kernel) rfl, by decide, by decide +kernel⟩
set_option maxRecDepth 100000 in
theorem k_Parser_kind : pm_kV m_Parser_kind 7 0 := ⟨⟨pm_ix 12 (by decide +kernel) rfl, pm_ix 647 (by decide +kernel) rfl, by decide, by decide, by decide +kernel, by decide⟩, pm_ix 646 (by decide +kernel) rfl, pm_is 10 (by decide +kernel) rfl, by decide, by decide +kernel⟩
set_option maxRecDepth 100000 in
theorem k_Parser_here : pm_kV m_Parser_here 7 0 := ⟨⟨pm_ix 12 (by decide +kernel) rfl, pm_ix 664 (by decide +kernel) rfl, by decide, by decide, by decide +kernel, by decide⟩, pm_ix 663 (by decide +kernel) rfl, pm_is 12 (by decide +kernel) rfl, by decide, by decide +kernel⟩
set_option maxRecDepth 100000 in
theorem k_Parser_expect : pm_kV m_Parser_expect 7 1 := ⟨⟨pm_ix 12 (by decide +kernel) rfl, pm_ix 673 (by decide +kernel) rfl, by decide, by decide, by decide +kernel, by decide⟩, pm_ix 672 (by decide +kernel) rfl, pm_is 13 (by decide +kernel) rfl, by decide, by decide +kernel⟩
set_option maxRecDepth 100000 in
theorem k_Table_init : pm_kI m_Table_init 0 := ⟨⟨pm_ix 11 (by decide +kernel) rfl, pm_ix 219 (by decide +kernel) rfl, by decide, by decide, by decide +kernel, by decide⟩, pm_ix 218 (by decide +kernel) rfl, rfl⟩
set_option maxRecDepth 100000 in
theorem k_Table_clear : pm_kV m_Table_clear 8 0 := ⟨⟨pm_ix 11 (by decide +kernel) rfl, pm_ix 573 (by decide +kernel) rfl, by decide, by decide, by decide +kernel, by decide⟩, pm_ix 571 (by decide +kernel) rfl, pm_ix 572 (by decide +kernel) rfl, by decide, by decide +kernel⟩
set_option maxRecDepth 100000 in
theorem k_Table_size : pm_kV m_Table_size 8 0 := ⟨⟨pm_ix 11 (by decide +kernel) rfl, pm_ix 660 (by decide +kernel) rfl, by decide, by decide, by decide +kernel, by decide⟩, pm_ix 658 (by decide +kernel) rfl, pm_ix 659 (by decide +kernel) rfl, by decide, by decide +kernel⟩
set_option maxRecDepth 100000 in
theorem k_Table_add : pm_kV m_Table_add 8 2 := ⟨⟨pm_ix 11 (by decide +kernel) rfl, pm_ix 685 (by decide +kernel) rfl, by decide, by decide, by decide +kernel, by decide⟩, pm_ix 683 (by decide +kernel) rfl, pm_ix 684 (by decide +kernel) rfl, by decide, by decide +kernel⟩
set_option maxRecDepth 100000 in
theorem k_Table_find : pm_kV m_Table_find 8 1 := ⟨⟨pm_ix 11 (by decide +kernel) rfl, pm_ix 681 (by decide +kernel) rfl, by decide, by decide, by decide +kernel, by decide⟩, pm_ix 679 (by decide +kernel) rfl, pm_ix 680 (by decide +kernel) rfl, by decide, by decide +kernel⟩
set_option maxRecDepth 100000 in
theorem k_Table_placeOf : pm_kV m_Table_placeOf 8 1 := ⟨⟨pm_ix 11 (by decide +kernel) rfl, pm_ix 1326 (by decide +kernel) rfl, by decide, by decide, by decide +kernel, by decide⟩, pm_ix 1324 (by decide +kernel) rfl, pm_ix 1325 (by decide +kernel) rfl, by decide, by decide +kernel⟩
set_option maxRecDepth 100000 in
theorem k_Table_type : pm_kV m_Table_type 8 1 := ⟨⟨pm_ix 11 (by decide +kernel) rfl, pm_ix 1249 (by decide +kernel) rfl, by decide, by decide, by decide +kernel, by decide⟩, pm_ix 1247 (by decide +kernel) rfl, pm_ix 1248 (by decide +kernel) rfl, by decide, by decide +kernel⟩
set_option maxRecDepth 100000 in
theorem k_Table_setType : pm_kV m_Table_setType 8 2 := ⟨⟨pm_ix 11 (by decide +kernel) rfl, pm_ix 787 (by decide +kernel) rfl, by decide, by decide, by decide +kernel, by decide⟩, pm_ix 785 (by decide +kernel) rfl, pm_ix 786 (by decide +kernel) rfl, by decide, by decide +kernel⟩
set_option maxRecDepth 100000 in
theorem k_Table_root : pm_kV m_Table_root 8 1 := ⟨⟨pm_ix 11 (by decide +kernel) rfl, pm_ix 1322 (by decide +kernel) rfl, by decide, by decide, by decide +kernel, by decide⟩, pm_ix 1320 (by decide +kernel) rfl, pm_ix 1321 (by decide +kernel) rfl, by decide, by decide +kernel⟩
set_option maxRecDepth 100000 in
theorem k_Table_end : pm_kV m_Table_end 8 1 := ⟨⟨pm_ix 11 (by decide +kernel) rfl, pm_ix 1198 (by decide +kernel) rfl, by decide, by decide, by decide +kernel, by decide⟩, pm_ix 1196 (by decide +kernel) rfl, pm_ix 1197 (by decide +kernel) rfl, by decide, by decide +kernel⟩
set_option maxRecDepth 100000 in
theorem k_Table_setRoot : pm_kV m_Table_setRoot 8 3 := ⟨⟨pm_ix 11 (by decide +kernel) rfl, pm_ix 1182 (by decide +kernel) rfl, by decide, by decide, by decide +kernel, by decide⟩, pm_ix 1180 (by decide +kernel) rfl, pm_ix 1181 (by decide +kernel) rfl, by decide, by decide +kernel⟩
set_option maxRecDepth 100000 in
theorem k_Table_parameters : pm_kV m_Table_parameters 8 1 := ⟨⟨pm_ix 11 (by decide +kernel) rfl, pm_ix 693 (by decide +kernel) rfl, by decide, by decide, by decide +kernel, by decide⟩, pm_ix 691 (by decide +kernel) rfl, pm_ix 692 (by decide +kernel) rfl, by decide, by decide +kernel⟩
set_option maxRecDepth 100000 in
theorem k_Table_locals : pm_kV m_Table_locals 8 1 := ⟨⟨pm_ix 11 (by decide +kernel) rfl, pm_ix 701 (by decide +kernel) rfl, by decide, by decide, by decide +kernel, by decide⟩, pm_ix 699 (by decide +kernel) rfl, pm_ix 700 (by decide +kernel) rfl, by decide, by decide +kernel⟩
set_option maxRecDepth 100000 in
theorem k_Table_addLocal : pm_kV m_Table_addLocal 8 1 := ⟨⟨pm_ix 11 (by decide +kernel) rfl, pm_ix 705 (by decide +kernel) rfl, by decide, by decide, by decide +kernel, by decide⟩, pm_ix 703 (by decide +kernel) rfl, pm_ix 704 (by decide +kernel) rfl, by decide, by decide +kernel⟩
set_option maxRecDepth 100000 in
theorem k_Table_localType : pm_kV m_Table_localType 8 2 := ⟨⟨pm_ix 11 (by decide +kernel) rfl, pm_ix 1245 (by decide +kernel) rfl, by decide, by decide, by decide +kernel, by decide⟩, pm_ix 1243 (by decide +kernel) rfl, pm_ix 1244 (by decide +kernel) rfl, by decide, by decide +kernel⟩
set_option maxRecDepth 100000 in
theorem k_Table_setLocalType : pm_kV m_Table_setLocalType 8 3 := ⟨⟨pm_ix 11 (by decide +kernel) rfl, pm_ix 773 (by decide +kernel) rfl, by decide, by decide, by decide +kernel, by decide⟩, pm_ix 771 (by decide +kernel) rfl, pm_ix 772 (by decide +kernel) rfl, by decide, by decide +kernel⟩
set_option maxRecDepth 100000 in
theorem k_Table_localBound : pm_kV m_Table_localBound 8 2 := ⟨⟨pm_ix 11 (by decide +kernel) rfl, pm_ix 1241 (by decide +kernel) rfl, by decide, by decide, by decide +kernel, by decide⟩, pm_ix 1239 (by decide +kernel) rfl, pm_ix 1240 (by decide +kernel) rfl, by decide, by decide +kernel⟩
set_option maxRecDepth 100000 in
theorem k_Table_setLocalBound : pm_kV m_Table_setLocalBound 8 3 := ⟨⟨pm_ix 11 (by decide +kernel) rfl, pm_ix 799 (by decide +kernel) rfl, by decide, by decide, by decide +kernel, by decide⟩, pm_ix 797 (by decide +kernel) rfl, pm_ix 798 (by decide +kernel) rfl, by decide, by decide +kernel⟩
set_option maxRecDepth 100000 in
theorem k_Table_tally : pm_kV m_Table_tally 8 2 := ⟨⟨pm_ix 11 (by decide +kernel) rfl, pm_ix 1439 (by decide +kernel) rfl, by decide, by decide, by decide +kernel, by decide⟩, pm_ix 1437 (by decide +kernel) rfl, pm_ix 1438 (by decide +kernel) rfl, by decide, by decide +kernel⟩
set_option maxRecDepth 100000 in
theorem k_Table_count : pm_kV m_Table_count 8 3 := ⟨⟨pm_ix 11 (by decide +kernel) rfl, pm_ix 717 (by decide +kernel) rfl, by decide, by decide, by decide +kernel, by decide⟩, pm_ix 715 (by decide +kernel) rfl, pm_ix 716 (by decide +kernel) rfl, by decide, by decide +kernel⟩
set_option maxRecDepth 100000 in
theorem k_Table_hasLocal : pm_kV m_Table_hasLocal 8 2 := ⟨⟨pm_ix 11 (by decide +kernel) rfl, pm_ix 777 (by decide +kernel) rfl, by decide, by decide, by decide +kernel, by decide⟩, pm_ix 776 (by decide +kernel) rfl, pm_is 25 (by decide +kernel) rfl, by decide, by decide +kernel⟩
set_option maxRecDepth 100000 in
theorem k_Tokens_init : pm_kI m_Tokens_init 1 := ⟨⟨pm_ix 3 (by decide +kernel) rfl, pm_ix 59 (by decide +kernel) rfl, by decide, by decide, by decide +kernel, by decide⟩, pm_ix 58 (by decide +kernel) rfl, rfl⟩
set_option maxRecDepth 100000 in
theorem k_Tokens_kind : pm_kV m_Tokens_kind 9 1 := ⟨⟨pm_ix 3 (by decide +kernel) rfl, pm_ix 652 (by decide +kernel) rfl, by decide, by decide, by decide +kernel, by decide⟩, pm_ix 650 (by decide +kernel) rfl, pm_ix 651 (by decide +kernel) rfl, by decide, by decide +kernel⟩
set_option maxRecDepth 100000 in
theorem k_Tokens_placeOf : pm_kV m_Tokens_placeOf 9 1 := ⟨⟨pm_ix 3 (by decide +kernel) rfl, pm_ix 668 (by decide +kernel) rfl, by decide, by decide, by decide +kernel, by decide⟩, pm_ix 666 (by decide +kernel) rfl, pm_ix 667 (by decide +kernel) rfl, by decide, by decide +kernel⟩
set_option maxRecDepth 100000 in
theorem k_Tokens_value : pm_kV m_Tokens_value 9 1 := ⟨⟨pm_ix 3 (by decide +kernel) rfl, pm_ix 677 (by decide +kernel) rfl, by decide, by decide, by decide +kernel, by decide⟩, pm_ix 675 (by decide +kernel) rfl, pm_ix 676 (by decide +kernel) rfl, by decide, by decide +kernel⟩
set_option maxRecDepth 100000 in
theorem k_Tokens_size : pm_kV m_Tokens_size 9 0 := ⟨⟨pm_ix 3 (by decide +kernel) rfl, pm_ix 643 (by decide +kernel) rfl, by decide, by decide, by decide +kernel, by decide⟩, pm_ix 641 (by decide +kernel) rfl, pm_ix 642 (by decide +kernel) rfl, by decide, by decide +kernel⟩
set_option maxRecDepth 100000 in
theorem k_Tokens_scan : pm_kV m_Tokens_scan 9 2 := ⟨⟨pm_ix 3 (by decide +kernel) rfl, pm_ix 578 (by decide +kernel) rfl, by decide, by decide, by decide +kernel, by decide⟩, pm_ix 576 (by decide +kernel) rfl, pm_ix 577 (by decide +kernel) rfl, by decide, by decide +kernel⟩
set_option maxRecDepth 100000 in
theorem k_Tokens_scanToken : pm_kV m_Tokens_scanToken 9 2 := ⟨⟨pm_ix 3 (by decide +kernel) rfl, pm_ix 591 (by decide +kernel) rfl, by decide, by decide, by decide +kernel, by decide⟩, pm_ix 590 (by decide +kernel) rfl, pm_is 1 (by decide +kernel) rfl, by decide, by decide +kernel⟩
set_option maxRecDepth 100000 in
theorem k_Tokens_scanName : pm_kV m_Tokens_scanName 9 2 := ⟨⟨pm_ix 3 (by decide +kernel) rfl, pm_ix 602 (by decide +kernel) rfl, by decide, by decide, by decide +kernel, by decide⟩, pm_ix 601 (by decide +kernel) rfl, pm_is 3 (by decide +kernel) rfl, by decide, by decide +kernel⟩
set_option maxRecDepth 100000 in
theorem k_Tokens_kindOfName : pm_kV m_Tokens_kindOfName 9 1 := ⟨⟨pm_ix 3 (by decide +kernel) rfl, pm_ix 606 (by decide +kernel) rfl, by decide, by decide, by decide +kernel, by decide⟩, pm_ix 605 (by decide +kernel) rfl, pm_is 4 (by decide +kernel) rfl, by decide, by decide +kernel⟩
set_option maxRecDepth 100000 in
theorem k_Tokens_scanNumber : pm_kV m_Tokens_scanNumber 9 2 := ⟨⟨pm_ix 3 (by decide +kernel) rfl, pm_ix 614 (by decide +kernel) rfl, by decide, by decide, by decide +kernel, by decide⟩, pm_ix 613 (by decide +kernel) rfl, pm_is 6 (by decide +kernel) rfl, by decide, by decide +kernel⟩
set_option maxRecDepth 100000 in
theorem k_Tokens_scanBits : pm_kV m_Tokens_scanBits 9 2 := ⟨⟨pm_ix 3 (by decide +kernel) rfl, pm_ix 620 (by decide +kernel) rfl, by decide, by decide, by decide +kernel, by decide⟩, pm_ix 619 (by decide +kernel) rfl, pm_is 7 (by decide +kernel) rfl, by decide, by decide +kernel⟩
set_option maxRecDepth 100000 in
theorem k_Tokens_scanLetter : pm_kV m_Tokens_scanLetter 9 2 := ⟨⟨pm_ix 3 (by decide +kernel) rfl, pm_ix 627 (by decide +kernel) rfl, by decide, by decide, by decide +kernel, by decide⟩, pm_ix 626 (by decide +kernel) rfl, pm_is 8 (by decide +kernel) rfl, by decide, by decide +kernel⟩
set_option maxRecDepth 100000 in
theorem k_Tokens_scanSign : pm_kV m_Tokens_scanSign 9 2 := ⟨⟨pm_ix 3 (by decide +kernel) rfl, pm_ix 631 (by decide +kernel) rfl, by decide, by decide, by decide +kernel, by decide⟩, pm_ix 630 (by decide +kernel) rfl, pm_is 9 (by decide +kernel) rfl, by decide, by decide +kernel⟩
set_option maxRecDepth 100000 in
theorem k_Tokens_add : pm_kV m_Tokens_add 9 3 := ⟨⟨pm_ix 3 (by decide +kernel) rfl, pm_ix 610 (by decide +kernel) rfl, by decide, by decide, by decide +kernel, by decide⟩, pm_ix 609 (by decide +kernel) rfl, pm_is 5 (by decide +kernel) rfl, by decide, by decide +kernel⟩
set_option maxRecDepth 100000 in
theorem k_Tokens_octetAt : pm_kV m_Tokens_octetAt 9 2 := ⟨⟨pm_ix 3 (by decide +kernel) rfl, pm_ix 595 (by decide +kernel) rfl, by decide, by decide, by decide +kernel, by decide⟩, pm_ix 594 (by decide +kernel) rfl, pm_is 2 (by decide +kernel) rfl, by decide, by decide +kernel⟩
set_option maxRecDepth 100000 in
theorem k_Tokens_isLetter : pm_kS m_Tokens_isLetter 1 := ⟨⟨pm_ix 3 (by decide +kernel) rfl, pm_ix 598 (by decide +kernel) rfl, by decide, by decide, by decide +kernel, by decide⟩, pm_ix 597 (by decide +kernel) rfl⟩
set_option maxRecDepth 100000 in
theorem k_Tokens_isDigit : pm_kS m_Tokens_isDigit 1 := ⟨⟨pm_ix 3 (by decide +kernel) rfl, pm_ix 115 (by decide +kernel) rfl, by decide, by decide, by decide +kernel, by decide⟩, pm_ix 114 (by decide +kernel) rfl⟩
set_option maxRecDepth 100000 in
theorem k_Tokens_hexDigit : pm_kS m_Tokens_hexDigit 1 := ⟨⟨pm_ix 3 (by decide +kernel) rfl, pm_ix 623 (by decide +kernel) rfl, by decide, by decide, by decide +kernel, by decide⟩, pm_ix 622 (by decide +kernel) rfl⟩
set_option maxRecDepth 100000 in
theorem k_Tokens_withOctet : pm_kS m_Tokens_withOctet 2 := ⟨⟨pm_ix 3 (by decide +kernel) rfl, pm_ix 112 (by decide +kernel) rfl, by decide, by decide, by decide +kernel, by decide⟩, pm_ix 111 (by decide +kernel) rfl⟩
set_option maxRecDepth 100000 in
theorem k_Tree_init : pm_kI m_Tree_init 0 := ⟨⟨pm_ix 10 (by decide +kernel) rfl, pm_ix 178 (by decide +kernel) rfl, by decide, by decide, by decide +kernel, by decide⟩, pm_ix 177 (by decide +kernel) rfl, rfl⟩
set_option maxRecDepth 100000 in
theorem k_Tree_clear : pm_kV m_Tree_clear 10 0 := ⟨⟨pm_ix 10 (by decide +kernel) rfl, pm_ix 569 (by decide +kernel) rfl, by decide, by decide, by decide +kernel, by decide⟩, pm_ix 567 (by decide +kernel) rfl, pm_ix 568 (by decide +kernel) rfl, by decide, by decide +kernel⟩
set_option maxRecDepth 100000 in
theorem k_Tree_size : pm_kV m_Tree_size 10 0 := ⟨⟨pm_ix 10 (by decide +kernel) rfl, pm_ix 1178 (by decide +kernel) rfl, by decide, by decide, by decide +kernel, by decide⟩, pm_ix 1176 (by decide +kernel) rfl, pm_ix 1177 (by decide +kernel) rfl, by decide, by decide +kernel⟩
set_option maxRecDepth 100000 in
theorem k_Tree_add : pm_kV m_Tree_add 10 5 := ⟨⟨pm_ix 10 (by decide +kernel) rfl, pm_ix 808 (by decide +kernel) rfl, by decide, by decide, by decide +kernel, by decide⟩, pm_ix 806 (by decide +kernel) rfl, pm_ix 807 (by decide +kernel) rfl, by decide, by decide +kernel⟩
set_option maxRecDepth 100000 in
theorem k_Tree_kind : pm_kV m_Tree_kind 10 1 := ⟨⟨pm_ix 10 (by decide +kernel) rfl, pm_ix 1154 (by decide +kernel) rfl, by decide, by decide, by decide +kernel, by decide⟩, pm_ix 1152 (by decide +kernel) rfl, pm_ix 1153 (by decide +kernel) rfl, by decide, by decide +kernel⟩
set_option maxRecDepth 100000 in
theorem k_Tree_turnInto : pm_kV m_Tree_turnInto 10 2 := ⟨⟨pm_ix 10 (by decide +kernel) rfl, pm_ix 1158 (by decide +kernel) rfl, by decide, by decide, by decide +kernel, by decide⟩, pm_ix 1156 (by decide +kernel) rfl, pm_ix 1157 (by decide +kernel) rfl, by decide, by decide +kernel⟩
set_option maxRecDepth 100000 in
theorem k_Tree_placeOf : pm_kV m_Tree_placeOf 10 1 := ⟨⟨pm_ix 10 (by decide +kernel) rfl, pm_ix 1170 (by decide +kernel) rfl, by decide, by decide, by decide +kernel, by decide⟩, pm_ix 1168 (by decide +kernel) rfl, pm_ix 1169 (by decide +kernel) rfl, by decide, by decide +kernel⟩
set_option maxRecDepth 100000 in
theorem k_Tree_first : pm_kV m_Tree_first 10 1 := ⟨⟨pm_ix 10 (by decide +kernel) rfl, pm_ix 1225 (by decide +kernel) rfl, by decide, by decide, by decide +kernel, by decide⟩, pm_ix 1223 (by decide +kernel) rfl, pm_ix 1224 (by decide +kernel) rfl, by decide, by decide +kernel⟩
set_option maxRecDepth 100000 in
theorem k_Tree_second : pm_kV m_Tree_second 10 1 := ⟨⟨pm_ix 10 (by decide +kernel) rfl, pm_ix 1233 (by decide +kernel) rfl, by decide, by decide, by decide +kernel, by decide⟩, pm_ix 1231 (by decide +kernel) rfl, pm_ix 1232 (by decide +kernel) rfl, by decide, by decide +kernel⟩
set_option maxRecDepth 100000 in
theorem k_Tree_third : pm_kV m_Tree_third 10 1 := ⟨⟨pm_ix 10 (by decide +kernel) rfl, pm_ix 1253 (by decide +kernel) rfl, by decide, by decide, by decide +kernel, by decide⟩, pm_ix 1251 (by decide +kernel) rfl, pm_ix 1252 (by decide +kernel) rfl, by decide, by decide +kernel⟩
set_option maxRecDepth 100000 in
theorem k_Tree_next : pm_kV m_Tree_next 10 1 := ⟨⟨pm_ix 10 (by decide +kernel) rfl, pm_ix 1274 (by decide +kernel) rfl, by decide, by decide, by decide +kernel, by decide⟩, pm_ix 1272 (by decide +kernel) rfl, pm_ix 1273 (by decide +kernel) rfl, by decide, by decide +kernel⟩
set_option maxRecDepth 100000 in
theorem k_Tree_chain : pm_kV m_Tree_chain 10 2 := ⟨⟨pm_ix 10 (by decide +kernel) rfl, pm_ix 1166 (by decide +kernel) rfl, by decide, by decide, by decide +kernel, by decide⟩, pm_ix 1164 (by decide +kernel) rfl, pm_ix 1165 (by decide +kernel) rfl, by decide, by decide +kernel⟩
set_option maxRecDepth 100000 in
theorem k_Tree_type : pm_kV m_Tree_type 10 1 := ⟨⟨pm_ix 10 (by decide +kernel) rfl, pm_ix 1229 (by decide +kernel) rfl, by decide, by decide, by decide +kernel, by decide⟩, pm_ix 1227 (by decide +kernel) rfl, pm_ix 1228 (by decide +kernel) rfl, by decide, by decide +kernel⟩
set_option maxRecDepth 100000 in
theorem k_Tree_setType : pm_kV m_Tree_setType 10 2 := ⟨⟨pm_ix 10 (by decide +kernel) rfl, pm_ix 1318 (by decide +kernel) rfl, by decide, by decide, by decide +kernel, by decide⟩, pm_ix 1316 (by decide +kernel) rfl, pm_ix 1317 (by decide +kernel) rfl, by decide, by decide +kernel⟩
set_option maxRecDepth 100000 in
theorem k_Tree_value : pm_kV m_Tree_value 10 1 := ⟨⟨pm_ix 10 (by decide +kernel) rfl, pm_ix 1211 (by decide +kernel) rfl, by decide, by decide, by decide +kernel, by decide⟩, pm_ix 1209 (by decide +kernel) rfl, pm_ix 1210 (by decide +kernel) rfl, by decide, by decide +kernel⟩
set_option maxRecDepth 100000 in
theorem k_Tree_setValue : pm_kV m_Tree_setValue 10 2 := ⟨⟨pm_ix 10 (by decide +kernel) rfl, pm_ix 1122 (by decide +kernel) rfl, by decide, by decide, by decide +kernel, by decide⟩, pm_ix 1120 (by decide +kernel) rfl, pm_ix 1121 (by decide +kernel) rfl, by decide, by decide +kernel⟩
set_option maxRecDepth 100000 in
theorem k_Tree_isShort : pm_kV m_Tree_isShort 10 1 := ⟨⟨pm_ix 10 (by decide +kernel) rfl, pm_ix 1339 (by decide +kernel) rfl, by decide, by decide, by decide +kernel, by decide⟩, pm_ix 1337 (by decide +kernel) rfl, pm_ix 1338 (by decide +kernel) rfl, by decide, by decide +kernel⟩
set_option maxRecDepth 100000 in
theorem k_Tree_markShort : pm_kV m_Tree_markShort 10 1 := ⟨⟨pm_ix 10 (by decide +kernel) rfl, pm_ix 1306 (by decide +kernel) rfl, by decide, by decide, by decide +kernel, by decide⟩, pm_ix 1304 (by decide +kernel) rfl, pm_ix 1305 (by decide +kernel) rfl, by decide, by decide +kernel⟩
set_option maxRecDepth 100000 in
theorem k_Tree_fit : pm_kV m_Tree_fit 10 2 := ⟨⟨pm_ix 10 (by decide +kernel) rfl, pm_ix 1294 (by decide +kernel) rfl, by decide, by decide, by decide +kernel, by decide⟩, pm_ix 1292 (by decide +kernel) rfl, pm_ix 1293 (by decide +kernel) rfl, by decide, by decide +kernel⟩
set_option maxRecDepth 100000 in
theorem k_Tree_setFit : pm_kV m_Tree_setFit 10 3 := ⟨⟨pm_ix 10 (by decide +kernel) rfl, pm_ix 1298 (by decide +kernel) rfl, by decide, by decide, by decide +kernel, by decide⟩, pm_ix 1296 (by decide +kernel) rfl, pm_ix 1297 (by decide +kernel) rfl, by decide, by decide +kernel⟩
set_option maxRecDepth 100000 in
theorem k_Types_init : pm_kI m_Types_init 0 := ⟨⟨pm_ix 8 (by decide +kernel) rfl, pm_ix 144 (by decide +kernel) rfl, by decide, by decide, by decide +kernel, by decide⟩, pm_ix 143 (by decide +kernel) rfl, rfl⟩
set_option maxRecDepth 100000 in
theorem k_Types_clear : pm_kV m_Types_clear 11 0 := ⟨⟨pm_ix 8 (by decide +kernel) rfl, pm_ix 564 (by decide +kernel) rfl, by decide, by decide, by decide +kernel, by decide⟩, pm_ix 562 (by decide +kernel) rfl, pm_ix 563 (by decide +kernel) rfl, by decide, by decide +kernel⟩
set_option maxRecDepth 100000 in
theorem k_Types_letter : pm_kV m_Types_letter 11 1 := ⟨⟨pm_ix 8 (by decide +kernel) rfl, pm_ix 741 (by decide +kernel) rfl, by decide, by decide, by decide +kernel, by decide⟩, pm_ix 739 (by decide +kernel) rfl, pm_ix 740 (by decide +kernel) rfl, by decide, by decide +kernel⟩
set_option maxRecDepth 100000 in
theorem k_Types_letterNumber : pm_kV m_Types_letterNumber 11 1 := ⟨⟨pm_ix 8 (by decide +kernel) rfl, pm_ix 1290 (by decide +kernel) rfl, by decide, by decide, by decide +kernel, by decide⟩, pm_ix 1288 (by decide +kernel) rfl, pm_ix 1289 (by decide +kernel) rfl, by decide, by decide +kernel⟩
set_option maxRecDepth 100000 in
theorem k_Types_kind : pm_kV m_Types_kind 11 1 := ⟨⟨pm_ix 8 (by decide +kernel) rfl, pm_ix 1258 (by decide +kernel) rfl, by decide, by decide, by decide +kernel, by decide⟩, pm_ix 1256 (by decide +kernel) rfl, pm_ix 1257 (by decide +kernel) rfl, by decide, by decide +kernel⟩
set_option maxRecDepth 100000 in
theorem k_Types_left : pm_kV m_Types_left 11 1 := ⟨⟨pm_ix 8 (by decide +kernel) rfl, pm_ix 1262 (by decide +kernel) rfl, by decide, by decide, by decide +kernel, by decide⟩, pm_ix 1260 (by decide +kernel) rfl, pm_ix 1261 (by decide +kernel) rfl, by decide, by decide +kernel⟩
set_option maxRecDepth 100000 in
theorem k_Types_right : pm_kV m_Types_right 11 1 := ⟨⟨pm_ix 8 (by decide +kernel) rfl, pm_ix 1266 (by decide +kernel) rfl, by decide, by decide, by decide +kernel, by decide⟩, pm_ix 1264 (by decide +kernel) rfl, pm_ix 1265 (by decide +kernel) rfl, by decide, by decide +kernel⟩
set_option maxRecDepth 100000 in
theorem k_Types_leaves : pm_kV m_Types_leaves 11 1 := ⟨⟨pm_ix 8 (by decide +kernel) rfl, pm_ix 1314 (by decide +kernel) rfl, by decide, by decide, by decide +kernel, by decide⟩, pm_ix 1312 (by decide +kernel) rfl, pm_ix 1313 (by decide +kernel) rfl, by decide, by decide +kernel⟩
set_option maxRecDepth 100000 in
theorem k_Types_letters : pm_kV m_Types_letters 11 1 := ⟨⟨pm_ix 8 (by decide +kernel) rfl, pm_ix 1286 (by decide +kernel) rfl, by decide, by decide, by decide +kernel, by decide⟩, pm_ix 1284 (by decide +kernel) rfl, pm_ix 1285 (by decide +kernel) rfl, by decide, by decide +kernel⟩
set_option maxRecDepth 100000 in
theorem k_Types_make : pm_kV m_Types_make 11 3 := ⟨⟨pm_ix 8 (by decide +kernel) rfl, pm_ix 753 (by decide +kernel) rfl, by decide, by decide, by decide +kernel, by decide⟩, pm_ix 751 (by decide +kernel) rfl, pm_ix 752 (by decide +kernel) rfl, by decide, by decide +kernel⟩
set_option maxRecDepth 100000 in
theorem k_Integer_bitCount : pm_kS m_Integer_bitCount 1 := ⟨⟨pm_ix 25 (by decide +kernel) rfl, pm_ix 780 (by decide +kernel) rfl, by decide, by decide, by decide +kernel, by decide⟩, pm_ix 779 (by decide +kernel) rfl⟩
set_option maxRecDepth 100000 in
theorem k_Integer_numberOfLeadingZeros : pm_kS m_Integer_numberOfLeadingZeros 1 := ⟨⟨pm_ix 25 (by decide +kernel) rfl, pm_ix 1370 (by decide +kernel) rfl, by decide, by decide, by decide +kernel, by decide⟩, pm_ix 1369 (by decide +kernel) rfl⟩
set_option maxRecDepth 100000 in
theorem k_Math_max : pm_kS m_Math_max 2 := ⟨⟨pm_ix 9 (by decide +kernel) rfl, pm_ix 635 (by decide +kernel) rfl, by decide, by decide, by decide +kernel, by decide⟩, pm_ix 634 (by decide +kernel) rfl⟩
set_option maxRecDepth 100000 in
theorem k_Math_min : pm_kS m_Math_min 2 := ⟨⟨pm_ix 9 (by decide +kernel) rfl, pm_ix 148 (by decide +kernel) rfl, by decide, by decide, by decide +kernel, by decide⟩, pm_ix 147 (by decide +kernel) rfl⟩
set_option maxRecDepth 100000 in
theorem k_Arrays_copyOf_0 : pm_kS m_Arrays_copyOf_0 2 := ⟨⟨pm_ix 23 (by decide +kernel) rfl, pm_ix 918 (by decide +kernel) rfl, by decide, by decide, by decide +kernel, by decide⟩, pm_ix 917 (by decide +kernel) rfl⟩
set_option maxRecDepth 100000 in
theorem k_Arrays_copyOf_1 : pm_kS m_Arrays_copyOf_1 2 := ⟨⟨pm_ix 23 (by decide +kernel) rfl, pm_ix 757 (by decide +kernel) rfl, by decide, by decide, by decide +kernel, by decide⟩, pm_ix 756 (by decide +kernel) rfl⟩
set_option maxRecDepth 100000 in
theorem k_Arrays_fill_0 : pm_kS m_Arrays_fill_0 2 := ⟨⟨pm_ix 23 (by decide +kernel) rfl, pm_ix 548 (by decide +kernel) rfl, by decide, by decide, by decide +kernel, by decide⟩, pm_ix 547 (by decide +kernel) rfl⟩
set_option maxRecDepth 100000 in
theorem k_Arrays_fill_1 : pm_kS m_Arrays_fill_1 4 := ⟨⟨pm_ix 23 (by decide +kernel) rfl, pm_ix 811 (by decide +kernel) rfl, by decide, by decide, by decide +kernel, by decide⟩, pm_ix 810 (by decide +kernel) rfl⟩
set_option maxRecDepth 100000 in
theorem k_Arrays_rangeCheck : pm_kS m_Arrays_rangeCheck 3 := ⟨⟨pm_ix 23 (by decide +kernel) rfl, pm_ix 814 (by decide +kernel) rfl, by decide, by decide, by decide +kernel, by decide⟩, pm_ix 813 (by decide +kernel) rfl⟩
set_option maxRecDepth 100000 in
theorem l_BC_1 : Cond.methodLink "BoxedCore" 1 ⟨"java/lang/Object", "<init>", "()V"⟩ ∈ pm_tbl := pm_ix 37 (by decide +kernel) rfl
set_option maxRecDepth 100000 in
theorem l_BC_29 : Cond.methodLink "BoxedCore" 29 ⟨"BoxedCore$Tokens", "<init>", "(LBoxedCore$Fault;)V"⟩ ∈ pm_tbl := pm_ix 57 (by decide +kernel) rfl
set_option maxRecDepth 100000 in
theorem l_BC_38 : Cond.methodLink "BoxedCore" 38 ⟨"BoxedCore$Types", "<init>", "()V"⟩ ∈ pm_tbl := pm_ix 142 (by decide +kernel) rfl
set_option maxRecDepth 100000 in
theorem l_BC_45 : Cond.methodLink "BoxedCore" 45 ⟨"BoxedCore$Tree", "<init>", "()V"⟩ ∈ pm_tbl := pm_ix 176 (by decide +kernel) rfl
set_option maxRecDepth 100000 in
theorem l_BC_52 : Cond.methodLink "BoxedCore" 52 ⟨"BoxedCore$Table", "<init>", "()V"⟩ ∈ pm_tbl := pm_ix 217 (by decide +kernel) rfl
set_option maxRecDepth 100000 in
theorem l_BC_59 : Cond.methodLink "BoxedCore" 59 ⟨"BoxedCore$Parser", "<init>", "(LBoxedCore$Tokens;LBoxedCore$Types;LBoxedCore$Tree;LBoxedCore$Table;LBoxedCore$Fault;LBoxedCore$Fault;)V"⟩ ∈ pm_tbl := pm_ix 254 (by decide +kernel) rfl
set_option maxRecDepth 100000 in
theorem l_BC_68 : Cond.methodLink "BoxedCore" 68 ⟨"BoxedCore$Checker", "<init>", "(LBoxedCore$Types;LBoxedCore$Tree;LBoxedCore$Table;LBoxedCore$Fault;)V"⟩ ∈ pm_tbl := pm_ix 306 (by decide +kernel) rfl
set_option maxRecDepth 100000 in
theorem l_BC_77 : Cond.methodLink "BoxedCore" 77 ⟨"BoxedCore$Machine", "<init>", "(LBoxedCore$Types;LBoxedCore$Tree;LBoxedCore$Table;)V"⟩ ∈ pm_tbl := pm_ix 328 (by decide +kernel) rfl
set_option maxRecDepth 100000 in
theorem l_BC_92 : Cond.methodLink "BoxedCore" 92 ⟨"java/lang/IllegalArgumentException", "<init>", "(Ljava/lang/String;)V"⟩ ∈ pm_tbl := pm_ix 1413 (by decide +kernel) rfl
set_option maxRecDepth 100000 in
theorem l_BC_95 : Cond.methodLink "BoxedCore" 95 ⟨"BoxedCore", "forget", "()V"⟩ ∈ pm_tbl := pm_ix 534 (by decide +kernel) rfl
set_option maxRecDepth 100000 in
theorem l_BC_102 : Cond.methodLink "BoxedCore" 102 ⟨"BoxedCore$Fault", "clear", "()V"⟩ ∈ pm_tbl := pm_ix 557 (by decide +kernel) rfl
set_option maxRecDepth 100000 in
theorem l_BC_105 : Cond.methodLink "BoxedCore" 105 ⟨"BoxedCore$Types", "clear", "()V"⟩ ∈ pm_tbl := pm_ix 561 (by decide +kernel) rfl
set_option maxRecDepth 100000 in
theorem l_BC_106 : Cond.methodLink "BoxedCore" 106 ⟨"BoxedCore$Tree", "clear", "()V"⟩ ∈ pm_tbl := pm_ix 566 (by decide +kernel) rfl
set_option maxRecDepth 100000 in
theorem l_BC_107 : Cond.methodLink "BoxedCore" 107 ⟨"BoxedCore$Table", "clear", "()V"⟩ ∈ pm_tbl := pm_ix 570 (by decide +kernel) rfl
set_option maxRecDepth 100000 in
theorem l_BC_108 : Cond.methodLink "BoxedCore" 108 ⟨"BoxedCore$Tokens", "scan", "([II)V"⟩ ∈ pm_tbl := pm_ix 575 (by decide +kernel) rfl
set_option maxRecDepth 100000 in
theorem l_BC_112 : Cond.methodLink "BoxedCore" 112 ⟨"BoxedCore$Parser", "readProgram", "()V"⟩ ∈ pm_tbl := pm_ix 636 (by decide +kernel) rfl
set_option maxRecDepth 100000 in
theorem l_BC_115 : Cond.methodLink "BoxedCore" 115 ⟨"BoxedCore$Fault", "isTold", "()Z"⟩ ∈ pm_tbl := pm_ix 1183 (by decide +kernel) rfl
set_option maxRecDepth 100000 in
theorem l_BC_119 : Cond.methodLink "BoxedCore" 119 ⟨"BoxedCore$Fault", "where", "()I"⟩ ∈ pm_tbl := pm_ix 1184 (by decide +kernel) rfl
set_option maxRecDepth 100000 in
theorem l_BC_123 : Cond.methodLink "BoxedCore" 123 ⟨"BoxedCore$Fault", "tell", "(II)V"⟩ ∈ pm_tbl := pm_ix 1188 (by decide +kernel) rfl
set_option maxRecDepth 100000 in
theorem l_BC_127 : Cond.methodLink "BoxedCore" 127 ⟨"BoxedCore$Checker", "checkAll", "()V"⟩ ∈ pm_tbl := pm_ix 1189 (by decide +kernel) rfl
set_option maxRecDepth 100000 in
theorem l_BC_130 : Cond.methodLink "BoxedCore" 130 ⟨"BoxedCore$Fault", "what", "()I"⟩ ∈ pm_tbl := pm_ix 1340 (by decide +kernel) rfl
set_option maxRecDepth 100000 in
theorem l_BC_133 : Cond.methodLink "BoxedCore" 133 ⟨"BoxedCore$Table", "size", "()I"⟩ ∈ pm_tbl := pm_ix 1344 (by decide +kernel) rfl
set_option maxRecDepth 100000 in
theorem l_BC_135 : Cond.methodLink "BoxedCore" 135 ⟨"BoxedCore", "defs", "()I"⟩ ∈ pm_tbl := pm_ix 1422 (by decide +kernel) rfl
set_option maxRecDepth 100000 in
theorem l_BC_142 : Cond.methodLink "BoxedCore" 142 ⟨"java/lang/IndexOutOfBoundsException", "<init>", "(Ljava/lang/String;)V"⟩ ∈ pm_tbl := pm_ix 1433 (by decide +kernel) rfl
set_option maxRecDepth 100000 in
theorem l_BC_143 : Cond.methodLink "BoxedCore" 143 ⟨"BoxedCore$Table", "tally", "(II)I"⟩ ∈ pm_tbl := pm_ix 1436 (by decide +kernel) rfl
set_option maxRecDepth 100000 in
theorem l_BC_154 : Cond.methodLink "BoxedCore" 154 ⟨"java/lang/IllegalStateException", "<init>", "(Ljava/lang/String;)V"⟩ ∈ pm_tbl := pm_ix 1458 (by decide +kernel) rfl
set_option maxRecDepth 100000 in
theorem l_BC_157 : Cond.methodLink "BoxedCore" 157 ⟨"BoxedCore", "takesArguments", "(I)Z"⟩ ∈ pm_tbl := pm_ix 1472 (by decide +kernel) rfl
set_option maxRecDepth 100000 in
theorem l_BC_163 : Cond.methodLink "BoxedCore" 163 ⟨"BoxedCore$Machine", "start", "(I[JZI)I"⟩ ∈ pm_tbl := pm_ix 1480 (by decide +kernel) rfl
set_option maxRecDepth 100000 in
theorem l_BC_169 : Cond.methodLink "BoxedCore" 169 ⟨"BoxedCore$Machine", "countOf", "(I)I"⟩ ∈ pm_tbl := pm_ix 1712 (by decide +kernel) rfl
set_option maxRecDepth 100000 in
theorem l_BC_173 : Cond.methodLink "BoxedCore" 173 ⟨"BoxedCore$Machine", "sortAt", "(I)I"⟩ ∈ pm_tbl := pm_ix 1357 (by decide +kernel) rfl
set_option maxRecDepth 100000 in
theorem l_BC_176 : Cond.methodLink "BoxedCore" 176 ⟨"BoxedCore$Machine", "wordAt", "(I)J"⟩ ∈ pm_tbl := pm_ix 1398 (by decide +kernel) rfl
set_option maxRecDepth 100000 in
theorem l_BC_180 : Cond.methodLink "BoxedCore" 180 ⟨"BoxedCore$Machine", "forget", "()V"⟩ ∈ pm_tbl := pm_ix 538 (by decide +kernel) rfl
set_option maxRecDepth 100000 in
theorem l_BC_181 : Cond.methodLink "BoxedCore" 181 ⟨"BoxedCore$Table", "parameters", "(I)I"⟩ ∈ pm_tbl := pm_ix 1476 (by decide +kernel) rfl
set_option maxRecDepth 100000 in
theorem l_BC_184 : Cond.methodLink "BoxedCore" 184 ⟨"BoxedCore$Table", "localType", "(II)I"⟩ ∈ pm_tbl := pm_ix 1477 (by decide +kernel) rfl
set_option maxRecDepth 100000 in
theorem l_BC_187 : Cond.methodLink "BoxedCore" 187 ⟨"BoxedCore$Types", "kind", "(I)I"⟩ ∈ pm_tbl := pm_ix 1478 (by decide +kernel) rfl
set_option maxRecDepth 100000 in
theorem l_Adapter_3 : Cond.methodLink "BoxedCore$Adapter" 3 ⟨"java/lang/Object", "<init>", "()V"⟩ ∈ pm_tbl := pm_ix 375 (by decide +kernel) rfl
set_option maxRecDepth 100000 in
theorem l_Adapter_44 : Cond.methodLink "BoxedCore$Adapter" 44 ⟨"BoxedCore$Adapter", "addTask", "(IIJ)V"⟩ ∈ pm_tbl := pm_ix 1539 (by decide +kernel) rfl
set_option maxRecDepth 100000 in
theorem l_Adapter_49 : Cond.methodLink "BoxedCore$Adapter" 49 ⟨"BoxedCore$Heap", "isOver", "()Z"⟩ ∈ pm_tbl := pm_ix 1544 (by decide +kernel) rfl
set_option maxRecDepth 100000 in
theorem l_Adapter_55 : Cond.methodLink "BoxedCore$Adapter" 55 ⟨"BoxedCore$Adapter", "doTask", "(IIJZ)V"⟩ ∈ pm_tbl := pm_ix 1548 (by decide +kernel) rfl
set_option maxRecDepth 100000 in
theorem l_Adapter_59 : Cond.methodLink "BoxedCore$Adapter" 59 ⟨"BoxedCore$Adapter", "popResult", "()J"⟩ ∈ pm_tbl := pm_ix 1552 (by decide +kernel) rfl
set_option maxRecDepth 100000 in
theorem l_Adapter_63 : Cond.methodLink "BoxedCore$Adapter" 63 ⟨"BoxedCore$Heap", "make", "(IJJI)J"⟩ ∈ pm_tbl := pm_ix 1556 (by decide +kernel) rfl
set_option maxRecDepth 100000 in
theorem l_Adapter_67 : Cond.methodLink "BoxedCore$Adapter" 67 ⟨"BoxedCore$Adapter", "addResult", "(J)V"⟩ ∈ pm_tbl := pm_ix 1561 (by decide +kernel) rfl
set_option maxRecDepth 100000 in
theorem l_Adapter_71 : Cond.methodLink "BoxedCore$Adapter" 71 ⟨"BoxedCore$Types", "letters", "(I)I"⟩ ∈ pm_tbl := pm_ix 1565 (by decide +kernel) rfl
set_option maxRecDepth 100000 in
theorem l_Adapter_77 : Cond.methodLink "BoxedCore$Adapter" 77 ⟨"BoxedCore$Types", "kind", "(I)I"⟩ ∈ pm_tbl := pm_ix 1566 (by decide +kernel) rfl
set_option maxRecDepth 100000 in
theorem l_Adapter_80 : Cond.methodLink "BoxedCore$Adapter" 80 ⟨"BoxedCore$Heap", "openBox", "(J)J"⟩ ∈ pm_tbl := pm_ix 1567 (by decide +kernel) rfl
set_option maxRecDepth 100000 in
theorem l_Adapter_84 : Cond.methodLink "BoxedCore$Adapter" 84 ⟨"BoxedCore$Types", "right", "(I)I"⟩ ∈ pm_tbl := pm_ix 1571 (by decide +kernel) rfl
set_option maxRecDepth 100000 in
theorem l_Adapter_87 : Cond.methodLink "BoxedCore$Adapter" 87 ⟨"BoxedCore$Heap", "second", "(J)J"⟩ ∈ pm_tbl := pm_ix 1572 (by decide +kernel) rfl
set_option maxRecDepth 100000 in
theorem l_Adapter_90 : Cond.methodLink "BoxedCore$Adapter" 90 ⟨"BoxedCore$Types", "left", "(I)I"⟩ ∈ pm_tbl := pm_ix 1573 (by decide +kernel) rfl
set_option maxRecDepth 100000 in
theorem l_Adapter_93 : Cond.methodLink "BoxedCore$Adapter" 93 ⟨"BoxedCore$Heap", "first", "(J)J"⟩ ∈ pm_tbl := pm_ix 1574 (by decide +kernel) rfl
set_option maxRecDepth 100000 in
theorem l_Adapter_96 : Cond.methodLink "BoxedCore$Adapter" 96 ⟨"BoxedCore$Types", "letterNumber", "(I)I"⟩ ∈ pm_tbl := pm_ix 1575 (by decide +kernel) rfl
set_option maxRecDepth 100000 in
theorem l_Adapter_99 : Cond.methodLink "BoxedCore$Adapter" 99 ⟨"BoxedCore$Tree", "fit", "(II)I"⟩ ∈ pm_tbl := pm_ix 1576 (by decide +kernel) rfl
set_option maxRecDepth 100000 in
theorem l_Checker_3 : Cond.methodLink "BoxedCore$Checker" 3 ⟨"java/lang/Object", "<init>", "()V"⟩ ∈ pm_tbl := pm_ix 309 (by decide +kernel) rfl
set_option maxRecDepth 100000 in
theorem l_Checker_27 : Cond.methodLink "BoxedCore$Checker" 27 ⟨"BoxedCore$Table", "size", "()I"⟩ ∈ pm_tbl := pm_ix 1193 (by decide +kernel) rfl
set_option maxRecDepth 100000 in
theorem l_Checker_33 : Cond.methodLink "BoxedCore$Checker" 33 ⟨"BoxedCore$Fault", "isTold", "()Z"⟩ ∈ pm_tbl := pm_ix 1194 (by decide +kernel) rfl
set_option maxRecDepth 100000 in
theorem l_Checker_43 : Cond.methodLink "BoxedCore$Checker" 43 ⟨"BoxedCore$Table", "end", "(I)I"⟩ ∈ pm_tbl := pm_ix 1195 (by decide +kernel) rfl
set_option maxRecDepth 100000 in
theorem l_Checker_47 : Cond.methodLink "BoxedCore$Checker" 47 ⟨"BoxedCore$Checker", "checkNode", "(I)V"⟩ ∈ pm_tbl := pm_ix 1199 (by decide +kernel) rfl
set_option maxRecDepth 100000 in
theorem l_Checker_51 : Cond.methodLink "BoxedCore$Checker" 51 ⟨"BoxedCore$Table", "root", "(I)I"⟩ ∈ pm_tbl := pm_ix 1319 (by decide +kernel) rfl
set_option maxRecDepth 100000 in
theorem l_Checker_54 : Cond.methodLink "BoxedCore$Checker" 54 ⟨"BoxedCore$Tree", "type", "(I)I"⟩ ∈ pm_tbl := pm_ix 1226 (by decide +kernel) rfl
set_option maxRecDepth 100000 in
theorem l_Checker_59 : Cond.methodLink "BoxedCore$Checker" 59 ⟨"BoxedCore$Table", "type", "(I)I"⟩ ∈ pm_tbl := pm_ix 1246 (by decide +kernel) rfl
set_option maxRecDepth 100000 in
theorem l_Checker_60 : Cond.methodLink "BoxedCore$Checker" 60 ⟨"BoxedCore$Table", "placeOf", "(I)I"⟩ ∈ pm_tbl := pm_ix 1323 (by decide +kernel) rfl
set_option maxRecDepth 100000 in
theorem l_Checker_63 : Cond.methodLink "BoxedCore$Checker" 63 ⟨"BoxedCore$Fault", "tell", "(II)V"⟩ ∈ pm_tbl := pm_ix 1214 (by decide +kernel) rfl
set_option maxRecDepth 100000 in
theorem l_Checker_67 : Cond.methodLink "BoxedCore$Checker" 67 ⟨"BoxedCore$Checker", "countAll", "()V"⟩ ∈ pm_tbl := pm_ix 1327 (by decide +kernel) rfl
set_option maxRecDepth 100000 in
theorem l_Checker_70 : Cond.methodLink "BoxedCore$Checker" 70 ⟨"BoxedCore$Tree", "kind", "(I)I"⟩ ∈ pm_tbl := pm_ix 1203 (by decide +kernel) rfl
set_option maxRecDepth 100000 in
theorem l_Checker_73 : Cond.methodLink "BoxedCore$Checker" 73 ⟨"BoxedCore$Checker", "resolve", "(I)V"⟩ ∈ pm_tbl := pm_ix 1204 (by decide +kernel) rfl
set_option maxRecDepth 100000 in
theorem l_Checker_76 : Cond.methodLink "BoxedCore$Checker" 76 ⟨"BoxedCore$Checker", "typeOf", "(I)I"⟩ ∈ pm_tbl := pm_ix 1218 (by decide +kernel) rfl
set_option maxRecDepth 100000 in
theorem l_Checker_79 : Cond.methodLink "BoxedCore$Checker" 79 ⟨"BoxedCore$Types", "leaves", "(I)I"⟩ ∈ pm_tbl := pm_ix 1311 (by decide +kernel) rfl
set_option maxRecDepth 100000 in
theorem l_Checker_84 : Cond.methodLink "BoxedCore$Checker" 84 ⟨"BoxedCore$Tree", "placeOf", "(I)I"⟩ ∈ pm_tbl := pm_ix 1213 (by decide +kernel) rfl
set_option maxRecDepth 100000 in
theorem l_Checker_85 : Cond.methodLink "BoxedCore$Checker" 85 ⟨"BoxedCore$Tree", "setType", "(II)V"⟩ ∈ pm_tbl := pm_ix 1315 (by decide +kernel) rfl
set_option maxRecDepth 100000 in
theorem l_Checker_88 : Cond.methodLink "BoxedCore$Checker" 88 ⟨"BoxedCore$Tree", "value", "(I)J"⟩ ∈ pm_tbl := pm_ix 1208 (by decide +kernel) rfl
set_option maxRecDepth 100000 in
theorem l_Checker_92 : Cond.methodLink "BoxedCore$Checker" 92 ⟨"BoxedCore$Table", "find", "(J)I"⟩ ∈ pm_tbl := pm_ix 1212 (by decide +kernel) rfl
set_option maxRecDepth 100000 in
theorem l_Checker_96 : Cond.methodLink "BoxedCore$Checker" 96 ⟨"BoxedCore$Table", "parameters", "(I)I"⟩ ∈ pm_tbl := pm_ix 1215 (by decide +kernel) rfl
set_option maxRecDepth 100000 in
theorem l_Checker_99 : Cond.methodLink "BoxedCore$Checker" 99 ⟨"BoxedCore$Tree", "turnInto", "(II)V"⟩ ∈ pm_tbl := pm_ix 1216 (by decide +kernel) rfl
set_option maxRecDepth 100000 in
theorem l_Checker_102 : Cond.methodLink "BoxedCore$Checker" 102 ⟨"BoxedCore$Tree", "setValue", "(IJ)V"⟩ ∈ pm_tbl := pm_ix 1217 (by decide +kernel) rfl
set_option maxRecDepth 100000 in
theorem l_Checker_106 : Cond.methodLink "BoxedCore$Checker" 106 ⟨"BoxedCore$Tree", "first", "(I)I"⟩ ∈ pm_tbl := pm_ix 1222 (by decide +kernel) rfl
set_option maxRecDepth 100000 in
theorem l_Checker_109 : Cond.methodLink "BoxedCore$Checker" 109 ⟨"BoxedCore$Tree", "second", "(I)I"⟩ ∈ pm_tbl := pm_ix 1230 (by decide +kernel) rfl
set_option maxRecDepth 100000 in
theorem l_Checker_112 : Cond.methodLink "BoxedCore$Checker" 112 ⟨"BoxedCore$Checker", "typeOfLocal", "(I)I"⟩ ∈ pm_tbl := pm_ix 1234 (by decide +kernel) rfl
set_option maxRecDepth 100000 in
theorem l_Checker_115 : Cond.methodLink "BoxedCore$Checker" 115 ⟨"BoxedCore$Tree", "third", "(I)I"⟩ ∈ pm_tbl := pm_ix 1250 (by decide +kernel) rfl
set_option maxRecDepth 100000 in
theorem l_Checker_118 : Cond.methodLink "BoxedCore$Checker" 118 ⟨"BoxedCore$Types", "make", "(III)I"⟩ ∈ pm_tbl := pm_ix 1254 (by decide +kernel) rfl
set_option maxRecDepth 100000 in
theorem l_Checker_122 : Cond.methodLink "BoxedCore$Checker" 122 ⟨"BoxedCore$Types", "kind", "(I)I"⟩ ∈ pm_tbl := pm_ix 1255 (by decide +kernel) rfl
set_option maxRecDepth 100000 in
theorem l_Checker_123 : Cond.methodLink "BoxedCore$Checker" 123 ⟨"BoxedCore$Types", "left", "(I)I"⟩ ∈ pm_tbl := pm_ix 1259 (by decide +kernel) rfl
set_option maxRecDepth 100000 in
theorem l_Checker_126 : Cond.methodLink "BoxedCore$Checker" 126 ⟨"BoxedCore$Types", "right", "(I)I"⟩ ∈ pm_tbl := pm_ix 1263 (by decide +kernel) rfl
set_option maxRecDepth 100000 in
theorem l_Checker_129 : Cond.methodLink "BoxedCore$Checker" 129 ⟨"BoxedCore$Checker", "typeOfCall", "(I)I"⟩ ∈ pm_tbl := pm_ix 1267 (by decide +kernel) rfl
set_option maxRecDepth 100000 in
theorem l_Checker_132 : Cond.methodLink "BoxedCore$Checker" 132 ⟨"BoxedCore$Table", "localBound", "(II)I"⟩ ∈ pm_tbl := pm_ix 1238 (by decide +kernel) rfl
set_option maxRecDepth 100000 in
theorem l_Checker_136 : Cond.methodLink "BoxedCore$Checker" 136 ⟨"BoxedCore$Table", "localType", "(II)I"⟩ ∈ pm_tbl := pm_ix 1242 (by decide +kernel) rfl
set_option maxRecDepth 100000 in
theorem l_Checker_139 : Cond.methodLink "BoxedCore$Checker" 139 ⟨"BoxedCore$Tree", "next", "(I)I"⟩ ∈ pm_tbl := pm_ix 1271 (by decide +kernel) rfl
set_option maxRecDepth 100000 in
theorem l_Checker_142 : Cond.methodLink "BoxedCore$Checker" 142 ⟨"BoxedCore$Checker", "fitAtoms", "(II)Z"⟩ ∈ pm_tbl := pm_ix 1275 (by decide +kernel) rfl
set_option maxRecDepth 100000 in
theorem l_Checker_146 : Cond.methodLink "BoxedCore$Checker" 146 ⟨"BoxedCore$Checker", "substitute", "(III)I"⟩ ∈ pm_tbl := pm_ix 1307 (by decide +kernel) rfl
set_option maxRecDepth 100000 in
theorem l_Checker_149 : Cond.methodLink "BoxedCore$Checker" 149 ⟨"BoxedCore$Checker", "fit", "(IIII)Z"⟩ ∈ pm_tbl := pm_ix 1279 (by decide +kernel) rfl
set_option maxRecDepth 100000 in
theorem l_Checker_153 : Cond.methodLink "BoxedCore$Checker" 153 ⟨"BoxedCore$Checker", "answersLetter", "(I)Z"⟩ ∈ pm_tbl := pm_ix 1299 (by decide +kernel) rfl
set_option maxRecDepth 100000 in
theorem l_Checker_157 : Cond.methodLink "BoxedCore$Checker" 157 ⟨"BoxedCore$Tree", "markShort", "(I)V"⟩ ∈ pm_tbl := pm_ix 1303 (by decide +kernel) rfl
set_option maxRecDepth 100000 in
theorem l_Checker_160 : Cond.methodLink "BoxedCore$Checker" 160 ⟨"BoxedCore$Types", "letters", "(I)I"⟩ ∈ pm_tbl := pm_ix 1283 (by decide +kernel) rfl
set_option maxRecDepth 100000 in
theorem l_Checker_163 : Cond.methodLink "BoxedCore$Checker" 163 ⟨"BoxedCore$Types", "letterNumber", "(I)I"⟩ ∈ pm_tbl := pm_ix 1287 (by decide +kernel) rfl
set_option maxRecDepth 100000 in
theorem l_Checker_166 : Cond.methodLink "BoxedCore$Checker" 166 ⟨"BoxedCore$Tree", "fit", "(II)I"⟩ ∈ pm_tbl := pm_ix 1291 (by decide +kernel) rfl
set_option maxRecDepth 100000 in
theorem l_Checker_168 : Cond.methodLink "BoxedCore$Checker" 168 ⟨"BoxedCore$Tree", "setFit", "(III)V"⟩ ∈ pm_tbl := pm_ix 1295 (by decide +kernel) rfl
set_option maxRecDepth 100000 in
theorem l_Checker_172 : Cond.methodLink "BoxedCore$Checker" 172 ⟨"BoxedCore$Table", "count", "(III)V"⟩ ∈ pm_tbl := pm_ix 1331 (by decide +kernel) rfl
set_option maxRecDepth 100000 in
theorem l_Checker_175 : Cond.methodLink "BoxedCore$Checker" 175 ⟨"BoxedCore$Checker", "countCall", "(II)V"⟩ ∈ pm_tbl := pm_ix 1332 (by decide +kernel) rfl
set_option maxRecDepth 100000 in
theorem l_Checker_178 : Cond.methodLink "BoxedCore$Checker" 178 ⟨"BoxedCore$Tree", "isShort", "(I)Z"⟩ ∈ pm_tbl := pm_ix 1336 (by decide +kernel) rfl
set_option maxRecDepth 100000 in
theorem l_Fault_3 : Cond.methodLink "BoxedCore$Fault" 3 ⟨"java/lang/Object", "<init>", "()V"⟩ ∈ pm_tbl := pm_ix 45 (by decide +kernel) rfl
set_option maxRecDepth 100000 in
theorem l_Frames_5 : Cond.methodLink "BoxedCore$Frames" 5 ⟨"java/lang/Object", "<init>", "()V"⟩ ∈ pm_tbl := pm_ix 409 (by decide +kernel) rfl
set_option maxRecDepth 100000 in
theorem l_Frames_40 : Cond.methodLink "BoxedCore$Frames" 40 ⟨"java/lang/Math", "max", "(II)I"⟩ ∈ pm_tbl := pm_ix 1518 (by decide +kernel) rfl
set_option maxRecDepth 100000 in
theorem l_Frames_46 : Cond.methodLink "BoxedCore$Frames" 46 ⟨"BoxedCore$Frames", "heldCount", "()I"⟩ ∈ pm_tbl := pm_ix 1672 (by decide +kernel) rfl
set_option maxRecDepth 100000 in
theorem l_Heap_3 : Cond.methodLink "BoxedCore$Heap" 3 ⟨"java/lang/Object", "<init>", "()V"⟩ ∈ pm_tbl := pm_ix 337 (by decide +kernel) rfl
set_option maxRecDepth 100000 in
theorem l_Heap_46 : Cond.methodLink "BoxedCore$Heap" 46 ⟨"java/util/Arrays", "fill", "([II)V"⟩ ∈ pm_tbl := pm_ix 546 (by decide +kernel) rfl
set_option maxRecDepth 100000 in
theorem l_Heap_54 : Cond.methodLink "BoxedCore$Heap" 54 ⟨"BoxedCore$Heap", "hasLocal", "(II)Z"⟩ ∈ pm_tbl := pm_ix 1496 (by decide +kernel) rfl
set_option maxRecDepth 100000 in
theorem l_Machine_3 : Cond.methodLink "BoxedCore$Machine" 3 ⟨"java/lang/Object", "<init>", "()V"⟩ ∈ pm_tbl := pm_ix 331 (by decide +kernel) rfl
set_option maxRecDepth 100000 in
theorem l_Machine_25 : Cond.methodLink "BoxedCore$Machine" 25 ⟨"BoxedCore$Heap", "<init>", "()V"⟩ ∈ pm_tbl := pm_ix 334 (by decide +kernel) rfl
set_option maxRecDepth 100000 in
theorem l_Machine_32 : Cond.methodLink "BoxedCore$Machine" 32 ⟨"BoxedCore$Adapter", "<init>", "(LBoxedCore$Types;LBoxedCore$Tree;LBoxedCore$Heap;)V"⟩ ∈ pm_tbl := pm_ix 372 (by decide +kernel) rfl
set_option maxRecDepth 100000 in
theorem l_Machine_41 : Cond.methodLink "BoxedCore$Machine" 41 ⟨"BoxedCore$Frames", "<init>", "()V"⟩ ∈ pm_tbl := pm_ix 406 (by decide +kernel) rfl
set_option maxRecDepth 100000 in
theorem l_Machine_46 : Cond.methodLink "BoxedCore$Machine" 46 ⟨"BoxedCore$Heap", "clear", "()V"⟩ ∈ pm_tbl := pm_ix 542 (by decide +kernel) rfl
set_option maxRecDepth 100000 in
theorem l_Machine_49 : Cond.methodLink "BoxedCore$Machine" 49 ⟨"BoxedCore$Frames", "clear", "()V"⟩ ∈ pm_tbl := pm_ix 549 (by decide +kernel) rfl
set_option maxRecDepth 100000 in
theorem l_Machine_64 : Cond.methodLink "BoxedCore$Machine" 64 ⟨"BoxedCore$Machine", "forget", "()V"⟩ ∈ pm_tbl := pm_ix 1484 (by decide +kernel) rfl
set_option maxRecDepth 100000 in
theorem l_Machine_74 : Cond.methodLink "BoxedCore$Machine" 74 ⟨"BoxedCore$Table", "type", "(I)I"⟩ ∈ pm_tbl := pm_ix 1485 (by decide +kernel) rfl
set_option maxRecDepth 100000 in
theorem l_Machine_83 : Cond.methodLink "BoxedCore$Machine" 83 ⟨"BoxedCore$Table", "locals", "(I)I"⟩ ∈ pm_tbl := pm_ix 1486 (by decide +kernel) rfl
set_option maxRecDepth 100000 in
theorem l_Machine_86 : Cond.methodLink "BoxedCore$Machine" 86 ⟨"BoxedCore$Heap", "claim", "(I)I"⟩ ∈ pm_tbl := pm_ix 1487 (by decide +kernel) rfl
set_option maxRecDepth 100000 in
theorem l_Machine_92 : Cond.methodLink "BoxedCore$Machine" 92 ⟨"BoxedCore$Table", "parameters", "(I)I"⟩ ∈ pm_tbl := pm_ix 1491 (by decide +kernel) rfl
set_option maxRecDepth 100000 in
theorem l_Machine_95 : Cond.methodLink "BoxedCore$Machine" 95 ⟨"BoxedCore$Heap", "setLocal", "(IIJ)V"⟩ ∈ pm_tbl := pm_ix 1492 (by decide +kernel) rfl
set_option maxRecDepth 100000 in
theorem l_Machine_99 : Cond.methodLink "BoxedCore$Machine" 99 ⟨"BoxedCore$Table", "root", "(I)I"⟩ ∈ pm_tbl := pm_ix 1500 (by decide +kernel) rfl
set_option maxRecDepth 100000 in
theorem l_Machine_102 : Cond.methodLink "BoxedCore$Machine" 102 ⟨"BoxedCore$Machine", "goInto", "(II)V"⟩ ∈ pm_tbl := pm_ix 1501 (by decide +kernel) rfl
set_option maxRecDepth 100000 in
theorem l_Machine_110 : Cond.methodLink "BoxedCore$Machine" 110 ⟨"BoxedCore$Machine", "enter", "()V"⟩ ∈ pm_tbl := pm_ix 1506 (by decide +kernel) rfl
set_option maxRecDepth 100000 in
theorem l_Machine_113 : Cond.methodLink "BoxedCore$Machine" 113 ⟨"BoxedCore$Machine", "applyCallee", "()V"⟩ ∈ pm_tbl := pm_ix 1519 (by decide +kernel) rfl
set_option maxRecDepth 100000 in
theorem l_Machine_116 : Cond.methodLink "BoxedCore$Machine" 116 ⟨"BoxedCore$Frames", "isEmpty", "()Z"⟩ ∈ pm_tbl := pm_ix 1588 (by decide +kernel) rfl
set_option maxRecDepth 100000 in
theorem l_Machine_120 : Cond.methodLink "BoxedCore$Machine" 120 ⟨"BoxedCore$Machine", "resume", "()V"⟩ ∈ pm_tbl := pm_ix 1592 (by decide +kernel) rfl
set_option maxRecDepth 100000 in
theorem l_Machine_123 : Cond.methodLink "BoxedCore$Machine" 123 ⟨"BoxedCore$Heap", "isOver", "()Z"⟩ ∈ pm_tbl := pm_ix 1703 (by decide +kernel) rfl
set_option maxRecDepth 100000 in
theorem l_Machine_126 : Cond.methodLink "BoxedCore$Machine" 126 ⟨"BoxedCore$Heap", "madeOf", "(I)I"⟩ ∈ pm_tbl := pm_ix 1716 (by decide +kernel) rfl
set_option maxRecDepth 100000 in
theorem l_Machine_129 : Cond.methodLink "BoxedCore$Machine" 129 ⟨"BoxedCore$Heap", "openedBoxes", "()I"⟩ ∈ pm_tbl := pm_ix 1720 (by decide +kernel) rfl
set_option maxRecDepth 100000 in
theorem l_Machine_133 : Cond.methodLink "BoxedCore$Machine" 133 ⟨"BoxedCore$Frames", "deepest", "()I"⟩ ∈ pm_tbl := pm_ix 1724 (by decide +kernel) rfl
set_option maxRecDepth 100000 in
theorem l_Machine_136 : Cond.methodLink "BoxedCore$Machine" 136 ⟨"BoxedCore$Machine", "typeAt", "(I)I"⟩ ∈ pm_tbl := pm_ix 1361 (by decide +kernel) rfl
set_option maxRecDepth 100000 in
theorem l_Machine_139 : Cond.methodLink "BoxedCore$Machine" 139 ⟨"BoxedCore$Types", "kind", "(I)I"⟩ ∈ pm_tbl := pm_ix 1372 (by decide +kernel) rfl
set_option maxRecDepth 100000 in
theorem l_Machine_144 : Cond.methodLink "BoxedCore$Machine" 144 ⟨"BoxedCore$Machine", "valueAt", "(I)J"⟩ ∈ pm_tbl := pm_ix 1375 (by decide +kernel) rfl
set_option maxRecDepth 100000 in
theorem l_Machine_148 : Cond.methodLink "BoxedCore$Machine" 148 ⟨"BoxedCore$Heap", "kind", "(J)I"⟩ ∈ pm_tbl := pm_ix 1387 (by decide +kernel) rfl
set_option maxRecDepth 100000 in
theorem l_Machine_151 : Cond.methodLink "BoxedCore$Machine" 151 ⟨"BoxedCore$Machine", "sortOfBox", "(I)I"⟩ ∈ pm_tbl := pm_ix 1391 (by decide +kernel) rfl
set_option maxRecDepth 100000 in
theorem l_Machine_154 : Cond.methodLink "BoxedCore$Machine" 154 ⟨"BoxedCore$Machine", "sortAt", "(I)I"⟩ ∈ pm_tbl := pm_ix 1402 (by decide +kernel) rfl
set_option maxRecDepth 100000 in
theorem l_Machine_157 : Cond.methodLink "BoxedCore$Machine" 157 ⟨"BoxedCore$Heap", "first", "(J)J"⟩ ∈ pm_tbl := pm_ix 1379 (by decide +kernel) rfl
set_option maxRecDepth 100000 in
theorem l_Machine_161 : Cond.methodLink "BoxedCore$Machine" 161 ⟨"BoxedCore$Machine", "lengthOf", "(I)I"⟩ ∈ pm_tbl := pm_ix 1365 (by decide +kernel) rfl
set_option maxRecDepth 100000 in
theorem l_Machine_164 : Cond.methodLink "BoxedCore$Machine" 164 ⟨"BoxedCore$Types", "left", "(I)I"⟩ ∈ pm_tbl := pm_ix 1373 (by decide +kernel) rfl
set_option maxRecDepth 100000 in
theorem l_Machine_167 : Cond.methodLink "BoxedCore$Machine" 167 ⟨"BoxedCore$Types", "right", "(I)I"⟩ ∈ pm_tbl := pm_ix 1374 (by decide +kernel) rfl
set_option maxRecDepth 100000 in
theorem l_Machine_170 : Cond.methodLink "BoxedCore$Machine" 170 ⟨"BoxedCore$Heap", "second", "(J)J"⟩ ∈ pm_tbl := pm_ix 1383 (by decide +kernel) rfl
set_option maxRecDepth 100000 in
theorem l_Machine_173 : Cond.methodLink "BoxedCore$Machine" 173 ⟨"java/lang/Integer", "numberOfLeadingZeros", "(I)I"⟩ ∈ pm_tbl := pm_ix 1368 (by decide +kernel) rfl
set_option maxRecDepth 100000 in
theorem l_Machine_181 : Cond.methodLink "BoxedCore$Machine" 181 ⟨"BoxedCore$Frames", "isFull", "()Z"⟩ ∈ pm_tbl := pm_ix 1510 (by decide +kernel) rfl
set_option maxRecDepth 100000 in
theorem l_Machine_184 : Cond.methodLink "BoxedCore$Machine" 184 ⟨"BoxedCore$Frames", "push", "(II)V"⟩ ∈ pm_tbl := pm_ix 1514 (by decide +kernel) rfl
set_option maxRecDepth 100000 in
theorem l_Machine_187 : Cond.methodLink "BoxedCore$Machine" 187 ⟨"BoxedCore$Frames", "pop", "()V"⟩ ∈ pm_tbl := pm_ix 1605 (by decide +kernel) rfl
set_option maxRecDepth 100000 in
theorem l_Machine_190 : Cond.methodLink "BoxedCore$Machine" 190 ⟨"BoxedCore$Frames", "setState", "(I)V"⟩ ∈ pm_tbl := pm_ix 1626 (by decide +kernel) rfl
set_option maxRecDepth 100000 in
theorem l_Machine_194 : Cond.methodLink "BoxedCore$Machine" 194 ⟨"BoxedCore$Frames", "base", "()I"⟩ ∈ pm_tbl := pm_ix 1609 (by decide +kernel) rfl
set_option maxRecDepth 100000 in
theorem l_Machine_196 : Cond.methodLink "BoxedCore$Machine" 196 ⟨"BoxedCore$Frames", "node", "()I"⟩ ∈ pm_tbl := pm_ix 1596 (by decide +kernel) rfl
set_option maxRecDepth 100000 in
theorem l_Machine_199 : Cond.methodLink "BoxedCore$Machine" 199 ⟨"BoxedCore$Tree", "kind", "(I)I"⟩ ∈ pm_tbl := pm_ix 1600 (by decide +kernel) rfl
set_option maxRecDepth 100000 in
theorem l_Machine_202 : Cond.methodLink "BoxedCore$Machine" 202 ⟨"BoxedCore$Tree", "value", "(I)J"⟩ ∈ pm_tbl := pm_ix 1581 (by decide +kernel) rfl
set_option maxRecDepth 100000 in
theorem l_Machine_204 : Cond.methodLink "BoxedCore$Machine" 204 ⟨"BoxedCore$Machine", "finish", "(J)V"⟩ ∈ pm_tbl := pm_ix 1601 (by decide +kernel) rfl
set_option maxRecDepth 100000 in
theorem l_Machine_208 : Cond.methodLink "BoxedCore$Machine" 208 ⟨"BoxedCore$Tree", "first", "(I)I"⟩ ∈ pm_tbl := pm_ix 1587 (by decide +kernel) rfl
set_option maxRecDepth 100000 in
theorem l_Machine_210 : Cond.methodLink "BoxedCore$Machine" 210 ⟨"BoxedCore$Heap", "local", "(II)J"⟩ ∈ pm_tbl := pm_ix 1582 (by decide +kernel) rfl
set_option maxRecDepth 100000 in
theorem l_Machine_214 : Cond.methodLink "BoxedCore$Machine" 214 ⟨"BoxedCore$Heap", "make", "(IJJI)J"⟩ ∈ pm_tbl := pm_ix 1613 (by decide +kernel) rfl
set_option maxRecDepth 100000 in
theorem l_Machine_218 : Cond.methodLink "BoxedCore$Machine" 218 ⟨"BoxedCore$Machine", "workLet", "(I)V"⟩ ∈ pm_tbl := pm_ix 1614 (by decide +kernel) rfl
set_option maxRecDepth 100000 in
theorem l_Machine_221 : Cond.methodLink "BoxedCore$Machine" 221 ⟨"BoxedCore$Machine", "workIf", "(I)V"⟩ ∈ pm_tbl := pm_ix 1631 (by decide +kernel) rfl
set_option maxRecDepth 100000 in
theorem l_Machine_224 : Cond.methodLink "BoxedCore$Machine" 224 ⟨"BoxedCore$Machine", "workHalf", "(I)V"⟩ ∈ pm_tbl := pm_ix 1635 (by decide +kernel) rfl
set_option maxRecDepth 100000 in
theorem l_Machine_227 : Cond.methodLink "BoxedCore$Machine" 227 ⟨"BoxedCore$Machine", "workCall", "(I)V"⟩ ∈ pm_tbl := pm_ix 1639 (by decide +kernel) rfl
set_option maxRecDepth 100000 in
theorem l_Machine_230 : Cond.methodLink "BoxedCore$Machine" 230 ⟨"BoxedCore$Machine", "leaveCover", "()V"⟩ ∈ pm_tbl := pm_ix 1691 (by decide +kernel) rfl
set_option maxRecDepth 100000 in
theorem l_Machine_233 : Cond.methodLink "BoxedCore$Machine" 233 ⟨"BoxedCore$Machine", "workBoth", "(I)V"⟩ ∈ pm_tbl := pm_ix 1695 (by decide +kernel) rfl
set_option maxRecDepth 100000 in
theorem l_Machine_236 : Cond.methodLink "BoxedCore$Machine" 236 ⟨"BoxedCore$Frames", "state", "()I"⟩ ∈ pm_tbl := pm_ix 1618 (by decide +kernel) rfl
set_option maxRecDepth 100000 in
theorem l_Machine_239 : Cond.methodLink "BoxedCore$Machine" 239 ⟨"BoxedCore$Machine", "workPart", "(II)V"⟩ ∈ pm_tbl := pm_ix 1622 (by decide +kernel) rfl
set_option maxRecDepth 100000 in
theorem l_Machine_242 : Cond.methodLink "BoxedCore$Machine" 242 ⟨"BoxedCore$Tree", "third", "(I)I"⟩ ∈ pm_tbl := pm_ix 1586 (by decide +kernel) rfl
set_option maxRecDepth 100000 in
theorem l_Machine_245 : Cond.methodLink "BoxedCore$Machine" 245 ⟨"BoxedCore$Tree", "second", "(I)I"⟩ ∈ pm_tbl := pm_ix 1630 (by decide +kernel) rfl
set_option maxRecDepth 100000 in
theorem l_Machine_247 : Cond.methodLink "BoxedCore$Machine" 247 ⟨"BoxedCore$Frames", "hold", "(J)V"⟩ ∈ pm_tbl := pm_ix 1527 (by decide +kernel) rfl
set_option maxRecDepth 100000 in
theorem l_Machine_250 : Cond.methodLink "BoxedCore$Machine" 250 ⟨"BoxedCore$Frames", "held", "(I)J"⟩ ∈ pm_tbl := pm_ix 1668 (by decide +kernel) rfl
set_option maxRecDepth 100000 in
theorem l_Machine_253 : Cond.methodLink "BoxedCore$Machine" 253 ⟨"BoxedCore$Machine", "join", "(IJJ)J"⟩ ∈ pm_tbl := pm_ix 1699 (by decide +kernel) rfl
set_option maxRecDepth 100000 in
theorem l_Machine_257 : Cond.methodLink "BoxedCore$Machine" 257 ⟨"BoxedCore$Machine", "beginCall", "(I)V"⟩ ∈ pm_tbl := pm_ix 1643 (by decide +kernel) rfl
set_option maxRecDepth 100000 in
theorem l_Machine_260 : Cond.methodLink "BoxedCore$Machine" 260 ⟨"BoxedCore$Machine", "takeArgument", "(I)V"⟩ ∈ pm_tbl := pm_ix 1673 (by decide +kernel) rfl
set_option maxRecDepth 100000 in
theorem l_Machine_263 : Cond.methodLink "BoxedCore$Machine" 263 ⟨"BoxedCore$Machine", "takeResult", "(I)V"⟩ ∈ pm_tbl := pm_ix 1679 (by decide +kernel) rfl
set_option maxRecDepth 100000 in
theorem l_Machine_269 : Cond.methodLink "BoxedCore$Machine" 269 ⟨"BoxedCore$Machine", "goOnCalling", "()V"⟩ ∈ pm_tbl := pm_ix 1683 (by decide +kernel) rfl
set_option maxRecDepth 100000 in
theorem l_Machine_272 : Cond.methodLink "BoxedCore$Machine" 272 ⟨"BoxedCore$Frames", "setAtom", "(I)V"⟩ ∈ pm_tbl := pm_ix 1647 (by decide +kernel) rfl
set_option maxRecDepth 100000 in
theorem l_Machine_275 : Cond.methodLink "BoxedCore$Machine" 275 ⟨"BoxedCore$Machine", "workAtom", "(I)V"⟩ ∈ pm_tbl := pm_ix 1651 (by decide +kernel) rfl
set_option maxRecDepth 100000 in
theorem l_Machine_278 : Cond.methodLink "BoxedCore$Machine" 278 ⟨"BoxedCore$Machine", "callDef", "(I)V"⟩ ∈ pm_tbl := pm_ix 1660 (by decide +kernel) rfl
set_option maxRecDepth 100000 in
theorem l_Machine_281 : Cond.methodLink "BoxedCore$Machine" 281 ⟨"BoxedCore$Frames", "atom", "()I"⟩ ∈ pm_tbl := pm_ix 1655 (by decide +kernel) rfl
set_option maxRecDepth 100000 in
theorem l_Machine_284 : Cond.methodLink "BoxedCore$Machine" 284 ⟨"BoxedCore$Tree", "next", "(I)I"⟩ ∈ pm_tbl := pm_ix 1659 (by decide +kernel) rfl
set_option maxRecDepth 100000 in
theorem l_Machine_287 : Cond.methodLink "BoxedCore$Machine" 287 ⟨"BoxedCore$Frames", "heldCount", "()I"⟩ ∈ pm_tbl := pm_ix 1664 (by decide +kernel) rfl
set_option maxRecDepth 100000 in
theorem l_Machine_290 : Cond.methodLink "BoxedCore$Machine" 290 ⟨"BoxedCore$Tree", "isShort", "(I)Z"⟩ ∈ pm_tbl := pm_ix 1677 (by decide +kernel) rfl
set_option maxRecDepth 100000 in
theorem l_Machine_294 : Cond.methodLink "BoxedCore$Machine" 294 ⟨"BoxedCore$Table", "localType", "(II)I"⟩ ∈ pm_tbl := pm_ix 1678 (by decide +kernel) rfl
set_option maxRecDepth 100000 in
theorem l_Machine_298 : Cond.methodLink "BoxedCore$Machine" 298 ⟨"BoxedCore$Adapter", "adapt", "(JIIZ)J"⟩ ∈ pm_tbl := pm_ix 1535 (by decide +kernel) rfl
set_option maxRecDepth 100000 in
theorem l_Machine_302 : Cond.methodLink "BoxedCore$Machine" 302 ⟨"BoxedCore$Frames", "dropHeld", "()V"⟩ ∈ pm_tbl := pm_ix 1687 (by decide +kernel) rfl
set_option maxRecDepth 100000 in
theorem l_Machine_305 : Cond.methodLink "BoxedCore$Machine" 305 ⟨"BoxedCore$Machine", "enterCover", "(Z)V"⟩ ∈ pm_tbl := pm_ix 1523 (by decide +kernel) rfl
set_option maxRecDepth 100000 in
theorem l_Machine_309 : Cond.methodLink "BoxedCore$Machine" 309 ⟨"BoxedCore$Machine", "enterFunction", "()V"⟩ ∈ pm_tbl := pm_ix 1577 (by decide +kernel) rfl
set_option maxRecDepth 100000 in
theorem l_Machine_312 : Cond.methodLink "BoxedCore$Machine" 312 ⟨"BoxedCore$Heap", "site", "(J)I"⟩ ∈ pm_tbl := pm_ix 1531 (by decide +kernel) rfl
set_option maxRecDepth 100000 in
theorem l_Parser_3 : Cond.methodLink "BoxedCore$Parser" 3 ⟨"java/lang/Object", "<init>", "()V"⟩ ∈ pm_tbl := pm_ix 257 (by decide +kernel) rfl
set_option maxRecDepth 100000 in
theorem l_Parser_51 : Cond.methodLink "BoxedCore$Parser" 51 ⟨"BoxedCore$Tokens", "size", "()I"⟩ ∈ pm_tbl := pm_ix 640 (by decide +kernel) rfl
set_option maxRecDepth 100000 in
theorem l_Parser_57 : Cond.methodLink "BoxedCore$Parser" 57 ⟨"BoxedCore$Parser", "kind", "()I"⟩ ∈ pm_tbl := pm_ix 644 (by decide +kernel) rfl
set_option maxRecDepth 100000 in
theorem l_Parser_60 : Cond.methodLink "BoxedCore$Parser" 60 ⟨"BoxedCore$Parser", "readDef", "()V"⟩ ∈ pm_tbl := pm_ix 653 (by decide +kernel) rfl
set_option maxRecDepth 100000 in
theorem l_Parser_63 : Cond.methodLink "BoxedCore$Parser" 63 ⟨"BoxedCore$Table", "size", "()I"⟩ ∈ pm_tbl := pm_ix 657 (by decide +kernel) rfl
set_option maxRecDepth 100000 in
theorem l_Parser_66 : Cond.methodLink "BoxedCore$Parser" 66 ⟨"BoxedCore$Parser", "here", "()I"⟩ ∈ pm_tbl := pm_ix 661 (by decide +kernel) rfl
set_option maxRecDepth 100000 in
theorem l_Parser_69 : Cond.methodLink "BoxedCore$Parser" 69 ⟨"BoxedCore$Fault", "tell", "(II)V"⟩ ∈ pm_tbl := pm_ix 669 (by decide +kernel) rfl
set_option maxRecDepth 100000 in
theorem l_Parser_73 : Cond.methodLink "BoxedCore$Parser" 73 ⟨"BoxedCore$Parser", "expect", "(I)V"⟩ ∈ pm_tbl := pm_ix 670 (by decide +kernel) rfl
set_option maxRecDepth 100000 in
theorem l_Parser_77 : Cond.methodLink "BoxedCore$Parser" 77 ⟨"BoxedCore$Fault", "isTold", "()Z"⟩ ∈ pm_tbl := pm_ix 648 (by decide +kernel) rfl
set_option maxRecDepth 100000 in
theorem l_Parser_81 : Cond.methodLink "BoxedCore$Parser" 81 ⟨"BoxedCore$Tokens", "value", "(I)J"⟩ ∈ pm_tbl := pm_ix 674 (by decide +kernel) rfl
set_option maxRecDepth 100000 in
theorem l_Parser_85 : Cond.methodLink "BoxedCore$Parser" 85 ⟨"BoxedCore$Table", "find", "(J)I"⟩ ∈ pm_tbl := pm_ix 678 (by decide +kernel) rfl
set_option maxRecDepth 100000 in
theorem l_Parser_89 : Cond.methodLink "BoxedCore$Parser" 89 ⟨"BoxedCore$Tokens", "placeOf", "(I)I"⟩ ∈ pm_tbl := pm_ix 665 (by decide +kernel) rfl
set_option maxRecDepth 100000 in
theorem l_Parser_93 : Cond.methodLink "BoxedCore$Parser" 93 ⟨"BoxedCore$Table", "add", "(JI)I"⟩ ∈ pm_tbl := pm_ix 682 (by decide +kernel) rfl
set_option maxRecDepth 100000 in
theorem l_Parser_106 : Cond.methodLink "BoxedCore$Parser" 106 ⟨"BoxedCore$Parser", "readParameter", "()V"⟩ ∈ pm_tbl := pm_ix 686 (by decide +kernel) rfl
set_option maxRecDepth 100000 in
theorem l_Parser_109 : Cond.methodLink "BoxedCore$Parser" 109 ⟨"java/lang/Integer", "bitCount", "(I)I"⟩ ∈ pm_tbl := pm_ix 778 (by decide +kernel) rfl
set_option maxRecDepth 100000 in
theorem l_Parser_114 : Cond.methodLink "BoxedCore$Parser" 114 ⟨"BoxedCore$Table", "count", "(III)V"⟩ ∈ pm_tbl := pm_ix 714 (by decide +kernel) rfl
set_option maxRecDepth 100000 in
theorem l_Parser_118 : Cond.methodLink "BoxedCore$Parser" 118 ⟨"BoxedCore$Parser", "readType", "(IZ)I"⟩ ∈ pm_tbl := pm_ix 718 (by decide +kernel) rfl
set_option maxRecDepth 100000 in
theorem l_Parser_122 : Cond.methodLink "BoxedCore$Parser" 122 ⟨"BoxedCore$Table", "setType", "(II)V"⟩ ∈ pm_tbl := pm_ix 784 (by decide +kernel) rfl
set_option maxRecDepth 100000 in
theorem l_Parser_125 : Cond.methodLink "BoxedCore$Parser" 125 ⟨"BoxedCore$Parser", "readExpr", "(I)I"⟩ ∈ pm_tbl := pm_ix 788 (by decide +kernel) rfl
set_option maxRecDepth 100000 in
theorem l_Parser_128 : Cond.methodLink "BoxedCore$Parser" 128 ⟨"BoxedCore$Tree", "size", "()I"⟩ ∈ pm_tbl := pm_ix 1175 (by decide +kernel) rfl
set_option maxRecDepth 100000 in
theorem l_Parser_131 : Cond.methodLink "BoxedCore$Parser" 131 ⟨"BoxedCore$Table", "setRoot", "(III)V"⟩ ∈ pm_tbl := pm_ix 1179 (by decide +kernel) rfl
set_option maxRecDepth 100000 in
theorem l_Parser_134 : Cond.methodLink "BoxedCore$Parser" 134 ⟨"BoxedCore$Table", "parameters", "(I)I"⟩ ∈ pm_tbl := pm_ix 690 (by decide +kernel) rfl
set_option maxRecDepth 100000 in
theorem l_Parser_137 : Cond.methodLink "BoxedCore$Parser" 137 ⟨"BoxedCore$Parser", "readLocal", "()I"⟩ ∈ pm_tbl := pm_ix 694 (by decide +kernel) rfl
set_option maxRecDepth 100000 in
theorem l_Parser_140 : Cond.methodLink "BoxedCore$Parser" 140 ⟨"BoxedCore$Parser", "findLocal", "(J)I"⟩ ∈ pm_tbl := pm_ix 706 (by decide +kernel) rfl
set_option maxRecDepth 100000 in
theorem l_Parser_143 : Cond.methodLink "BoxedCore$Parser" 143 ⟨"BoxedCore$Parser", "bind", "(JI)V"⟩ ∈ pm_tbl := pm_ix 710 (by decide +kernel) rfl
set_option maxRecDepth 100000 in
theorem l_Parser_147 : Cond.methodLink "BoxedCore$Parser" 147 ⟨"BoxedCore$Table", "setLocalType", "(III)V"⟩ ∈ pm_tbl := pm_ix 770 (by decide +kernel) rfl
set_option maxRecDepth 100000 in
theorem l_Parser_150 : Cond.methodLink "BoxedCore$Parser" 150 ⟨"BoxedCore$Table", "locals", "(I)I"⟩ ∈ pm_tbl := pm_ix 698 (by decide +kernel) rfl
set_option maxRecDepth 100000 in
theorem l_Parser_153 : Cond.methodLink "BoxedCore$Parser" 153 ⟨"BoxedCore$Table", "addLocal", "(I)I"⟩ ∈ pm_tbl := pm_ix 702 (by decide +kernel) rfl
set_option maxRecDepth 100000 in
theorem l_Parser_162 : Cond.methodLink "BoxedCore$Parser" 162 ⟨"BoxedCore$Parser", "readPart", "(IZ)I"⟩ ∈ pm_tbl := pm_ix 722 (by decide +kernel) rfl
set_option maxRecDepth 100000 in
theorem l_Parser_167 : Cond.methodLink "BoxedCore$Parser" 167 ⟨"BoxedCore$Types", "make", "(III)I"⟩ ∈ pm_tbl := pm_ix 750 (by decide +kernel) rfl
set_option maxRecDepth 100000 in
theorem l_Parser_171 : Cond.methodLink "BoxedCore$Parser" 171 ⟨"BoxedCore$Parser", "readBase", "(IZ)I"⟩ ∈ pm_tbl := pm_ix 726 (by decide +kernel) rfl
set_option maxRecDepth 100000 in
theorem l_Parser_174 : Cond.methodLink "BoxedCore$Parser" 174 ⟨"BoxedCore$Parser", "pushBase", "(I)V"⟩ ∈ pm_tbl := pm_ix 742 (by decide +kernel) rfl
set_option maxRecDepth 100000 in
theorem l_Parser_177 : Cond.methodLink "BoxedCore$Parser" 177 ⟨"BoxedCore$Parser", "popBase", "()I"⟩ ∈ pm_tbl := pm_ix 746 (by decide +kernel) rfl
set_option maxRecDepth 100000 in
theorem l_Parser_180 : Cond.methodLink "BoxedCore$Parser" 180 ⟨"BoxedCore$Parser", "countLeaf", "()V"⟩ ∈ pm_tbl := pm_ix 730 (by decide +kernel) rfl
set_option maxRecDepth 100000 in
theorem l_Parser_183 : Cond.methodLink "BoxedCore$Parser" 183 ⟨"BoxedCore$Parser", "readLetter", "(Z)I"⟩ ∈ pm_tbl := pm_ix 734 (by decide +kernel) rfl
set_option maxRecDepth 100000 in
theorem l_Parser_187 : Cond.methodLink "BoxedCore$Parser" 187 ⟨"BoxedCore$Types", "letter", "(I)I"⟩ ∈ pm_tbl := pm_ix 738 (by decide +kernel) rfl
set_option maxRecDepth 100000 in
theorem l_Parser_190 : Cond.methodLink "BoxedCore$Parser" 190 ⟨"BoxedCore$Parser", "readLet", "(I)I"⟩ ∈ pm_tbl := pm_ix 792 (by decide +kernel) rfl
set_option maxRecDepth 100000 in
theorem l_Parser_193 : Cond.methodLink "BoxedCore$Parser" 193 ⟨"BoxedCore$Parser", "readIf", "(I)I"⟩ ∈ pm_tbl := pm_ix 1111 (by decide +kernel) rfl
set_option maxRecDepth 100000 in
theorem l_Parser_196 : Cond.methodLink "BoxedCore$Parser" 196 ⟨"BoxedCore$Parser", "readFn", "(I)I"⟩ ∈ pm_tbl := pm_ix 1115 (by decide +kernel) rfl
set_option maxRecDepth 100000 in
theorem l_Parser_199 : Cond.methodLink "BoxedCore$Parser" 199 ⟨"BoxedCore$Parser", "readComparison", "(I)I"⟩ ∈ pm_tbl := pm_ix 1123 (by decide +kernel) rfl
set_option maxRecDepth 100000 in
theorem l_Parser_202 : Cond.methodLink "BoxedCore$Parser" 202 ⟨"BoxedCore$Table", "setLocalBound", "(III)V"⟩ ∈ pm_tbl := pm_ix 796 (by decide +kernel) rfl
set_option maxRecDepth 100000 in
theorem l_Parser_205 : Cond.methodLink "BoxedCore$Parser" 205 ⟨"BoxedCore$Parser", "unbind", "()V"⟩ ∈ pm_tbl := pm_ix 800 (by decide +kernel) rfl
set_option maxRecDepth 100000 in
theorem l_Parser_208 : Cond.methodLink "BoxedCore$Parser" 208 ⟨"BoxedCore$Tree", "add", "(IIIII)I"⟩ ∈ pm_tbl := pm_ix 805 (by decide +kernel) rfl
set_option maxRecDepth 100000 in
theorem l_Parser_211 : Cond.methodLink "BoxedCore$Parser" 211 ⟨"BoxedCore$Tree", "setValue", "(IJ)V"⟩ ∈ pm_tbl := pm_ix 1119 (by decide +kernel) rfl
set_option maxRecDepth 100000 in
theorem l_Parser_215 : Cond.methodLink "BoxedCore$Parser" 215 ⟨"BoxedCore$Parser", "readSum", "(I)I"⟩ ∈ pm_tbl := pm_ix 1127 (by decide +kernel) rfl
set_option maxRecDepth 100000 in
theorem l_Parser_218 : Cond.methodLink "BoxedCore$Parser" 218 ⟨"BoxedCore$Parser", "readCall", "(I)I"⟩ ∈ pm_tbl := pm_ix 1131 (by decide +kernel) rfl
set_option maxRecDepth 100000 in
theorem l_Parser_221 : Cond.methodLink "BoxedCore$Parser" 221 ⟨"BoxedCore$Parser", "isSumSign", "()Z"⟩ ∈ pm_tbl := pm_ix 1171 (by decide +kernel) rfl
set_option maxRecDepth 100000 in
theorem l_Parser_224 : Cond.methodLink "BoxedCore$Parser" 224 ⟨"BoxedCore$Parser", "readAtom", "(I)I"⟩ ∈ pm_tbl := pm_ix 1135 (by decide +kernel) rfl
set_option maxRecDepth 100000 in
theorem l_Parser_227 : Cond.methodLink "BoxedCore$Parser" 227 ⟨"BoxedCore$Parser", "beginsAtom", "()Z"⟩ ∈ pm_tbl := pm_ix 1147 (by decide +kernel) rfl
set_option maxRecDepth 100000 in
theorem l_Parser_230 : Cond.methodLink "BoxedCore$Parser" 230 ⟨"BoxedCore$Tree", "kind", "(I)I"⟩ ∈ pm_tbl := pm_ix 1151 (by decide +kernel) rfl
set_option maxRecDepth 100000 in
theorem l_Parser_232 : Cond.methodLink "BoxedCore$Parser" 232 ⟨"BoxedCore$Tree", "turnInto", "(II)V"⟩ ∈ pm_tbl := pm_ix 1155 (by decide +kernel) rfl
set_option maxRecDepth 100000 in
theorem l_Parser_235 : Cond.methodLink "BoxedCore$Parser" 235 ⟨"BoxedCore$Parser", "readAtoms", "(II)I"⟩ ∈ pm_tbl := pm_ix 1159 (by decide +kernel) rfl
set_option maxRecDepth 100000 in
theorem l_Parser_239 : Cond.methodLink "BoxedCore$Parser" 239 ⟨"BoxedCore$Tree", "chain", "(II)V"⟩ ∈ pm_tbl := pm_ix 1163 (by decide +kernel) rfl
set_option maxRecDepth 100000 in
theorem l_Parser_242 : Cond.methodLink "BoxedCore$Parser" 242 ⟨"BoxedCore$Tree", "placeOf", "(I)I"⟩ ∈ pm_tbl := pm_ix 1167 (by decide +kernel) rfl
set_option maxRecDepth 100000 in
theorem l_Parser_243 : Cond.methodLink "BoxedCore$Parser" 243 ⟨"BoxedCore$Parser", "readLeafExpr", "(II)I"⟩ ∈ pm_tbl := pm_ix 1139 (by decide +kernel) rfl
set_option maxRecDepth 100000 in
theorem l_Parser_246 : Cond.methodLink "BoxedCore$Parser" 246 ⟨"BoxedCore$Parser", "readBrackets", "(I)I"⟩ ∈ pm_tbl := pm_ix 1143 (by decide +kernel) rfl
set_option maxRecDepth 100000 in
theorem l_Parser_249 : Cond.methodLink "BoxedCore$Parser" 249 ⟨"java/lang/Math", "max", "(II)I"⟩ ∈ pm_tbl := pm_ix 804 (by decide +kernel) rfl
set_option maxRecDepth 100000 in
theorem l_Parser_254 : Cond.methodLink "BoxedCore$Parser" 254 ⟨"BoxedCore$Tokens", "kind", "(I)I"⟩ ∈ pm_tbl := pm_ix 649 (by decide +kernel) rfl
set_option maxRecDepth 100000 in
theorem l_Table_3 : Cond.methodLink "BoxedCore$Table" 3 ⟨"java/lang/Object", "<init>", "()V"⟩ ∈ pm_tbl := pm_ix 220 (by decide +kernel) rfl
set_option maxRecDepth 100000 in
theorem l_Table_44 : Cond.methodLink "BoxedCore$Table" 44 ⟨"java/util/Arrays", "fill", "([II)V"⟩ ∈ pm_tbl := pm_ix 574 (by decide +kernel) rfl
set_option maxRecDepth 100000 in
theorem l_Table_50 : Cond.methodLink "BoxedCore$Table" 50 ⟨"BoxedCore$Table", "hasLocal", "(II)Z"⟩ ∈ pm_tbl := pm_ix 774 (by decide +kernel) rfl
set_option maxRecDepth 100000 in
theorem l_Tokens_3 : Cond.methodLink "BoxedCore$Tokens" 3 ⟨"java/lang/Object", "<init>", "()V"⟩ ∈ pm_tbl := pm_ix 60 (by decide +kernel) rfl
set_option maxRecDepth 100000 in
theorem l_Tokens_31 : Cond.methodLink "BoxedCore$Tokens" 31 ⟨"java/lang/String", "length", "()I"⟩ ∈ pm_tbl := pm_ix 62 (by decide +kernel) rfl
set_option maxRecDepth 100000 in
theorem l_Tokens_37 : Cond.methodLink "BoxedCore$Tokens" 37 ⟨"java/lang/String", "charAt", "(I)C"⟩ ∈ pm_tbl := pm_ix 72 (by decide +kernel) rfl
set_option maxRecDepth 100000 in
theorem l_Tokens_41 : Cond.methodLink "BoxedCore$Tokens" 41 ⟨"BoxedCore$Tokens", "withOctet", "(JI)J"⟩ ∈ pm_tbl := pm_ix 110 (by decide +kernel) rfl
set_option maxRecDepth 100000 in
theorem l_Tokens_51 : Cond.methodLink "BoxedCore$Tokens" 51 ⟨"java/lang/Math", "min", "(II)I"⟩ ∈ pm_tbl := pm_ix 579 (by decide +kernel) rfl
set_option maxRecDepth 100000 in
theorem l_Tokens_57 : Cond.methodLink "BoxedCore$Tokens" 57 ⟨"BoxedCore$Fault", "isTold", "()Z"⟩ ∈ pm_tbl := pm_ix 580 (by decide +kernel) rfl
set_option maxRecDepth 100000 in
theorem l_Tokens_63 : Cond.methodLink "BoxedCore$Tokens" 63 ⟨"BoxedCore$Fault", "tell", "(II)V"⟩ ∈ pm_tbl := pm_ix 584 (by decide +kernel) rfl
set_option maxRecDepth 100000 in
theorem l_Tokens_67 : Cond.methodLink "BoxedCore$Tokens" 67 ⟨"BoxedCore$Tokens", "scanToken", "([II)I"⟩ ∈ pm_tbl := pm_ix 588 (by decide +kernel) rfl
set_option maxRecDepth 100000 in
theorem l_Tokens_71 : Cond.methodLink "BoxedCore$Tokens" 71 ⟨"java/lang/Math", "max", "(II)I"⟩ ∈ pm_tbl := pm_ix 633 (by decide +kernel) rfl
set_option maxRecDepth 100000 in
theorem l_Tokens_74 : Cond.methodLink "BoxedCore$Tokens" 74 ⟨"BoxedCore$Tokens", "octetAt", "([II)I"⟩ ∈ pm_tbl := pm_ix 592 (by decide +kernel) rfl
set_option maxRecDepth 100000 in
theorem l_Tokens_77 : Cond.methodLink "BoxedCore$Tokens" 77 ⟨"BoxedCore$Tokens", "isLetter", "(I)Z"⟩ ∈ pm_tbl := pm_ix 596 (by decide +kernel) rfl
set_option maxRecDepth 100000 in
theorem l_Tokens_81 : Cond.methodLink "BoxedCore$Tokens" 81 ⟨"BoxedCore$Tokens", "scanName", "([II)I"⟩ ∈ pm_tbl := pm_ix 599 (by decide +kernel) rfl
set_option maxRecDepth 100000 in
theorem l_Tokens_84 : Cond.methodLink "BoxedCore$Tokens" 84 ⟨"BoxedCore$Tokens", "isDigit", "(I)Z"⟩ ∈ pm_tbl := pm_ix 113 (by decide +kernel) rfl
set_option maxRecDepth 100000 in
theorem l_Tokens_87 : Cond.methodLink "BoxedCore$Tokens" 87 ⟨"BoxedCore$Tokens", "scanNumber", "([II)I"⟩ ∈ pm_tbl := pm_ix 611 (by decide +kernel) rfl
set_option maxRecDepth 100000 in
theorem l_Tokens_90 : Cond.methodLink "BoxedCore$Tokens" 90 ⟨"BoxedCore$Tokens", "scanBits", "([II)I"⟩ ∈ pm_tbl := pm_ix 617 (by decide +kernel) rfl
set_option maxRecDepth 100000 in
theorem l_Tokens_93 : Cond.methodLink "BoxedCore$Tokens" 93 ⟨"BoxedCore$Tokens", "scanLetter", "([II)I"⟩ ∈ pm_tbl := pm_ix 624 (by decide +kernel) rfl
set_option maxRecDepth 100000 in
theorem l_Tokens_96 : Cond.methodLink "BoxedCore$Tokens" 96 ⟨"BoxedCore$Tokens", "scanSign", "([II)I"⟩ ∈ pm_tbl := pm_ix 628 (by decide +kernel) rfl
set_option maxRecDepth 100000 in
theorem l_Tokens_99 : Cond.methodLink "BoxedCore$Tokens" 99 ⟨"BoxedCore$Tokens", "kindOfName", "(J)I"⟩ ∈ pm_tbl := pm_ix 603 (by decide +kernel) rfl
set_option maxRecDepth 100000 in
theorem l_Tokens_103 : Cond.methodLink "BoxedCore$Tokens" 103 ⟨"BoxedCore$Tokens", "add", "(IIJ)V"⟩ ∈ pm_tbl := pm_ix 607 (by decide +kernel) rfl
set_option maxRecDepth 100000 in
theorem l_Tokens_113 : Cond.methodLink "BoxedCore$Tokens" 113 ⟨"BoxedCore$Tokens", "hexDigit", "(I)I"⟩ ∈ pm_tbl := pm_ix 621 (by decide +kernel) rfl
set_option maxRecDepth 100000 in
theorem l_Tree_3 : Cond.methodLink "BoxedCore$Tree" 3 ⟨"java/lang/Object", "<init>", "()V"⟩ ∈ pm_tbl := pm_ix 179 (by decide +kernel) rfl
set_option maxRecDepth 100000 in
theorem l_Tree_50 : Cond.methodLink "BoxedCore$Tree" 50 ⟨"java/util/Arrays", "fill", "([IIII)V"⟩ ∈ pm_tbl := pm_ix 809 (by decide +kernel) rfl
set_option maxRecDepth 100000 in
theorem l_Types_5 : Cond.methodLink "BoxedCore$Types" 5 ⟨"java/lang/Object", "<init>", "()V"⟩ ∈ pm_tbl := pm_ix 145 (by decide +kernel) rfl
set_option maxRecDepth 100000 in
theorem l_Types_33 : Cond.methodLink "BoxedCore$Types" 33 ⟨"java/lang/Math", "min", "(II)I"⟩ ∈ pm_tbl := pm_ix 146 (by decide +kernel) rfl
set_option maxRecDepth 100000 in
theorem l_Types_43 : Cond.methodLink "BoxedCore$Types" 43 ⟨"java/util/Arrays", "fill", "([II)V"⟩ ∈ pm_tbl := pm_ix 565 (by decide +kernel) rfl
set_option maxRecDepth 100000 in
theorem l_Types_50 : Cond.methodLink "BoxedCore$Types" 50 ⟨"java/util/Arrays", "copyOf", "([II)[I"⟩ ∈ pm_tbl := pm_ix 755 (by decide +kernel) rfl
set_option maxRecDepth 100000 in
theorem l_Law_7 : Cond.methodLink "BoxedCoreLaw" 7 ⟨"BoxedCore", "feed", "(IJ)I"⟩ ∈ pm_tbl := pm_ix 1407 (by decide +kernel) rfl
set_option maxRecDepth 100000 in
theorem l_Law_15 : Cond.methodLink "BoxedCoreLaw" 15 ⟨"BoxedCore", "def", "(II)I"⟩ ∈ pm_tbl := pm_ix 1418 (by decide +kernel) rfl
set_option maxRecDepth 100000 in
theorem l_Law_21 : Cond.methodLink "BoxedCoreLaw" 21 ⟨"BoxedCore", "argument", "(J)I"⟩ ∈ pm_tbl := pm_ix 1444 (by decide +kernel) rfl
set_option maxRecDepth 100000 in
theorem l_Law_27 : Cond.methodLink "BoxedCoreLaw" 27 ⟨"BoxedCore", "run", "(IZI)I"⟩ ∈ pm_tbl := pm_ix 1467 (by decide +kernel) rfl
set_option maxRecDepth 100000 in
theorem l_Law_31 : Cond.methodLink "BoxedCoreLaw" 31 ⟨"BoxedCore", "told", "(I)I"⟩ ∈ pm_tbl := pm_ix 1707 (by decide +kernel) rfl
set_option maxRecDepth 100000 in
theorem l_Law_35 : Cond.methodLink "BoxedCoreLaw" 35 ⟨"BoxedCore", "<init>", "()V"⟩ ∈ pm_tbl := pm_ix 34 (by decide +kernel) rfl
set_option maxRecDepth 100000 in
theorem l_Law_38 : Cond.methodLink "BoxedCoreLaw" 38 ⟨"BoxedCoreModel", "<init>", "()V"⟩ ∈ pm_tbl := pm_ix 1730 (by decide +kernel) rfl
set_option maxRecDepth 100000 in
theorem l_Law_41 : Cond.methodLink "BoxedCoreLaw" 41 ⟨"BoxedCoreLaw", "feed", "(LBoxedCore;IJ[J)I"⟩ ∈ pm_tbl := pm_ix 1403 (by decide +kernel) rfl
set_option maxRecDepth 100000 in
theorem l_Law_46 : Cond.methodLink "BoxedCoreLaw" 46 ⟨"BoxedCoreModel", "feed", "(IJ)I"⟩ ∈ pm_tbl := pm_ix 2102 (by decide +kernel) rfl
set_option maxRecDepth 100000 in
theorem l_Law_47 : Cond.methodLink "BoxedCoreLaw" 47 ⟨"BoxedCoreModel", "thrown", "()I"⟩ ∈ pm_tbl := pm_ix 2098 (by decide +kernel) rfl
set_option maxRecDepth 100000 in
theorem l_Law_51 : Cond.methodLink "BoxedCoreLaw" 51 ⟨"BoxedCore", "wipe", "()I"⟩ ∈ pm_tbl := pm_ix 530 (by decide +kernel) rfl
set_option maxRecDepth 100000 in
theorem l_Law_54 : Cond.methodLink "BoxedCoreLaw" 54 ⟨"BoxedCoreModel", "wipe", "()I"⟩ ∈ pm_tbl := pm_ix 2115 (by decide +kernel) rfl
set_option maxRecDepth 100000 in
theorem l_Law_55 : Cond.methodLink "BoxedCoreLaw" 55 ⟨"BoxedCore", "compile", "()I"⟩ ∈ pm_tbl := pm_ix 553 (by decide +kernel) rfl
set_option maxRecDepth 100000 in
theorem l_Law_58 : Cond.methodLink "BoxedCoreLaw" 58 ⟨"BoxedCoreModel", "compile", "()I"⟩ ∈ pm_tbl := pm_ix 2119 (by decide +kernel) rfl
set_option maxRecDepth 100000 in
theorem l_Law_59 : Cond.methodLink "BoxedCoreLaw" 59 ⟨"BoxedCore", "place", "()I"⟩ ∈ pm_tbl := pm_ix 1345 (by decide +kernel) rfl
set_option maxRecDepth 100000 in
theorem l_Law_62 : Cond.methodLink "BoxedCoreLaw" 62 ⟨"BoxedCoreModel", "place", "()I"⟩ ∈ pm_tbl := pm_ix 2336 (by decide +kernel) rfl
set_option maxRecDepth 100000 in
theorem l_Law_63 : Cond.methodLink "BoxedCoreLaw" 63 ⟨"BoxedCore", "defs", "()I"⟩ ∈ pm_tbl := pm_ix 1349 (by decide +kernel) rfl
set_option maxRecDepth 100000 in
theorem l_Law_66 : Cond.methodLink "BoxedCoreLaw" 66 ⟨"BoxedCoreModel", "defs", "()I"⟩ ∈ pm_tbl := pm_ix 2340 (by decide +kernel) rfl
set_option maxRecDepth 100000 in
theorem l_Law_67 : Cond.methodLink "BoxedCoreLaw" 67 ⟨"BoxedCoreLaw", "def", "(LBoxedCore;II[J)I"⟩ ∈ pm_tbl := pm_ix 1414 (by decide +kernel) rfl
set_option maxRecDepth 100000 in
theorem l_Law_70 : Cond.methodLink "BoxedCoreLaw" 70 ⟨"BoxedCoreModel", "def", "(II)I"⟩ ∈ pm_tbl := pm_ix 2344 (by decide +kernel) rfl
set_option maxRecDepth 100000 in
theorem l_Law_71 : Cond.methodLink "BoxedCoreLaw" 71 ⟨"BoxedCoreLaw", "argument", "(LBoxedCore;J[J)I"⟩ ∈ pm_tbl := pm_ix 1440 (by decide +kernel) rfl
set_option maxRecDepth 100000 in
theorem l_Law_74 : Cond.methodLink "BoxedCoreLaw" 74 ⟨"BoxedCoreModel", "argument", "(J)I"⟩ ∈ pm_tbl := pm_ix 2355 (by decide +kernel) rfl
set_option maxRecDepth 100000 in
theorem l_Law_75 : Cond.methodLink "BoxedCoreLaw" 75 ⟨"BoxedCoreLaw", "run", "(LBoxedCore;IZI[J)I"⟩ ∈ pm_tbl := pm_ix 1464 (by decide +kernel) rfl
set_option maxRecDepth 100000 in
theorem l_Law_78 : Cond.methodLink "BoxedCoreLaw" 78 ⟨"BoxedCoreModel", "run", "(IZI)I"⟩ ∈ pm_tbl := pm_ix 2359 (by decide +kernel) rfl
set_option maxRecDepth 100000 in
theorem l_Law_79 : Cond.methodLink "BoxedCoreLaw" 79 ⟨"BoxedCoreLaw", "told", "(LBoxedCore;I[J)I"⟩ ∈ pm_tbl := pm_ix 1704 (by decide +kernel) rfl
set_option maxRecDepth 100000 in
theorem l_Law_82 : Cond.methodLink "BoxedCoreLaw" 82 ⟨"BoxedCoreModel", "told", "(I)I"⟩ ∈ pm_tbl := pm_ix 2478 (by decide +kernel) rfl
set_option maxRecDepth 100000 in
theorem l_Law_83 : Cond.methodLink "BoxedCoreLaw" 83 ⟨"BoxedCore", "sort", "(I)I"⟩ ∈ pm_tbl := pm_ix 1353 (by decide +kernel) rfl
set_option maxRecDepth 100000 in
theorem l_Law_86 : Cond.methodLink "BoxedCoreLaw" 86 ⟨"BoxedCoreModel", "sort", "(I)I"⟩ ∈ pm_tbl := pm_ix 2482 (by decide +kernel) rfl
set_option maxRecDepth 100000 in
theorem l_Law_87 : Cond.methodLink "BoxedCoreLaw" 87 ⟨"BoxedCore", "result", "(I)J"⟩ ∈ pm_tbl := pm_ix 1394 (by decide +kernel) rfl
set_option maxRecDepth 100000 in
theorem l_Law_91 : Cond.methodLink "BoxedCoreLaw" 91 ⟨"BoxedCoreModel", "result", "(I)J"⟩ ∈ pm_tbl := pm_ix 2490 (by decide +kernel) rfl
set_option maxRecDepth 100000 in
theorem l_Md_1 : Cond.methodLink "BoxedCoreModel" 1 ⟨"java/lang/Object", "<init>", "()V"⟩ ∈ pm_tbl := pm_ix 1733 (by decide +kernel) rfl
set_option maxRecDepth 100000 in
theorem l_Md_243 : Cond.methodLink "BoxedCoreModel" 243 ⟨"BoxedCoreModel", "noTypes", "()V"⟩ ∈ pm_tbl := pm_ix 1736 (by decide +kernel) rfl
set_option maxRecDepth 100000 in
theorem l_Md_262 : Cond.methodLink "BoxedCoreModel" 262 ⟨"BoxedCoreModel", "clearRun", "()V"⟩ ∈ pm_tbl := pm_ix 2111 (by decide +kernel) rfl
set_option maxRecDepth 100000 in
theorem l_Md_270 : Cond.methodLink "BoxedCoreModel" 270 ⟨"BoxedCoreModel", "forget", "()V"⟩ ∈ pm_tbl := pm_ix 2107 (by decide +kernel) rfl
set_option maxRecDepth 100000 in
theorem l_Md_273 : Cond.methodLink "BoxedCoreModel" 273 ⟨"BoxedCoreModel", "isDigit", "(I)Z"⟩ ∈ pm_tbl := pm_ix 2138 (by decide +kernel) rfl
set_option maxRecDepth 100000 in
theorem l_Md_279 : Cond.methodLink "BoxedCoreModel" 279 ⟨"BoxedCoreModel", "octet", "(I)I"⟩ ∈ pm_tbl := pm_ix 2127 (by decide +kernel) rfl
set_option maxRecDepth 100000 in
theorem l_Md_285 : Cond.methodLink "BoxedCoreModel" 285 ⟨"BoxedCoreModel", "spells", "(IIJ)Z"⟩ ∈ pm_tbl := pm_ix 2146 (by decide +kernel) rfl
set_option maxRecDepth 100000 in
theorem l_Md_314 : Cond.methodLink "BoxedCoreModel" 314 ⟨"BoxedCoreModel", "isLetter", "(I)Z"⟩ ∈ pm_tbl := pm_ix 2135 (by decide +kernel) rfl
set_option maxRecDepth 100000 in
theorem l_Md_317 : Cond.methodLink "BoxedCoreModel" 317 ⟨"BoxedCoreModel", "wordAt", "(II)I"⟩ ∈ pm_tbl := pm_ix 2141 (by decide +kernel) rfl
set_option maxRecDepth 100000 in
theorem l_Md_325 : Cond.methodLink "BoxedCoreModel" 325 ⟨"BoxedCoreModel", "isHex", "(I)Z"⟩ ∈ pm_tbl := pm_ix 2162 (by decide +kernel) rfl
set_option maxRecDepth 100000 in
theorem l_Md_328 : Cond.methodLink "BoxedCoreModel" 328 ⟨"BoxedCoreModel", "signAt", "(I)I"⟩ ∈ pm_tbl := pm_ix 2165 (by decide +kernel) rfl
set_option maxRecDepth 100000 in
theorem l_Md_334 : Cond.methodLink "BoxedCoreModel" 334 ⟨"BoxedCoreModel", "tokenAt", "(I)I"⟩ ∈ pm_tbl := pm_ix 2131 (by decide +kernel) rfl
set_option maxRecDepth 100000 in
theorem l_Md_337 : Cond.methodLink "BoxedCoreModel" 337 ⟨"BoxedCoreModel", "fails", "(II)Z"⟩ ∈ pm_tbl := pm_ix 2169 (by decide +kernel) rfl
set_option maxRecDepth 100000 in
theorem l_Md_341 : Cond.methodLink "BoxedCoreModel" 341 ⟨"BoxedCoreModel", "mark", "(I)V"⟩ ∈ pm_tbl := pm_ix 2321 (by decide +kernel) rfl
set_option maxRecDepth 100000 in
theorem l_Md_345 : Cond.methodLink "BoxedCoreModel" 345 ⟨"BoxedCoreModel", "typeOf", "(ZII)I"⟩ ∈ pm_tbl := pm_ix 2217 (by decide +kernel) rfl
set_option maxRecDepth 100000 in
theorem l_Md_355 : Cond.methodLink "BoxedCoreModel" 355 ⟨"BoxedCoreModel", "stop", "(II)V"⟩ ∈ pm_tbl := pm_ix 2181 (by decide +kernel) rfl
set_option maxRecDepth 100000 in
theorem l_Md_365 : Cond.methodLink "BoxedCoreModel" 365 ⟨"BoxedCoreModel", "isSame", "(II)Z"⟩ ∈ pm_tbl := pm_ix 2281 (by decide +kernel) rfl
set_option maxRecDepth 100000 in
theorem l_Md_383 : Cond.methodLink "BoxedCoreModel" 383 ⟨"BoxedCoreModel", "later", "(III)V"⟩ ∈ pm_tbl := pm_ix 2201 (by decide +kernel) rfl
set_option maxRecDepth 100000 in
theorem l_Md_387 : Cond.methodLink "BoxedCoreModel" 387 ⟨"BoxedCoreModel", "takeType", "()I"⟩ ∈ pm_tbl := pm_ix 2213 (by decide +kernel) rfl
set_option maxRecDepth 100000 in
theorem l_Md_391 : Cond.methodLink "BoxedCoreModel" 391 ⟨"BoxedCoreModel", "giveType", "(I)V"⟩ ∈ pm_tbl := pm_ix 2221 (by decide +kernel) rfl
set_option maxRecDepth 100000 in
theorem l_Md_397 : Cond.methodLink "BoxedCoreModel" 397 ⟨"BoxedCoreModel", "expect", "(I)V"⟩ ∈ pm_tbl := pm_ix 2193 (by decide +kernel) rfl
set_option maxRecDepth 100000 in
theorem l_Md_403 : Cond.methodLink "BoxedCoreModel" 403 ⟨"BoxedCoreModel", "declare", "()I"⟩ ∈ pm_tbl := pm_ix 2189 (by decide +kernel) rfl
set_option maxRecDepth 100000 in
theorem l_Md_406 : Cond.methodLink "BoxedCoreModel" 406 ⟨"BoxedCoreModel", "expr", "()V"⟩ ∈ pm_tbl := pm_ix 2229 (by decide +kernel) rfl
set_option maxRecDepth 100000 in
theorem l_Md_409 : Cond.methodLink "BoxedCoreModel" 409 ⟨"BoxedCoreModel", "enter", "(II)V"⟩ ∈ pm_tbl := pm_ix 2233 (by decide +kernel) rfl
set_option maxRecDepth 100000 in
theorem l_Md_412 : Cond.methodLink "BoxedCoreModel" 412 ⟨"BoxedCoreModel", "take", "()I"⟩ ∈ pm_tbl := pm_ix 2237 (by decide +kernel) rfl
set_option maxRecDepth 100000 in
theorem l_Md_415 : Cond.methodLink "BoxedCoreModel" 415 ⟨"BoxedCoreModel", "node", "(IIIII)I"⟩ ∈ pm_tbl := pm_ix 2241 (by decide +kernel) rfl
set_option maxRecDepth 100000 in
theorem l_Md_419 : Cond.methodLink "BoxedCoreModel" 419 ⟨"BoxedCoreModel", "give", "(I)V"⟩ ∈ pm_tbl := pm_ix 2245 (by decide +kernel) rfl
set_option maxRecDepth 100000 in
theorem l_Md_422 : Cond.methodLink "BoxedCoreModel" 422 ⟨"BoxedCoreModel", "checkFnType", "(II)V"⟩ ∈ pm_tbl := pm_ix 2249 (by decide +kernel) rfl
set_option maxRecDepth 100000 in
theorem l_Md_425 : Cond.methodLink "BoxedCoreModel" 425 ⟨"BoxedCoreModel", "sumTask", "(III)V"⟩ ∈ pm_tbl := pm_ix 2265 (by decide +kernel) rfl
set_option maxRecDepth 100000 in
theorem l_Md_428 : Cond.methodLink "BoxedCoreModel" 428 ⟨"BoxedCoreModel", "row", "(IZ)V"⟩ ∈ pm_tbl := pm_ix 2269 (by decide +kernel) rfl
set_option maxRecDepth 100000 in
theorem l_Md_432 : Cond.methodLink "BoxedCoreModel" 432 ⟨"BoxedCoreModel", "atom", "()V"⟩ ∈ pm_tbl := pm_ix 2273 (by decide +kernel) rfl
set_option maxRecDepth 100000 in
theorem l_Md_435 : Cond.methodLink "BoxedCoreModel" 435 ⟨"BoxedCoreModel", "localNamed", "(I)I"⟩ ∈ pm_tbl := pm_ix 2277 (by decide +kernel) rfl
set_option maxRecDepth 100000 in
theorem l_Md_438 : Cond.methodLink "BoxedCoreModel" 438 ⟨"BoxedCoreModel", "lettersOfParameters", "()I"⟩ ∈ pm_tbl := pm_ix 2257 (by decide +kernel) rfl
set_option maxRecDepth 100000 in
theorem l_Md_441 : Cond.methodLink "BoxedCoreModel" 441 ⟨"BoxedCoreModel", "wrong", "(I)V"⟩ ∈ pm_tbl := pm_ix 2261 (by decide +kernel) rfl
set_option maxRecDepth 100000 in
theorem l_Md_444 : Cond.methodLink "BoxedCoreModel" 444 ⟨"BoxedCoreModel", "checkLetters", "(I)V"⟩ ∈ pm_tbl := pm_ix 2253 (by decide +kernel) rfl
set_option maxRecDepth 100000 in
theorem l_Md_447 : Cond.methodLink "BoxedCoreModel" 447 ⟨"BoxedCoreModel", "work", "(I)V"⟩ ∈ pm_tbl := pm_ix 2205 (by decide +kernel) rfl
set_option maxRecDepth 100000 in
theorem l_Md_450 : Cond.methodLink "BoxedCoreModel" 450 ⟨"BoxedCoreModel", "typeTask", "(II)V"⟩ ∈ pm_tbl := pm_ix 2209 (by decide +kernel) rfl
set_option maxRecDepth 100000 in
theorem l_Md_453 : Cond.methodLink "BoxedCoreModel" 453 ⟨"BoxedCoreModel", "exprTask", "(III)V"⟩ ∈ pm_tbl := pm_ix 2225 (by decide +kernel) rfl
set_option maxRecDepth 100000 in
theorem l_Md_456 : Cond.methodLink "BoxedCoreModel" 456 ⟨"BoxedCoreModel", "typeText", "()I"⟩ ∈ pm_tbl := pm_ix 2197 (by decide +kernel) rfl
set_option maxRecDepth 100000 in
theorem l_Md_459 : Cond.methodLink "BoxedCoreModel" 459 ⟨"BoxedCoreModel", "parameter", "()V"⟩ ∈ pm_tbl := pm_ix 2185 (by decide +kernel) rfl
set_option maxRecDepth 100000 in
theorem l_Md_462 : Cond.methodLink "BoxedCoreModel" 462 ⟨"BoxedCoreModel", "define", "()V"⟩ ∈ pm_tbl := pm_ix 2177 (by decide +kernel) rfl
set_option maxRecDepth 100000 in
theorem l_Md_468 : Cond.methodLink "BoxedCoreModel" 468 ⟨"BoxedCoreModel", "typeOne", "(I)Z"⟩ ∈ pm_tbl := pm_ix 2293 (by decide +kernel) rfl
set_option maxRecDepth 100000 in
theorem l_Md_471 : Cond.methodLink "BoxedCoreModel" 471 ⟨"BoxedCoreModel", "untyped", "(I)Z"⟩ ∈ pm_tbl := pm_ix 2305 (by decide +kernel) rfl
set_option maxRecDepth 100000 in
theorem l_Md_474 : Cond.methodLink "BoxedCoreModel" 474 ⟨"BoxedCoreModel", "typeName", "(I)Z"⟩ ∈ pm_tbl := pm_ix 2297 (by decide +kernel) rfl
set_option maxRecDepth 100000 in
theorem l_Md_477 : Cond.methodLink "BoxedCoreModel" 477 ⟨"BoxedCoreModel", "typeRow", "(I)Z"⟩ ∈ pm_tbl := pm_ix 2309 (by decide +kernel) rfl
set_option maxRecDepth 100000 in
theorem l_Md_480 : Cond.methodLink "BoxedCoreModel" 480 ⟨"BoxedCoreModel", "defNamed", "(I)I"⟩ ∈ pm_tbl := pm_ix 2301 (by decide +kernel) rfl
set_option maxRecDepth 100000 in
theorem l_Md_483 : Cond.methodLink "BoxedCoreModel" 483 ⟨"BoxedCoreModel", "fits", "(III)Z"⟩ ∈ pm_tbl := pm_ix 2313 (by decide +kernel) rfl
set_option maxRecDepth 100000 in
theorem l_Md_487 : Cond.methodLink "BoxedCoreModel" 487 ⟨"BoxedCoreModel", "filled", "(II)I"⟩ ∈ pm_tbl := pm_ix 2317 (by decide +kernel) rfl
set_option maxRecDepth 100000 in
theorem l_Md_490 : Cond.methodLink "BoxedCoreModel" 490 ⟨"BoxedCoreModel", "isLetterType", "(I)Z"⟩ ∈ pm_tbl := pm_ix 2329 (by decide +kernel) rfl
set_option maxRecDepth 100000 in
theorem l_Md_493 : Cond.methodLink "BoxedCoreModel" 493 ⟨"BoxedCoreModel", "isCall", "(I)Z"⟩ ∈ pm_tbl := pm_ix 2332 (by decide +kernel) rfl
set_option maxRecDepth 100000 in
theorem l_Md_496 : Cond.methodLink "BoxedCoreModel" 496 ⟨"BoxedCoreModel", "scan", "()Z"⟩ ∈ pm_tbl := pm_ix 2123 (by decide +kernel) rfl
set_option maxRecDepth 100000 in
theorem l_Md_500 : Cond.methodLink "BoxedCoreModel" 500 ⟨"BoxedCoreModel", "readAll", "()Z"⟩ ∈ pm_tbl := pm_ix 2173 (by decide +kernel) rfl
set_option maxRecDepth 100000 in
theorem l_Md_503 : Cond.methodLink "BoxedCoreModel" 503 ⟨"BoxedCoreModel", "names", "()Z"⟩ ∈ pm_tbl := pm_ix 2285 (by decide +kernel) rfl
set_option maxRecDepth 100000 in
theorem l_Md_506 : Cond.methodLink "BoxedCoreModel" 506 ⟨"BoxedCoreModel", "typeAll", "()Z"⟩ ∈ pm_tbl := pm_ix 2289 (by decide +kernel) rfl
set_option maxRecDepth 100000 in
theorem l_Md_509 : Cond.methodLink "BoxedCoreModel" 509 ⟨"BoxedCoreModel", "shorten", "()V"⟩ ∈ pm_tbl := pm_ix 2325 (by decide +kernel) rfl
set_option maxRecDepth 100000 in
theorem l_Md_512 : Cond.methodLink "BoxedCoreModel" 512 ⟨"BoxedCoreModel", "noDef", "(I)Z"⟩ ∈ pm_tbl := pm_ix 2348 (by decide +kernel) rfl
set_option maxRecDepth 100000 in
theorem l_Md_515 : Cond.methodLink "BoxedCoreModel" 515 ⟨"BoxedCoreModel", "bits", "(I)I"⟩ ∈ pm_tbl := pm_ix 2352 (by decide +kernel) rfl
set_option maxRecDepth 100000 in
theorem l_Md_560 : Cond.methodLink "BoxedCoreModel" 560 ⟨"BoxedCoreModel", "make", "()I"⟩ ∈ pm_tbl := pm_ix 2402 (by decide +kernel) rfl
set_option maxRecDepth 100000 in
theorem l_Md_575 : Cond.methodLink "BoxedCoreModel" 575 ⟨"BoxedCoreModel", "answer", "(IJ)V"⟩ ∈ pm_tbl := pm_ix 2406 (by decide +kernel) rfl
set_option maxRecDepth 100000 in
theorem l_Md_579 : Cond.methodLink "BoxedCoreModel" 579 ⟨"BoxedCoreModel", "boxOne", "(ZIJ)V"⟩ ∈ pm_tbl := pm_ix 2414 (by decide +kernel) rfl
set_option maxRecDepth 100000 in
theorem l_Md_583 : Cond.methodLink "BoxedCoreModel" 583 ⟨"BoxedCoreModel", "ask", "(IIIIJ)V"⟩ ∈ pm_tbl := pm_ix 2394 (by decide +kernel) rfl
set_option maxRecDepth 100000 in
theorem l_Md_587 : Cond.methodLink "BoxedCoreModel" 587 ⟨"BoxedCoreModel", "coverOf", "(IIIIJ)V"⟩ ∈ pm_tbl := pm_ix 2418 (by decide +kernel) rfl
set_option maxRecDepth 100000 in
theorem l_Md_590 : Cond.methodLink "BoxedCoreModel" 590 ⟨"BoxedCoreModel", "makePair", "(IJIJ)V"⟩ ∈ pm_tbl := pm_ix 2398 (by decide +kernel) rfl
set_option maxRecDepth 100000 in
theorem l_Md_594 : Cond.methodLink "BoxedCoreModel" 594 ⟨"BoxedCoreModel", "convertOne", "(IIIIJ)V"⟩ ∈ pm_tbl := pm_ix 2410 (by decide +kernel) rfl
set_option maxRecDepth 100000 in
theorem l_Md_597 : Cond.methodLink "BoxedCoreModel" 597 ⟨"BoxedCoreModel", "mayDeep", "()Z"⟩ ∈ pm_tbl := pm_ix 2371 (by decide +kernel) rfl
set_option maxRecDepth 100000 in
theorem l_Md_603 : Cond.methodLink "BoxedCoreModel" 603 ⟨"BoxedCoreModel", "push", "(ZII)V"⟩ ∈ pm_tbl := pm_ix 2375 (by decide +kernel) rfl
set_option maxRecDepth 100000 in
theorem l_Md_613 : Cond.methodLink "BoxedCoreModel" 613 ⟨"BoxedCoreModel", "homeOf", "(I)I"⟩ ∈ pm_tbl := pm_ix 2426 (by decide +kernel) rfl
set_option maxRecDepth 100000 in
theorem l_Md_616 : Cond.methodLink "BoxedCoreModel" 616 ⟨"BoxedCoreModel", "locals0", "(I)I"⟩ ∈ pm_tbl := pm_ix 2363 (by decide +kernel) rfl
set_option maxRecDepth 100000 in
theorem l_Md_619 : Cond.methodLink "BoxedCoreModel" 619 ⟨"BoxedCoreModel", "begin", "(II)V"⟩ ∈ pm_tbl := pm_ix 2367 (by decide +kernel) rfl
set_option maxRecDepth 100000 in
theorem l_Md_622 : Cond.methodLink "BoxedCoreModel" 622 ⟨"BoxedCoreModel", "otherWay", "(I)I"⟩ ∈ pm_tbl := pm_ix 2387 (by decide +kernel) rfl
set_option maxRecDepth 100000 in
theorem l_Md_625 : Cond.methodLink "BoxedCoreModel" 625 ⟨"BoxedCoreModel", "convert", "(III)V"⟩ ∈ pm_tbl := pm_ix 2390 (by decide +kernel) rfl
set_option maxRecDepth 100000 in
theorem l_Md_628 : Cond.methodLink "BoxedCoreModel" 628 ⟨"BoxedCoreModel", "callFunction", "(I)V"⟩ ∈ pm_tbl := pm_ix 2422 (by decide +kernel) rfl
set_option maxRecDepth 100000 in
theorem l_Md_631 : Cond.methodLink "BoxedCoreModel" 631 ⟨"BoxedCoreModel", "finish", "(IJ)V"⟩ ∈ pm_tbl := pm_ix 2430 (by decide +kernel) rfl
set_option maxRecDepth 100000 in
theorem l_Md_634 : Cond.methodLink "BoxedCoreModel" 634 ⟨"BoxedCoreModel", "atomAt", "(II)I"⟩ ∈ pm_tbl := pm_ix 2450 (by decide +kernel) rfl
set_option maxRecDepth 100000 in
theorem l_Md_640 : Cond.methodLink "BoxedCoreModel" 640 ⟨"BoxedCoreModel", "keepAtom", "(III)V"⟩ ∈ pm_tbl := pm_ix 2446 (by decide +kernel) rfl
set_option maxRecDepth 100000 in
theorem l_Md_643 : Cond.methodLink "BoxedCoreModel" 643 ⟨"BoxedCoreModel", "callDef", "(III)V"⟩ ∈ pm_tbl := pm_ix 2438 (by decide +kernel) rfl
set_option maxRecDepth 100000 in
theorem l_Md_646 : Cond.methodLink "BoxedCoreModel" 646 ⟨"BoxedCoreModel", "resultOf", "(II)V"⟩ ∈ pm_tbl := pm_ix 2454 (by decide +kernel) rfl
set_option maxRecDepth 100000 in
theorem l_Md_649 : Cond.methodLink "BoxedCoreModel" 649 ⟨"BoxedCoreModel", "goOn", "(III)V"⟩ ∈ pm_tbl := pm_ix 2458 (by decide +kernel) rfl
set_option maxRecDepth 100000 in
theorem l_Md_652 : Cond.methodLink "BoxedCoreModel" 652 ⟨"BoxedCoreModel", "workCover", "(I)V"⟩ ∈ pm_tbl := pm_ix 2383 (by decide +kernel) rfl
set_option maxRecDepth 100000 in
theorem l_Md_655 : Cond.methodLink "BoxedCoreModel" 655 ⟨"BoxedCoreModel", "workName", "(II)V"⟩ ∈ pm_tbl := pm_ix 2434 (by decide +kernel) rfl
set_option maxRecDepth 100000 in
theorem l_Md_658 : Cond.methodLink "BoxedCoreModel" 658 ⟨"BoxedCoreModel", "workRow", "(II)V"⟩ ∈ pm_tbl := pm_ix 2442 (by decide +kernel) rfl
set_option maxRecDepth 100000 in
theorem l_Md_661 : Cond.methodLink "BoxedCoreModel" 661 ⟨"BoxedCoreModel", "workChoice", "(II)V"⟩ ∈ pm_tbl := pm_ix 2462 (by decide +kernel) rfl
set_option maxRecDepth 100000 in
theorem l_Md_664 : Cond.methodLink "BoxedCoreModel" 664 ⟨"BoxedCoreModel", "workHalf", "(II)V"⟩ ∈ pm_tbl := pm_ix 2466 (by decide +kernel) rfl
set_option maxRecDepth 100000 in
theorem l_Md_667 : Cond.methodLink "BoxedCoreModel" 667 ⟨"BoxedCoreModel", "workFunction", "(II)V"⟩ ∈ pm_tbl := pm_ix 2470 (by decide +kernel) rfl
set_option maxRecDepth 100000 in
theorem l_Md_670 : Cond.methodLink "BoxedCoreModel" 670 ⟨"BoxedCoreModel", "workTwo", "(II)V"⟩ ∈ pm_tbl := pm_ix 2474 (by decide +kernel) rfl
set_option maxRecDepth 100000 in
theorem l_Md_673 : Cond.methodLink "BoxedCoreModel" 673 ⟨"BoxedCoreModel", "go", "()V"⟩ ∈ pm_tbl := pm_ix 2379 (by decide +kernel) rfl
set_option maxRecDepth 100000 in
theorem l_Md_676 : Cond.methodLink "BoxedCoreModel" 676 ⟨"BoxedCoreModel", "reach", "(I)Z"⟩ ∈ pm_tbl := pm_ix 2486 (by decide +kernel) rfl
set_option maxRecDepth 100000 in
theorem l_AbstractStringBuilder_108 : Cond.methodLink "java/lang/AbstractStringBuilder" 108 ⟨"java/util/Arrays", "copyOf", "([BI)[B"⟩ ∈ pm_tbl := pm_ix 916 (by decide +kernel) rfl
set_option maxRecDepth 100000 in
theorem l_Arrays_13 : Cond.methodLink "java/util/Arrays" 13 ⟨"java/util/Arrays", "rangeCheck", "(III)V"⟩ ∈ pm_tbl := pm_ix 812 (by decide +kernel) rfl
set_option maxRecDepth 100000 in
theorem l_Arrays_304 : Cond.methodLink "java/util/Arrays" 304 ⟨"java/lang/Math", "min", "(II)I"⟩ ∈ pm_tbl := pm_ix 765 (by decide +kernel) rfl
set_option maxRecDepth 100000 in
theorem l_ArraysSupport_194 : Cond.methodLink "jdk/internal/util/ArraysSupport" 194 ⟨"java/lang/Math", "max", "(II)I"⟩ ∈ pm_tbl := pm_ix 910 (by decide +kernel) rfl
