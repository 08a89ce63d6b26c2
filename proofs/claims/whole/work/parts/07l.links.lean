-- membership of the words used (by program: tools/links.py)
theorem zmk0 {w : Cond} (i : Nat) (h : (k2_sels lw_privs)[i]? = some w) (hg : goodWord w = true) : w ∈ ztbl := List.mem_filter.mpr ⟨List.mem_append_left _ (List.mem_of_getElem? h), hg⟩
theorem zmk1 {w : Cond} (i : Nat) (h : tables_1_1[i]? = some w) (hg : goodWord w = true) : w ∈ ztbl := List.mem_filter.mpr ⟨List.mem_append_right _ (List.mem_append_left _ (List.mem_of_getElem? h)), hg⟩
theorem zmk2 {w : Cond} (i : Nat) (h : tables_1_2[i]? = some w) (hg : goodWord w = true) : w ∈ ztbl := List.mem_filter.mpr ⟨List.mem_append_right _ (List.mem_append_right _ (List.mem_append_left _ (List.mem_of_getElem? h))), hg⟩
theorem zmk3 {w : Cond} (i : Nat) (h : tables_1_3[i]? = some w) (hg : goodWord w = true) : w ∈ ztbl := List.mem_filter.mpr ⟨List.mem_append_right _ (List.mem_append_right _ (List.mem_append_right _ (List.mem_append_left _ (List.mem_of_getElem? h)))), hg⟩
theorem zmk4 {w : Cond} (i : Nat) (h : tables_1_4[i]? = some w) (hg : goodWord w = true) : w ∈ ztbl := List.mem_filter.mpr ⟨List.mem_append_right _ (List.mem_append_right _ (List.mem_append_right _ (List.mem_append_right _ (List.mem_append_left _ (List.mem_of_getElem? h))))), hg⟩
theorem zmk5 {w : Cond} (i : Nat) (h : tables_1_5[i]? = some w) (hg : goodWord w = true) : w ∈ ztbl := List.mem_filter.mpr ⟨List.mem_append_right _ (List.mem_append_right _ (List.mem_append_right _ (List.mem_append_right _ (List.mem_append_right _ (List.mem_append_left _ (List.mem_of_getElem? h)))))), hg⟩
theorem zmk6 {w : Cond} (i : Nat) (h : tables_1_6[i]? = some w) (hg : goodWord w = true) : w ∈ ztbl := List.mem_filter.mpr ⟨List.mem_append_right _ (List.mem_append_right _ (List.mem_append_right _ (List.mem_append_right _ (List.mem_append_right _ (List.mem_append_right _ (List.mem_append_left _ (List.mem_of_getElem? h))))))), hg⟩
theorem zmk7 {w : Cond} (i : Nat) (h : tables_1_7[i]? = some w) (hg : goodWord w = true) : w ∈ ztbl := List.mem_filter.mpr ⟨List.mem_append_right _ (List.mem_append_right _ (List.mem_append_right _ (List.mem_append_right _ (List.mem_append_right _ (List.mem_append_right _ (List.mem_append_right _ (List.mem_append_left _ (List.mem_of_getElem? h)))))))), hg⟩
theorem zmk8 {w : Cond} (i : Nat) (h : tables_1_8[i]? = some w) (hg : goodWord w = true) : w ∈ ztbl := List.mem_filter.mpr ⟨List.mem_append_right _ (List.mem_append_right _ (List.mem_append_right _ (List.mem_append_right _ (List.mem_append_right _ (List.mem_append_right _ (List.mem_append_right _ (List.mem_append_right _ (List.mem_of_getElem? h)))))))), hg⟩
theorem zcl_0 : zCls 0 RX0 TX0 8 tyX0 := ⟨rfl, by decide +kernel, by decide, tbl_mem _ [429, 431, 433, 435, 437, 439, 441, 443] (by decide +kernel) (by decide +kernel), nmX0, tyX0_ok⟩
theorem zcl_1 : zCls 1 RX1 TX1 12 tyX1 := ⟨rfl, by decide +kernel, by decide, tbl_mem _ [245, 247, 249, 251, 253, 255, 257, 259, 261, 263, 265, 267] (by decide +kernel) (by decide +kernel), nmX1, tyX1_ok⟩
theorem zcl_2 : zCls 2 RX2 TX2 5 tyX2 := ⟨rfl, by decide +kernel, by decide, tbl_mem _ [522, 524, 526, 528, 530] (by decide +kernel) (by decide +kernel), nmX2, tyX2_ok⟩
theorem zcl_3 : zCls 3 RX3 TX3 1 tyX3 := ⟨rfl, by decide +kernel, by decide, tbl_mem _ [453] (by decide +kernel) (by decide +kernel), nmX3, tyX3_ok⟩
theorem zcl_4 : zCls 4 RX4 TX4 14 tyX4 := ⟨rfl, by decide +kernel, by decide, tbl_mem _ [384, 386, 388, 390, 392, 394, 396, 398, 400, 402, 404, 406, 408, 410] (by decide +kernel) (by decide +kernel), nmX4, tyX4_ok⟩
theorem zcl_5 : zCls 5 RX5 TX5 11 tyX5 := ⟨rfl, by decide +kernel, by decide, tbl_mem _ [329, 331, 333, 335, 337, 339, 341, 343, 345, 347, 349] (by decide +kernel) (by decide +kernel), nmX5, tyX5_ok⟩
theorem zcl_6 : zCls 6 RX6 TX6 3 tyX6 := ⟨rfl, by decide +kernel, by decide, tbl_mem _ [193, 195, 197] (by decide +kernel) (by decide +kernel), nmX6, tyX6_ok⟩
theorem zcl_7 : zCls 7 RX7 TX7 2 tyX7 := ⟨rfl, by decide +kernel, by decide, tbl_mem _ [504, 506] (by decide +kernel) (by decide +kernel), nmX7, tyX7_ok⟩
theorem zcl_8 : zCls 8 RX8 TX8 7 tyX8 := ⟨rfl, by decide +kernel, by decide, tbl_mem _ [287, 289, 291, 293, 295, 297, 299] (by decide +kernel) (by decide +kernel), nmX8, tyX8_ok⟩
theorem zcl_9 : zCls 9 RX9 TX9 9 tyX9 := ⟨rfl, by decide +kernel, by decide, tbl_mem _ [475, 477, 479, 481, 483, 485, 487, 489, 491] (by decide +kernel) (by decide +kernel), nmX9, tyX9_ok⟩
theorem zcl_11 : zCls 11 RX11 TX11 11 tyX11 := ⟨rfl, by decide +kernel, by decide, tbl_mem _ [544, 546, 548, 550, 552, 554, 556, 558, 560, 562, 564] (by decide +kernel) (by decide +kernel), nmX11, tyX11_ok⟩
theorem zcl_12 : zCls 12 RX12 TX12 38 tyX12 := ⟨rfl, by decide +kernel, by decide, tbl_mem _ [1379, 1381, 1383, 1385, 1387, 1389, 1391, 1393, 1395, 1397, 1399, 1401, 1403, 1405, 1407, 1409, 1411, 1413, 1415, 1417, 1419, 1421, 1423, 1425, 1427, 1429, 1431, 1433, 1435, 1437, 1439, 1441, 1443, 1445, 1447, 1449, 1451, 1453] (by decide +kernel) (by decide +kernel), nmX12, tyX12_ok⟩
theorem kf_11_10 : zFld RX11 10 11 0 := zFld.of zcl_11 (by decide) (w := Cond.fieldLink RX11 10 RX11 "told" "LGraveRegatta$Told;") rfl (zmk2 166 (by decide +kernel) rfl)
theorem kf_11_16 : zFld RX11 16 11 1 := zFld.of zcl_11 (by decide) (w := Cond.fieldLink RX11 16 RX11 "images" "[LGraveRegatta$Told;") rfl (zmk2 167 (by decide +kernel) rfl)
theorem kf_11_20 : zFld RX11 20 11 2 := zFld.of zcl_11 (by decide) (w := Cond.fieldLink RX11 20 RX11 "isKept" "[Z") rfl (zmk2 168 (by decide +kernel) rfl)
theorem kf_11_27 : zFld RX11 27 11 3 := zFld.of zcl_11 (by decide) (w := Cond.fieldLink RX11 27 RX11 "reader" "LGraveRegatta$Reader;") rfl (zmk2 169 (by decide +kernel) rfl)
theorem kf_11_33 : zFld RX11 33 8 5 := zFld.of zcl_8 (by decide) (w := Cond.fieldLink RX11 33 RX8 "lakes" "[LGraveRegatta$Lake;") rfl (zmk1 158 (by decide +kernel) rfl)
theorem kf_11_40 : zFld RX11 40 11 4 := zFld.of zcl_11 (by decide) (w := Cond.fieldLink RX11 40 RX11 "raft" "LGraveRegatta$Raft;") rfl (zmk2 170 (by decide +kernel) rfl)
theorem kf_11_44 : zFld RX11 44 11 5 := zFld.of zcl_11 (by decide) (w := Cond.fieldLink RX11 44 RX11 "second" "LGraveRegatta$Raft;") rfl (zmk2 171 (by decide +kernel) rfl)
theorem kf_11_50 : zFld RX11 50 11 6 := zFld.of zcl_11 (by decide) (w := Cond.fieldLink RX11 50 RX11 "course" "LGraveRegatta$Course;") rfl (zmk2 172 (by decide +kernel) rfl)
theorem kf_11_57 : zFld RX11 57 11 7 := zFld.of zcl_11 (by decide) (w := Cond.fieldLink RX11 57 RX11 "quarrel" "LGraveRegatta$Quarrel;") rfl (zmk2 173 (by decide +kernel) rfl)
theorem kf_11_64 : zFld RX11 64 11 8 := zFld.of zcl_11 (by decide) (w := Cond.fieldLink RX11 64 RX11 "watch" "LGraveRegatta$Watch;") rfl (zmk2 174 (by decide +kernel) rfl)
theorem kf_11_71 : zFld RX11 71 11 9 := zFld.of zcl_11 (by decide) (w := Cond.fieldLink RX11 71 RX11 "search" "LGraveRegatta$Search;") rfl (zmk2 175 (by decide +kernel) rfl)
theorem kf_11_78 : zFld RX11 78 11 10 := zFld.of zcl_11 (by decide) (w := Cond.fieldLink RX11 78 RX11 "pump" "LGraveRegatta$Pump;") rfl (zmk2 176 (by decide +kernel) rfl)
theorem kf_11_82 : zFld RX11 82 8 1 := zFld.of zcl_8 (by decide) (w := Cond.fieldLink RX11 82 RX8 "length" "I") rfl (zmk1 149 (by decide +kernel) rfl)
theorem kf_11_94 : zFld RX11 94 8 2 := zFld.of zcl_8 (by decide) (w := Cond.fieldLink RX11 94 RX8 "fault" "I") rfl (zmk1 151 (by decide +kernel) rfl)
theorem kf_11_97 : zFld RX11 97 8 3 := zFld.of zcl_8 (by decide) (w := Cond.fieldLink RX11 97 RX8 "place" "I") rfl (zmk1 154 (by decide +kernel) rfl)
theorem kf_11_100 : zFld RX11 100 8 0 := zFld.of zcl_8 (by decide) (w := Cond.fieldLink RX11 100 RX8 "tape" "[I") rfl (zmk1 148 (by decide +kernel) rfl)
theorem kf_11_108 : zFld RX11 108 5 2 := zFld.of zcl_5 (by decide) (w := Cond.fieldLink RX11 108 RX5 "fault" "I") rfl (zmk1 192 (by decide +kernel) rfl)
theorem kf_11_109 : zFld RX11 109 5 3 := zFld.of zcl_5 (by decide) (w := Cond.fieldLink RX11 109 RX5 "place" "I") rfl (zmk1 194 (by decide +kernel) rfl)
theorem kf_11_132 : zFld RX11 132 6 2 := zFld.of zcl_6 (by decide) (w := Cond.fieldLink RX11 132 RX6 "size" "I") rfl (zmk1 64 (by decide +kernel) rfl)
theorem kf_11_144 : zFld RX11 144 8 4 := zFld.of zcl_8 (by decide) (w := Cond.fieldLink RX11 144 RX8 "counts" "[I") rfl (zmk1 156 (by decide +kernel) rfl)
theorem kf_11_236 : zFld RX11 236 9 0 := zFld.of zcl_9 (by decide) (w := Cond.fieldLink RX11 236 RX9 "fits" "I") rfl (zmk2 96 (by decide +kernel) rfl)
theorem kf_11_239 : zFld RX11 239 9 1 := zFld.of zcl_9 (by decide) (w := Cond.fieldLink RX11 239 RX9 "aboard" "I") rfl (zmk2 98 (by decide +kernel) rfl)
theorem kf_11_242 : zFld RX11 242 9 2 := zFld.of zcl_9 (by decide) (w := Cond.fieldLink RX11 242 RX9 "fewest" "I") rfl (zmk2 100 (by decide +kernel) rfl)
theorem kf_11_245 : zFld RX11 245 9 3 := zFld.of zcl_9 (by decide) (w := Cond.fieldLink RX11 245 RX9 "longest" "I") rfl (zmk2 102 (by decide +kernel) rfl)
theorem kf_11_248 : zFld RX11 248 1 4 := zFld.of zcl_1 (by decide) (w := Cond.fieldLink RX11 248 RX1 "mourners" "LGraveRegatta$Rows;") rfl (zmk1 108 (by decide +kernel) rfl)
theorem kf_11_268 : zFld RX11 268 1 5 := zFld.of zcl_1 (by decide) (w := Cond.fieldLink RX11 268 RX1 "leaks" "LGraveRegatta$Rows;") rfl (zmk1 111 (by decide +kernel) rfl)
theorem kf_11_275 : zFld RX11 275 2 0 := zFld.of zcl_2 (by decide) (w := Cond.fieldLink RX11 275 RX2 "best" "I") rfl (zmk2 150 (by decide +kernel) rfl)
theorem kf_11_281 : zFld RX11 281 4 2 := zFld.of zcl_4 (by decide) (w := Cond.fieldLink RX11 281 RX4 "x" "I") rfl (zmk1 238 (by decide +kernel) rfl)
theorem kf_11_284 : zFld RX11 284 4 3 := zFld.of zcl_4 (by decide) (w := Cond.fieldLink RX11 284 RX4 "y" "I") rfl (zmk2 2 (by decide +kernel) rfl)
theorem kf_11_302 : zFld RX11 302 4 6 := zFld.of zcl_4 (by decide) (w := Cond.fieldLink RX11 302 RX4 "touched" "I") rfl (zmk2 7 (by decide +kernel) rfl)
theorem kf_11_305 : zFld RX11 305 4 5 := zFld.of zcl_4 (by decide) (w := Cond.fieldLink RX11 305 RX4 "aground" "I") rfl (zmk2 5 (by decide +kernel) rfl)
theorem kf_11_308 : zFld RX11 308 4 7 := zFld.of zcl_4 (by decide) (w := Cond.fieldLink RX11 308 RX4 "isSunk" "Z") rfl (zmk2 9 (by decide +kernel) rfl)
theorem kf_0_11 : zFld RX0 11 0 0 := zFld.of zcl_0 (by decide) (w := Cond.fieldLink RX0 11 RX0 "leans" "[I") rfl (zmk2 54 (by decide +kernel) rfl)
theorem kf_0_15 : zFld RX0 15 0 1 := zFld.of zcl_0 (by decide) (w := Cond.fieldLink RX0 15 RX0 "prices" "[I") rfl (zmk2 55 (by decide +kernel) rfl)
theorem kf_0_18 : zFld RX0 18 0 2 := zFld.of zcl_0 (by decide) (w := Cond.fieldLink RX0 18 RX0 "next" "[I") rfl (zmk2 56 (by decide +kernel) rfl)
theorem kf_0_21 : zFld RX0 21 0 3 := zFld.of zcl_0 (by decide) (w := Cond.fieldLink RX0 21 RX0 "touches" "[I") rfl (zmk2 57 (by decide +kernel) rfl)
theorem kf_0_24 : zFld RX0 24 0 4 := zFld.of zcl_0 (by decide) (w := Cond.fieldLink RX0 24 RX0 "least" "[I") rfl (zmk2 58 (by decide +kernel) rfl)
theorem kf_0_27 : zFld RX0 27 0 5 := zFld.of zcl_0 (by decide) (w := Cond.fieldLink RX0 27 RX0 "isHere" "[Z") rfl (zmk2 59 (by decide +kernel) rfl)
theorem kf_0_31 : zFld RX0 31 0 6 := zFld.of zcl_0 (by decide) (w := Cond.fieldLink RX0 31 RX0 "isNext" "[Z") rfl (zmk2 60 (by decide +kernel) rfl)
theorem kf_0_39 : zFld RX0 39 0 7 := zFld.of zcl_0 (by decide) (w := Cond.fieldLink RX0 39 RX0 "probe" "LGraveRegatta$Raft;") rfl (zmk2 61 (by decide +kernel) rfl)
theorem kf_0_50 : zFld RX0 50 1 4 := zFld.of zcl_1 (by decide) (w := Cond.fieldLink RX0 50 RX1 "mourners" "LGraveRegatta$Rows;") rfl (zmk1 106 (by decide +kernel) rfl)
theorem kf_0_56 : zFld RX0 56 6 2 := zFld.of zcl_6 (by decide) (w := Cond.fieldLink RX0 56 RX6 "size" "I") rfl (zmk1 63 (by decide +kernel) rfl)
theorem kf_0_102 : zFld RX0 102 1 0 := zFld.of zcl_1 (by decide) (w := Cond.fieldLink RX0 102 RX1 "basics" "[I") rfl (zmk1 98 (by decide +kernel) rfl)
theorem kf_0_112 : zFld RX0 112 4 2 := zFld.of zcl_4 (by decide) (w := Cond.fieldLink RX0 112 RX4 "x" "I") rfl (zmk1 237 (by decide +kernel) rfl)
theorem kf_0_115 : zFld RX0 115 4 3 := zFld.of zcl_4 (by decide) (w := Cond.fieldLink RX0 115 RX4 "y" "I") rfl (zmk2 1 (by decide +kernel) rfl)
theorem kf_1_11 : zFld RX1 11 1 0 := zFld.of zcl_1 (by decide) (w := Cond.fieldLink RX1 11 RX1 "basics" "[I") rfl (zmk1 96 (by decide +kernel) rfl)
theorem kf_1_20 : zFld RX1 20 1 1 := zFld.of zcl_1 (by decide) (w := Cond.fieldLink RX1 20 RX1 "rocks" "LGraveRegatta$Rows;") rfl (zmk1 100 (by decide +kernel) rfl)
theorem kf_1_24 : zFld RX1 24 1 2 := zFld.of zcl_1 (by decide) (w := Cond.fieldLink RX1 24 RX1 "graves" "LGraveRegatta$Rows;") rfl (zmk1 101 (by decide +kernel) rfl)
theorem kf_1_27 : zFld RX1 27 1 3 := zFld.of zcl_1 (by decide) (w := Cond.fieldLink RX1 27 RX1 "wreaths" "LGraveRegatta$Rows;") rfl (zmk1 102 (by decide +kernel) rfl)
theorem kf_1_30 : zFld RX1 30 1 4 := zFld.of zcl_1 (by decide) (w := Cond.fieldLink RX1 30 RX1 "mourners" "LGraveRegatta$Rows;") rfl (zmk1 103 (by decide +kernel) rfl)
theorem kf_1_33 : zFld RX1 33 1 5 := zFld.of zcl_1 (by decide) (w := Cond.fieldLink RX1 33 RX1 "leaks" "LGraveRegatta$Rows;") rfl (zmk1 109 (by decide +kernel) rfl)
theorem kf_1_36 : zFld RX1 36 1 9 := zFld.of zcl_1 (by decide) (w := Cond.fieldLink RX1 36 RX1 "arms" "[I") rfl (zmk1 115 (by decide +kernel) rfl)
theorem kf_1_39 : zFld RX1 39 1 10 := zFld.of zcl_1 (by decide) (w := Cond.fieldLink RX1 39 RX1 "lists" "[I") rfl (zmk1 116 (by decide +kernel) rfl)
theorem kf_1_42 : zFld RX1 42 1 11 := zFld.of zcl_1 (by decide) (w := Cond.fieldLink RX1 42 RX1 "rockBits" "[I") rfl (zmk1 117 (by decide +kernel) rfl)
theorem kf_1_60 : zFld RX1 60 6 2 := zFld.of zcl_6 (by decide) (w := Cond.fieldLink RX1 60 RX6 "size" "I") rfl (zmk1 58 (by decide +kernel) rfl)
theorem kf_1_74 : zFld RX1 74 1 6 := zFld.of zcl_1 (by decide) (w := Cond.fieldLink RX1 74 RX1 "columns" "I") rfl (zmk1 112 (by decide +kernel) rfl)
theorem kf_1_77 : zFld RX1 77 1 7 := zFld.of zcl_1 (by decide) (w := Cond.fieldLink RX1 77 RX1 "rows" "I") rfl (zmk1 113 (by decide +kernel) rfl)
theorem kf_1_86 : zFld RX1 86 1 8 := zFld.of zcl_1 (by decide) (w := Cond.fieldLink RX1 86 RX1 "sizes" "I") rfl (zmk1 114 (by decide +kernel) rfl)
theorem kf_2_11 : zFld RX2 11 2 2 := zFld.of zcl_2 (by decide) (w := Cond.fieldLink RX2 11 RX2 "row" "[I") rfl (zmk2 152 (by decide +kernel) rfl)
theorem kf_2_15 : zFld RX2 15 2 3 := zFld.of zcl_2 (by decide) (w := Cond.fieldLink RX2 15 RX2 "bestRow" "[I") rfl (zmk2 153 (by decide +kernel) rfl)
theorem kf_2_20 : zFld RX2 20 2 4 := zFld.of zcl_2 (by decide) (w := Cond.fieldLink RX2 20 RX2 "water" "[[I") rfl (zmk2 154 (by decide +kernel) rfl)
theorem kf_2_29 : zFld RX2 29 2 1 := zFld.of zcl_2 (by decide) (w := Cond.fieldLink RX2 29 RX2 "hours" "I") rfl (zmk2 151 (by decide +kernel) rfl)
theorem kf_2_34 : zFld RX2 34 2 0 := zFld.of zcl_2 (by decide) (w := Cond.fieldLink RX2 34 RX2 "best" "I") rfl (zmk2 149 (by decide +kernel) rfl)
theorem kf_2_54 : zFld RX2 54 6 2 := zFld.of zcl_6 (by decide) (w := Cond.fieldLink RX2 54 RX6 "size" "I") rfl (zmk1 62 (by decide +kernel) rfl)
theorem kf_3_11 : zFld RX3 11 3 0 := zFld.of zcl_3 (by decide) (w := Cond.fieldLink RX3 11 RX3 "gains" "[I") rfl (zmk2 85 (by decide +kernel) rfl)
theorem kf_3_21 : zFld RX3 21 4 2 := zFld.of zcl_4 (by decide) (w := Cond.fieldLink RX3 21 RX4 "x" "I") rfl (zmk1 234 (by decide +kernel) rfl)
theorem kf_3_32 : zFld RX3 32 1 4 := zFld.of zcl_1 (by decide) (w := Cond.fieldLink RX3 32 RX1 "mourners" "LGraveRegatta$Rows;") rfl (zmk1 105 (by decide +kernel) rfl)
theorem kf_3_38 : zFld RX3 38 6 2 := zFld.of zcl_6 (by decide) (w := Cond.fieldLink RX3 38 RX6 "size" "I") rfl (zmk1 60 (by decide +kernel) rfl)
theorem kf_3_43 : zFld RX3 43 4 12 := zFld.of zcl_4 (by decide) (w := Cond.fieldLink RX3 43 RX4 "stands" "[I") rfl (zmk2 15 (by decide +kernel) rfl)
theorem kf_4_9 : zFld RX4 9 4 12 := zFld.of zcl_4 (by decide) (w := Cond.fieldLink RX4 9 RX4 "stands" "[I") rfl (zmk2 14 (by decide +kernel) rfl)
theorem kf_4_15 : zFld RX4 15 4 13 := zFld.of zcl_4 (by decide) (w := Cond.fieldLink RX4 15 RX4 "water" "[I") rfl (zmk2 16 (by decide +kernel) rfl)
theorem kf_4_18 : zFld RX4 18 4 0 := zFld.of zcl_4 (by decide) (w := Cond.fieldLink RX4 18 RX4 "build" "LGraveRegatta$Lake;") rfl (zmk1 232 (by decide +kernel) rfl)
theorem kf_4_22 : zFld RX4 22 4 1 := zFld.of zcl_4 (by decide) (w := Cond.fieldLink RX4 22 RX4 "waters" "LGraveRegatta$Lake;") rfl (zmk1 233 (by decide +kernel) rfl)
theorem kf_4_25 : zFld RX4 25 4 4 := zFld.of zcl_4 (by decide) (w := Cond.fieldLink RX4 25 RX4 "hours" "I") rfl (zmk2 3 (by decide +kernel) rfl)
theorem kf_4_29 : zFld RX4 29 4 5 := zFld.of zcl_4 (by decide) (w := Cond.fieldLink RX4 29 RX4 "aground" "I") rfl (zmk2 4 (by decide +kernel) rfl)
theorem kf_4_32 : zFld RX4 32 4 7 := zFld.of zcl_4 (by decide) (w := Cond.fieldLink RX4 32 RX4 "isSunk" "Z") rfl (zmk2 8 (by decide +kernel) rfl)
theorem kf_4_36 : zFld RX4 36 4 8 := zFld.of zcl_4 (by decide) (w := Cond.fieldLink RX4 36 RX4 "isFrost" "Z") rfl (zmk2 10 (by decide +kernel) rfl)
theorem kf_4_39 : zFld RX4 39 4 9 := zFld.of zcl_4 (by decide) (w := Cond.fieldLink RX4 39 RX4 "isMoored" "Z") rfl (zmk2 11 (by decide +kernel) rfl)
theorem kf_4_42 : zFld RX4 42 4 10 := zFld.of zcl_4 (by decide) (w := Cond.fieldLink RX4 42 RX4 "way" "I") rfl (zmk2 12 (by decide +kernel) rfl)
theorem kf_4_45 : zFld RX4 45 4 11 := zFld.of zcl_4 (by decide) (w := Cond.fieldLink RX4 45 RX4 "force" "I") rfl (zmk2 13 (by decide +kernel) rfl)
theorem kf_4_48 : zFld RX4 48 1 0 := zFld.of zcl_1 (by decide) (w := Cond.fieldLink RX4 48 RX1 "basics" "[I") rfl (zmk1 97 (by decide +kernel) rfl)
theorem kf_4_61 : zFld RX4 61 4 6 := zFld.of zcl_4 (by decide) (w := Cond.fieldLink RX4 61 RX4 "touched" "I") rfl (zmk2 6 (by decide +kernel) rfl)
theorem kf_4_64 : zFld RX4 64 4 2 := zFld.of zcl_4 (by decide) (w := Cond.fieldLink RX4 64 RX4 "x" "I") rfl (zmk1 235 (by decide +kernel) rfl)
theorem kf_4_67 : zFld RX4 67 4 3 := zFld.of zcl_4 (by decide) (w := Cond.fieldLink RX4 67 RX4 "y" "I") rfl (zmk1 239 (by decide +kernel) rfl)
theorem kf_4_77 : zFld RX4 77 1 4 := zFld.of zcl_1 (by decide) (w := Cond.fieldLink RX4 77 RX1 "mourners" "LGraveRegatta$Rows;") rfl (zmk1 107 (by decide +kernel) rfl)
theorem kf_4_140 : zFld RX4 140 1 5 := zFld.of zcl_1 (by decide) (w := Cond.fieldLink RX4 140 RX1 "leaks" "LGraveRegatta$Rows;") rfl (zmk1 110 (by decide +kernel) rfl)
theorem kf_4_143 : zFld RX4 143 6 2 := zFld.of zcl_6 (by decide) (w := Cond.fieldLink RX4 143 RX6 "size" "I") rfl (zmk1 65 (by decide +kernel) rfl)
theorem kf_5_12 : zFld RX5 12 5 0 := zFld.of zcl_5 (by decide) (w := Cond.fieldLink RX5 12 RX5 "lake" "LGraveRegatta$Lake;") rfl (zmk1 187 (by decide +kernel) rfl)
theorem kf_5_20 : zFld RX5 20 5 1 := zFld.of zcl_5 (by decide) (w := Cond.fieldLink RX5 20 RX5 "pages" "[LGraveRegatta$Rows;") rfl (zmk1 189 (by decide +kernel) rfl)
theorem kf_5_24 : zFld RX5 24 5 3 := zFld.of zcl_5 (by decide) (w := Cond.fieldLink RX5 24 RX5 "place" "I") rfl (zmk1 193 (by decide +kernel) rfl)
theorem kf_5_28 : zFld RX5 28 5 4 := zFld.of zcl_5 (by decide) (w := Cond.fieldLink RX5 28 RX5 "tape" "[I") rfl (zmk1 195 (by decide +kernel) rfl)
theorem kf_5_32 : zFld RX5 32 5 10 := zFld.of zcl_5 (by decide) (w := Cond.fieldLink RX5 32 RX5 "numbers" "[I") rfl (zmk1 201 (by decide +kernel) rfl)
theorem kf_5_48 : zFld RX5 48 5 5 := zFld.of zcl_5 (by decide) (w := Cond.fieldLink RX5 48 RX5 "length" "I") rfl (zmk1 196 (by decide +kernel) rfl)
theorem kf_5_51 : zFld RX5 51 5 2 := zFld.of zcl_5 (by decide) (w := Cond.fieldLink RX5 51 RX5 "fault" "I") rfl (zmk1 191 (by decide +kernel) rfl)
theorem kf_5_54 : zFld RX5 54 5 8 := zFld.of zcl_5 (by decide) (w := Cond.fieldLink RX5 54 RX5 "behind" "I") rfl (zmk1 199 (by decide +kernel) rfl)
theorem kf_5_60 : zFld RX5 60 6 2 := zFld.of zcl_6 (by decide) (w := Cond.fieldLink RX5 60 RX6 "size" "I") rfl (zmk1 61 (by decide +kernel) rfl)
theorem kf_5_66 : zFld RX5 66 5 6 := zFld.of zcl_5 (by decide) (w := Cond.fieldLink RX5 66 RX5 "kind" "I") rfl (zmk1 197 (by decide +kernel) rfl)
theorem kf_5_79 : zFld RX5 79 5 7 := zFld.of zcl_5 (by decide) (w := Cond.fieldLink RX5 79 RX5 "from" "I") rfl (zmk1 198 (by decide +kernel) rfl)
theorem kf_5_95 : zFld RX5 95 5 9 := zFld.of zcl_5 (by decide) (w := Cond.fieldLink RX5 95 RX5 "number" "I") rfl (zmk1 200 (by decide +kernel) rfl)
theorem kf_5_176 : zFld RX5 176 1 0 := zFld.of zcl_1 (by decide) (w := Cond.fieldLink RX5 176 RX1 "basics" "[I") rfl (zmk1 99 (by decide +kernel) rfl)
theorem kf_6_15 : zFld RX6 15 6 0 := zFld.of zcl_6 (by decide) (w := Cond.fieldLink RX6 15 RX6 "most" "I") rfl (zmk1 54 (by decide +kernel) rfl)
theorem kf_6_21 : zFld RX6 21 6 1 := zFld.of zcl_6 (by decide) (w := Cond.fieldLink RX6 21 RX6 "numbers" "[I") rfl (zmk1 55 (by decide +kernel) rfl)
theorem kf_6_25 : zFld RX6 25 6 2 := zFld.of zcl_6 (by decide) (w := Cond.fieldLink RX6 25 RX6 "size" "I") rfl (zmk1 57 (by decide +kernel) rfl)
theorem kf_7_13 : zFld RX7 13 7 0 := zFld.of zcl_7 (by decide) (w := Cond.fieldLink RX7 13 RX7 "opened" "[[I") rfl (zmk2 135 (by decide +kernel) rfl)
theorem kf_7_16 : zFld RX7 16 7 1 := zFld.of zcl_7 (by decide) (w := Cond.fieldLink RX7 16 RX7 "closed" "[[I") rfl (zmk2 136 (by decide +kernel) rfl)
theorem kf_7_19 : zFld RX7 19 6 2 := zFld.of zcl_6 (by decide) (w := Cond.fieldLink RX7 19 RX6 "size" "I") rfl (zmk1 56 (by decide +kernel) rfl)
theorem kf_8_11 : zFld RX8 11 8 0 := zFld.of zcl_8 (by decide) (w := Cond.fieldLink RX8 11 RX8 "tape" "[I") rfl (zmk1 147 (by decide +kernel) rfl)
theorem kf_8_15 : zFld RX8 15 8 3 := zFld.of zcl_8 (by decide) (w := Cond.fieldLink RX8 15 RX8 "place" "I") rfl (zmk1 153 (by decide +kernel) rfl)
theorem kf_8_19 : zFld RX8 19 8 4 := zFld.of zcl_8 (by decide) (w := Cond.fieldLink RX8 19 RX8 "counts" "[I") rfl (zmk1 155 (by decide +kernel) rfl)
theorem kf_8_24 : zFld RX8 24 8 5 := zFld.of zcl_8 (by decide) (w := Cond.fieldLink RX8 24 RX8 "lakes" "[LGraveRegatta$Lake;") rfl (zmk1 157 (by decide +kernel) rfl)
theorem kf_8_30 : zFld RX8 30 8 6 := zFld.of zcl_8 (by decide) (w := Cond.fieldLink RX8 30 RX8 "pages" "[LGraveRegatta$Rows;") rfl (zmk1 159 (by decide +kernel) rfl)
theorem kf_8_44 : zFld RX8 44 8 1 := zFld.of zcl_8 (by decide) (w := Cond.fieldLink RX8 44 RX8 "length" "I") rfl (zmk1 150 (by decide +kernel) rfl)
theorem kf_8_51 : zFld RX8 51 5 0 := zFld.of zcl_5 (by decide) (w := Cond.fieldLink RX8 51 RX5 "lake" "LGraveRegatta$Lake;") rfl (zmk1 188 (by decide +kernel) rfl)
theorem kf_8_59 : zFld RX8 59 5 1 := zFld.of zcl_5 (by decide) (w := Cond.fieldLink RX8 59 RX5 "pages" "[LGraveRegatta$Rows;") rfl (zmk1 190 (by decide +kernel) rfl)
theorem kf_8_75 : zFld RX8 75 8 2 := zFld.of zcl_8 (by decide) (w := Cond.fieldLink RX8 75 RX8 "fault" "I") rfl (zmk1 152 (by decide +kernel) rfl)
theorem kf_9_11 : zFld RX9 11 9 4 := zFld.of zcl_9 (by decide) (w := Cond.fieldLink RX9 11 RX9 "corners" "[I") rfl (zmk2 103 (by decide +kernel) rfl)
theorem kf_9_15 : zFld RX9 15 9 6 := zFld.of zcl_9 (by decide) (w := Cond.fieldLink RX9 15 RX9 "seen" "[I") rfl (zmk2 105 (by decide +kernel) rfl)
theorem kf_9_18 : zFld RX9 18 9 7 := zFld.of zcl_9 (by decide) (w := Cond.fieldLink RX9 18 RX9 "chosen" "[I") rfl (zmk2 106 (by decide +kernel) rfl)
theorem kf_9_21 : zFld RX9 21 9 8 := zFld.of zcl_9 (by decide) (w := Cond.fieldLink RX9 21 RX9 "choice" "[I") rfl (zmk2 107 (by decide +kernel) rfl)
theorem kf_9_32 : zFld RX9 32 9 0 := zFld.of zcl_9 (by decide) (w := Cond.fieldLink RX9 32 RX9 "fits" "I") rfl (zmk2 95 (by decide +kernel) rfl)
theorem kf_9_36 : zFld RX9 36 1 4 := zFld.of zcl_1 (by decide) (w := Cond.fieldLink RX9 36 RX1 "mourners" "LGraveRegatta$Rows;") rfl (zmk1 104 (by decide +kernel) rfl)
theorem kf_9_42 : zFld RX9 42 6 2 := zFld.of zcl_6 (by decide) (w := Cond.fieldLink RX9 42 RX6 "size" "I") rfl (zmk1 59 (by decide +kernel) rfl)
theorem kf_9_47 : zFld RX9 47 9 1 := zFld.of zcl_9 (by decide) (w := Cond.fieldLink RX9 47 RX9 "aboard" "I") rfl (zmk2 97 (by decide +kernel) rfl)
theorem kf_9_50 : zFld RX9 50 9 2 := zFld.of zcl_9 (by decide) (w := Cond.fieldLink RX9 50 RX9 "fewest" "I") rfl (zmk2 99 (by decide +kernel) rfl)
theorem kf_9_53 : zFld RX9 53 9 3 := zFld.of zcl_9 (by decide) (w := Cond.fieldLink RX9 53 RX9 "longest" "I") rfl (zmk2 101 (by decide +kernel) rfl)
theorem kf_9_56 : zFld RX9 56 9 5 := zFld.of zcl_9 (by decide) (w := Cond.fieldLink RX9 56 RX9 "cornerCount" "I") rfl (zmk2 104 (by decide +kernel) rfl)
theorem kf_9_89 : zFld RX9 89 4 2 := zFld.of zcl_4 (by decide) (w := Cond.fieldLink RX9 89 RX4 "x" "I") rfl (zmk1 236 (by decide +kernel) rfl)
theorem kf_9_95 : zFld RX9 95 4 3 := zFld.of zcl_4 (by decide) (w := Cond.fieldLink RX9 95 RX4 "y" "I") rfl (zmk2 0 (by decide +kernel) rfl)
theorem kf_12_7 : zFld RX12 7 12 0 := zFld.of zcl_12 (by decide) (w := Cond.fieldLink RX12 7 RX12 "all" "[I") rfl (zmk6 14 (by decide +kernel) rfl)
theorem kf_12_13 : zFld RX12 13 12 1 := zFld.of zcl_12 (by decide) (w := Cond.fieldLink RX12 13 RX12 "has" "[Z") rfl (zmk6 15 (by decide +kernel) rfl)
theorem kf_12_17 : zFld RX12 17 12 9 := zFld.of zcl_12 (by decide) (w := Cond.fieldLink RX12 17 RX12 "read" "[I") rfl (zmk6 23 (by decide +kernel) rfl)
theorem kf_12_20 : zFld RX12 20 12 23 := zFld.of zcl_12 (by decide) (w := Cond.fieldLink RX12 20 RX12 "stands" "[I") rfl (zmk6 37 (by decide +kernel) rfl)
theorem kf_12_23 : zFld RX12 23 12 24 := zFld.of zcl_12 (by decide) (w := Cond.fieldLink RX12 23 RX12 "water" "[I") rfl (zmk6 38 (by decide +kernel) rfl)
theorem kf_12_26 : zFld RX12 26 12 26 := zFld.of zcl_12 (by decide) (w := Cond.fieldLink RX12 26 RX12 "now" "[I") rfl (zmk6 40 (by decide +kernel) rfl)
theorem kf_12_29 : zFld RX12 29 12 27 := zFld.of zcl_12 (by decide) (w := Cond.fieldLink RX12 29 RX12 "then" "[I") rfl (zmk6 41 (by decide +kernel) rfl)
theorem kf_12_32 : zFld RX12 32 12 28 := zFld.of zcl_12 (by decide) (w := Cond.fieldLink RX12 32 RX12 "costs" "[I") rfl (zmk6 42 (by decide +kernel) rfl)
theorem kf_12_35 : zFld RX12 35 12 29 := zFld.of zcl_12 (by decide) (w := Cond.fieldLink RX12 35 RX12 "reached" "[Z") rfl (zmk6 43 (by decide +kernel) rfl)
theorem kf_12_38 : zFld RX12 38 12 30 := zFld.of zcl_12 (by decide) (w := Cond.fieldLink RX12 38 RX12 "beyond" "[Z") rfl (zmk6 44 (by decide +kernel) rfl)
theorem kf_12_41 : zFld RX12 41 12 31 := zFld.of zcl_12 (by decide) (w := Cond.fieldLink RX12 41 RX12 "least" "[I") rfl (zmk6 45 (by decide +kernel) rfl)
theorem kf_12_44 : zFld RX12 44 12 34 := zFld.of zcl_12 (by decide) (w := Cond.fieldLink RX12 44 RX12 "corner" "[I") rfl (zmk6 48 (by decide +kernel) rfl)
theorem kf_12_48 : zFld RX12 48 12 36 := zFld.of zcl_12 (by decide) (w := Cond.fieldLink RX12 48 RX12 "lying" "[I") rfl (zmk6 50 (by decide +kernel) rfl)
theorem kf_12_51 : zFld RX12 51 12 2 := zFld.of zcl_12 (by decide) (w := Cond.fieldLink RX12 51 RX12 "size" "I") rfl (zmk6 16 (by decide +kernel) rfl)
theorem kf_12_69 : zFld RX12 69 12 3 := zFld.of zcl_12 (by decide) (w := Cond.fieldLink RX12 69 RX12 "next" "I") rfl (zmk6 17 (by decide +kernel) rfl)
theorem kf_12_76 : zFld RX12 76 12 4 := zFld.of zcl_12 (by decide) (w := Cond.fieldLink RX12 76 RX12 "where" "I") rfl (zmk6 18 (by decide +kernel) rfl)
theorem kf_12_79 : zFld RX12 79 12 5 := zFld.of zcl_12 (by decide) (w := Cond.fieldLink RX12 79 RX12 "token" "I") rfl (zmk6 19 (by decide +kernel) rfl)
theorem kf_12_93 : zFld RX12 93 12 7 := zFld.of zcl_12 (by decide) (w := Cond.fieldLink RX12 93 RX12 "word" "I") rfl (zmk6 21 (by decide +kernel) rfl)
theorem kf_12_99 : zFld RX12 99 12 6 := zFld.of zcl_12 (by decide) (w := Cond.fieldLink RX12 99 RX12 "number" "I") rfl (zmk6 20 (by decide +kernel) rfl)
theorem kf_12_102 : zFld RX12 102 12 8 := zFld.of zcl_12 (by decide) (w := Cond.fieldLink RX12 102 RX12 "wrong" "Z") rfl (zmk6 22 (by decide +kernel) rfl)
theorem kf_12_177 : zFld RX12 177 12 10 := zFld.of zcl_12 (by decide) (w := Cond.fieldLink RX12 177 RX12 "l0" "I") rfl (zmk6 24 (by decide +kernel) rfl)
theorem kf_12_209 : zFld RX12 209 12 11 := zFld.of zcl_12 (by decide) (w := Cond.fieldLink RX12 209 RX12 "d0" "I") rfl (zmk6 25 (by decide +kernel) rfl)
theorem kf_12_218 : zFld RX12 218 12 12 := zFld.of zcl_12 (by decide) (w := Cond.fieldLink RX12 218 RX12 "atX" "I") rfl (zmk6 26 (by decide +kernel) rfl)
theorem kf_12_221 : zFld RX12 221 12 13 := zFld.of zcl_12 (by decide) (w := Cond.fieldLink RX12 221 RX12 "atY" "I") rfl (zmk6 27 (by decide +kernel) rfl)
theorem kf_12_224 : zFld RX12 224 12 14 := zFld.of zcl_12 (by decide) (w := Cond.fieldLink RX12 224 RX12 "hours" "I") rfl (zmk6 28 (by decide +kernel) rfl)
theorem kf_12_227 : zFld RX12 227 12 15 := zFld.of zcl_12 (by decide) (w := Cond.fieldLink RX12 227 RX12 "aground" "I") rfl (zmk6 29 (by decide +kernel) rfl)
theorem kf_12_233 : zFld RX12 233 12 16 := zFld.of zcl_12 (by decide) (w := Cond.fieldLink RX12 233 RX12 "touched" "I") rfl (zmk6 30 (by decide +kernel) rfl)
theorem kf_12_236 : zFld RX12 236 12 17 := zFld.of zcl_12 (by decide) (w := Cond.fieldLink RX12 236 RX12 "isSunk" "Z") rfl (zmk6 31 (by decide +kernel) rfl)
theorem kf_12_239 : zFld RX12 239 12 18 := zFld.of zcl_12 (by decide) (w := Cond.fieldLink RX12 239 RX12 "isFrost" "Z") rfl (zmk6 32 (by decide +kernel) rfl)
theorem kf_12_242 : zFld RX12 242 12 19 := zFld.of zcl_12 (by decide) (w := Cond.fieldLink RX12 242 RX12 "isMoored" "Z") rfl (zmk6 33 (by decide +kernel) rfl)
theorem kf_12_245 : zFld RX12 245 12 20 := zFld.of zcl_12 (by decide) (w := Cond.fieldLink RX12 245 RX12 "way" "I") rfl (zmk6 34 (by decide +kernel) rfl)
theorem kf_12_248 : zFld RX12 248 12 21 := zFld.of zcl_12 (by decide) (w := Cond.fieldLink RX12 248 RX12 "force" "I") rfl (zmk6 35 (by decide +kernel) rfl)
theorem kf_12_251 : zFld RX12 251 12 22 := zFld.of zcl_12 (by decide) (w := Cond.fieldLink RX12 251 RX12 "done" "I") rfl (zmk6 36 (by decide +kernel) rfl)
theorem kf_12_323 : zFld RX12 323 12 25 := zFld.of zcl_12 (by decide) (w := Cond.fieldLink RX12 323 RX12 "t0" "I") rfl (zmk6 39 (by decide +kernel) rfl)
theorem kf_12_366 : zFld RX12 366 12 32 := zFld.of zcl_12 (by decide) (w := Cond.fieldLink RX12 366 RX12 "n0" "I") rfl (zmk6 46 (by decide +kernel) rfl)
theorem kf_12_375 : zFld RX12 375 12 33 := zFld.of zcl_12 (by decide) (w := Cond.fieldLink RX12 375 RX12 "corners" "I") rfl (zmk6 47 (by decide +kernel) rfl)
theorem kf_12_396 : zFld RX12 396 12 35 := zFld.of zcl_12 (by decide) (w := Cond.fieldLink RX12 396 RX12 "f0" "I") rfl (zmk6 49 (by decide +kernel) rfl)
theorem kf_12_422 : zFld RX12 422 12 37 := zFld.of zcl_12 (by decide) (w := Cond.fieldLink RX12 422 RX12 "x0" "I") rfl (zmk6 51 (by decide +kernel) rfl)
theorem km_RX11_9 : Cond.methodLink RX11 9 yX8_init ∈ ztbl := zmk1 32 (by decide +kernel) rfl
theorem km_RX11_26 : Cond.methodLink RX11 26 yX5_init ∈ ztbl := zmk1 178 (by decide +kernel) rfl
theorem km_RX11_37 : Cond.methodLink RX11 37 yX4_init ∈ ztbl := zmk1 228 (by decide +kernel) rfl
theorem km_RX11_49 : Cond.methodLink RX11 49 yX0_init ∈ ztbl := zmk2 48 (by decide +kernel) rfl
theorem km_RX11_86 : Cond.methodLink RX11 86 yX8_append ∈ ztbl := zmk2 204 (by decide +kernel) rfl
theorem km_RX11_90 : Cond.methodLink RX11 90 yX8_slotFor ∈ ztbl := zmk2 216 (by decide +kernel) rfl
theorem km_RX11_104 : Cond.methodLink RX11 104 yX5_read ∈ ztbl := zmk2 224 (by decide +kernel) rfl
theorem km_RX11_110 : Cond.methodLink RX11 110 yX8_take ∈ ztbl := zmk3 157 (by decide +kernel) rfl
theorem km_RX11_114 : Cond.methodLink RX11 114 yX8_lakeAt ∈ ztbl := zmk3 181 (by decide +kernel) rfl
theorem km_RX11_118 : Cond.methodLink RX11 118 yX1_answer ∈ ztbl := zmk3 185 (by decide +kernel) rfl
theorem km_RX11_124 : Cond.methodLink RX11 124 yX8_pageAt ∈ ztbl := zmk3 194 (by decide +kernel) rfl
theorem km_RX11_128 : Cond.methodLink RX11 128 yX11_rowOf ∈ ztbl := zmk3 198 (by decide +kernel) rfl
theorem km_RX11_137 : Cond.methodLink RX11 137 yX6_has ∈ ztbl := zmk3 201 (by decide +kernel) rfl
theorem km_RX11_141 : Cond.methodLink RX11 141 yX6_number ∈ ztbl := zmk3 205 (by decide +kernel) rfl
theorem km_RX11_147 : Cond.methodLink RX11 147 yX8_takeFrom ∈ ztbl := zmk3 226 (by decide +kernel) rfl
theorem km_RX11_151 : Cond.methodLink RX11 151 yX4_launch ∈ ztbl := zmk3 239 (by decide +kernel) rfl
theorem km_RX11_155 : Cond.methodLink RX11 155 yX4_obeys ∈ ztbl := zmk4 15 (by decide +kernel) rfl
theorem km_RX11_159 : Cond.methodLink RX11 159 yX11_sailTo ∈ ztbl := zmk4 112 (by decide +kernel) rfl
theorem km_RX11_162 : Cond.methodLink RX11 162 yX4_answer ∈ ztbl := zmk4 116 (by decide +kernel) rfl
theorem km_RX11_164 : Cond.methodLink RX11 164 yX4_listAlong ∈ ztbl := zmk4 129 (by decide +kernel) rfl
theorem km_RX11_167 : Cond.methodLink RX11 167 yX4_driftAlong ∈ ztbl := zmk4 134 (by decide +kernel) rfl
theorem km_RX11_170 : Cond.methodLink RX11 170 yX4_hoursTillAground ∈ ztbl := zmk4 139 (by decide +kernel) rfl
theorem km_RX11_173 : Cond.methodLink RX11 173 yX4_hoursTillSunk ∈ ztbl := zmk4 143 (by decide +kernel) rfl
theorem km_RX11_176 : Cond.methodLink RX11 176 yX4_forceToTurn ∈ ztbl := zmk4 147 (by decide +kernel) rfl
theorem km_RX11_179 : Cond.methodLink RX11 179 yX4_debtBy ∈ ztbl := zmk4 155 (by decide +kernel) rfl
theorem km_RX11_183 : Cond.methodLink RX11 183 yX0_weigh ∈ ztbl := zmk4 170 (by decide +kernel) rfl
theorem km_RX11_186 : Cond.methodLink RX11 186 yX0_priceOf ∈ ztbl := zmk4 194 (by decide +kernel) rfl
theorem km_RX11_189 : Cond.methodLink RX11 189 yX1_hasCell ∈ ztbl := zmk4 205 (by decide +kernel) rfl
theorem km_RX11_193 : Cond.methodLink RX11 193 yX0_chart ∈ ztbl := zmk4 206 (by decide +kernel) rfl
theorem km_RX11_196 : Cond.methodLink RX11 196 yX0_spread ∈ ztbl := zmk4 218 (by decide +kernel) rfl
theorem km_RX11_200 : Cond.methodLink RX11 200 yX0_cellsReached ∈ ztbl := zmk4 226 (by decide +kernel) rfl
theorem km_RX11_204 : Cond.methodLink RX11 204 yX0_isReached ∈ ztbl := zmk4 230 (by decide +kernel) rfl
theorem km_RX11_207 : Cond.methodLink RX11 207 yX0_idleMourners ∈ ztbl := zmk4 238 (by decide +kernel) rfl
theorem km_RX11_211 : Cond.methodLink RX11 211 yX0_leastToTouch ∈ ztbl := zmk5 16 (by decide +kernel) rfl
theorem km_RX11_215 : Cond.methodLink RX11 215 yX0_leastToLie ∈ ztbl := zmk5 21 (by decide +kernel) rfl
theorem km_RX11_219 : Cond.methodLink RX11 219 yX3_hear ∈ ztbl := zmk5 29 (by decide +kernel) rfl
theorem km_RX11_223 : Cond.methodLink RX11 223 yX3_atRest ∈ ztbl := zmk5 43 (by decide +kernel) rfl
theorem km_RX11_226 : Cond.methodLink RX11 226 yX3_restAt ∈ ztbl := zmk5 55 (by decide +kernel) rfl
theorem km_RX11_229 : Cond.methodLink RX11 229 yX3_gainOf ∈ ztbl := zmk5 63 (by decide +kernel) rfl
theorem km_RX11_232 : Cond.methodLink RX11 232 yX9_look ∈ ztbl := zmk5 68 (by decide +kernel) rfl
theorem km_RX11_252 : Cond.methodLink RX11 252 yX9_waysAt ∈ ztbl := zmk5 115 (by decide +kernel) rfl
theorem km_RX11_255 : Cond.methodLink RX11 255 yX7_ways ∈ ztbl := zmk5 123 (by decide +kernel) rfl
theorem km_RX11_258 : Cond.methodLink RX11 258 yX7_dig ∈ ztbl := zmk5 147 (by decide +kernel) rfl
theorem km_RX11_261 : Cond.methodLink RX11 261 yX7_sureGrave ∈ ztbl := zmk5 165 (by decide +kernel) rfl
theorem km_RX11_265 : Cond.methodLink RX11 265 yX7_graves ∈ ztbl := zmk5 173 (by decide +kernel) rfl
theorem km_RX11_271 : Cond.methodLink RX11 271 yX2_plan ∈ ztbl := zmk5 178 (by decide +kernel) rfl
theorem km_RX11_278 : Cond.methodLink RX11 278 yX2_leakBailed ∈ ztbl := zmk5 198 (by decide +kernel) rfl
theorem km_RX11_287 : Cond.methodLink RX11 287 yX1_surrounds ∈ ztbl := zmk5 206 (by decide +kernel) rfl
theorem km_RX11_291 : Cond.methodLink RX11 291 yX4_isBy ∈ ztbl := zmk5 207 (by decide +kernel) rfl
theorem km_RX11_295 : Cond.methodLink RX11 295 yX4_floatOn ∈ ztbl := zmk5 212 (by decide +kernel) rfl
theorem km_RX11_298 : Cond.methodLink RX11 298 yX4_sailBySeed ∈ ztbl := zmk5 217 (by decide +kernel) rfl
theorem km_RX11_312 : Cond.methodLink RX11 312 yX1_heaviestLine ∈ ztbl := zmk5 229 (by decide +kernel) rfl
theorem km_RX11_315 : Cond.methodLink RX11 315 yX1_keel ∈ ztbl := zmk5 234 (by decide +kernel) rfl
theorem km_RX11_318 : Cond.methodLink RX11 318 yX1_trimOf ∈ ztbl := zmk6 3 (by decide +kernel) rfl
theorem km_RX0_36 : Cond.methodLink RX0 36 yX4_init ∈ ztbl := zmk2 53 (by decide +kernel) rfl
theorem km_RX0_43 : Cond.methodLink RX0 43 yX0_findLeans ∈ ztbl := zmk4 174 (by decide +kernel) rfl
theorem km_RX0_47 : Cond.methodLink RX0 47 yX0_priceWithout ∈ ztbl := zmk4 182 (by decide +kernel) rfl
theorem km_RX0_62 : Cond.methodLink RX0 62 yX1_lines ∈ ztbl := zmk4 178 (by decide +kernel) rfl
theorem km_RX0_66 : Cond.methodLink RX0 66 yX1_graveList ∈ ztbl := zmk4 179 (by decide +kernel) rfl
theorem km_RX0_69 : Cond.methodLink RX0 69 yX6_number ∈ ztbl := zmk4 180 (by decide +kernel) rfl
theorem km_RX0_73 : Cond.methodLink RX0 73 yX1_lean ∈ ztbl := zmk4 181 (by decide +kernel) rfl
theorem km_RX0_76 : Cond.methodLink RX0 76 yX0_tearsOf ∈ ztbl := zmk4 186 (by decide +kernel) rfl
theorem km_RX0_80 : Cond.methodLink RX0 80 yX0_lowerPrices ∈ ztbl := zmk4 190 (by decide +kernel) rfl
theorem km_RX0_88 : Cond.methodLink RX0 88 yX0_driftOf ∈ ztbl := zmk4 198 (by decide +kernel) rfl
theorem km_RX0_91 : Cond.methodLink RX0 91 yX4_launch ∈ ztbl := zmk4 210 (by decide +kernel) rfl
theorem km_RX0_95 : Cond.methodLink RX0 95 yX4_putAt ∈ ztbl := zmk4 211 (by decide +kernel) rfl
theorem km_RX0_98 : Cond.methodLink RX0 98 yX4_sides ∈ ztbl := zmk4 212 (by decide +kernel) rfl
theorem km_RX0_105 : Cond.methodLink RX0 105 yX1_floats ∈ ztbl := zmk4 213 (by decide +kernel) rfl
theorem km_RX0_109 : Cond.methodLink RX0 109 yX4_move ∈ ztbl := zmk4 214 (by decide +kernel) rfl
theorem km_RX0_118 : Cond.methodLink RX0 118 yX0_cellOf ∈ ztbl := zmk4 215 (by decide +kernel) rfl
theorem km_RX0_121 : Cond.methodLink RX0 121 yX0_startOf ∈ ztbl := zmk4 222 (by decide +kernel) rfl
theorem km_RX0_132 : Cond.methodLink RX0 132 yX0_goOn ∈ ztbl := zmk5 11 (by decide +kernel) rfl
theorem km_RX0_136 : Cond.methodLink RX0 136 yX0_findLeast ∈ ztbl := zmk5 6 (by decide +kernel) rfl
theorem km_RX0_140 : Cond.methodLink RX0 140 yJ9_min_7cf53 ∈ ztbl := zmk5 15 (by decide +kernel) rfl
theorem km_RX0_145 : Cond.methodLink RX0 145 yX0_leastToTouch ∈ ztbl := zmk5 2 (by decide +kernel) rfl
theorem km_RX1_17 : Cond.methodLink RX1 17 yX6_init ∈ ztbl := zmk1 47 (by decide +kernel) rfl
theorem km_RX1_45 : Cond.methodLink RX1 45 yX1_forget ∈ ztbl := zmk1 74 (by decide +kernel) rfl
theorem km_RX1_48 : Cond.methodLink RX1 48 yX1_settle ∈ ztbl := zmk1 83 (by decide +kernel) rfl
theorem km_RX1_64 : Cond.methodLink RX1 64 yX6_takeFrom ∈ ztbl := zmk3 165 (by decide +kernel) rfl
theorem km_RX1_68 : Cond.methodLink RX1 68 yJ9_max_7cf53 ∈ ztbl := zmk1 87 (by decide +kernel) rfl
theorem km_RX1_80 : Cond.methodLink RX1 80 yX6_number ∈ ztbl := zmk1 88 (by decide +kernel) rfl
theorem km_RX1_83 : Cond.methodLink RX1 83 yX1_arm ∈ ztbl := zmk1 92 (by decide +kernel) rfl
theorem km_RX1_89 : Cond.methodLink RX1 89 yX1_rowsOf ∈ ztbl := zmk3 189 (by decide +kernel) rfl
theorem km_RX1_93 : Cond.methodLink RX1 93 yX1_lines ∈ ztbl := zmk5 84 (by decide +kernel) rfl
theorem km_RX1_97 : Cond.methodLink RX1 97 yJ9_abs_0f7a4 ∈ ztbl := zmk4 75 (by decide +kernel) rfl
theorem km_RX1_100 : Cond.methodLink RX1 100 yJ6_signum_0f7a4 ∈ ztbl := zmk4 78 (by decide +kernel) rfl
theorem km_RX1_105 : Cond.methodLink RX1 105 yX1_surrounds ∈ ztbl := zmk3 137 (by decide +kernel) rfl
theorem km_RX1_109 : Cond.methodLink RX1 109 yX1_hasRockUnder ∈ ztbl := zmk3 153 (by decide +kernel) rfl
theorem km_RX1_112 : Cond.methodLink RX1 112 yX1_hasNoPlaceFor ∈ ztbl := zmk3 141 (by decide +kernel) rfl
theorem km_RX1_116 : Cond.methodLink RX1 116 yX1_hasCell ∈ ztbl := zmk3 149 (by decide +kernel) rfl
theorem km_RX1_120 : Cond.methodLink RX1 120 yX1_places ∈ ztbl := zmk3 145 (by decide +kernel) rfl
theorem km_RX1_124 : Cond.methodLink RX1 124 yX1_lineOf ∈ ztbl := zmk5 233 (by decide +kernel) rfl
theorem km_RX1_128 : Cond.methodLink RX1 128 yX1_tiltWith ∈ ztbl := zmk5 239 (by decide +kernel) rfl
theorem km_RX2_23 : Cond.methodLink RX2 23 yJ9_min_7cf53 ∈ ztbl := zmk5 182 (by decide +kernel) rfl
theorem km_RX2_37 : Cond.methodLink RX2 37 yX2_tryHour ∈ ztbl := zmk5 184 (by decide +kernel) rfl
theorem km_RX2_47 : Cond.methodLink RX2 47 yX2_letIn ∈ ztbl := zmk5 188 (by decide +kernel) rfl
theorem km_RX2_51 : Cond.methodLink RX2 51 yJ9_max_7cf53 ∈ ztbl := zmk5 193 (by decide +kernel) rfl
theorem km_RX2_59 : Cond.methodLink RX2 59 yX2_bailOne ∈ ztbl := zmk5 194 (by decide +kernel) rfl
theorem km_RX2_63 : Cond.methodLink RX2 63 yX6_number ∈ ztbl := zmk5 192 (by decide +kernel) rfl
theorem km_RX3_15 : Cond.methodLink RX3 15 yX4_launch ∈ ztbl := zmk5 33 (by decide +kernel) rfl
theorem km_RX3_25 : Cond.methodLink RX3 25 yX3_board ∈ ztbl := zmk5 34 (by decide +kernel) rfl
theorem km_RX3_29 : Cond.methodLink RX3 29 yX4_floatOn ∈ ztbl := zmk5 39 (by decide +kernel) rfl
theorem km_RX3_46 : Cond.methodLink RX3 46 yX6_number ∈ ztbl := zmk5 37 (by decide +kernel) rfl
theorem km_RX3_50 : Cond.methodLink RX3 50 yX1_lines ∈ ztbl := zmk5 38 (by decide +kernel) rfl
theorem km_RX3_54 : Cond.methodLink RX3 54 yX3_gainOf ∈ ztbl := zmk5 51 (by decide +kernel) rfl
theorem km_RX3_57 : Cond.methodLink RX3 57 yX3_rests ∈ ztbl := zmk5 47 (by decide +kernel) rfl
theorem km_RX4_53 : Cond.methodLink RX4 53 yX4_putAt ∈ ztbl := zmk4 3 (by decide +kernel) rfl
theorem km_RX4_57 : Cond.methodLink RX4 57 yX4_sides ∈ ztbl := zmk4 7 (by decide +kernel) rfl
theorem km_RX4_70 : Cond.methodLink RX4 70 yX4_allWater ∈ ztbl := zmk4 104 (by decide +kernel) rfl
theorem km_RX4_73 : Cond.methodLink RX4 73 yX4_answerOfOne ∈ ztbl := zmk4 120 (by decide +kernel) rfl
theorem km_RX4_81 : Cond.methodLink RX4 81 yX6_has ∈ ztbl := zmk4 27 (by decide +kernel) rfl
theorem km_RX4_87 : Cond.methodLink RX4 87 yX4_hasPlace ∈ ztbl := zmk4 28 (by decide +kernel) rfl
theorem km_RX4_90 : Cond.methodLink RX4 90 yX1_places ∈ ztbl := zmk4 32 (by decide +kernel) rfl
theorem km_RX4_93 : Cond.methodLink RX4 93 yX1_lines ∈ ztbl := zmk4 11 (by decide +kernel) rfl
theorem km_RX4_96 : Cond.methodLink RX4 96 yX1_graveList ∈ ztbl := zmk4 65 (by decide +kernel) rfl
theorem km_RX4_99 : Cond.methodLink RX4 99 yX6_number ∈ ztbl := zmk4 69 (by decide +kernel) rfl
theorem km_RX4_103 : Cond.methodLink RX4 103 yX1_arm ∈ ztbl := zmk4 70 (by decide +kernel) rfl
theorem km_RX4_106 : Cond.methodLink RX4 106 yX4_axisOf ∈ ztbl := zmk4 85 (by decide +kernel) rfl
theorem km_RX4_109 : Cond.methodLink RX4 109 yX1_wreathSizes ∈ ztbl := zmk4 88 (by decide +kernel) rfl
theorem km_RX4_112 : Cond.methodLink RX4 112 yX4_signOf ∈ ztbl := zmk4 92 (by decide +kernel) rfl
theorem km_RX4_115 : Cond.methodLink RX4 115 yX4_listAlong ∈ ztbl := zmk4 61 (by decide +kernel) rfl
theorem km_RX4_118 : Cond.methodLink RX4 118 yX1_lean ∈ ztbl := zmk4 71 (by decide +kernel) rfl
theorem km_RX4_121 : Cond.methodLink RX4 121 yX4_blown ∈ ztbl := zmk4 81 (by decide +kernel) rfl
theorem km_RX4_125 : Cond.methodLink RX4 125 yJ6_signum_0f7a4 ∈ ztbl := zmk4 95 (by decide +kernel) rfl
theorem km_RX4_130 : Cond.methodLink RX4 130 yX1_floats ∈ ztbl := zmk4 100 (by decide +kernel) rfl
theorem km_RX4_134 : Cond.methodLink RX4 134 yX4_driftAlong ∈ ztbl := zmk4 57 (by decide +kernel) rfl
theorem km_RX4_137 : Cond.methodLink RX4 137 yX4_move ∈ ztbl := zmk4 96 (by decide +kernel) rfl
theorem km_RX4_146 : Cond.methodLink RX4 146 yX4_takesAboard ∈ ztbl := zmk4 19 (by decide +kernel) rfl
theorem km_RX4_150 : Cond.methodLink RX4 150 yX4_setsAshore ∈ ztbl := zmk4 33 (by decide +kernel) rfl
theorem km_RX4_153 : Cond.methodLink RX4 153 yX4_calms ∈ ztbl := zmk4 37 (by decide +kernel) rfl
theorem km_RX4_157 : Cond.methodLink RX4 157 yX4_freezes ∈ ztbl := zmk4 41 (by decide +kernel) rfl
theorem km_RX4_161 : Cond.methodLink RX4 161 yX4_moors ∈ ztbl := zmk4 45 (by decide +kernel) rfl
theorem km_RX4_164 : Cond.methodLink RX4 164 yX4_isBailed ∈ ztbl := zmk4 49 (by decide +kernel) rfl
theorem km_RX4_167 : Cond.methodLink RX4 167 yX4_passHour ∈ ztbl := zmk4 53 (by decide +kernel) rfl
theorem km_RX4_170 : Cond.methodLink RX4 170 yX4_hasMourner ∈ ztbl := zmk4 23 (by decide +kernel) rfl
theorem km_RX4_173 : Cond.methodLink RX4 173 yX1_graveWeight ∈ ztbl := zmk4 159 (by decide +kernel) rfl
theorem km_RX4_176 : Cond.methodLink RX4 176 yJ9_abs_0f7a4 ∈ ztbl := zmk4 163 (by decide +kernel) rfl
theorem km_RX4_184 : Cond.methodLink RX4 184 yJ9_min_7cf53 ∈ ztbl := zmk4 165 (by decide +kernel) rfl
theorem km_RX4_187 : Cond.methodLink RX4 187 yJ9_max_7cf53 ∈ ztbl := zmk5 211 (by decide +kernel) rfl
theorem km_RX4_190 : Cond.methodLink RX4 190 yX4_afterSeed ∈ ztbl := zmk5 221 (by decide +kernel) rfl
theorem km_RX5_11 : Cond.methodLink RX5 11 yX1_init ∈ ztbl := zmk1 183 (by decide +kernel) rfl
theorem km_RX5_35 : Cond.methodLink RX5 35 yX5_mostRows ∈ ztbl := zmk1 185 (by decide +kernel) rfl
theorem km_RX5_39 : Cond.methodLink RX5 39 yX6_init ∈ ztbl := zmk1 186 (by decide +kernel) rfl
theorem km_RX5_42 : Cond.methodLink RX5 42 yJ9_min_7cf53 ∈ ztbl := zmk2 228 (by decide +kernel) rfl
theorem km_RX5_57 : Cond.methodLink RX5 57 yX1_forget ∈ ztbl := zmk2 231 (by decide +kernel) rfl
theorem km_RX5_63 : Cond.methodLink RX5 63 yX5_look ∈ ztbl := zmk2 232 (by decide +kernel) rfl
theorem km_RX5_69 : Cond.methodLink RX5 69 yX5_readLine ∈ ztbl := zmk3 10 (by decide +kernel) rfl
theorem km_RX5_72 : Cond.methodLink RX5 72 yX1_settle ∈ ztbl := zmk3 132 (by decide +kernel) rfl
theorem km_RX5_75 : Cond.methodLink RX5 75 yX1_wholeFault ∈ ztbl := zmk3 133 (by decide +kernel) rfl
theorem km_RX5_82 : Cond.methodLink RX5 82 yX5_byteAt ∈ ztbl := zmk2 236 (by decide +kernel) rfl
theorem km_RX5_85 : Cond.methodLink RX5 85 yX5_isLetter ∈ ztbl := zmk3 0 (by decide +kernel) rfl
theorem km_RX5_89 : Cond.methodLink RX5 89 yX5_isDigit ∈ ztbl := zmk3 3 (by decide +kernel) rfl
theorem km_RX5_92 : Cond.methodLink RX5 92 yX5_lookAtDigits ∈ ztbl := zmk3 6 (by decide +kernel) rfl
theorem km_RX5_111 : Cond.methodLink RX5 111 yX5_isSpelled ∈ ztbl := zmk3 25 (by decide +kernel) rfl
theorem km_RX5_115 : Cond.methodLink RX5 115 yJ0_length_8abf5 ∈ ztbl := zmk3 29 (by decide +kernel) rfl
theorem km_RX5_119 : Cond.methodLink RX5 119 yJ0_charAt_5068e ∈ ztbl := zmk3 39 (by decide +kernel) rfl
theorem km_RX5_123 : Cond.methodLink RX5 123 yX5_wordOf ∈ ztbl := zmk3 14 (by decide +kernel) rfl
theorem km_RX5_127 : Cond.methodLink RX5 127 yX5_breakOff ∈ ztbl := zmk3 77 (by decide +kernel) rfl
theorem km_RX5_130 : Cond.methodLink RX5 130 yX5_readNumbers ∈ ztbl := zmk3 81 (by decide +kernel) rfl
theorem km_RX5_138 : Cond.methodLink RX5 138 yX5_readFurtherGraves ∈ ztbl := zmk3 105 (by decide +kernel) rfl
theorem km_RX5_141 : Cond.methodLink RX5 141 yX5_tell ∈ ztbl := zmk3 112 (by decide +kernel) rfl
theorem km_RX5_145 : Cond.methodLink RX5 145 yX5_note ∈ ztbl := zmk3 99 (by decide +kernel) rfl
theorem km_RX5_162 : Cond.methodLink RX5 162 yX5_tellOfLake ∈ ztbl := zmk3 116 (by decide +kernel) rfl
theorem km_RX5_168 : Cond.methodLink RX5 168 yX6_add ∈ ztbl := zmk3 128 (by decide +kernel) rfl
theorem km_RX5_172 : Cond.methodLink RX5 172 yX1_rowsOf ∈ ztbl := zmk3 124 (by decide +kernel) rfl
theorem km_RX6_9 : Cond.methodLink RX6 9 yJ9_max_7cf53 ∈ ztbl := zmk1 51 (by decide +kernel) rfl
theorem km_RX6_28 : Cond.methodLink RX6 28 yJ9_min_7cf53 ∈ ztbl := zmk3 169 (by decide +kernel) rfl
theorem km_RX7_25 : Cond.methodLink RX7 25 yJ9_min_7cf53 ∈ ztbl := zmk5 130 (by decide +kernel) rfl
theorem km_RX7_37 : Cond.methodLink RX7 37 yX6_number ∈ ztbl := zmk5 142 (by decide +kernel) rfl
theorem km_RX7_44 : Cond.methodLink RX7 44 yX7_lay ∈ ztbl := zmk5 144 (by decide +kernel) rfl
theorem km_RX7_48 : Cond.methodLink RX7 48 yX7_begin ∈ ztbl := zmk5 135 (by decide +kernel) rfl
theorem km_RX7_52 : Cond.methodLink RX7 52 yX7_extend ∈ ztbl := zmk5 138 (by decide +kernel) rfl
theorem km_RX7_56 : Cond.methodLink RX7 56 yX7_setsOf ∈ ztbl := zmk5 127 (by decide +kernel) rfl
theorem km_RX7_60 : Cond.methodLink RX7 60 yX7_waysWithout ∈ ztbl := zmk5 131 (by decide +kernel) rfl
theorem km_RX7_64 : Cond.methodLink RX7 64 yX7_graves ∈ ztbl := zmk5 169 (by decide +kernel) rfl
theorem km_RX7_68 : Cond.methodLink RX7 68 yJ6_bitCount_0f7a4 ∈ ztbl := zmk5 160 (by decide +kernel) rfl
theorem km_RX7_74 : Cond.methodLink RX7 74 yJ6_numberOfTrailingZeros_0f7a4 ∈ ztbl := zmk5 156 (by decide +kernel) rfl
theorem km_RX7_77 : Cond.methodLink RX7 77 yX7_ways ∈ ztbl := zmk5 151 (by decide +kernel) rfl
theorem km_RX7_80 : Cond.methodLink RX7 80 yX7_openThese ∈ ztbl := zmk5 152 (by decide +kernel) rfl
theorem km_RX7_84 : Cond.methodLink RX7 84 yX7_tellsAll ∈ ztbl := zmk5 161 (by decide +kernel) rfl
theorem km_RX8_34 : Cond.methodLink RX8 34 yX1_init ∈ ztbl := zmk1 41 (by decide +kernel) rfl
theorem km_RX8_35 : Cond.methodLink RX8 35 yX5_mostRows ∈ ztbl := zmk1 143 (by decide +kernel) rfl
theorem km_RX8_41 : Cond.methodLink RX8 41 yX6_init ∈ ztbl := zmk1 146 (by decide +kernel) rfl
theorem km_RX8_47 : Cond.methodLink RX8 47 yX8_has ∈ ztbl := zmk2 220 (by decide +kernel) rfl
theorem km_RX8_55 : Cond.methodLink RX8 55 yX1_takeFrom ∈ ztbl := zmk3 161 (by decide +kernel) rfl
theorem km_RX8_60 : Cond.methodLink RX8 60 yX6_takeFrom ∈ ztbl := zmk3 171 (by decide +kernel) rfl
theorem km_RX8_63 : Cond.methodLink RX8 63 yJ9_max_7cf53 ∈ ztbl := zmk3 172 (by decide +kernel) rfl
theorem km_RX9_24 : Cond.methodLink RX9 24 yX9_findCorners ∈ ztbl := zmk5 72 (by decide +kernel) rfl
theorem km_RX9_28 : Cond.methodLink RX9 28 yX9_follow ∈ ztbl := zmk5 86 (by decide +kernel) rfl
theorem km_RX9_59 : Cond.methodLink RX9 59 yX9_tryWay ∈ ztbl := zmk5 92 (by decide +kernel) rfl
theorem km_RX9_63 : Cond.methodLink RX9 63 yX1_places ∈ ztbl := zmk5 76 (by decide +kernel) rfl
theorem km_RX9_67 : Cond.methodLink RX9 67 yX9_isOuter ∈ ztbl := zmk5 77 (by decide +kernel) rfl
theorem km_RX9_71 : Cond.methodLink RX9 71 yX1_lineOf ∈ ztbl := zmk5 80 (by decide +kernel) rfl
theorem km_RX9_75 : Cond.methodLink RX9 75 yX1_lines ∈ ztbl := zmk5 85 (by decide +kernel) rfl
theorem km_RX9_79 : Cond.methodLink RX9 79 yX4_launch ∈ ztbl := zmk5 89 (by decide +kernel) rfl
theorem km_RX9_85 : Cond.methodLink RX9 85 yX4_move ∈ ztbl := zmk5 90 (by decide +kernel) rfl
theorem km_RX9_92 : Cond.methodLink RX9 92 yX6_number ∈ ztbl := zmk5 91 (by decide +kernel) rfl
theorem km_RX9_98 : Cond.methodLink RX9 98 yX1_graveList ∈ ztbl := zmk5 96 (by decide +kernel) rfl
theorem km_RX9_101 : Cond.methodLink RX9 101 yX1_arm ∈ ztbl := zmk5 97 (by decide +kernel) rfl
theorem km_RX9_104 : Cond.methodLink RX9 104 yX1_lean ∈ ztbl := zmk5 98 (by decide +kernel) rfl
theorem km_RX9_107 : Cond.methodLink RX9 107 yJ9_max_7cf53 ∈ ztbl := zmk5 99 (by decide +kernel) rfl
theorem km_RX9_112 : Cond.methodLink RX9 112 yX9_keepWay ∈ ztbl := zmk5 100 (by decide +kernel) rfl
theorem km_RX9_115 : Cond.methodLink RX9 115 yJ6_bitCount_0f7a4 ∈ ztbl := zmk5 104 (by decide +kernel) rfl
theorem km_RX9_120 : Cond.methodLink RX9 120 yJ9_min_7cf53 ∈ ztbl := zmk5 110 (by decide +kernel) rfl
theorem km_RX10_132 : Cond.methodLink RX10 132 yX10_bounds ∈ ztbl := zmk3 89 (by decide +kernel) rfl
theorem km_RL_9 : Cond.methodLink RL 9 yX11_init ∈ ztbl := zmk1 24 (by decide +kernel) rfl
theorem km_RL_12 : Cond.methodLink RL 12 yX12_init ∈ ztbl := zmk6 9 (by decide +kernel) rfl
theorem km_RL_13 : Cond.methodLink RL 13 yX11_feed ∈ ztbl := zmk2 200 (by decide +kernel) rfl
theorem km_RL_17 : Cond.methodLink RL 17 yX12_feed ∈ ztbl := zmk6 129 (by decide +kernel) rfl
theorem km_RL_18 : Cond.methodLink RL 18 yX11_end ∈ ztbl := zmk2 208 (by decide +kernel) rfl
theorem km_RL_22 : Cond.methodLink RL 22 yX12_end ∈ ztbl := zmk6 133 (by decide +kernel) rfl
theorem km_RL_23 : Cond.methodLink RL 23 yX11_text ∈ ztbl := zmk2 212 (by decide +kernel) rfl
theorem km_RL_27 : Cond.methodLink RL 27 yX12_text ∈ ztbl := zmk6 137 (by decide +kernel) rfl
theorem km_RL_28 : Cond.methodLink RL 28 yX11_fault ∈ ztbl := zmk3 173 (by decide +kernel) rfl
theorem km_RL_31 : Cond.methodLink RL 31 yX12_fault ∈ ztbl := zmk7 5 (by decide +kernel) rfl
theorem km_RL_32 : Cond.methodLink RL 32 yX11_lake ∈ ztbl := zmk3 177 (by decide +kernel) rfl
theorem km_RL_35 : Cond.methodLink RL 35 yX12_lake ∈ ztbl := zmk7 9 (by decide +kernel) rfl
theorem km_RL_36 : Cond.methodLink RL 36 yX11_deed ∈ ztbl := zmk3 190 (by decide +kernel) rfl
theorem km_RL_40 : Cond.methodLink RL 40 yX12_deed ∈ ztbl := zmk7 29 (by decide +kernel) rfl
theorem km_RL_41 : Cond.methodLink RL 41 yX11_stop ∈ ztbl := zmk3 235 (by decide +kernel) rfl
theorem km_RL_44 : Cond.methodLink RL 44 yX12_stop ∈ ztbl := zmk7 41 (by decide +kernel) rfl
theorem km_RL_45 : Cond.methodLink RL 45 yX11_state ∈ ztbl := zmk4 108 (by decide +kernel) rfl
theorem km_RL_49 : Cond.methodLink RL 49 yX12_state ∈ ztbl := zmk7 141 (by decide +kernel) rfl
theorem km_RL_50 : Cond.methodLink RL 50 yX11_list ∈ ztbl := zmk4 124 (by decide +kernel) rfl
theorem km_RL_53 : Cond.methodLink RL 53 yX12_list ∈ ztbl := zmk7 149 (by decide +kernel) rfl
theorem km_RL_54 : Cond.methodLink RL 54 yX11_drift ∈ ztbl := zmk4 130 (by decide +kernel) rfl
theorem km_RL_57 : Cond.methodLink RL 57 yX12_drift ∈ ztbl := zmk7 154 (by decide +kernel) rfl
theorem km_RL_58 : Cond.methodLink RL 58 yX11_goes ∈ ztbl := zmk4 135 (by decide +kernel) rfl
theorem km_RL_61 : Cond.methodLink RL 61 yX12_goes ∈ ztbl := zmk7 158 (by decide +kernel) rfl
theorem km_RL_62 : Cond.methodLink RL 62 yX11_owed ∈ ztbl := zmk4 151 (by decide +kernel) rfl
theorem km_RL_65 : Cond.methodLink RL 65 yX12_owed ∈ ztbl := zmk7 182 (by decide +kernel) rfl
theorem km_RL_66 : Cond.methodLink RL 66 yX11_cost ∈ ztbl := zmk4 166 (by decide +kernel) rfl
theorem km_RL_69 : Cond.methodLink RL 69 yX12_cost ∈ ztbl := zmk7 194 (by decide +kernel) rfl
theorem km_RL_70 : Cond.methodLink RL 70 yX11_reach ∈ ztbl := zmk4 201 (by decide +kernel) rfl
theorem km_RL_73 : Cond.methodLink RL 73 yX12_reach ∈ ztbl := zmk7 207 (by decide +kernel) rfl
theorem km_RL_74 : Cond.methodLink RL 74 yX11_sends ∈ ztbl := zmk4 234 (by decide +kernel) rfl
theorem km_RL_77 : Cond.methodLink RL 77 yX12_sends ∈ ztbl := zmk7 215 (by decide +kernel) rfl
theorem km_RL_78 : Cond.methodLink RL 78 yX11_thrift ∈ ztbl := zmk5 17 (by decide +kernel) rfl
theorem km_RL_81 : Cond.methodLink RL 81 yX12_thrift ∈ ztbl := zmk7 235 (by decide +kernel) rfl
theorem km_RL_82 : Cond.methodLink RL 82 yX11_pull ∈ ztbl := zmk5 25 (by decide +kernel) rfl
theorem km_RL_85 : Cond.methodLink RL 85 yX12_pull ∈ ztbl := zmk8 11 (by decide +kernel) rfl
theorem km_RL_86 : Cond.methodLink RL 86 yX11_gain ∈ ztbl := zmk5 59 (by decide +kernel) rfl
theorem km_RL_89 : Cond.methodLink RL 89 yX12_gain ∈ ztbl := zmk7 239 (by decide +kernel) rfl
theorem km_RL_90 : Cond.methodLink RL 90 yX11_sight ∈ ztbl := zmk3 206 (by decide +kernel) rfl
theorem km_RL_93 : Cond.methodLink RL 93 yX12_sight ∈ ztbl := zmk8 19 (by decide +kernel) rfl
theorem km_RL_94 : Cond.methodLink RL 94 yX11_stood ∈ ztbl := zmk5 64 (by decide +kernel) rfl
theorem km_RL_97 : Cond.methodLink RL 97 yX12_stood ∈ ztbl := zmk8 31 (by decide +kernel) rfl
theorem km_RL_98 : Cond.methodLink RL 98 yX11_corner ∈ ztbl := zmk5 111 (by decide +kernel) rfl
theorem km_RL_101 : Cond.methodLink RL 101 yX12_corner ∈ ztbl := zmk8 58 (by decide +kernel) rfl
theorem km_RL_102 : Cond.methodLink RL 102 yX11_dead ∈ ztbl := zmk3 210 (by decide +kernel) rfl
theorem km_RL_105 : Cond.methodLink RL 105 yX12_dead ∈ ztbl := zmk8 62 (by decide +kernel) rfl
theorem km_RL_106 : Cond.methodLink RL 106 yX11_lies ∈ ztbl := zmk5 119 (by decide +kernel) rfl
theorem km_RL_109 : Cond.methodLink RL 109 yX12_lies ∈ ztbl := zmk8 66 (by decide +kernel) rfl
theorem km_RL_110 : Cond.methodLink RL 110 yX11_bail ∈ ztbl := zmk5 174 (by decide +kernel) rfl
theorem km_RL_113 : Cond.methodLink RL 113 yX12_bail ∈ ztbl := zmk8 86 (by decide +kernel) rfl
theorem km_RL_114 : Cond.methodLink RL 114 yX11_term ∈ ztbl := zmk3 214 (by decide +kernel) rfl
theorem km_RL_117 : Cond.methodLink RL 117 yX12_term ∈ ztbl := zmk7 174 (by decide +kernel) rfl
theorem km_RL_118 : Cond.methodLink RL 118 yX11_meet ∈ ztbl := zmk5 202 (by decide +kernel) rfl
theorem km_RL_122 : Cond.methodLink RL 122 yX12_meet ∈ ztbl := zmk8 94 (by decide +kernel) rfl
theorem km_RL_123 : Cond.methodLink RL 123 yX11_drawn ∈ ztbl := zmk5 213 (by decide +kernel) rfl
theorem km_RL_126 : Cond.methodLink RL 126 yX12_drawn ∈ ztbl := zmk8 106 (by decide +kernel) rfl
theorem km_RL_127 : Cond.methodLink RL 127 yX11_trim ∈ ztbl := zmk5 225 (by decide +kernel) rfl
theorem km_RL_130 : Cond.methodLink RL 130 yX12_trim ∈ ztbl := zmk8 115 (by decide +kernel) rfl
theorem km_RL_131 : Cond.methodLink RL 131 yX11_count ∈ ztbl := zmk3 218 (by decide +kernel) rfl
theorem km_RL_134 : Cond.methodLink RL 134 yX12_count ∈ ztbl := zmk8 127 (by decide +kernel) rfl
theorem km_RL_135 : Cond.methodLink RL 135 yX11_image ∈ ztbl := zmk3 222 (by decide +kernel) rfl
theorem km_RL_139 : Cond.methodLink RL 139 yX12_image ∈ ztbl := zmk8 131 (by decide +kernel) rfl
theorem km_RL_140 : Cond.methodLink RL 140 yX11_again ∈ ztbl := zmk3 231 (by decide +kernel) rfl
theorem km_RL_143 : Cond.methodLink RL 143 yX12_again ∈ ztbl := zmk8 135 (by decide +kernel) rfl
theorem km_RX12_55 : Cond.methodLink RX12 55 yX12_four ∈ ztbl := zmk6 168 (by decide +kernel) rfl
theorem km_RX12_61 : Cond.methodLink RX12 61 yX12_eight ∈ ztbl := zmk6 171 (by decide +kernel) rfl
theorem km_RX12_65 : Cond.methodLink RX12 65 yX12_otherWord ∈ ztbl := zmk6 175 (by decide +kernel) rfl
theorem km_RX12_72 : Cond.methodLink RX12 72 yX12_byteAt ∈ ztbl := zmk6 156 (by decide +kernel) rfl
theorem km_RX12_82 : Cond.methodLink RX12 82 yX12_isLetter ∈ ztbl := zmk6 160 (by decide +kernel) rfl
theorem km_RX12_90 : Cond.methodLink RX12 90 yX12_wordOf ∈ ztbl := zmk6 165 (by decide +kernel) rfl
theorem km_RX12_96 : Cond.methodLink RX12 96 yX12_isDigit ∈ ztbl := zmk6 178 (by decide +kernel) rfl
theorem km_RX12_106 : Cond.methodLink RX12 106 yX12_ends ∈ ztbl := zmk6 189 (by decide +kernel) rfl
theorem km_RX12_109 : Cond.methodLink RX12 109 yX12_isIn ∈ ztbl := zmk6 141 (by decide +kernel) rfl
theorem km_RX12_113 : Cond.methodLink RX12 113 yX12_also ∈ ztbl := zmk6 197 (by decide +kernel) rfl
theorem km_RX12_117 : Cond.methodLink RX12 117 yX12_advance ∈ ztbl := zmk6 152 (by decide +kernel) rfl
theorem km_RX12_123 : Cond.methodLink RX12 123 yX12_numbered ∈ ztbl := zmk6 193 (by decide +kernel) rfl
theorem km_RX12_127 : Cond.methodLink RX12 127 yX12_takes ∈ ztbl := zmk6 185 (by decide +kernel) rfl
theorem km_RX12_130 : Cond.methodLink RX12 130 yX12_further ∈ ztbl := zmk6 201 (by decide +kernel) rfl
theorem km_RX12_134 : Cond.methodLink RX12 134 yX12_brothers ∈ ztbl := zmk6 207 (by decide +kernel) rfl
theorem km_RX12_137 : Cond.methodLink RX12 137 yX12_endsLine ∈ ztbl := zmk6 211 (by decide +kernel) rfl
theorem km_RX12_140 : Cond.methodLink RX12 140 yX12_adds ∈ ztbl := zmk6 219 (by decide +kernel) rfl
theorem km_RX12_144 : Cond.methodLink RX12 144 yX12_isOf ∈ ztbl := zmk6 144 (by decide +kernel) rfl
theorem km_RX12_148 : Cond.methodLink RX12 148 yX12_clears ∈ ztbl := zmk6 148 (by decide +kernel) rfl
theorem km_RX12_152 : Cond.methodLink RX12 152 yX12_lakeLine ∈ ztbl := zmk6 181 (by decide +kernel) rfl
theorem km_RX12_155 : Cond.methodLink RX12 155 yX12_dayLine ∈ ztbl := zmk6 215 (by decide +kernel) rfl
theorem km_RX12_158 : Cond.methodLink RX12 158 yX12_nightLine ∈ ztbl := zmk6 223 (by decide +kernel) rfl
theorem km_RX12_161 : Cond.methodLink RX12 161 yX12_fogLine ∈ ztbl := zmk6 227 (by decide +kernel) rfl
theorem km_RX12_164 : Cond.methodLink RX12 164 yX12_lawLine ∈ ztbl := zmk6 231 (by decide +kernel) rfl
theorem km_RX12_167 : Cond.methodLink RX12 167 yX12_wrongAtEnd ∈ ztbl := zmk6 235 (by decide +kernel) rfl
theorem km_RX12_171 : Cond.methodLink RX12 171 yX12_sizeOf ∈ ztbl := zmk6 239 (by decide +kernel) rfl
theorem km_RX12_174 : Cond.methodLink RX12 174 yX12_placeOf ∈ ztbl := zmk7 2 (by decide +kernel) rfl
theorem km_RX12_180 : Cond.methodLink RX12 180 yX12_of ∈ ztbl := zmk7 17 (by decide +kernel) rfl
theorem km_RX12_183 : Cond.methodLink RX12 183 yX12_mourners ∈ ztbl := zmk7 21 (by decide +kernel) rfl
theorem km_RX12_186 : Cond.methodLink RX12 186 yX12_isLake ∈ ztbl := zmk7 13 (by decide +kernel) rfl
theorem km_RX12_189 : Cond.methodLink RX12 189 yX12_ofMourner ∈ ztbl := zmk7 25 (by decide +kernel) rfl
theorem km_RX12_192 : Cond.methodLink RX12 192 yX12_arm ∈ ztbl := zmk7 97 (by decide +kernel) rfl
theorem km_RX12_195 : Cond.methodLink RX12 195 yX12_size ∈ ztbl := zmk7 105 (by decide +kernel) rfl
theorem km_RX12_197 : Cond.methodLink RX12 197 yX12_sign ∈ ztbl := zmk7 108 (by decide +kernel) rfl
theorem km_RX12_200 : Cond.methodLink RX12 200 yX12_axisOf ∈ ztbl := zmk7 115 (by decide +kernel) rfl
theorem km_RX12_203 : Cond.methodLink RX12 203 yX12_sizes ∈ ztbl := zmk7 118 (by decide +kernel) rfl
theorem km_RX12_206 : Cond.methodLink RX12 206 yX12_signOf ∈ ztbl := zmk7 122 (by decide +kernel) rfl
theorem km_RX12_212 : Cond.methodLink RX12 212 yX12_deeds ∈ ztbl := zmk7 33 (by decide +kernel) rfl
theorem km_RX12_215 : Cond.methodLink RX12 215 yX12_deedOf ∈ ztbl := zmk7 37 (by decide +kernel) rfl
theorem km_RX12_230 : Cond.methodLink RX12 230 yX12_sidesAt ∈ ztbl := zmk7 57 (by decide +kernel) rfl
theorem km_RX12_254 : Cond.methodLink RX12 254 yX12_gravesList ∈ ztbl := zmk7 93 (by decide +kernel) rfl
theorem km_RX12_257 : Cond.methodLink RX12 257 yX12_places ∈ ztbl := zmk7 73 (by decide +kernel) rfl
theorem km_RX12_260 : Cond.methodLink RX12 260 yX12_listOf ∈ ztbl := zmk7 89 (by decide +kernel) rfl
theorem km_RX12_263 : Cond.methodLink RX12 263 yX12_lean ∈ ztbl := zmk7 101 (by decide +kernel) rfl
theorem km_RX12_266 : Cond.methodLink RX12 266 yX12_blown ∈ ztbl := zmk7 111 (by decide +kernel) rfl
theorem km_RX12_270 : Cond.methodLink RX12 270 yX12_canLie ∈ ztbl := zmk7 129 (by decide +kernel) rfl
theorem km_RX12_273 : Cond.methodLink RX12 273 yX12_allWater ∈ ztbl := zmk7 137 (by decide +kernel) rfl
theorem km_RX12_276 : Cond.methodLink RX12 276 yX12_driftOf ∈ ztbl := zmk7 85 (by decide +kernel) rfl
theorem km_RX12_279 : Cond.methodLink RX12 279 yX12_moves ∈ ztbl := zmk7 125 (by decide +kernel) rfl
theorem km_RX12_282 : Cond.methodLink RX12 282 yX12_leaks ∈ ztbl := zmk7 133 (by decide +kernel) rfl
theorem km_RX12_285 : Cond.methodLink RX12 285 yX12_isMourner ∈ ztbl := zmk7 65 (by decide +kernel) rfl
theorem km_RX12_288 : Cond.methodLink RX12 288 yX12_isPlace ∈ ztbl := zmk7 69 (by decide +kernel) rfl
theorem km_RX12_291 : Cond.methodLink RX12 291 yX12_hour ∈ ztbl := zmk7 81 (by decide +kernel) rfl
theorem km_RX12_295 : Cond.methodLink RX12 295 yX12_begins ∈ ztbl := zmk7 53 (by decide +kernel) rfl
theorem km_RX12_298 : Cond.methodLink RX12 298 yX12_can ∈ ztbl := zmk7 61 (by decide +kernel) rfl
theorem km_RX12_301 : Cond.methodLink RX12 301 yX12_does ∈ ztbl := zmk7 77 (by decide +kernel) rfl
theorem km_RX12_304 : Cond.methodLink RX12 304 yX12_areTold ∈ ztbl := zmk7 45 (by decide +kernel) rfl
theorem km_RX12_307 : Cond.methodLink RX12 307 yX12_runs ∈ ztbl := zmk7 49 (by decide +kernel) rfl
theorem km_RX12_310 : Cond.methodLink RX12 310 yX12_isState ∈ ztbl := zmk7 145 (by decide +kernel) rfl
theorem km_RX12_314 : Cond.methodLink RX12 314 yX12_turn ∈ ztbl := zmk7 162 (by decide +kernel) rfl
theorem km_RX12_317 : Cond.methodLink RX12 317 yX12_wake ∈ ztbl := zmk7 166 (by decide +kernel) rfl
theorem km_RX12_320 : Cond.methodLink RX12 320 yX12_hold ∈ ztbl := zmk7 170 (by decide +kernel) rfl
theorem km_RX12_326 : Cond.methodLink RX12 326 yX12_termOf ∈ ztbl := zmk7 178 (by decide +kernel) rfl
theorem km_RX12_329 : Cond.methodLink RX12 329 yX12_allGraves ∈ ztbl := zmk7 190 (by decide +kernel) rfl
theorem km_RX12_332 : Cond.methodLink RX12 332 yX12_owes ∈ ztbl := zmk7 186 (by decide +kernel) rfl
theorem km_RX12_336 : Cond.methodLink RX12 336 yX12_boards ∈ ztbl := zmk7 203 (by decide +kernel) rfl
theorem km_RX12_339 : Cond.methodLink RX12 339 yX12_prices ∈ ztbl := zmk7 198 (by decide +kernel) rfl
theorem km_RX12_342 : Cond.methodLink RX12 342 yX12_cellAfter ∈ ztbl := zmk7 211 (by decide +kernel) rfl
theorem km_RX12_345 : Cond.methodLink RX12 345 yX12_metAt ∈ ztbl := zmk7 227 (by decide +kernel) rfl
theorem km_RX12_348 : Cond.methodLink RX12 348 yX12_spreads ∈ ztbl := zmk7 223 (by decide +kernel) rfl
theorem km_RX12_351 : Cond.methodLink RX12 351 yX12_both ∈ ztbl := zmk7 231 (by decide +kernel) rfl
theorem km_RX12_354 : Cond.methodLink RX12 354 yX12_soon ∈ ztbl := zmk7 219 (by decide +kernel) rfl
theorem km_RX12_357 : Cond.methodLink RX12 357 yX12_puts ∈ ztbl := zmk8 7 (by decide +kernel) rfl
theorem km_RX12_360 : Cond.methodLink RX12 360 yX12_gainOf ∈ ztbl := zmk8 3 (by decide +kernel) rfl
theorem km_RX12_363 : Cond.methodLink RX12 363 yX12_isRest ∈ ztbl := zmk8 15 (by decide +kernel) rfl
theorem km_RX12_369 : Cond.methodLink RX12 369 yX12_sights ∈ ztbl := zmk8 23 (by decide +kernel) rfl
theorem km_RX12_372 : Cond.methodLink RX12 372 yX12_sightOf ∈ ztbl := zmk8 27 (by decide +kernel) rfl
theorem km_RX12_378 : Cond.methodLink RX12 378 yX12_adds0 ∈ ztbl := zmk8 39 (by decide +kernel) rfl
theorem km_RX12_381 : Cond.methodLink RX12 381 yX12_areSeen ∈ ztbl := zmk8 35 (by decide +kernel) rfl
theorem km_RX12_384 : Cond.methodLink RX12 384 yX12_allWays ∈ ztbl := zmk8 43 (by decide +kernel) rfl
theorem km_RX12_387 : Cond.methodLink RX12 387 yX12_fitting ∈ ztbl := zmk8 47 (by decide +kernel) rfl
theorem km_RX12_390 : Cond.methodLink RX12 390 yX12_aboard ∈ ztbl := zmk8 51 (by decide +kernel) rfl
theorem km_RX12_393 : Cond.methodLink RX12 393 yX12_bits ∈ ztbl := zmk8 55 (by decide +kernel) rfl
theorem km_RX12_399 : Cond.methodLink RX12 399 yX12_lowest ∈ ztbl := zmk8 74 (by decide +kernel) rfl
theorem km_RX12_402 : Cond.methodLink RX12 402 yX12_isKnown ∈ ztbl := zmk8 82 (by decide +kernel) rfl
theorem km_RX12_405 : Cond.methodLink RX12 405 yX12_counts ∈ ztbl := zmk8 70 (by decide +kernel) rfl
theorem km_RX12_408 : Cond.methodLink RX12 408 yX12_dig ∈ ztbl := zmk8 78 (by decide +kernel) rfl
theorem km_RX12_411 : Cond.methodLink RX12 411 yX12_worst ∈ ztbl := zmk8 90 (by decide +kernel) rfl
theorem km_RX12_414 : Cond.methodLink RX12 414 yX12_isNear ∈ ztbl := zmk8 98 (by decide +kernel) rfl
theorem km_RX12_418 : Cond.methodLink RX12 418 yX12_canLieOther ∈ ztbl := zmk8 102 (by decide +kernel) rfl
theorem km_RX12_426 : Cond.methodLink RX12 426 yX12_below ∈ ztbl := zmk8 110 (by decide +kernel) rfl
theorem km_RX12_429 : Cond.methodLink RX12 429 yX12_heaviest ∈ ztbl := zmk8 119 (by decide +kernel) rfl
theorem km_RX12_433 : Cond.methodLink RX12 433 yX12_keel ∈ ztbl := zmk8 123 (by decide +kernel) rfl
theorem km_RJ0_335 : Cond.methodLink RJ0 335 yJ0_coder_7d493 ∈ ztbl := zmk3 33 (by decide +kernel) rfl
theorem km_RJ0_492 : Cond.methodLink RJ0 492 yJ0_isLatin1_aae02 ∈ ztbl := zmk3 43 (by decide +kernel) rfl
theorem km_RJ0_495 : Cond.methodLink RJ0 495 yJ1_charAt_3b067 ∈ ztbl := zmk3 47 (by decide +kernel) rfl
theorem km_RJ0_498 : Cond.methodLink RJ0 498 yJ2_charAt_3b067 ∈ ztbl := zmk3 58 (by decide +kernel) rfl
theorem km_RJ0_1059 : Cond.methodLink RJ0 1059 yJ3_checkIndex_8e157 ∈ ztbl := zmk3 55 (by decide +kernel) rfl
theorem km_RJ1_9 : Cond.methodLink RJ1 9 yJ0_checkIndex_df160 ∈ ztbl := zmk3 50 (by decide +kernel) rfl
theorem km_RJ2_48 : Cond.methodLink RJ2 48 yJ2_length_9d52b ∈ ztbl := zmk3 64 (by decide +kernel) rfl
theorem km_RJ2_67 : Cond.methodLink RJ2 67 yJ2_checkIndex_2214a ∈ ztbl := zmk3 61 (by decide +kernel) rfl
theorem km_RJ2_71 : Cond.methodLink RJ2 71 yJ2_getChar_3b067 ∈ ztbl := zmk3 68 (by decide +kernel) rfl
theorem km_RJ2_414 : Cond.methodLink RJ2 414 yJ0_checkIndex_df160 ∈ ztbl := zmk3 67 (by decide +kernel) rfl
theorem kk_RX11_163 : Cond.constant RX11 163 (-1000000 : Int32) ∈ ztbl := zmk4 128 (by decide +kernel) rfl
theorem kk_RX0_131 : Cond.constant RX0 131 (1000000 : Int32) ∈ ztbl := zmk5 10 (by decide +kernel) rfl
theorem kk_RX1_127 : Cond.constant RX1 127 (1000000 : Int32) ∈ ztbl := zmk5 238 (by decide +kernel) rfl
theorem kk_RX2_33 : Cond.constant RX2 33 (1000000 : Int32) ∈ ztbl := zmk5 183 (by decide +kernel) rfl
theorem kk_RX4_193 : Cond.constant RX4 193 (1103515245 : Int32) ∈ ztbl := zmk5 224 (by decide +kernel) rfl
theorem kk_RX12_47 : Cond.constant RX12 47 (65536 : Int32) ∈ ztbl := zmk6 13 (by decide +kernel) rfl
theorem kk_RX12_313 : Cond.constant RX12 313 (-1000000 : Int32) ∈ ztbl := zmk7 153 (by decide +kernel) rfl
theorem kk_RX12_335 : Cond.constant RX12 335 (1000000 : Int32) ∈ ztbl := zmk7 202 (by decide +kernel) rfl
theorem kk_RX12_425 : Cond.constant RX12 425 (1103515245 : Int32) ∈ ztbl := zmk8 114 (by decide +kernel) rfl
theorem kk_RJ6_264 : Cond.constant RJ6 264 (65536 : Int32) ∈ ztbl := zmk5 159 (by decide +kernel) rfl
theorem kk_RJ6_265 : Cond.constant RJ6 265 (1431655765 : Int32) ∈ ztbl := zmk5 107 (by decide +kernel) rfl
theorem kk_RJ6_266 : Cond.constant RJ6 266 (858993459 : Int32) ∈ ztbl := zmk5 108 (by decide +kernel) rfl
theorem kk_RJ6_267 : Cond.constant RJ6 267 (252645135 : Int32) ∈ ztbl := zmk5 109 (by decide +kernel) rfl
theorem kk_RX12_59 : Cond.constantLong RX12 59 (1048576 : Int64) ∈ ztbl := zmk6 174 (by decide +kernel) rfl
theorem kk_RX12_86 : Cond.constantLong RX12 86 (32 : Int64) ∈ ztbl := zmk6 163 (by decide +kernel) rfl
theorem kk_RX12_88 : Cond.constantLong RX12 88 (96 : Int64) ∈ ztbl := zmk6 164 (by decide +kernel) rfl
theorem kc_X11_init : Cond.instanceMethod yX11_init ∈ ztbl ∧ Cond.code yX11_init cX11_init 2 none ∈ ztbl ∧ Cond.initialized yX11_init.cls ∈ ztbl := ⟨zmk1 25 (by decide +kernel) rfl, zmk1 26 (by decide +kernel) rfl, zmk1 1 (by decide +kernel) rfl⟩
theorem kc_X11_again : zCalV RX11 yX11_again cX11_again 2 (some (.boolean)) 1 := ⟨zmk3 232 (by decide +kernel) rfl, zmk3 233 (by decide +kernel) rfl, zmk3 234 (by decide +kernel) rfl, zmk1 1 (by decide +kernel) rfl, by decide, rfl, by decide +kernel, by decide +kernel, by decide +kernel⟩
theorem kc_X11_bail : zCalV RX11 yX11_bail cX11_bail 5 (some (.int)) 3 := ⟨zmk5 175 (by decide +kernel) rfl, zmk5 176 (by decide +kernel) rfl, zmk5 177 (by decide +kernel) rfl, zmk1 1 (by decide +kernel) rfl, by decide, rfl, by decide +kernel, by decide +kernel, by decide +kernel⟩
theorem kc_X11_corner : zCalV RX11 yX11_corner cX11_corner 7 (some (.int)) 4 := ⟨zmk5 112 (by decide +kernel) rfl, zmk5 113 (by decide +kernel) rfl, zmk5 114 (by decide +kernel) rfl, zmk1 1 (by decide +kernel) rfl, by decide, rfl, by decide +kernel, by decide +kernel, by decide +kernel⟩
theorem kc_X11_cost : zCalV RX11 yX11_cost cX11_cost 5 (some (.int)) 3 := ⟨zmk4 167 (by decide +kernel) rfl, zmk4 168 (by decide +kernel) rfl, zmk4 169 (by decide +kernel) rfl, zmk1 1 (by decide +kernel) rfl, by decide, rfl, by decide +kernel, by decide +kernel, by decide +kernel⟩
theorem kc_X11_count : zCalV RX11 yX11_count cX11_count 2 (some (.int)) 1 := ⟨zmk3 219 (by decide +kernel) rfl, zmk3 220 (by decide +kernel) rfl, zmk3 221 (by decide +kernel) rfl, zmk1 1 (by decide +kernel) rfl, by decide, rfl, by decide +kernel, by decide +kernel, by decide +kernel⟩
theorem kc_X11_dead : zCalV RX11 yX11_dead cX11_dead 3 (some (.int)) 2 := ⟨zmk3 211 (by decide +kernel) rfl, zmk3 212 (by decide +kernel) rfl, zmk3 213 (by decide +kernel) rfl, zmk1 1 (by decide +kernel) rfl, by decide, rfl, by decide +kernel, by decide +kernel, by decide +kernel⟩
theorem kc_X11_deed : zCalV RX11 yX11_deed cX11_deed 4 (some (.int)) 3 := ⟨zmk3 191 (by decide +kernel) rfl, zmk3 192 (by decide +kernel) rfl, zmk3 193 (by decide +kernel) rfl, zmk1 1 (by decide +kernel) rfl, by decide, rfl, by decide +kernel, by decide +kernel, by decide +kernel⟩
theorem kc_X11_drawn : zCalV RX11 yX11_drawn cX11_drawn 6 (some (.int)) 4 := ⟨zmk5 214 (by decide +kernel) rfl, zmk5 215 (by decide +kernel) rfl, zmk5 216 (by decide +kernel) rfl, zmk1 1 (by decide +kernel) rfl, by decide, rfl, by decide +kernel, by decide +kernel, by decide +kernel⟩
theorem kc_X11_drift : zCalV RX11 yX11_drift cX11_drift 5 (some (.int)) 4 := ⟨zmk4 131 (by decide +kernel) rfl, zmk4 132 (by decide +kernel) rfl, zmk4 133 (by decide +kernel) rfl, zmk1 1 (by decide +kernel) rfl, by decide, rfl, by decide +kernel, by decide +kernel, by decide +kernel⟩
theorem kc_X11_end : zCalV RX11 yX11_end cX11_end 2 (some (.int)) 1 := ⟨zmk2 209 (by decide +kernel) rfl, zmk2 210 (by decide +kernel) rfl, zmk2 211 (by decide +kernel) rfl, zmk1 1 (by decide +kernel) rfl, by decide, rfl, by decide +kernel, by decide +kernel, by decide +kernel⟩
theorem kc_X11_fault : zCalV RX11 yX11_fault cX11_fault 2 (some (.int)) 1 := ⟨zmk3 174 (by decide +kernel) rfl, zmk3 175 (by decide +kernel) rfl, zmk3 176 (by decide +kernel) rfl, zmk1 1 (by decide +kernel) rfl, by decide, rfl, by decide +kernel, by decide +kernel, by decide +kernel⟩
theorem kc_X11_feed : zCalV RX11 yX11_feed cX11_feed 6 (some (.int)) 5 := ⟨zmk2 201 (by decide +kernel) rfl, zmk2 202 (by decide +kernel) rfl, zmk2 203 (by decide +kernel) rfl, zmk1 1 (by decide +kernel) rfl, by decide, rfl, by decide +kernel, by decide +kernel, by decide +kernel⟩
theorem kc_X11_gain : zCalV RX11 yX11_gain cX11_gain 6 (some (.int)) 4 := ⟨zmk5 60 (by decide +kernel) rfl, zmk5 61 (by decide +kernel) rfl, zmk5 62 (by decide +kernel) rfl, zmk1 1 (by decide +kernel) rfl, by decide, rfl, by decide +kernel, by decide +kernel, by decide +kernel⟩
theorem kc_X11_goes : zCalV RX11 yX11_goes cX11_goes 5 (some (.int)) 4 := ⟨zmk4 136 (by decide +kernel) rfl, zmk4 137 (by decide +kernel) rfl, zmk4 138 (by decide +kernel) rfl, zmk1 1 (by decide +kernel) rfl, by decide, rfl, by decide +kernel, by decide +kernel, by decide +kernel⟩
theorem kc_X11_image : zCalV RX11 yX11_image cX11_image 2 (some (.boolean)) 1 := ⟨zmk3 223 (by decide +kernel) rfl, zmk3 224 (by decide +kernel) rfl, zmk3 225 (by decide +kernel) rfl, zmk1 1 (by decide +kernel) rfl, by decide, rfl, by decide +kernel, by decide +kernel, by decide +kernel⟩
theorem kc_X11_isIn : zCalS yX11_isIn cX11_isIn 2 (some (.boolean)) 2 := ⟨zmk3 110 (by decide +kernel) rfl, zmk3 111 (by decide +kernel) rfl, zmk1 1 (by decide +kernel) rfl, by decide, by decide +kernel, by decide +kernel, by decide +kernel⟩
theorem kc_X11_lake : zCalV RX11 yX11_lake cX11_lake 4 (some (.int)) 2 := ⟨zmk3 178 (by decide +kernel) rfl, zmk3 179 (by decide +kernel) rfl, zmk3 180 (by decide +kernel) rfl, zmk1 1 (by decide +kernel) rfl, by decide, rfl, by decide +kernel, by decide +kernel, by decide +kernel⟩
theorem kc_X11_lies : zCalV RX11 yX11_lies cX11_lies 4 (some (.int)) 2 := ⟨zmk5 120 (by decide +kernel) rfl, zmk5 121 (by decide +kernel) rfl, zmk5 122 (by decide +kernel) rfl, zmk1 1 (by decide +kernel) rfl, by decide, rfl, by decide +kernel, by decide +kernel, by decide +kernel⟩
theorem kc_X11_list : zCalV RX11 yX11_list cX11_list 5 (some (.int)) 4 := ⟨zmk4 125 (by decide +kernel) rfl, zmk4 126 (by decide +kernel) rfl, zmk4 127 (by decide +kernel) rfl, zmk1 1 (by decide +kernel) rfl, by decide, rfl, by decide +kernel, by decide +kernel, by decide +kernel⟩
theorem kc_X11_meet : zCalV RX11 yX11_meet cX11_meet 7 (some (.int)) 3 := ⟨zmk5 203 (by decide +kernel) rfl, zmk5 204 (by decide +kernel) rfl, zmk5 205 (by decide +kernel) rfl, zmk1 1 (by decide +kernel) rfl, by decide, rfl, by decide +kernel, by decide +kernel, by decide +kernel⟩
theorem kc_X11_owed : zCalV RX11 yX11_owed cX11_owed 6 (some (.int)) 4 := ⟨zmk4 152 (by decide +kernel) rfl, zmk4 153 (by decide +kernel) rfl, zmk4 154 (by decide +kernel) rfl, zmk1 1 (by decide +kernel) rfl, by decide, rfl, by decide +kernel, by decide +kernel, by decide +kernel⟩
theorem kc_X11_pull : zCalV RX11 yX11_pull cX11_pull 5 (some (.int)) 3 := ⟨zmk5 26 (by decide +kernel) rfl, zmk5 27 (by decide +kernel) rfl, zmk5 28 (by decide +kernel) rfl, zmk1 1 (by decide +kernel) rfl, by decide, rfl, by decide +kernel, by decide +kernel, by decide +kernel⟩
theorem kc_X11_reach : zCalV RX11 yX11_reach cX11_reach 7 (some (.int)) 4 := ⟨zmk4 202 (by decide +kernel) rfl, zmk4 203 (by decide +kernel) rfl, zmk4 204 (by decide +kernel) rfl, zmk1 1 (by decide +kernel) rfl, by decide, rfl, by decide +kernel, by decide +kernel, by decide +kernel⟩
theorem kc_X11_rowOf : zCalS yX11_rowOf cX11_rowOf 4 (some (.int)) 4 := ⟨zmk3 199 (by decide +kernel) rfl, zmk3 200 (by decide +kernel) rfl, zmk1 1 (by decide +kernel) rfl, by decide, by decide +kernel, by decide +kernel, by decide +kernel⟩
theorem kc_X11_sailTo : zCalV RX11 yX11_sailTo cX11_sailTo 7 (some (.boolean)) 3 := ⟨zmk4 114 (by decide +kernel) rfl, zmk0 31 (by decide +kernel) rfl, zmk4 115 (by decide +kernel) rfl, zmk1 1 (by decide +kernel) rfl, by decide, rfl, by decide +kernel, by decide +kernel, by decide +kernel⟩
theorem kc_X11_sends : zCalV RX11 yX11_sends cX11_sends 4 (some (.int)) 2 := ⟨zmk4 235 (by decide +kernel) rfl, zmk4 236 (by decide +kernel) rfl, zmk4 237 (by decide +kernel) rfl, zmk1 1 (by decide +kernel) rfl, by decide, rfl, by decide +kernel, by decide +kernel, by decide +kernel⟩
theorem kc_X11_sight : zCalV RX11 yX11_sight cX11_sight 4 (some (.int)) 3 := ⟨zmk3 207 (by decide +kernel) rfl, zmk3 208 (by decide +kernel) rfl, zmk3 209 (by decide +kernel) rfl, zmk1 1 (by decide +kernel) rfl, by decide, rfl, by decide +kernel, by decide +kernel, by decide +kernel⟩
theorem kc_X11_state : zCalV RX11 yX11_state cX11_state 5 (some (.int)) 4 := ⟨zmk4 109 (by decide +kernel) rfl, zmk4 110 (by decide +kernel) rfl, zmk4 111 (by decide +kernel) rfl, zmk1 1 (by decide +kernel) rfl, by decide, rfl, by decide +kernel, by decide +kernel, by decide +kernel⟩
theorem kc_X11_stood : zCalV RX11 yX11_stood cX11_stood 6 (some (.int)) 3 := ⟨zmk5 65 (by decide +kernel) rfl, zmk5 66 (by decide +kernel) rfl, zmk5 67 (by decide +kernel) rfl, zmk1 1 (by decide +kernel) rfl, by decide, rfl, by decide +kernel, by decide +kernel, by decide +kernel⟩
theorem kc_X11_stop : zCalV RX11 yX11_stop cX11_stop 6 (some (.int)) 2 := ⟨zmk3 236 (by decide +kernel) rfl, zmk3 237 (by decide +kernel) rfl, zmk3 238 (by decide +kernel) rfl, zmk1 1 (by decide +kernel) rfl, by decide, rfl, by decide +kernel, by decide +kernel, by decide +kernel⟩
theorem kc_X11_term : zCalV RX11 yX11_term cX11_term 4 (some (.int)) 3 := ⟨zmk3 215 (by decide +kernel) rfl, zmk3 216 (by decide +kernel) rfl, zmk3 217 (by decide +kernel) rfl, zmk1 1 (by decide +kernel) rfl, by decide, rfl, by decide +kernel, by decide +kernel, by decide +kernel⟩
theorem kc_X11_text : zCalV RX11 yX11_text cX11_text 4 (some (.int)) 2 := ⟨zmk2 213 (by decide +kernel) rfl, zmk2 214 (by decide +kernel) rfl, zmk2 215 (by decide +kernel) rfl, zmk1 1 (by decide +kernel) rfl, by decide, rfl, by decide +kernel, by decide +kernel, by decide +kernel⟩
theorem kc_X11_thrift : zCalV RX11 yX11_thrift cX11_thrift 5 (some (.int)) 3 := ⟨zmk5 18 (by decide +kernel) rfl, zmk5 19 (by decide +kernel) rfl, zmk5 20 (by decide +kernel) rfl, zmk1 1 (by decide +kernel) rfl, by decide, rfl, by decide +kernel, by decide +kernel, by decide +kernel⟩
theorem kc_X11_trim : zCalV RX11 yX11_trim cX11_trim 4 (some (.int)) 2 := ⟨zmk5 226 (by decide +kernel) rfl, zmk5 227 (by decide +kernel) rfl, zmk5 228 (by decide +kernel) rfl, zmk1 1 (by decide +kernel) rfl, by decide, rfl, by decide +kernel, by decide +kernel, by decide +kernel⟩
theorem kc_X0_init : Cond.instanceMethod yX0_init ∈ ztbl ∧ Cond.code yX0_init cX0_init 2 none ∈ ztbl ∧ Cond.initialized yX0_init.cls ∈ ztbl := ⟨zmk2 49 (by decide +kernel) rfl, zmk2 50 (by decide +kernel) rfl, zmk1 9 (by decide +kernel) rfl⟩
theorem kc_X0_cellOf : zCalS yX0_cellOf cX0_cellOf 2 (some (.int)) 2 := ⟨zmk4 216 (by decide +kernel) rfl, zmk4 217 (by decide +kernel) rfl, zmk1 9 (by decide +kernel) rfl, by decide, by decide +kernel, by decide +kernel, by decide +kernel⟩
theorem kc_X0_cellsReached : zCalV RX0 yX0_cellsReached cX0_cellsReached 3 (some (.int)) 0 := ⟨zmk4 227 (by decide +kernel) rfl, zmk4 228 (by decide +kernel) rfl, zmk4 229 (by decide +kernel) rfl, zmk1 9 (by decide +kernel) rfl, by decide, rfl, by decide +kernel, by decide +kernel, by decide +kernel⟩
theorem kc_X0_chart : zCalV RX0 yX0_chart cX0_chart 8 none 1 := ⟨zmk4 207 (by decide +kernel) rfl, zmk4 208 (by decide +kernel) rfl, zmk4 209 (by decide +kernel) rfl, zmk1 9 (by decide +kernel) rfl, by decide, rfl, by decide +kernel, by decide +kernel, by decide +kernel⟩
theorem kc_X0_driftOf : zCalS yX0_driftOf cX0_driftOf 2 (some (.int)) 2 := ⟨zmk4 199 (by decide +kernel) rfl, zmk4 200 (by decide +kernel) rfl, zmk1 9 (by decide +kernel) rfl, by decide, by decide +kernel, by decide +kernel, by decide +kernel⟩
theorem kc_X0_findLeans : zCalV RX0 yX0_findLeans cX0_findLeans 13 none 2 := ⟨zmk4 176 (by decide +kernel) rfl, zmk0 33 (by decide +kernel) rfl, zmk4 177 (by decide +kernel) rfl, zmk1 9 (by decide +kernel) rfl, by decide, rfl, by decide +kernel, by decide +kernel, by decide +kernel⟩
theorem kc_X0_findLeast : zCalV RX0 yX0_findLeast cX0_findLeast 7 none 2 := ⟨zmk5 8 (by decide +kernel) rfl, zmk0 36 (by decide +kernel) rfl, zmk5 9 (by decide +kernel) rfl, zmk1 9 (by decide +kernel) rfl, by decide, rfl, by decide +kernel, by decide +kernel, by decide +kernel⟩
theorem kc_X0_goOn : zCalV RX0 yX0_goOn cX0_goOn 9 (some (.boolean)) 2 := ⟨zmk5 13 (by decide +kernel) rfl, zmk0 37 (by decide +kernel) rfl, zmk5 14 (by decide +kernel) rfl, zmk1 9 (by decide +kernel) rfl, by decide, rfl, by decide +kernel, by decide +kernel, by decide +kernel⟩
theorem kc_X0_idleMourners : zCalV RX0 yX0_idleMourners cX0_idleMourners 5 (some (.int)) 1 := ⟨zmk4 239 (by decide +kernel) rfl, zmk5 0 (by decide +kernel) rfl, zmk5 1 (by decide +kernel) rfl, zmk1 9 (by decide +kernel) rfl, by decide, rfl, by decide +kernel, by decide +kernel, by decide +kernel⟩
theorem kc_X0_isReached : zCalV RX0 yX0_isReached cX0_isReached 3 (some (.boolean)) 2 := ⟨zmk4 231 (by decide +kernel) rfl, zmk4 232 (by decide +kernel) rfl, zmk4 233 (by decide +kernel) rfl, zmk1 9 (by decide +kernel) rfl, by decide, rfl, by decide +kernel, by decide +kernel, by decide +kernel⟩
theorem kc_X0_leastToLie : zCalV RX0 yX0_leastToLie cX0_leastToLie 6 (some (.int)) 3 := ⟨zmk5 22 (by decide +kernel) rfl, zmk5 23 (by decide +kernel) rfl, zmk5 24 (by decide +kernel) rfl, zmk1 9 (by decide +kernel) rfl, by decide, rfl, by decide +kernel, by decide +kernel, by decide +kernel⟩
theorem kc_X0_leastToTouch : zCalV RX0 yX0_leastToTouch cX0_leastToTouch 5 (some (.int)) 2 := ⟨zmk5 3 (by decide +kernel) rfl, zmk5 4 (by decide +kernel) rfl, zmk5 5 (by decide +kernel) rfl, zmk1 9 (by decide +kernel) rfl, by decide, rfl, by decide +kernel, by decide +kernel, by decide +kernel⟩
theorem kc_X0_lowerPrices : zCalV RX0 yX0_lowerPrices cX0_lowerPrices 5 none 2 := ⟨zmk4 192 (by decide +kernel) rfl, zmk0 35 (by decide +kernel) rfl, zmk4 193 (by decide +kernel) rfl, zmk1 9 (by decide +kernel) rfl, by decide, rfl, by decide +kernel, by decide +kernel, by decide +kernel⟩
theorem kc_X0_priceOf : zCalV RX0 yX0_priceOf cX0_priceOf 3 (some (.int)) 2 := ⟨zmk4 195 (by decide +kernel) rfl, zmk4 196 (by decide +kernel) rfl, zmk4 197 (by decide +kernel) rfl, zmk1 9 (by decide +kernel) rfl, by decide, rfl, by decide +kernel, by decide +kernel, by decide +kernel⟩
theorem kc_X0_priceWithout : zCalV RX0 yX0_priceWithout cX0_priceWithout 5 none 2 := ⟨zmk4 184 (by decide +kernel) rfl, zmk0 34 (by decide +kernel) rfl, zmk4 185 (by decide +kernel) rfl, zmk1 9 (by decide +kernel) rfl, by decide, rfl, by decide +kernel, by decide +kernel, by decide +kernel⟩
theorem kc_X0_spread : zCalV RX0 yX0_spread cX0_spread 5 none 2 := ⟨zmk4 219 (by decide +kernel) rfl, zmk4 220 (by decide +kernel) rfl, zmk4 221 (by decide +kernel) rfl, zmk1 9 (by decide +kernel) rfl, by decide, rfl, by decide +kernel, by decide +kernel, by decide +kernel⟩
theorem kc_X0_startOf : zCalS yX0_startOf cX0_startOf 1 (some (.int)) 1 := ⟨zmk4 223 (by decide +kernel) rfl, zmk4 224 (by decide +kernel) rfl, zmk1 9 (by decide +kernel) rfl, by decide, by decide +kernel, by decide +kernel, by decide +kernel⟩
theorem kc_X0_tearsOf : zCalS yX0_tearsOf cX0_tearsOf 4 (some (.int)) 2 := ⟨zmk4 187 (by decide +kernel) rfl, zmk4 188 (by decide +kernel) rfl, zmk1 9 (by decide +kernel) rfl, by decide, by decide +kernel, by decide +kernel, by decide +kernel⟩
theorem kc_X0_weigh : zCalV RX0 yX0_weigh cX0_weigh 2 none 1 := ⟨zmk4 171 (by decide +kernel) rfl, zmk4 172 (by decide +kernel) rfl, zmk4 173 (by decide +kernel) rfl, zmk1 9 (by decide +kernel) rfl, by decide, rfl, by decide +kernel, by decide +kernel, by decide +kernel⟩
theorem kc_X1_init : Cond.instanceMethod yX1_init ∈ ztbl ∧ Cond.code yX1_init cX1_init 1 none ∈ ztbl ∧ Cond.initialized yX1_init.cls ∈ ztbl := ⟨zmk1 42 (by decide +kernel) rfl, zmk1 43 (by decide +kernel) rfl, zmk1 3 (by decide +kernel) rfl⟩
theorem kc_X1_answer : zCalV RX1 yX1_answer cX1_answer 3 (some (.int)) 1 := ⟨zmk3 186 (by decide +kernel) rfl, zmk3 187 (by decide +kernel) rfl, zmk3 188 (by decide +kernel) rfl, zmk1 3 (by decide +kernel) rfl, by decide, rfl, by decide +kernel, by decide +kernel, by decide +kernel⟩
theorem kc_X1_arm : zCalV RX1 yX1_arm cX1_arm 3 (some (.int)) 2 := ⟨zmk1 93 (by decide +kernel) rfl, zmk1 94 (by decide +kernel) rfl, zmk1 95 (by decide +kernel) rfl, zmk1 3 (by decide +kernel) rfl, by decide, rfl, by decide +kernel, by decide +kernel, by decide +kernel⟩
theorem kc_X1_floats : zCalV RX1 yX1_floats cX1_floats 4 (some (.boolean)) 3 := ⟨zmk4 101 (by decide +kernel) rfl, zmk4 102 (by decide +kernel) rfl, zmk4 103 (by decide +kernel) rfl, zmk1 3 (by decide +kernel) rfl, by decide, rfl, by decide +kernel, by decide +kernel, by decide +kernel⟩
theorem kc_X1_forget : zCalV RX1 yX1_forget cX1_forget 1 none 0 := ⟨zmk1 75 (by decide +kernel) rfl, zmk1 76 (by decide +kernel) rfl, zmk1 77 (by decide +kernel) rfl, zmk1 3 (by decide +kernel) rfl, by decide, rfl, by decide +kernel, by decide +kernel, by decide +kernel⟩
theorem kc_X1_graveList : zCalV RX1 yX1_graveList cX1_graveList 2 (some (.int)) 1 := ⟨zmk4 66 (by decide +kernel) rfl, zmk4 67 (by decide +kernel) rfl, zmk4 68 (by decide +kernel) rfl, zmk1 3 (by decide +kernel) rfl, by decide, rfl, by decide +kernel, by decide +kernel, by decide +kernel⟩
theorem kc_X1_graveWeight : zCalV RX1 yX1_graveWeight cX1_graveWeight 3 (some (.int)) 0 := ⟨zmk4 160 (by decide +kernel) rfl, zmk4 161 (by decide +kernel) rfl, zmk4 162 (by decide +kernel) rfl, zmk1 3 (by decide +kernel) rfl, by decide, rfl, by decide +kernel, by decide +kernel, by decide +kernel⟩
theorem kc_X1_hasCell : zCalV RX1 yX1_hasCell cX1_hasCell 3 (some (.boolean)) 2 := ⟨zmk3 150 (by decide +kernel) rfl, zmk3 151 (by decide +kernel) rfl, zmk3 152 (by decide +kernel) rfl, zmk1 3 (by decide +kernel) rfl, by decide, rfl, by decide +kernel, by decide +kernel, by decide +kernel⟩
theorem kc_X1_hasNoPlaceFor : zCalV RX1 yX1_hasNoPlaceFor cX1_hasNoPlaceFor 3 (some (.boolean)) 1 := ⟨zmk3 143 (by decide +kernel) rfl, zmk0 18 (by decide +kernel) rfl, zmk3 144 (by decide +kernel) rfl, zmk1 3 (by decide +kernel) rfl, by decide, rfl, by decide +kernel, by decide +kernel, by decide +kernel⟩
theorem kc_X1_hasRockUnder : zCalV RX1 yX1_hasRockUnder cX1_hasRockUnder 6 (some (.boolean)) 3 := ⟨zmk3 155 (by decide +kernel) rfl, zmk0 19 (by decide +kernel) rfl, zmk3 156 (by decide +kernel) rfl, zmk1 3 (by decide +kernel) rfl, by decide, rfl, by decide +kernel, by decide +kernel, by decide +kernel⟩
theorem kc_X1_heaviestLine : zCalV RX1 yX1_heaviestLine cX1_heaviestLine 7 (some (.int)) 1 := ⟨zmk5 230 (by decide +kernel) rfl, zmk5 231 (by decide +kernel) rfl, zmk5 232 (by decide +kernel) rfl, zmk1 3 (by decide +kernel) rfl, by decide, rfl, by decide +kernel, by decide +kernel, by decide +kernel⟩
theorem kc_X1_keel : zCalV RX1 yX1_keel cX1_keel 5 (some (.int)) 0 := ⟨zmk5 235 (by decide +kernel) rfl, zmk5 236 (by decide +kernel) rfl, zmk5 237 (by decide +kernel) rfl, zmk1 3 (by decide +kernel) rfl, by decide, rfl, by decide +kernel, by decide +kernel, by decide +kernel⟩
theorem kc_X1_lean : zCalV RX1 yX1_lean cX1_lean 2 (some (.int)) 1 := ⟨zmk4 72 (by decide +kernel) rfl, zmk4 73 (by decide +kernel) rfl, zmk4 74 (by decide +kernel) rfl, zmk1 3 (by decide +kernel) rfl, by decide, rfl, by decide +kernel, by decide +kernel, by decide +kernel⟩
theorem kc_X1_lineOf : zCalV RX1 yX1_lineOf cX1_lineOf 3 (some (.int)) 2 := ⟨zmk5 81 (by decide +kernel) rfl, zmk5 82 (by decide +kernel) rfl, zmk5 83 (by decide +kernel) rfl, zmk1 3 (by decide +kernel) rfl, by decide, rfl, by decide +kernel, by decide +kernel, by decide +kernel⟩
theorem kc_X1_lines : zCalV RX1 yX1_lines cX1_lines 2 (some (.int)) 1 := ⟨zmk4 12 (by decide +kernel) rfl, zmk4 13 (by decide +kernel) rfl, zmk4 14 (by decide +kernel) rfl, zmk1 3 (by decide +kernel) rfl, by decide, rfl, by decide +kernel, by decide +kernel, by decide +kernel⟩
theorem kc_X1_places : zCalV RX1 yX1_places cX1_places 1 (some (.int)) 0 := ⟨zmk3 146 (by decide +kernel) rfl, zmk3 147 (by decide +kernel) rfl, zmk3 148 (by decide +kernel) rfl, zmk1 3 (by decide +kernel) rfl, by decide, rfl, by decide +kernel, by decide +kernel, by decide +kernel⟩
theorem kc_X1_rowsOf : zCalV RX1 yX1_rowsOf cX1_rowsOf 2 (some (.object "GraveRegatta$Rows")) 1 := ⟨zmk3 125 (by decide +kernel) rfl, zmk3 126 (by decide +kernel) rfl, zmk3 127 (by decide +kernel) rfl, zmk1 3 (by decide +kernel) rfl, by decide, rfl, by decide +kernel, by decide +kernel, by decide +kernel⟩
theorem kc_X1_settle : zCalV RX1 yX1_settle cX1_settle 3 none 0 := ⟨zmk1 84 (by decide +kernel) rfl, zmk1 85 (by decide +kernel) rfl, zmk1 86 (by decide +kernel) rfl, zmk1 3 (by decide +kernel) rfl, by decide, rfl, by decide +kernel, by decide +kernel, by decide +kernel⟩
theorem kc_X1_surrounds : zCalV RX1 yX1_surrounds cX1_surrounds 4 (some (.boolean)) 3 := ⟨zmk3 138 (by decide +kernel) rfl, zmk3 139 (by decide +kernel) rfl, zmk3 140 (by decide +kernel) rfl, zmk1 3 (by decide +kernel) rfl, by decide, rfl, by decide +kernel, by decide +kernel, by decide +kernel⟩
theorem kc_X1_takeFrom : zCalV RX1 yX1_takeFrom cX1_takeFrom 2 none 1 := ⟨zmk3 162 (by decide +kernel) rfl, zmk3 163 (by decide +kernel) rfl, zmk3 164 (by decide +kernel) rfl, zmk1 3 (by decide +kernel) rfl, by decide, rfl, by decide +kernel, by decide +kernel, by decide +kernel⟩
theorem kc_X1_tiltWith : zCalV RX1 yX1_tiltWith cX1_tiltWith 3 (some (.int)) 2 := ⟨zmk6 1 (by decide +kernel) rfl, zmk0 47 (by decide +kernel) rfl, zmk6 2 (by decide +kernel) rfl, zmk1 3 (by decide +kernel) rfl, by decide, rfl, by decide +kernel, by decide +kernel, by decide +kernel⟩
theorem kc_X1_trimOf : zCalV RX1 yX1_trimOf cX1_trimOf 7 (some (.int)) 1 := ⟨zmk6 4 (by decide +kernel) rfl, zmk6 5 (by decide +kernel) rfl, zmk6 6 (by decide +kernel) rfl, zmk1 3 (by decide +kernel) rfl, by decide, rfl, by decide +kernel, by decide +kernel, by decide +kernel⟩
theorem kc_X1_wholeFault : zCalV RX1 yX1_wholeFault cX1_wholeFault 2 (some (.int)) 0 := ⟨zmk3 134 (by decide +kernel) rfl, zmk3 135 (by decide +kernel) rfl, zmk3 136 (by decide +kernel) rfl, zmk1 3 (by decide +kernel) rfl, by decide, rfl, by decide +kernel, by decide +kernel, by decide +kernel⟩
theorem kc_X1_wreathSizes : zCalV RX1 yX1_wreathSizes cX1_wreathSizes 1 (some (.int)) 0 := ⟨zmk4 89 (by decide +kernel) rfl, zmk4 90 (by decide +kernel) rfl, zmk4 91 (by decide +kernel) rfl, zmk1 3 (by decide +kernel) rfl, by decide, rfl, by decide +kernel, by decide +kernel, by decide +kernel⟩
theorem kc_X2_init : Cond.instanceMethod yX2_init ∈ ztbl ∧ Cond.code yX2_init cX2_init 1 none ∈ ztbl ∧ Cond.initialized yX2_init.cls ∈ ztbl := ⟨zmk2 145 (by decide +kernel) rfl, zmk2 146 (by decide +kernel) rfl, zmk1 13 (by decide +kernel) rfl⟩
theorem kc_X2_bailOne : zCalV RX2 yX2_bailOne cX2_bailOne 5 none 3 := ⟨zmk5 196 (by decide +kernel) rfl, zmk0 46 (by decide +kernel) rfl, zmk5 197 (by decide +kernel) rfl, zmk1 13 (by decide +kernel) rfl, by decide, rfl, by decide +kernel, by decide +kernel, by decide +kernel⟩
theorem kc_X2_leakBailed : zCalV RX2 yX2_leakBailed cX2_leakBailed 2 (some (.int)) 1 := ⟨zmk5 199 (by decide +kernel) rfl, zmk5 200 (by decide +kernel) rfl, zmk5 201 (by decide +kernel) rfl, zmk1 13 (by decide +kernel) rfl, by decide, rfl, by decide +kernel, by decide +kernel, by decide +kernel⟩
theorem kc_X2_letIn : zCalV RX2 yX2_letIn cX2_letIn 5 (some (.int)) 2 := ⟨zmk5 190 (by decide +kernel) rfl, zmk0 45 (by decide +kernel) rfl, zmk5 191 (by decide +kernel) rfl, zmk1 13 (by decide +kernel) rfl, by decide, rfl, by decide +kernel, by decide +kernel, by decide +kernel⟩
theorem kc_X2_plan : zCalV RX2 yX2_plan cX2_plan 4 none 2 := ⟨zmk5 179 (by decide +kernel) rfl, zmk5 180 (by decide +kernel) rfl, zmk5 181 (by decide +kernel) rfl, zmk1 13 (by decide +kernel) rfl, by decide, rfl, by decide +kernel, by decide +kernel, by decide +kernel⟩
theorem kc_X2_tryHour : zCalS yX2_tryHour cX2_tryHour 6 none 4 := ⟨zmk5 185 (by decide +kernel) rfl, zmk5 186 (by decide +kernel) rfl, zmk1 13 (by decide +kernel) rfl, by decide, by decide +kernel, by decide +kernel, by decide +kernel⟩
theorem kc_X3_init : Cond.instanceMethod yX3_init ∈ ztbl ∧ Cond.code yX3_init cX3_init 1 none ∈ ztbl ∧ Cond.initialized yX3_init.cls ∈ ztbl := ⟨zmk2 82 (by decide +kernel) rfl, zmk2 83 (by decide +kernel) rfl, zmk1 10 (by decide +kernel) rfl⟩
theorem kc_X3_atRest : zCalV RX3 yX3_atRest cX3_atRest 3 (some (.int)) 0 := ⟨zmk5 44 (by decide +kernel) rfl, zmk5 45 (by decide +kernel) rfl, zmk5 46 (by decide +kernel) rfl, zmk1 10 (by decide +kernel) rfl, by decide, rfl, by decide +kernel, by decide +kernel, by decide +kernel⟩
theorem kc_X3_board : zCalS yX3_board cX3_board 6 (some (.int)) 4 := ⟨zmk5 35 (by decide +kernel) rfl, zmk5 36 (by decide +kernel) rfl, zmk1 10 (by decide +kernel) rfl, by decide, by decide +kernel, by decide +kernel, by decide +kernel⟩
theorem kc_X3_gainOf : zCalV RX3 yX3_gainOf cX3_gainOf 3 (some (.int)) 2 := ⟨zmk5 52 (by decide +kernel) rfl, zmk5 53 (by decide +kernel) rfl, zmk5 54 (by decide +kernel) rfl, zmk1 10 (by decide +kernel) rfl, by decide, rfl, by decide +kernel, by decide +kernel, by decide +kernel⟩
theorem kc_X3_hear : zCalV RX3 yX3_hear cX3_hear 9 none 3 := ⟨zmk5 30 (by decide +kernel) rfl, zmk5 31 (by decide +kernel) rfl, zmk5 32 (by decide +kernel) rfl, zmk1 10 (by decide +kernel) rfl, by decide, rfl, by decide +kernel, by decide +kernel, by decide +kernel⟩
theorem kc_X3_restAt : zCalV RX3 yX3_restAt cX3_restAt 4 (some (.int)) 1 := ⟨zmk5 56 (by decide +kernel) rfl, zmk5 57 (by decide +kernel) rfl, zmk5 58 (by decide +kernel) rfl, zmk1 10 (by decide +kernel) rfl, by decide, rfl, by decide +kernel, by decide +kernel, by decide +kernel⟩
theorem kc_X3_rests : zCalV RX3 yX3_rests cX3_rests 5 (some (.boolean)) 1 := ⟨zmk5 49 (by decide +kernel) rfl, zmk0 38 (by decide +kernel) rfl, zmk5 50 (by decide +kernel) rfl, zmk1 10 (by decide +kernel) rfl, by decide, rfl, by decide +kernel, by decide +kernel, by decide +kernel⟩
theorem kc_X4_init : Cond.instanceMethod yX4_init ∈ ztbl ∧ Cond.code yX4_init cX4_init 2 none ∈ ztbl ∧ Cond.initialized yX4_init.cls ∈ ztbl := ⟨zmk1 229 (by decide +kernel) rfl, zmk1 230 (by decide +kernel) rfl, zmk1 8 (by decide +kernel) rfl⟩
theorem kc_X4_afterSeed : zCalS yX4_afterSeed cX4_afterSeed 1 (some (.int)) 1 := ⟨zmk5 222 (by decide +kernel) rfl, zmk5 223 (by decide +kernel) rfl, zmk1 8 (by decide +kernel) rfl, by decide, by decide +kernel, by decide +kernel, by decide +kernel⟩
theorem kc_X4_allWater : zCalV RX4 yX4_allWater cX4_allWater 3 (some (.int)) 0 := ⟨zmk4 106 (by decide +kernel) rfl, zmk0 30 (by decide +kernel) rfl, zmk4 107 (by decide +kernel) rfl, zmk1 8 (by decide +kernel) rfl, by decide, rfl, by decide +kernel, by decide +kernel, by decide +kernel⟩
theorem kc_X4_answer : zCalV RX4 yX4_answer cX4_answer 2 (some (.int)) 1 := ⟨zmk4 117 (by decide +kernel) rfl, zmk4 118 (by decide +kernel) rfl, zmk4 119 (by decide +kernel) rfl, zmk1 8 (by decide +kernel) rfl, by decide, rfl, by decide +kernel, by decide +kernel, by decide +kernel⟩
theorem kc_X4_answerOfOne : zCalV RX4 yX4_answerOfOne cX4_answerOfOne 2 (some (.int)) 1 := ⟨zmk4 122 (by decide +kernel) rfl, zmk0 32 (by decide +kernel) rfl, zmk4 123 (by decide +kernel) rfl, zmk1 8 (by decide +kernel) rfl, by decide, rfl, by decide +kernel, by decide +kernel, by decide +kernel⟩
theorem kc_X4_axisOf : zCalS yX4_axisOf cX4_axisOf 1 (some (.int)) 1 := ⟨zmk4 86 (by decide +kernel) rfl, zmk4 87 (by decide +kernel) rfl, zmk1 8 (by decide +kernel) rfl, by decide, by decide +kernel, by decide +kernel, by decide +kernel⟩
theorem kc_X4_blown : zCalV RX4 yX4_blown cX4_blown 4 (some (.int)) 3 := ⟨zmk4 83 (by decide +kernel) rfl, zmk0 29 (by decide +kernel) rfl, zmk4 84 (by decide +kernel) rfl, zmk1 8 (by decide +kernel) rfl, by decide, rfl, by decide +kernel, by decide +kernel, by decide +kernel⟩
theorem kc_X4_calms : zCalV RX4 yX4_calms cX4_calms 1 (some (.boolean)) 0 := ⟨zmk4 39 (by decide +kernel) rfl, zmk0 24 (by decide +kernel) rfl, zmk4 40 (by decide +kernel) rfl, zmk1 8 (by decide +kernel) rfl, by decide, rfl, by decide +kernel, by decide +kernel, by decide +kernel⟩
theorem kc_X4_debtBy : zCalV RX4 yX4_debtBy cX4_debtBy 6 (some (.int)) 1 := ⟨zmk4 156 (by decide +kernel) rfl, zmk4 157 (by decide +kernel) rfl, zmk4 158 (by decide +kernel) rfl, zmk1 8 (by decide +kernel) rfl, by decide, rfl, by decide +kernel, by decide +kernel, by decide +kernel⟩
theorem kc_X4_driftAlong : zCalV RX4 yX4_driftAlong cX4_driftAlong 2 (some (.int)) 1 := ⟨zmk4 58 (by decide +kernel) rfl, zmk4 59 (by decide +kernel) rfl, zmk4 60 (by decide +kernel) rfl, zmk1 8 (by decide +kernel) rfl, by decide, rfl, by decide +kernel, by decide +kernel, by decide +kernel⟩
theorem kc_X4_floatOn : zCalV RX4 yX4_floatOn cX4_floatOn 1 none 0 := ⟨zmk5 40 (by decide +kernel) rfl, zmk5 41 (by decide +kernel) rfl, zmk5 42 (by decide +kernel) rfl, zmk1 8 (by decide +kernel) rfl, by decide, rfl, by decide +kernel, by decide +kernel, by decide +kernel⟩
theorem kc_X4_forceToTurn : zCalV RX4 yX4_forceToTurn cX4_forceToTurn 5 (some (.int)) 1 := ⟨zmk4 148 (by decide +kernel) rfl, zmk4 149 (by decide +kernel) rfl, zmk4 150 (by decide +kernel) rfl, zmk1 8 (by decide +kernel) rfl, by decide, rfl, by decide +kernel, by decide +kernel, by decide +kernel⟩
theorem kc_X4_freezes : zCalV RX4 yX4_freezes cX4_freezes 3 (some (.boolean)) 1 := ⟨zmk4 43 (by decide +kernel) rfl, zmk0 25 (by decide +kernel) rfl, zmk4 44 (by decide +kernel) rfl, zmk1 8 (by decide +kernel) rfl, by decide, rfl, by decide +kernel, by decide +kernel, by decide +kernel⟩
theorem kc_X4_hasMourner : zCalV RX4 yX4_hasMourner cX4_hasMourner 2 (some (.boolean)) 1 := ⟨zmk4 25 (by decide +kernel) rfl, zmk0 21 (by decide +kernel) rfl, zmk4 26 (by decide +kernel) rfl, zmk1 8 (by decide +kernel) rfl, by decide, rfl, by decide +kernel, by decide +kernel, by decide +kernel⟩
theorem kc_X4_hasPlace : zCalV RX4 yX4_hasPlace cX4_hasPlace 2 (some (.boolean)) 1 := ⟨zmk4 30 (by decide +kernel) rfl, zmk0 22 (by decide +kernel) rfl, zmk4 31 (by decide +kernel) rfl, zmk1 8 (by decide +kernel) rfl, by decide, rfl, by decide +kernel, by decide +kernel, by decide +kernel⟩
theorem kc_X4_hoursTillAground : zCalV RX4 yX4_hoursTillAground cX4_hoursTillAground 4 (some (.int)) 1 := ⟨zmk4 140 (by decide +kernel) rfl, zmk4 141 (by decide +kernel) rfl, zmk4 142 (by decide +kernel) rfl, zmk1 8 (by decide +kernel) rfl, by decide, rfl, by decide +kernel, by decide +kernel, by decide +kernel⟩
theorem kc_X4_hoursTillSunk : zCalV RX4 yX4_hoursTillSunk cX4_hoursTillSunk 3 (some (.int)) 1 := ⟨zmk4 144 (by decide +kernel) rfl, zmk4 145 (by decide +kernel) rfl, zmk4 146 (by decide +kernel) rfl, zmk1 8 (by decide +kernel) rfl, by decide, rfl, by decide +kernel, by decide +kernel, by decide +kernel⟩
theorem kc_X4_isBailed : zCalV RX4 yX4_isBailed cX4_isBailed 2 (some (.boolean)) 1 := ⟨zmk4 51 (by decide +kernel) rfl, zmk0 27 (by decide +kernel) rfl, zmk4 52 (by decide +kernel) rfl, zmk1 8 (by decide +kernel) rfl, by decide, rfl, by decide +kernel, by decide +kernel, by decide +kernel⟩
theorem kc_X4_isBy : zCalV RX4 yX4_isBy cX4_isBy 5 (some (.boolean)) 2 := ⟨zmk5 208 (by decide +kernel) rfl, zmk5 209 (by decide +kernel) rfl, zmk5 210 (by decide +kernel) rfl, zmk1 8 (by decide +kernel) rfl, by decide, rfl, by decide +kernel, by decide +kernel, by decide +kernel⟩
theorem kc_X4_launch : zCalV RX4 yX4_launch cX4_launch 4 none 2 := ⟨zmk4 0 (by decide +kernel) rfl, zmk4 1 (by decide +kernel) rfl, zmk4 2 (by decide +kernel) rfl, zmk1 8 (by decide +kernel) rfl, by decide, rfl, by decide +kernel, by decide +kernel, by decide +kernel⟩
theorem kc_X4_listAlong : zCalV RX4 yX4_listAlong cX4_listAlong 4 (some (.int)) 1 := ⟨zmk4 62 (by decide +kernel) rfl, zmk4 63 (by decide +kernel) rfl, zmk4 64 (by decide +kernel) rfl, zmk1 8 (by decide +kernel) rfl, by decide, rfl, by decide +kernel, by decide +kernel, by decide +kernel⟩
theorem kc_X4_moors : zCalV RX4 yX4_moors cX4_moors 3 (some (.boolean)) 1 := ⟨zmk4 47 (by decide +kernel) rfl, zmk0 26 (by decide +kernel) rfl, zmk4 48 (by decide +kernel) rfl, zmk1 8 (by decide +kernel) rfl, by decide, rfl, by decide +kernel, by decide +kernel, by decide +kernel⟩
theorem kc_X4_move : zCalV RX4 yX4_move cX4_move 3 none 2 := ⟨zmk4 97 (by decide +kernel) rfl, zmk4 98 (by decide +kernel) rfl, zmk4 99 (by decide +kernel) rfl, zmk1 8 (by decide +kernel) rfl, by decide, rfl, by decide +kernel, by decide +kernel, by decide +kernel⟩
theorem kc_X4_obeys : zCalV RX4 yX4_obeys cX4_obeys 5 (some (.boolean)) 3 := ⟨zmk4 16 (by decide +kernel) rfl, zmk4 17 (by decide +kernel) rfl, zmk4 18 (by decide +kernel) rfl, zmk1 8 (by decide +kernel) rfl, by decide, rfl, by decide +kernel, by decide +kernel, by decide +kernel⟩
theorem kc_X4_passHour : zCalV RX4 yX4_passHour cX4_passHour 3 none 0 := ⟨zmk4 55 (by decide +kernel) rfl, zmk0 28 (by decide +kernel) rfl, zmk4 56 (by decide +kernel) rfl, zmk1 8 (by decide +kernel) rfl, by decide, rfl, by decide +kernel, by decide +kernel, by decide +kernel⟩
theorem kc_X4_putAt : zCalV RX4 yX4_putAt cX4_putAt 3 none 2 := ⟨zmk4 4 (by decide +kernel) rfl, zmk4 5 (by decide +kernel) rfl, zmk4 6 (by decide +kernel) rfl, zmk1 8 (by decide +kernel) rfl, by decide, rfl, by decide +kernel, by decide +kernel, by decide +kernel⟩
theorem kc_X4_sailBySeed : zCalV RX4 yX4_sailBySeed cX4_sailBySeed 6 none 2 := ⟨zmk5 218 (by decide +kernel) rfl, zmk5 219 (by decide +kernel) rfl, zmk5 220 (by decide +kernel) rfl, zmk1 8 (by decide +kernel) rfl, by decide, rfl, by decide +kernel, by decide +kernel, by decide +kernel⟩
theorem kc_X4_setsAshore : zCalV RX4 yX4_setsAshore cX4_setsAshore 2 (some (.boolean)) 1 := ⟨zmk4 35 (by decide +kernel) rfl, zmk0 23 (by decide +kernel) rfl, zmk4 36 (by decide +kernel) rfl, zmk1 8 (by decide +kernel) rfl, by decide, rfl, by decide +kernel, by decide +kernel, by decide +kernel⟩
theorem kc_X4_sides : zCalV RX4 yX4_sides cX4_sides 2 (some (.int)) 0 := ⟨zmk4 8 (by decide +kernel) rfl, zmk4 9 (by decide +kernel) rfl, zmk4 10 (by decide +kernel) rfl, zmk1 8 (by decide +kernel) rfl, by decide, rfl, by decide +kernel, by decide +kernel, by decide +kernel⟩
theorem kc_X4_signOf : zCalS yX4_signOf cX4_signOf 1 (some (.int)) 1 := ⟨zmk4 93 (by decide +kernel) rfl, zmk4 94 (by decide +kernel) rfl, zmk1 8 (by decide +kernel) rfl, by decide, by decide +kernel, by decide +kernel, by decide +kernel⟩
theorem kc_X4_takesAboard : zCalV RX4 yX4_takesAboard cX4_takesAboard 3 (some (.boolean)) 2 := ⟨zmk4 21 (by decide +kernel) rfl, zmk0 20 (by decide +kernel) rfl, zmk4 22 (by decide +kernel) rfl, zmk1 8 (by decide +kernel) rfl, by decide, rfl, by decide +kernel, by decide +kernel, by decide +kernel⟩
theorem kc_X5_init : Cond.instanceMethod yX5_init ∈ ztbl ∧ Cond.code yX5_init cX5_init 2 none ∈ ztbl ∧ Cond.initialized yX5_init.cls ∈ ztbl := ⟨zmk1 179 (by decide +kernel) rfl, zmk1 180 (by decide +kernel) rfl, zmk1 7 (by decide +kernel) rfl⟩
theorem kc_X5_breakOff : zCalV RX5 yX5_breakOff cX5_breakOff 1 none 0 := ⟨zmk3 79 (by decide +kernel) rfl, zmk0 8 (by decide +kernel) rfl, zmk3 80 (by decide +kernel) rfl, zmk1 7 (by decide +kernel) rfl, by decide, rfl, by decide +kernel, by decide +kernel, by decide +kernel⟩
theorem kc_X5_byteAt : zCalV RX5 yX5_byteAt cX5_byteAt 2 (some (.int)) 1 := ⟨zmk2 238 (by decide +kernel) rfl, zmk0 2 (by decide +kernel) rfl, zmk2 239 (by decide +kernel) rfl, zmk1 7 (by decide +kernel) rfl, by decide, rfl, by decide +kernel, by decide +kernel, by decide +kernel⟩
theorem kc_X5_isDigit : zCalS yX5_isDigit cX5_isDigit 1 (some (.boolean)) 1 := ⟨zmk3 4 (by decide +kernel) rfl, zmk3 5 (by decide +kernel) rfl, zmk1 7 (by decide +kernel) rfl, by decide, by decide +kernel, by decide +kernel, by decide +kernel⟩
theorem kc_X5_isLetter : zCalS yX5_isLetter cX5_isLetter 1 (some (.boolean)) 1 := ⟨zmk3 1 (by decide +kernel) rfl, zmk3 2 (by decide +kernel) rfl, zmk1 7 (by decide +kernel) rfl, by decide, by decide +kernel, by decide +kernel, by decide +kernel⟩
theorem kc_X5_isSpelled : zCalV RX5 yX5_isSpelled cX5_isSpelled 3 (some (.boolean)) 1 := ⟨zmk3 27 (by decide +kernel) rfl, zmk0 7 (by decide +kernel) rfl, zmk3 28 (by decide +kernel) rfl, zmk1 7 (by decide +kernel) rfl, by decide, rfl, by decide +kernel, by decide +kernel, by decide +kernel⟩
theorem kc_X5_look : zCalV RX5 yX5_look cX5_look 2 none 0 := ⟨zmk2 234 (by decide +kernel) rfl, zmk0 1 (by decide +kernel) rfl, zmk2 235 (by decide +kernel) rfl, zmk1 7 (by decide +kernel) rfl, by decide, rfl, by decide +kernel, by decide +kernel, by decide +kernel⟩
theorem kc_X5_lookAtDigits : zCalV RX5 yX5_lookAtDigits cX5_lookAtDigits 1 none 0 := ⟨zmk3 8 (by decide +kernel) rfl, zmk0 3 (by decide +kernel) rfl, zmk3 9 (by decide +kernel) rfl, zmk1 7 (by decide +kernel) rfl, by decide, rfl, by decide +kernel, by decide +kernel, by decide +kernel⟩
theorem kc_X5_mostRows : zCalS yX5_mostRows cX5_mostRows 1 (some (.int)) 1 := ⟨zmk1 144 (by decide +kernel) rfl, zmk1 145 (by decide +kernel) rfl, zmk1 7 (by decide +kernel) rfl, by decide, by decide +kernel, by decide +kernel, by decide +kernel⟩
theorem kc_X5_note : zCalV RX5 yX5_note cX5_note 3 none 2 := ⟨zmk3 101 (by decide +kernel) rfl, zmk0 13 (by decide +kernel) rfl, zmk3 102 (by decide +kernel) rfl, zmk1 7 (by decide +kernel) rfl, by decide, rfl, by decide +kernel, by decide +kernel, by decide +kernel⟩
theorem kc_X5_read : zCalV RX5 yX5_read cX5_read 5 none 3 := ⟨zmk2 225 (by decide +kernel) rfl, zmk2 226 (by decide +kernel) rfl, zmk2 227 (by decide +kernel) rfl, zmk1 7 (by decide +kernel) rfl, by decide, rfl, by decide +kernel, by decide +kernel, by decide +kernel⟩
theorem kc_X5_readFurtherGraves : zCalV RX5 yX5_readFurtherGraves cX5_readFurtherGraves 3 none 0 := ⟨zmk3 107 (by decide +kernel) rfl, zmk0 14 (by decide +kernel) rfl, zmk3 108 (by decide +kernel) rfl, zmk1 7 (by decide +kernel) rfl, by decide, rfl, by decide +kernel, by decide +kernel, by decide +kernel⟩
theorem kc_X5_readLine : zCalV RX5 yX5_readLine cX5_readLine 4 none 1 := ⟨zmk3 12 (by decide +kernel) rfl, zmk0 4 (by decide +kernel) rfl, zmk3 13 (by decide +kernel) rfl, zmk1 7 (by decide +kernel) rfl, by decide, rfl, by decide +kernel, by decide +kernel, by decide +kernel⟩
theorem kc_X5_readNumbers : zCalV RX5 yX5_readNumbers cX5_readNumbers 4 none 1 := ⟨zmk3 83 (by decide +kernel) rfl, zmk0 9 (by decide +kernel) rfl, zmk3 84 (by decide +kernel) rfl, zmk1 7 (by decide +kernel) rfl, by decide, rfl, by decide +kernel, by decide +kernel, by decide +kernel⟩
theorem kc_X5_tell : zCalV RX5 yX5_tell cX5_tell 3 (some (.boolean)) 1 := ⟨zmk3 114 (by decide +kernel) rfl, zmk0 15 (by decide +kernel) rfl, zmk3 115 (by decide +kernel) rfl, zmk1 7 (by decide +kernel) rfl, by decide, rfl, by decide +kernel, by decide +kernel, by decide +kernel⟩
theorem kc_X5_tellOfLake : zCalV RX5 yX5_tellOfLake cX5_tellOfLake 4 (some (.boolean)) 1 := ⟨zmk3 118 (by decide +kernel) rfl, zmk0 16 (by decide +kernel) rfl, zmk3 119 (by decide +kernel) rfl, zmk1 7 (by decide +kernel) rfl, by decide, rfl, by decide +kernel, by decide +kernel, by decide +kernel⟩
theorem kc_X5_wordOf : zCalV RX5 yX5_wordOf cX5_wordOf 3 (some (.object "GraveRegatta$Word")) 1 := ⟨zmk3 16 (by decide +kernel) rfl, zmk0 5 (by decide +kernel) rfl, zmk3 17 (by decide +kernel) rfl, zmk1 7 (by decide +kernel) rfl, by decide, rfl, by decide +kernel, by decide +kernel, by decide +kernel⟩
theorem kc_X6_init : Cond.instanceMethod yX6_init ∈ ztbl ∧ Cond.code yX6_init cX6_init 2 none ∈ ztbl ∧ Cond.initialized yX6_init.cls ∈ ztbl := ⟨zmk1 48 (by decide +kernel) rfl, zmk1 49 (by decide +kernel) rfl, zmk1 4 (by decide +kernel) rfl⟩
theorem kc_X6_add : zCalV RX6 yX6_add cX6_add 4 (some (.boolean)) 3 := ⟨zmk3 129 (by decide +kernel) rfl, zmk3 130 (by decide +kernel) rfl, zmk3 131 (by decide +kernel) rfl, zmk1 4 (by decide +kernel) rfl, by decide, rfl, by decide +kernel, by decide +kernel, by decide +kernel⟩
theorem kc_X6_has : zCalV RX6 yX6_has cX6_has 2 (some (.boolean)) 1 := ⟨zmk3 202 (by decide +kernel) rfl, zmk3 203 (by decide +kernel) rfl, zmk3 204 (by decide +kernel) rfl, zmk1 4 (by decide +kernel) rfl, by decide, rfl, by decide +kernel, by decide +kernel, by decide +kernel⟩
theorem kc_X6_number : zCalV RX6 yX6_number cX6_number 3 (some (.int)) 2 := ⟨zmk1 89 (by decide +kernel) rfl, zmk1 90 (by decide +kernel) rfl, zmk1 91 (by decide +kernel) rfl, zmk1 4 (by decide +kernel) rfl, by decide, rfl, by decide +kernel, by decide +kernel, by decide +kernel⟩
theorem kc_X6_takeFrom : zCalV RX6 yX6_takeFrom cX6_takeFrom 2 none 1 := ⟨zmk3 166 (by decide +kernel) rfl, zmk3 167 (by decide +kernel) rfl, zmk3 168 (by decide +kernel) rfl, zmk1 4 (by decide +kernel) rfl, by decide, rfl, by decide +kernel, by decide +kernel, by decide +kernel⟩
theorem kc_X7_init : Cond.instanceMethod yX7_init ∈ ztbl ∧ Cond.code yX7_init cX7_init 1 none ∈ ztbl ∧ Cond.initialized yX7_init.cls ∈ ztbl := ⟨zmk2 130 (by decide +kernel) rfl, zmk2 131 (by decide +kernel) rfl, zmk1 12 (by decide +kernel) rfl⟩
theorem kc_X7_begin : zCalS yX7_begin cX7_begin 2 none 1 := ⟨zmk5 136 (by decide +kernel) rfl, zmk5 137 (by decide +kernel) rfl, zmk1 12 (by decide +kernel) rfl, by decide, by decide +kernel, by decide +kernel, by decide +kernel⟩
theorem kc_X7_dig : zCalV RX7 yX7_dig cX7_dig 4 (some (.int)) 1 := ⟨zmk5 148 (by decide +kernel) rfl, zmk5 149 (by decide +kernel) rfl, zmk5 150 (by decide +kernel) rfl, zmk1 12 (by decide +kernel) rfl, by decide, rfl, by decide +kernel, by decide +kernel, by decide +kernel⟩
theorem kc_X7_extend : zCalS yX7_extend cX7_extend 5 none 4 := ⟨zmk5 139 (by decide +kernel) rfl, zmk5 140 (by decide +kernel) rfl, zmk1 12 (by decide +kernel) rfl, by decide, by decide +kernel, by decide +kernel, by decide +kernel⟩
theorem kc_X7_graves : zCalV RX7 yX7_graves cX7_graves 6 (some (.int)) 2 := ⟨zmk5 170 (by decide +kernel) rfl, zmk5 171 (by decide +kernel) rfl, zmk5 172 (by decide +kernel) rfl, zmk1 12 (by decide +kernel) rfl, by decide, rfl, by decide +kernel, by decide +kernel, by decide +kernel⟩
theorem kc_X7_lay : zCalS yX7_lay cX7_lay 5 none 3 := ⟨zmk5 145 (by decide +kernel) rfl, zmk5 146 (by decide +kernel) rfl, zmk1 12 (by decide +kernel) rfl, by decide, by decide +kernel, by decide +kernel, by decide +kernel⟩
theorem kc_X7_openThese : zCalV RX7 yX7_openThese cX7_openThese 7 none 2 := ⟨zmk5 154 (by decide +kernel) rfl, zmk0 43 (by decide +kernel) rfl, zmk5 155 (by decide +kernel) rfl, zmk1 12 (by decide +kernel) rfl, by decide, rfl, by decide +kernel, by decide +kernel, by decide +kernel⟩
theorem kc_X7_setsOf : zCalS yX7_setsOf cX7_setsOf 1 (some (.int)) 1 := ⟨zmk5 128 (by decide +kernel) rfl, zmk5 129 (by decide +kernel) rfl, zmk1 12 (by decide +kernel) rfl, by decide, by decide +kernel, by decide +kernel, by decide +kernel⟩
theorem kc_X7_sureGrave : zCalV RX7 yX7_sureGrave cX7_sureGrave 4 (some (.int)) 2 := ⟨zmk5 166 (by decide +kernel) rfl, zmk5 167 (by decide +kernel) rfl, zmk5 168 (by decide +kernel) rfl, zmk1 12 (by decide +kernel) rfl, by decide, rfl, by decide +kernel, by decide +kernel, by decide +kernel⟩
theorem kc_X7_tellsAll : zCalV RX7 yX7_tellsAll cX7_tellsAll 4 (some (.boolean)) 1 := ⟨zmk5 163 (by decide +kernel) rfl, zmk0 44 (by decide +kernel) rfl, zmk5 164 (by decide +kernel) rfl, zmk1 12 (by decide +kernel) rfl, by decide, rfl, by decide +kernel, by decide +kernel, by decide +kernel⟩
theorem kc_X7_ways : zCalV RX7 yX7_ways cX7_ways 2 (some (.int)) 1 := ⟨zmk5 124 (by decide +kernel) rfl, zmk5 125 (by decide +kernel) rfl, zmk5 126 (by decide +kernel) rfl, zmk1 12 (by decide +kernel) rfl, by decide, rfl, by decide +kernel, by decide +kernel, by decide +kernel⟩
theorem kc_X7_waysWithout : zCalV RX7 yX7_waysWithout cX7_waysWithout 5 (some (.int)) 3 := ⟨zmk5 133 (by decide +kernel) rfl, zmk0 42 (by decide +kernel) rfl, zmk5 134 (by decide +kernel) rfl, zmk1 12 (by decide +kernel) rfl, by decide, rfl, by decide +kernel, by decide +kernel, by decide +kernel⟩
theorem kc_X8_init : Cond.instanceMethod yX8_init ∈ ztbl ∧ Cond.code yX8_init cX8_init 2 none ∈ ztbl ∧ Cond.initialized yX8_init.cls ∈ ztbl := ⟨zmk1 33 (by decide +kernel) rfl, zmk1 34 (by decide +kernel) rfl, zmk1 2 (by decide +kernel) rfl⟩
theorem kc_X8_append : zCalV RX8 yX8_append cX8_append 3 none 1 := ⟨zmk2 205 (by decide +kernel) rfl, zmk2 206 (by decide +kernel) rfl, zmk2 207 (by decide +kernel) rfl, zmk1 2 (by decide +kernel) rfl, by decide, rfl, by decide +kernel, by decide +kernel, by decide +kernel⟩
theorem kc_X8_has : zCalV RX8 yX8_has cX8_has 3 (some (.boolean)) 2 := ⟨zmk2 222 (by decide +kernel) rfl, zmk0 0 (by decide +kernel) rfl, zmk2 223 (by decide +kernel) rfl, zmk1 2 (by decide +kernel) rfl, by decide, rfl, by decide +kernel, by decide +kernel, by decide +kernel⟩
theorem kc_X8_lakeAt : zCalV RX8 yX8_lakeAt cX8_lakeAt 2 (some (.object "GraveRegatta$Lake")) 1 := ⟨zmk3 182 (by decide +kernel) rfl, zmk3 183 (by decide +kernel) rfl, zmk3 184 (by decide +kernel) rfl, zmk1 2 (by decide +kernel) rfl, by decide, rfl, by decide +kernel, by decide +kernel, by decide +kernel⟩
theorem kc_X8_pageAt : zCalV RX8 yX8_pageAt cX8_pageAt 3 (some (.object "GraveRegatta$Rows")) 2 := ⟨zmk3 195 (by decide +kernel) rfl, zmk3 196 (by decide +kernel) rfl, zmk3 197 (by decide +kernel) rfl, zmk1 2 (by decide +kernel) rfl, by decide, rfl, by decide +kernel, by decide +kernel, by decide +kernel⟩
theorem kc_X8_slotFor : zCalV RX8 yX8_slotFor cX8_slotFor 3 (some (.int)) 2 := ⟨zmk2 217 (by decide +kernel) rfl, zmk2 218 (by decide +kernel) rfl, zmk2 219 (by decide +kernel) rfl, zmk1 2 (by decide +kernel) rfl, by decide, rfl, by decide +kernel, by decide +kernel, by decide +kernel⟩
theorem kc_X8_take : zCalV RX8 yX8_take cX8_take 4 none 3 := ⟨zmk3 158 (by decide +kernel) rfl, zmk3 159 (by decide +kernel) rfl, zmk3 160 (by decide +kernel) rfl, zmk1 2 (by decide +kernel) rfl, by decide, rfl, by decide +kernel, by decide +kernel, by decide +kernel⟩
theorem kc_X8_takeFrom : zCalV RX8 yX8_takeFrom cX8_takeFrom 3 none 1 := ⟨zmk3 227 (by decide +kernel) rfl, zmk3 228 (by decide +kernel) rfl, zmk3 229 (by decide +kernel) rfl, zmk1 2 (by decide +kernel) rfl, by decide, rfl, by decide +kernel, by decide +kernel, by decide +kernel⟩
theorem kc_X9_init : Cond.instanceMethod yX9_init ∈ ztbl ∧ Cond.code yX9_init cX9_init 1 none ∈ ztbl ∧ Cond.initialized yX9_init.cls ∈ ztbl := ⟨zmk2 92 (by decide +kernel) rfl, zmk2 93 (by decide +kernel) rfl, zmk1 11 (by decide +kernel) rfl⟩
theorem kc_X9_findCorners : zCalV RX9 yX9_findCorners cX9_findCorners 3 none 1 := ⟨zmk5 74 (by decide +kernel) rfl, zmk0 39 (by decide +kernel) rfl, zmk5 75 (by decide +kernel) rfl, zmk1 11 (by decide +kernel) rfl, by decide, rfl, by decide +kernel, by decide +kernel, by decide +kernel⟩
theorem kc_X9_follow : zCalS yX9_follow cX9_follow 5 (some (.int)) 4 := ⟨zmk5 87 (by decide +kernel) rfl, zmk5 88 (by decide +kernel) rfl, zmk1 11 (by decide +kernel) rfl, by decide, by decide +kernel, by decide +kernel, by decide +kernel⟩
theorem kc_X9_isOuter : zCalS yX9_isOuter cX9_isOuter 4 (some (.boolean)) 3 := ⟨zmk5 78 (by decide +kernel) rfl, zmk5 79 (by decide +kernel) rfl, zmk1 11 (by decide +kernel) rfl, by decide, by decide +kernel, by decide +kernel, by decide +kernel⟩
theorem kc_X9_keepWay : zCalV RX9 yX9_keepWay cX9_keepWay 5 none 2 := ⟨zmk5 102 (by decide +kernel) rfl, zmk0 41 (by decide +kernel) rfl, zmk5 103 (by decide +kernel) rfl, zmk1 11 (by decide +kernel) rfl, by decide, rfl, by decide +kernel, by decide +kernel, by decide +kernel⟩
theorem kc_X9_look : zCalV RX9 yX9_look cX9_look 6 none 3 := ⟨zmk5 69 (by decide +kernel) rfl, zmk5 70 (by decide +kernel) rfl, zmk5 71 (by decide +kernel) rfl, zmk1 11 (by decide +kernel) rfl, by decide, rfl, by decide +kernel, by decide +kernel, by decide +kernel⟩
theorem kc_X9_tryWay : zCalV RX9 yX9_tryWay cX9_tryWay 10 none 3 := ⟨zmk5 94 (by decide +kernel) rfl, zmk0 40 (by decide +kernel) rfl, zmk5 95 (by decide +kernel) rfl, zmk1 11 (by decide +kernel) rfl, by decide, rfl, by decide +kernel, by decide +kernel, by decide +kernel⟩
theorem kc_X9_waysAt : zCalV RX9 yX9_waysAt cX9_waysAt 4 (some (.int)) 2 := ⟨zmk5 116 (by decide +kernel) rfl, zmk5 117 (by decide +kernel) rfl, zmk5 118 (by decide +kernel) rfl, zmk1 11 (by decide +kernel) rfl, by decide, rfl, by decide +kernel, by decide +kernel, by decide +kernel⟩
theorem kc_X10_allows : zCalV RX10 yX10_allows cX10_allows 4 (some (.boolean)) 2 := ⟨zmk3 97 (by decide +kernel) rfl, zmk0 12 (by decide +kernel) rfl, zmk3 98 (by decide +kernel) rfl, zmk1 20 (by decide +kernel) rfl, by decide, rfl, by decide +kernel, by decide +kernel, by decide +kernel⟩
theorem kc_X10_bounds : zCalV RX10 yX10_bounds cX10_bounds 2 (some (.int)) 1 := ⟨zmk3 91 (by decide +kernel) rfl, zmk0 11 (by decide +kernel) rfl, zmk3 92 (by decide +kernel) rfl, zmk1 20 (by decide +kernel) rfl, by decide, rfl, by decide +kernel, by decide +kernel, by decide +kernel⟩
theorem kc_X10_matter : zCalV RX10 yX10_matter cX10_matter 1 (some (.int)) 0 := ⟨zmk3 122 (by decide +kernel) rfl, zmk0 17 (by decide +kernel) rfl, zmk3 123 (by decide +kernel) rfl, zmk1 20 (by decide +kernel) rfl, by decide, rfl, by decide +kernel, by decide +kernel, by decide +kernel⟩
theorem kc_X10_sort : zCalV RX10 yX10_sort cX10_sort 1 (some (.int)) 0 := ⟨zmk3 22 (by decide +kernel) rfl, zmk0 6 (by decide +kernel) rfl, zmk3 24 (by decide +kernel) rfl, zmk1 20 (by decide +kernel) rfl, by decide, rfl, by decide +kernel, by decide +kernel, by decide +kernel⟩
theorem kc_X10_takesNumber : zCalV RX10 yX10_takesNumber cX10_takesNumber 2 (some (.boolean)) 1 := ⟨zmk3 87 (by decide +kernel) rfl, zmk0 10 (by decide +kernel) rfl, zmk3 88 (by decide +kernel) rfl, zmk1 20 (by decide +kernel) rfl, by decide, rfl, by decide +kernel, by decide +kernel, by decide +kernel⟩
theorem kc_X12_init : Cond.instanceMethod yX12_init ∈ ztbl ∧ Cond.code yX12_init cX12_init 1 none ∈ ztbl ∧ Cond.initialized yX12_init.cls ∈ ztbl := ⟨zmk6 10 (by decide +kernel) rfl, zmk6 11 (by decide +kernel) rfl, zmk1 14 (by decide +kernel) rfl⟩
theorem kc_X12_aboard : zCalV RX12 yX12_aboard cX12_aboard 3 (some (.int)) 0 := ⟨zmk8 53 (by decide +kernel) rfl, zmk0 116 (by decide +kernel) rfl, zmk8 54 (by decide +kernel) rfl, zmk1 14 (by decide +kernel) rfl, by decide, rfl, by decide +kernel, by decide +kernel, by decide +kernel⟩
theorem kc_X12_adds : zCalV RX12 yX12_adds cX12_adds 5 none 4 := ⟨zmk6 221 (by decide +kernel) rfl, zmk0 61 (by decide +kernel) rfl, zmk6 222 (by decide +kernel) rfl, zmk1 14 (by decide +kernel) rfl, by decide, rfl, by decide +kernel, by decide +kernel, by decide +kernel⟩
theorem kc_X12_adds0 : zCalV RX12 yX12_adds0 cX12_adds0 4 none 1 := ⟨zmk8 41 (by decide +kernel) rfl, zmk0 113 (by decide +kernel) rfl, zmk8 42 (by decide +kernel) rfl, zmk1 14 (by decide +kernel) rfl, by decide, rfl, by decide +kernel, by decide +kernel, by decide +kernel⟩
theorem kc_X12_advance : zCalV RX12 yX12_advance cX12_advance 4 none 0 := ⟨zmk6 154 (by decide +kernel) rfl, zmk0 50 (by decide +kernel) rfl, zmk6 155 (by decide +kernel) rfl, zmk1 14 (by decide +kernel) rfl, by decide, rfl, by decide +kernel, by decide +kernel, by decide +kernel⟩
theorem kc_X12_again : zCalV RX12 yX12_again cX12_again 3 (some (.boolean)) 1 := ⟨zmk8 136 (by decide +kernel) rfl, zmk8 137 (by decide +kernel) rfl, zmk8 138 (by decide +kernel) rfl, zmk1 14 (by decide +kernel) rfl, by decide, rfl, by decide +kernel, by decide +kernel, by decide +kernel⟩
theorem kc_X12_allGraves : zCalV RX12 yX12_allGraves cX12_allGraves 3 (some (.int)) 0 := ⟨zmk7 192 (by decide +kernel) rfl, zmk0 99 (by decide +kernel) rfl, zmk7 193 (by decide +kernel) rfl, zmk1 14 (by decide +kernel) rfl, by decide, rfl, by decide +kernel, by decide +kernel, by decide +kernel⟩
theorem kc_X12_allWater : zCalV RX12 yX12_allWater cX12_allWater 3 (some (.int)) 0 := ⟨zmk7 139 (by decide +kernel) rfl, zmk0 92 (by decide +kernel) rfl, zmk7 140 (by decide +kernel) rfl, zmk1 14 (by decide +kernel) rfl, by decide, rfl, by decide +kernel, by decide +kernel, by decide +kernel⟩
theorem kc_X12_allWays : zCalV RX12 yX12_allWays cX12_allWays 3 (some (.int)) 0 := ⟨zmk8 45 (by decide +kernel) rfl, zmk0 114 (by decide +kernel) rfl, zmk8 46 (by decide +kernel) rfl, zmk1 14 (by decide +kernel) rfl, by decide, rfl, by decide +kernel, by decide +kernel, by decide +kernel⟩
theorem kc_X12_also : zCalV RX12 yX12_also cX12_also 3 none 2 := ⟨zmk6 199 (by decide +kernel) rfl, zmk0 56 (by decide +kernel) rfl, zmk6 200 (by decide +kernel) rfl, zmk1 14 (by decide +kernel) rfl, by decide, rfl, by decide +kernel, by decide +kernel, by decide +kernel⟩
theorem kc_X12_areSeen : zCalV RX12 yX12_areSeen cX12_areSeen 3 (some (.boolean)) 2 := ⟨zmk8 37 (by decide +kernel) rfl, zmk0 112 (by decide +kernel) rfl, zmk8 38 (by decide +kernel) rfl, zmk1 14 (by decide +kernel) rfl, by decide, rfl, by decide +kernel, by decide +kernel, by decide +kernel⟩
theorem kc_X12_areTold : zCalV RX12 yX12_areTold cX12_areTold 3 (some (.boolean)) 2 := ⟨zmk7 47 (by decide +kernel) rfl, zmk0 72 (by decide +kernel) rfl, zmk7 48 (by decide +kernel) rfl, zmk1 14 (by decide +kernel) rfl, by decide, rfl, by decide +kernel, by decide +kernel, by decide +kernel⟩
theorem kc_X12_arm : zCalV RX12 yX12_arm cX12_arm 3 (some (.int)) 2 := ⟨zmk7 99 (by decide +kernel) rfl, zmk0 85 (by decide +kernel) rfl, zmk7 100 (by decide +kernel) rfl, zmk1 14 (by decide +kernel) rfl, by decide, rfl, by decide +kernel, by decide +kernel, by decide +kernel⟩
theorem kc_X12_axisOf : zCalS yX12_axisOf cX12_axisOf 1 (some (.int)) 1 := ⟨zmk7 116 (by decide +kernel) rfl, zmk7 117 (by decide +kernel) rfl, zmk1 14 (by decide +kernel) rfl, by decide, by decide +kernel, by decide +kernel, by decide +kernel⟩
theorem kc_X12_bail : zCalV RX12 yX12_bail cX12_bail 9 (some (.int)) 3 := ⟨zmk8 87 (by decide +kernel) rfl, zmk8 88 (by decide +kernel) rfl, zmk8 89 (by decide +kernel) rfl, zmk1 14 (by decide +kernel) rfl, by decide, rfl, by decide +kernel, by decide +kernel, by decide +kernel⟩
theorem kc_X12_begins : zCalV RX12 yX12_begins cX12_begins 2 none 0 := ⟨zmk7 55 (by decide +kernel) rfl, zmk0 74 (by decide +kernel) rfl, zmk7 56 (by decide +kernel) rfl, zmk1 14 (by decide +kernel) rfl, by decide, rfl, by decide +kernel, by decide +kernel, by decide +kernel⟩
theorem kc_X12_below : zCalV RX12 yX12_below cX12_below 2 (some (.int)) 1 := ⟨zmk8 112 (by decide +kernel) rfl, zmk0 124 (by decide +kernel) rfl, zmk8 113 (by decide +kernel) rfl, zmk1 14 (by decide +kernel) rfl, by decide, rfl, by decide +kernel, by decide +kernel, by decide +kernel⟩
theorem kc_X12_bits : zCalS yX12_bits cX12_bits 3 (some (.int)) 1 := ⟨zmk8 56 (by decide +kernel) rfl, zmk8 57 (by decide +kernel) rfl, zmk1 14 (by decide +kernel) rfl, by decide, by decide +kernel, by decide +kernel, by decide +kernel⟩
theorem kc_X12_blown : zCalV RX12 yX12_blown cX12_blown 4 (some (.int)) 3 := ⟨zmk7 113 (by decide +kernel) rfl, zmk0 87 (by decide +kernel) rfl, zmk7 114 (by decide +kernel) rfl, zmk1 14 (by decide +kernel) rfl, by decide, rfl, by decide +kernel, by decide +kernel, by decide +kernel⟩
theorem kc_X12_boards : zCalV RX12 yX12_boards cX12_boards 6 none 1 := ⟨zmk7 205 (by decide +kernel) rfl, zmk0 101 (by decide +kernel) rfl, zmk7 206 (by decide +kernel) rfl, zmk1 14 (by decide +kernel) rfl, by decide, rfl, by decide +kernel, by decide +kernel, by decide +kernel⟩
theorem kc_X12_both : zCalV RX12 yX12_both cX12_both 3 (some (.int)) 0 := ⟨zmk7 233 (by decide +kernel) rfl, zmk0 106 (by decide +kernel) rfl, zmk7 234 (by decide +kernel) rfl, zmk1 14 (by decide +kernel) rfl, by decide, rfl, by decide +kernel, by decide +kernel, by decide +kernel⟩
theorem kc_X12_brothers : zCalV RX12 yX12_brothers cX12_brothers 2 none 0 := ⟨zmk6 209 (by decide +kernel) rfl, zmk0 58 (by decide +kernel) rfl, zmk6 210 (by decide +kernel) rfl, zmk1 14 (by decide +kernel) rfl, by decide, rfl, by decide +kernel, by decide +kernel, by decide +kernel⟩
theorem kc_X12_byteAt : zCalV RX12 yX12_byteAt cX12_byteAt 2 (some (.int)) 1 := ⟨zmk6 158 (by decide +kernel) rfl, zmk0 51 (by decide +kernel) rfl, zmk6 159 (by decide +kernel) rfl, zmk1 14 (by decide +kernel) rfl, by decide, rfl, by decide +kernel, by decide +kernel, by decide +kernel⟩
theorem kc_X12_can : zCalV RX12 yX12_can cX12_can 4 (some (.boolean)) 1 := ⟨zmk7 63 (by decide +kernel) rfl, zmk0 76 (by decide +kernel) rfl, zmk7 64 (by decide +kernel) rfl, zmk1 14 (by decide +kernel) rfl, by decide, rfl, by decide +kernel, by decide +kernel, by decide +kernel⟩
theorem kc_X12_canLie : zCalV RX12 yX12_canLie cX12_canLie 5 (some (.boolean)) 2 := ⟨zmk7 131 (by decide +kernel) rfl, zmk0 90 (by decide +kernel) rfl, zmk7 132 (by decide +kernel) rfl, zmk1 14 (by decide +kernel) rfl, by decide, rfl, by decide +kernel, by decide +kernel, by decide +kernel⟩
theorem kc_X12_canLieOther : zCalV RX12 yX12_canLieOther cX12_canLieOther 7 (some (.boolean)) 4 := ⟨zmk8 104 (by decide +kernel) rfl, zmk0 123 (by decide +kernel) rfl, zmk8 105 (by decide +kernel) rfl, zmk1 14 (by decide +kernel) rfl, by decide, rfl, by decide +kernel, by decide +kernel, by decide +kernel⟩
theorem kc_X12_cellAfter : zCalV RX12 yX12_cellAfter cX12_cellAfter 3 (some (.int)) 2 := ⟨zmk7 213 (by decide +kernel) rfl, zmk0 102 (by decide +kernel) rfl, zmk7 214 (by decide +kernel) rfl, zmk1 14 (by decide +kernel) rfl, by decide, rfl, by decide +kernel, by decide +kernel, by decide +kernel⟩
theorem kc_X12_clears : zCalV RX12 yX12_clears cX12_clears 3 none 1 := ⟨zmk6 150 (by decide +kernel) rfl, zmk0 49 (by decide +kernel) rfl, zmk6 151 (by decide +kernel) rfl, zmk1 14 (by decide +kernel) rfl, by decide, rfl, by decide +kernel, by decide +kernel, by decide +kernel⟩
theorem kc_X12_corner : zCalV RX12 yX12_corner cX12_corner 8 (some (.int)) 4 := ⟨zmk8 59 (by decide +kernel) rfl, zmk8 60 (by decide +kernel) rfl, zmk8 61 (by decide +kernel) rfl, zmk1 14 (by decide +kernel) rfl, by decide, rfl, by decide +kernel, by decide +kernel, by decide +kernel⟩
theorem kc_X12_cost : zCalV RX12 yX12_cost cX12_cost 5 (some (.int)) 3 := ⟨zmk7 195 (by decide +kernel) rfl, zmk7 196 (by decide +kernel) rfl, zmk7 197 (by decide +kernel) rfl, zmk1 14 (by decide +kernel) rfl, by decide, rfl, by decide +kernel, by decide +kernel, by decide +kernel⟩
theorem kc_X12_count : zCalV RX12 yX12_count cX12_count 2 (some (.int)) 1 := ⟨zmk8 128 (by decide +kernel) rfl, zmk8 129 (by decide +kernel) rfl, zmk8 130 (by decide +kernel) rfl, zmk1 14 (by decide +kernel) rfl, by decide, rfl, by decide +kernel, by decide +kernel, by decide +kernel⟩
theorem kc_X12_counts : zCalV RX12 yX12_counts cX12_counts 7 none 0 := ⟨zmk8 72 (by decide +kernel) rfl, zmk0 117 (by decide +kernel) rfl, zmk8 73 (by decide +kernel) rfl, zmk1 14 (by decide +kernel) rfl, by decide, rfl, by decide +kernel, by decide +kernel, by decide +kernel⟩
theorem kc_X12_dayLine : zCalV RX12 yX12_dayLine cX12_dayLine 5 none 0 := ⟨zmk6 217 (by decide +kernel) rfl, zmk0 60 (by decide +kernel) rfl, zmk6 218 (by decide +kernel) rfl, zmk1 14 (by decide +kernel) rfl, by decide, rfl, by decide +kernel, by decide +kernel, by decide +kernel⟩
theorem kc_X12_dead : zCalV RX12 yX12_dead cX12_dead 3 (some (.int)) 2 := ⟨zmk8 63 (by decide +kernel) rfl, zmk8 64 (by decide +kernel) rfl, zmk8 65 (by decide +kernel) rfl, zmk1 14 (by decide +kernel) rfl, by decide, rfl, by decide +kernel, by decide +kernel, by decide +kernel⟩
theorem kc_X12_deed : zCalV RX12 yX12_deed cX12_deed 4 (some (.int)) 3 := ⟨zmk7 30 (by decide +kernel) rfl, zmk7 31 (by decide +kernel) rfl, zmk7 32 (by decide +kernel) rfl, zmk1 14 (by decide +kernel) rfl, by decide, rfl, by decide +kernel, by decide +kernel, by decide +kernel⟩
theorem kc_X12_deedOf : zCalV RX12 yX12_deedOf cX12_deedOf 3 (some (.int)) 2 := ⟨zmk7 39 (by decide +kernel) rfl, zmk0 71 (by decide +kernel) rfl, zmk7 40 (by decide +kernel) rfl, zmk1 14 (by decide +kernel) rfl, by decide, rfl, by decide +kernel, by decide +kernel, by decide +kernel⟩
theorem kc_X12_deeds : zCalV RX12 yX12_deeds cX12_deeds 1 (some (.int)) 0 := ⟨zmk7 35 (by decide +kernel) rfl, zmk0 70 (by decide +kernel) rfl, zmk7 36 (by decide +kernel) rfl, zmk1 14 (by decide +kernel) rfl, by decide, rfl, by decide +kernel, by decide +kernel, by decide +kernel⟩
theorem kc_X12_dig : zCalV RX12 yX12_dig cX12_dig 3 (some (.int)) 0 := ⟨zmk8 80 (by decide +kernel) rfl, zmk0 119 (by decide +kernel) rfl, zmk8 81 (by decide +kernel) rfl, zmk1 14 (by decide +kernel) rfl, by decide, rfl, by decide +kernel, by decide +kernel, by decide +kernel⟩
theorem kc_X12_does : zCalV RX12 yX12_does cX12_does 4 none 1 := ⟨zmk7 79 (by decide +kernel) rfl, zmk0 80 (by decide +kernel) rfl, zmk7 80 (by decide +kernel) rfl, zmk1 14 (by decide +kernel) rfl, by decide, rfl, by decide +kernel, by decide +kernel, by decide +kernel⟩
theorem kc_X12_drawn : zCalV RX12 yX12_drawn cX12_drawn 6 (some (.int)) 4 := ⟨zmk8 107 (by decide +kernel) rfl, zmk8 108 (by decide +kernel) rfl, zmk8 109 (by decide +kernel) rfl, zmk1 14 (by decide +kernel) rfl, by decide, rfl, by decide +kernel, by decide +kernel, by decide +kernel⟩
theorem kc_X12_drift : zCalV RX12 yX12_drift cX12_drift 5 (some (.int)) 4 := ⟨zmk7 155 (by decide +kernel) rfl, zmk7 156 (by decide +kernel) rfl, zmk7 157 (by decide +kernel) rfl, zmk1 14 (by decide +kernel) rfl, by decide, rfl, by decide +kernel, by decide +kernel, by decide +kernel⟩
theorem kc_X12_driftOf : zCalV RX12 yX12_driftOf cX12_driftOf 2 (some (.int)) 1 := ⟨zmk7 87 (by decide +kernel) rfl, zmk0 82 (by decide +kernel) rfl, zmk7 88 (by decide +kernel) rfl, zmk1 14 (by decide +kernel) rfl, by decide, rfl, by decide +kernel, by decide +kernel, by decide +kernel⟩
theorem kc_X12_eight : zCalS yX12_eight cX12_eight 8 (some (.long)) 8 := ⟨zmk6 172 (by decide +kernel) rfl, zmk6 173 (by decide +kernel) rfl, zmk1 14 (by decide +kernel) rfl, by decide, by decide +kernel, by decide +kernel, by decide +kernel⟩
theorem kc_X12_end : zCalV RX12 yX12_end cX12_end 2 (some (.int)) 1 := ⟨zmk6 134 (by decide +kernel) rfl, zmk6 135 (by decide +kernel) rfl, zmk6 136 (by decide +kernel) rfl, zmk1 14 (by decide +kernel) rfl, by decide, rfl, by decide +kernel, by decide +kernel, by decide +kernel⟩
theorem kc_X12_ends : zCalV RX12 yX12_ends cX12_ends 1 none 0 := ⟨zmk6 191 (by decide +kernel) rfl, zmk0 54 (by decide +kernel) rfl, zmk6 192 (by decide +kernel) rfl, zmk1 14 (by decide +kernel) rfl, by decide, rfl, by decide +kernel, by decide +kernel, by decide +kernel⟩
theorem kc_X12_endsLine : zCalV RX12 yX12_endsLine cX12_endsLine 1 none 0 := ⟨zmk6 213 (by decide +kernel) rfl, zmk0 59 (by decide +kernel) rfl, zmk6 214 (by decide +kernel) rfl, zmk1 14 (by decide +kernel) rfl, by decide, rfl, by decide +kernel, by decide +kernel, by decide +kernel⟩
theorem kc_X12_fault : zCalV RX12 yX12_fault cX12_fault 2 (some (.int)) 1 := ⟨zmk7 6 (by decide +kernel) rfl, zmk7 7 (by decide +kernel) rfl, zmk7 8 (by decide +kernel) rfl, zmk1 14 (by decide +kernel) rfl, by decide, rfl, by decide +kernel, by decide +kernel, by decide +kernel⟩
theorem kc_X12_feed : zCalV RX12 yX12_feed cX12_feed 8 (some (.int)) 5 := ⟨zmk6 130 (by decide +kernel) rfl, zmk6 131 (by decide +kernel) rfl, zmk6 132 (by decide +kernel) rfl, zmk1 14 (by decide +kernel) rfl, by decide, rfl, by decide +kernel, by decide +kernel, by decide +kernel⟩
theorem kc_X12_fitting : zCalV RX12 yX12_fitting cX12_fitting 5 (some (.int)) 1 := ⟨zmk8 49 (by decide +kernel) rfl, zmk0 115 (by decide +kernel) rfl, zmk8 50 (by decide +kernel) rfl, zmk1 14 (by decide +kernel) rfl, by decide, rfl, by decide +kernel, by decide +kernel, by decide +kernel⟩
theorem kc_X12_fogLine : zCalV RX12 yX12_fogLine cX12_fogLine 5 none 0 := ⟨zmk6 229 (by decide +kernel) rfl, zmk0 63 (by decide +kernel) rfl, zmk6 230 (by decide +kernel) rfl, zmk1 14 (by decide +kernel) rfl, by decide, rfl, by decide +kernel, by decide +kernel, by decide +kernel⟩
theorem kc_X12_four : zCalS yX12_four cX12_four 4 (some (.long)) 4 := ⟨zmk6 169 (by decide +kernel) rfl, zmk6 170 (by decide +kernel) rfl, zmk1 14 (by decide +kernel) rfl, by decide, by decide +kernel, by decide +kernel, by decide +kernel⟩
theorem kc_X12_further : zCalV RX12 yX12_further cX12_further 11 none 6 := ⟨zmk6 203 (by decide +kernel) rfl, zmk0 57 (by decide +kernel) rfl, zmk6 204 (by decide +kernel) rfl, zmk1 14 (by decide +kernel) rfl, by decide, rfl, by decide +kernel, by decide +kernel, by decide +kernel⟩
theorem kc_X12_gain : zCalV RX12 yX12_gain cX12_gain 5 (some (.int)) 4 := ⟨zmk8 0 (by decide +kernel) rfl, zmk8 1 (by decide +kernel) rfl, zmk8 2 (by decide +kernel) rfl, zmk1 14 (by decide +kernel) rfl, by decide, rfl, by decide +kernel, by decide +kernel, by decide +kernel⟩
theorem kc_X12_gainOf : zCalV RX12 yX12_gainOf cX12_gainOf 6 (some (.int)) 3 := ⟨zmk8 5 (by decide +kernel) rfl, zmk0 107 (by decide +kernel) rfl, zmk8 6 (by decide +kernel) rfl, zmk1 14 (by decide +kernel) rfl, by decide, rfl, by decide +kernel, by decide +kernel, by decide +kernel⟩
theorem kc_X12_goes : zCalV RX12 yX12_goes cX12_goes 5 (some (.int)) 4 := ⟨zmk7 159 (by decide +kernel) rfl, zmk7 160 (by decide +kernel) rfl, zmk7 161 (by decide +kernel) rfl, zmk1 14 (by decide +kernel) rfl, by decide, rfl, by decide +kernel, by decide +kernel, by decide +kernel⟩
theorem kc_X12_gravesList : zCalV RX12 yX12_gravesList cX12_gravesList 5 (some (.int)) 2 := ⟨zmk7 95 (by decide +kernel) rfl, zmk0 84 (by decide +kernel) rfl, zmk7 96 (by decide +kernel) rfl, zmk1 14 (by decide +kernel) rfl, by decide, rfl, by decide +kernel, by decide +kernel, by decide +kernel⟩
theorem kc_X12_heaviest : zCalV RX12 yX12_heaviest cX12_heaviest 8 (some (.int)) 1 := ⟨zmk8 121 (by decide +kernel) rfl, zmk0 125 (by decide +kernel) rfl, zmk8 122 (by decide +kernel) rfl, zmk1 14 (by decide +kernel) rfl, by decide, rfl, by decide +kernel, by decide +kernel, by decide +kernel⟩
theorem kc_X12_hold : zCalV RX12 yX12_hold cX12_hold 2 (some (.int)) 0 := ⟨zmk7 172 (by decide +kernel) rfl, zmk0 96 (by decide +kernel) rfl, zmk7 173 (by decide +kernel) rfl, zmk1 14 (by decide +kernel) rfl, by decide, rfl, by decide +kernel, by decide +kernel, by decide +kernel⟩
theorem kc_X12_hour : zCalV RX12 yX12_hour cX12_hour 4 none 1 := ⟨zmk7 83 (by decide +kernel) rfl, zmk0 81 (by decide +kernel) rfl, zmk7 84 (by decide +kernel) rfl, zmk1 14 (by decide +kernel) rfl, by decide, rfl, by decide +kernel, by decide +kernel, by decide +kernel⟩
theorem kc_X12_image : zCalV RX12 yX12_image cX12_image 3 (some (.boolean)) 1 := ⟨zmk8 132 (by decide +kernel) rfl, zmk8 133 (by decide +kernel) rfl, zmk8 134 (by decide +kernel) rfl, zmk1 14 (by decide +kernel) rfl, by decide, rfl, by decide +kernel, by decide +kernel, by decide +kernel⟩
theorem kc_X12_isDigit : zCalS yX12_isDigit cX12_isDigit 1 (some (.boolean)) 1 := ⟨zmk6 179 (by decide +kernel) rfl, zmk6 180 (by decide +kernel) rfl, zmk1 14 (by decide +kernel) rfl, by decide, by decide +kernel, by decide +kernel, by decide +kernel⟩
theorem kc_X12_isIn : zCalS yX12_isIn cX12_isIn 3 (some (.boolean)) 3 := ⟨zmk6 142 (by decide +kernel) rfl, zmk6 143 (by decide +kernel) rfl, zmk1 14 (by decide +kernel) rfl, by decide, by decide +kernel, by decide +kernel, by decide +kernel⟩
theorem kc_X12_isKnown : zCalV RX12 yX12_isKnown cX12_isKnown 5 (some (.boolean)) 1 := ⟨zmk8 84 (by decide +kernel) rfl, zmk0 120 (by decide +kernel) rfl, zmk8 85 (by decide +kernel) rfl, zmk1 14 (by decide +kernel) rfl, by decide, rfl, by decide +kernel, by decide +kernel, by decide +kernel⟩
theorem kc_X12_isLake : zCalV RX12 yX12_isLake cX12_isLake 2 (some (.boolean)) 1 := ⟨zmk7 15 (by decide +kernel) rfl, zmk0 66 (by decide +kernel) rfl, zmk7 16 (by decide +kernel) rfl, zmk1 14 (by decide +kernel) rfl, by decide, rfl, by decide +kernel, by decide +kernel, by decide +kernel⟩
theorem kc_X12_isLetter : zCalS yX12_isLetter cX12_isLetter 1 (some (.boolean)) 1 := ⟨zmk6 161 (by decide +kernel) rfl, zmk6 162 (by decide +kernel) rfl, zmk1 14 (by decide +kernel) rfl, by decide, by decide +kernel, by decide +kernel, by decide +kernel⟩
theorem kc_X12_isMourner : zCalV RX12 yX12_isMourner cX12_isMourner 2 (some (.boolean)) 1 := ⟨zmk7 67 (by decide +kernel) rfl, zmk0 77 (by decide +kernel) rfl, zmk7 68 (by decide +kernel) rfl, zmk1 14 (by decide +kernel) rfl, by decide, rfl, by decide +kernel, by decide +kernel, by decide +kernel⟩
theorem kc_X12_isNear : zCalV RX12 yX12_isNear cX12_isNear 10 (some (.boolean)) 7 := ⟨zmk8 100 (by decide +kernel) rfl, zmk0 122 (by decide +kernel) rfl, zmk8 101 (by decide +kernel) rfl, zmk1 14 (by decide +kernel) rfl, by decide, rfl, by decide +kernel, by decide +kernel, by decide +kernel⟩
theorem kc_X12_isOf : zCalV RX12 yX12_isOf cX12_isOf 3 (some (.boolean)) 2 := ⟨zmk6 146 (by decide +kernel) rfl, zmk0 48 (by decide +kernel) rfl, zmk6 147 (by decide +kernel) rfl, zmk1 14 (by decide +kernel) rfl, by decide, rfl, by decide +kernel, by decide +kernel, by decide +kernel⟩
theorem kc_X12_isPlace : zCalV RX12 yX12_isPlace cX12_isPlace 2 (some (.boolean)) 1 := ⟨zmk7 71 (by decide +kernel) rfl, zmk0 78 (by decide +kernel) rfl, zmk7 72 (by decide +kernel) rfl, zmk1 14 (by decide +kernel) rfl, by decide, rfl, by decide +kernel, by decide +kernel, by decide +kernel⟩
theorem kc_X12_isRest : zCalV RX12 yX12_isRest cX12_isRest 5 (some (.boolean)) 2 := ⟨zmk8 17 (by decide +kernel) rfl, zmk0 109 (by decide +kernel) rfl, zmk8 18 (by decide +kernel) rfl, zmk1 14 (by decide +kernel) rfl, by decide, rfl, by decide +kernel, by decide +kernel, by decide +kernel⟩
theorem kc_X12_isState : zCalV RX12 yX12_isState cX12_isState 4 (some (.boolean)) 3 := ⟨zmk7 147 (by decide +kernel) rfl, zmk0 93 (by decide +kernel) rfl, zmk7 148 (by decide +kernel) rfl, zmk1 14 (by decide +kernel) rfl, by decide, rfl, by decide +kernel, by decide +kernel, by decide +kernel⟩
theorem kc_X12_keel : zCalV RX12 yX12_keel cX12_keel 5 (some (.int)) 0 := ⟨zmk8 125 (by decide +kernel) rfl, zmk0 126 (by decide +kernel) rfl, zmk8 126 (by decide +kernel) rfl, zmk1 14 (by decide +kernel) rfl, by decide, rfl, by decide +kernel, by decide +kernel, by decide +kernel⟩
theorem kc_X12_lake : zCalV RX12 yX12_lake cX12_lake 4 (some (.int)) 2 := ⟨zmk7 10 (by decide +kernel) rfl, zmk7 11 (by decide +kernel) rfl, zmk7 12 (by decide +kernel) rfl, zmk1 14 (by decide +kernel) rfl, by decide, rfl, by decide +kernel, by decide +kernel, by decide +kernel⟩
theorem kc_X12_lakeLine : zCalV RX12 yX12_lakeLine cX12_lakeLine 3 none 0 := ⟨zmk6 183 (by decide +kernel) rfl, zmk0 52 (by decide +kernel) rfl, zmk6 184 (by decide +kernel) rfl, zmk1 14 (by decide +kernel) rfl, by decide, rfl, by decide +kernel, by decide +kernel, by decide +kernel⟩
theorem kc_X12_lawLine : zCalV RX12 yX12_lawLine cX12_lawLine 5 none 0 := ⟨zmk6 233 (by decide +kernel) rfl, zmk0 64 (by decide +kernel) rfl, zmk6 234 (by decide +kernel) rfl, zmk1 14 (by decide +kernel) rfl, by decide, rfl, by decide +kernel, by decide +kernel, by decide +kernel⟩
theorem kc_X12_leaks : zCalV RX12 yX12_leaks cX12_leaks 2 none 0 := ⟨zmk7 135 (by decide +kernel) rfl, zmk0 91 (by decide +kernel) rfl, zmk7 136 (by decide +kernel) rfl, zmk1 14 (by decide +kernel) rfl, by decide, rfl, by decide +kernel, by decide +kernel, by decide +kernel⟩
theorem kc_X12_lean : zCalV RX12 yX12_lean cX12_lean 2 (some (.int)) 1 := ⟨zmk7 103 (by decide +kernel) rfl, zmk0 86 (by decide +kernel) rfl, zmk7 104 (by decide +kernel) rfl, zmk1 14 (by decide +kernel) rfl, by decide, rfl, by decide +kernel, by decide +kernel, by decide +kernel⟩
theorem kc_X12_lies : zCalV RX12 yX12_lies cX12_lies 8 (some (.int)) 2 := ⟨zmk8 67 (by decide +kernel) rfl, zmk8 68 (by decide +kernel) rfl, zmk8 69 (by decide +kernel) rfl, zmk1 14 (by decide +kernel) rfl, by decide, rfl, by decide +kernel, by decide +kernel, by decide +kernel⟩
theorem kc_X12_list : zCalV RX12 yX12_list cX12_list 5 (some (.int)) 4 := ⟨zmk7 150 (by decide +kernel) rfl, zmk7 151 (by decide +kernel) rfl, zmk7 152 (by decide +kernel) rfl, zmk1 14 (by decide +kernel) rfl, by decide, rfl, by decide +kernel, by decide +kernel, by decide +kernel⟩
theorem kc_X12_listOf : zCalV RX12 yX12_listOf cX12_listOf 4 (some (.int)) 1 := ⟨zmk7 91 (by decide +kernel) rfl, zmk0 83 (by decide +kernel) rfl, zmk7 92 (by decide +kernel) rfl, zmk1 14 (by decide +kernel) rfl, by decide, rfl, by decide +kernel, by decide +kernel, by decide +kernel⟩
theorem kc_X12_lowest : zCalV RX12 yX12_lowest cX12_lowest 3 (some (.int)) 1 := ⟨zmk8 76 (by decide +kernel) rfl, zmk0 118 (by decide +kernel) rfl, zmk8 77 (by decide +kernel) rfl, zmk1 14 (by decide +kernel) rfl, by decide, rfl, by decide +kernel, by decide +kernel, by decide +kernel⟩
theorem kc_X12_meet : zCalV RX12 yX12_meet cX12_meet 12 (some (.int)) 3 := ⟨zmk8 95 (by decide +kernel) rfl, zmk8 96 (by decide +kernel) rfl, zmk8 97 (by decide +kernel) rfl, zmk1 14 (by decide +kernel) rfl, by decide, rfl, by decide +kernel, by decide +kernel, by decide +kernel⟩
theorem kc_X12_metAt : zCalV RX12 yX12_metAt cX12_metAt 3 (some (.int)) 1 := ⟨zmk7 229 (by decide +kernel) rfl, zmk0 105 (by decide +kernel) rfl, zmk7 230 (by decide +kernel) rfl, zmk1 14 (by decide +kernel) rfl, by decide, rfl, by decide +kernel, by decide +kernel, by decide +kernel⟩
theorem kc_X12_mourners : zCalV RX12 yX12_mourners cX12_mourners 1 (some (.int)) 0 := ⟨zmk7 23 (by decide +kernel) rfl, zmk0 68 (by decide +kernel) rfl, zmk7 24 (by decide +kernel) rfl, zmk1 14 (by decide +kernel) rfl, by decide, rfl, by decide +kernel, by decide +kernel, by decide +kernel⟩
theorem kc_X12_moves : zCalV RX12 yX12_moves cX12_moves 3 none 2 := ⟨zmk7 127 (by decide +kernel) rfl, zmk0 89 (by decide +kernel) rfl, zmk7 128 (by decide +kernel) rfl, zmk1 14 (by decide +kernel) rfl, by decide, rfl, by decide +kernel, by decide +kernel, by decide +kernel⟩
theorem kc_X12_nightLine : zCalV RX12 yX12_nightLine cX12_nightLine 2 none 0 := ⟨zmk6 225 (by decide +kernel) rfl, zmk0 62 (by decide +kernel) rfl, zmk6 226 (by decide +kernel) rfl, zmk1 14 (by decide +kernel) rfl, by decide, rfl, by decide +kernel, by decide +kernel, by decide +kernel⟩
theorem kc_X12_numbered : zCalV RX12 yX12_numbered cX12_numbered 4 (some (.int)) 2 := ⟨zmk6 195 (by decide +kernel) rfl, zmk0 55 (by decide +kernel) rfl, zmk6 196 (by decide +kernel) rfl, zmk1 14 (by decide +kernel) rfl, by decide, rfl, by decide +kernel, by decide +kernel, by decide +kernel⟩
theorem kc_X12_of : zCalV RX12 yX12_of cX12_of 2 (some (.int)) 1 := ⟨zmk7 19 (by decide +kernel) rfl, zmk0 67 (by decide +kernel) rfl, zmk7 20 (by decide +kernel) rfl, zmk1 14 (by decide +kernel) rfl, by decide, rfl, by decide +kernel, by decide +kernel, by decide +kernel⟩
theorem kc_X12_ofMourner : zCalV RX12 yX12_ofMourner cX12_ofMourner 3 (some (.int)) 2 := ⟨zmk7 27 (by decide +kernel) rfl, zmk0 69 (by decide +kernel) rfl, zmk7 28 (by decide +kernel) rfl, zmk1 14 (by decide +kernel) rfl, by decide, rfl, by decide +kernel, by decide +kernel, by decide +kernel⟩
theorem kc_X12_otherWord : zCalS yX12_otherWord cX12_otherWord 2 (some (.int)) 1 := ⟨zmk6 176 (by decide +kernel) rfl, zmk6 177 (by decide +kernel) rfl, zmk1 14 (by decide +kernel) rfl, by decide, by decide +kernel, by decide +kernel, by decide +kernel⟩
theorem kc_X12_owed : zCalV RX12 yX12_owed cX12_owed 7 (some (.int)) 4 := ⟨zmk7 183 (by decide +kernel) rfl, zmk7 184 (by decide +kernel) rfl, zmk7 185 (by decide +kernel) rfl, zmk1 14 (by decide +kernel) rfl, by decide, rfl, by decide +kernel, by decide +kernel, by decide +kernel⟩
theorem kc_X12_owes : zCalV RX12 yX12_owes cX12_owes 5 (some (.int)) 2 := ⟨zmk7 188 (by decide +kernel) rfl, zmk0 98 (by decide +kernel) rfl, zmk7 189 (by decide +kernel) rfl, zmk1 14 (by decide +kernel) rfl, by decide, rfl, by decide +kernel, by decide +kernel, by decide +kernel⟩
theorem kc_X12_placeOf : zCalS yX12_placeOf cX12_placeOf 2 (some (.int)) 2 := ⟨zmk7 3 (by decide +kernel) rfl, zmk7 4 (by decide +kernel) rfl, zmk1 14 (by decide +kernel) rfl, by decide, by decide +kernel, by decide +kernel, by decide +kernel⟩
theorem kc_X12_places : zCalV RX12 yX12_places cX12_places 1 (some (.int)) 0 := ⟨zmk7 75 (by decide +kernel) rfl, zmk0 79 (by decide +kernel) rfl, zmk7 76 (by decide +kernel) rfl, zmk1 14 (by decide +kernel) rfl, by decide, rfl, by decide +kernel, by decide +kernel, by decide +kernel⟩
theorem kc_X12_prices : zCalV RX12 yX12_prices cX12_prices 6 none 1 := ⟨zmk7 200 (by decide +kernel) rfl, zmk0 100 (by decide +kernel) rfl, zmk7 201 (by decide +kernel) rfl, zmk1 14 (by decide +kernel) rfl, by decide, rfl, by decide +kernel, by decide +kernel, by decide +kernel⟩
theorem kc_X12_pull : zCalV RX12 yX12_pull cX12_pull 6 (some (.int)) 3 := ⟨zmk8 12 (by decide +kernel) rfl, zmk8 13 (by decide +kernel) rfl, zmk8 14 (by decide +kernel) rfl, zmk1 14 (by decide +kernel) rfl, by decide, rfl, by decide +kernel, by decide +kernel, by decide +kernel⟩
theorem kc_X12_puts : zCalV RX12 yX12_puts cX12_puts 4 none 2 := ⟨zmk8 9 (by decide +kernel) rfl, zmk0 108 (by decide +kernel) rfl, zmk8 10 (by decide +kernel) rfl, zmk1 14 (by decide +kernel) rfl, by decide, rfl, by decide +kernel, by decide +kernel, by decide +kernel⟩
theorem kc_X12_reach : zCalV RX12 yX12_reach cX12_reach 9 (some (.int)) 4 := ⟨zmk7 208 (by decide +kernel) rfl, zmk7 209 (by decide +kernel) rfl, zmk7 210 (by decide +kernel) rfl, zmk1 14 (by decide +kernel) rfl, by decide, rfl, by decide +kernel, by decide +kernel, by decide +kernel⟩
theorem kc_X12_runs : zCalV RX12 yX12_runs cX12_runs 2 none 1 := ⟨zmk7 51 (by decide +kernel) rfl, zmk0 73 (by decide +kernel) rfl, zmk7 52 (by decide +kernel) rfl, zmk1 14 (by decide +kernel) rfl, by decide, rfl, by decide +kernel, by decide +kernel, by decide +kernel⟩
theorem kc_X12_sends : zCalV RX12 yX12_sends cX12_sends 7 (some (.int)) 2 := ⟨zmk7 216 (by decide +kernel) rfl, zmk7 217 (by decide +kernel) rfl, zmk7 218 (by decide +kernel) rfl, zmk1 14 (by decide +kernel) rfl, by decide, rfl, by decide +kernel, by decide +kernel, by decide +kernel⟩
theorem kc_X12_sidesAt : zCalV RX12 yX12_sidesAt cX12_sidesAt 3 (some (.int)) 2 := ⟨zmk7 59 (by decide +kernel) rfl, zmk0 75 (by decide +kernel) rfl, zmk7 60 (by decide +kernel) rfl, zmk1 14 (by decide +kernel) rfl, by decide, rfl, by decide +kernel, by decide +kernel, by decide +kernel⟩
theorem kc_X12_sight : zCalV RX12 yX12_sight cX12_sight 4 (some (.int)) 3 := ⟨zmk8 20 (by decide +kernel) rfl, zmk8 21 (by decide +kernel) rfl, zmk8 22 (by decide +kernel) rfl, zmk1 14 (by decide +kernel) rfl, by decide, rfl, by decide +kernel, by decide +kernel, by decide +kernel⟩
theorem kc_X12_sightOf : zCalV RX12 yX12_sightOf cX12_sightOf 3 (some (.int)) 2 := ⟨zmk8 29 (by decide +kernel) rfl, zmk0 111 (by decide +kernel) rfl, zmk8 30 (by decide +kernel) rfl, zmk1 14 (by decide +kernel) rfl, by decide, rfl, by decide +kernel, by decide +kernel, by decide +kernel⟩
theorem kc_X12_sights : zCalV RX12 yX12_sights cX12_sights 1 (some (.int)) 0 := ⟨zmk8 25 (by decide +kernel) rfl, zmk0 110 (by decide +kernel) rfl, zmk8 26 (by decide +kernel) rfl, zmk1 14 (by decide +kernel) rfl, by decide, rfl, by decide +kernel, by decide +kernel, by decide +kernel⟩
theorem kc_X12_sign : zCalS yX12_sign cX12_sign 1 (some (.int)) 1 := ⟨zmk7 109 (by decide +kernel) rfl, zmk7 110 (by decide +kernel) rfl, zmk1 14 (by decide +kernel) rfl, by decide, by decide +kernel, by decide +kernel, by decide +kernel⟩
theorem kc_X12_signOf : zCalS yX12_signOf cX12_signOf 1 (some (.int)) 1 := ⟨zmk7 123 (by decide +kernel) rfl, zmk7 124 (by decide +kernel) rfl, zmk1 14 (by decide +kernel) rfl, by decide, by decide +kernel, by decide +kernel, by decide +kernel⟩
theorem kc_X12_size : zCalS yX12_size cX12_size 1 (some (.int)) 1 := ⟨zmk7 106 (by decide +kernel) rfl, zmk7 107 (by decide +kernel) rfl, zmk1 14 (by decide +kernel) rfl, by decide, by decide +kernel, by decide +kernel, by decide +kernel⟩
theorem kc_X12_sizeOf : zCalS yX12_sizeOf cX12_sizeOf 1 (some (.int)) 1 := ⟨zmk7 0 (by decide +kernel) rfl, zmk7 1 (by decide +kernel) rfl, zmk1 14 (by decide +kernel) rfl, by decide, by decide +kernel, by decide +kernel, by decide +kernel⟩
theorem kc_X12_sizes : zCalV RX12 yX12_sizes cX12_sizes 3 (some (.int)) 0 := ⟨zmk7 120 (by decide +kernel) rfl, zmk0 88 (by decide +kernel) rfl, zmk7 121 (by decide +kernel) rfl, zmk1 14 (by decide +kernel) rfl, by decide, rfl, by decide +kernel, by decide +kernel, by decide +kernel⟩
theorem kc_X12_soon : zCalV RX12 yX12_soon cX12_soon 2 (some (.int)) 1 := ⟨zmk7 221 (by decide +kernel) rfl, zmk0 103 (by decide +kernel) rfl, zmk7 222 (by decide +kernel) rfl, zmk1 14 (by decide +kernel) rfl, by decide, rfl, by decide +kernel, by decide +kernel, by decide +kernel⟩
theorem kc_X12_spreads : zCalV RX12 yX12_spreads cX12_spreads 9 none 1 := ⟨zmk7 225 (by decide +kernel) rfl, zmk0 104 (by decide +kernel) rfl, zmk7 226 (by decide +kernel) rfl, zmk1 14 (by decide +kernel) rfl, by decide, rfl, by decide +kernel, by decide +kernel, by decide +kernel⟩
theorem kc_X12_state : zCalV RX12 yX12_state cX12_state 5 (some (.int)) 4 := ⟨zmk7 142 (by decide +kernel) rfl, zmk7 143 (by decide +kernel) rfl, zmk7 144 (by decide +kernel) rfl, zmk1 14 (by decide +kernel) rfl, by decide, rfl, by decide +kernel, by decide +kernel, by decide +kernel⟩
theorem kc_X12_stood : zCalV RX12 yX12_stood cX12_stood 10 (some (.int)) 3 := ⟨zmk8 32 (by decide +kernel) rfl, zmk8 33 (by decide +kernel) rfl, zmk8 34 (by decide +kernel) rfl, zmk1 14 (by decide +kernel) rfl, by decide, rfl, by decide +kernel, by decide +kernel, by decide +kernel⟩
theorem kc_X12_stop : zCalV RX12 yX12_stop cX12_stop 3 (some (.int)) 2 := ⟨zmk7 42 (by decide +kernel) rfl, zmk7 43 (by decide +kernel) rfl, zmk7 44 (by decide +kernel) rfl, zmk1 14 (by decide +kernel) rfl, by decide, rfl, by decide +kernel, by decide +kernel, by decide +kernel⟩
theorem kc_X12_takes : zCalV RX12 yX12_takes cX12_takes 4 (some (.int)) 2 := ⟨zmk6 187 (by decide +kernel) rfl, zmk0 53 (by decide +kernel) rfl, zmk6 188 (by decide +kernel) rfl, zmk1 14 (by decide +kernel) rfl, by decide, rfl, by decide +kernel, by decide +kernel, by decide +kernel⟩
theorem kc_X12_term : zCalV RX12 yX12_term cX12_term 4 (some (.int)) 3 := ⟨zmk7 175 (by decide +kernel) rfl, zmk7 176 (by decide +kernel) rfl, zmk7 177 (by decide +kernel) rfl, zmk1 14 (by decide +kernel) rfl, by decide, rfl, by decide +kernel, by decide +kernel, by decide +kernel⟩
theorem kc_X12_termOf : zCalV RX12 yX12_termOf cX12_termOf 3 (some (.int)) 2 := ⟨zmk7 180 (by decide +kernel) rfl, zmk0 97 (by decide +kernel) rfl, zmk7 181 (by decide +kernel) rfl, zmk1 14 (by decide +kernel) rfl, by decide, rfl, by decide +kernel, by decide +kernel, by decide +kernel⟩
theorem kc_X12_text : zCalV RX12 yX12_text cX12_text 5 (some (.int)) 2 := ⟨zmk6 138 (by decide +kernel) rfl, zmk6 139 (by decide +kernel) rfl, zmk6 140 (by decide +kernel) rfl, zmk1 14 (by decide +kernel) rfl, by decide, rfl, by decide +kernel, by decide +kernel, by decide +kernel⟩
theorem kc_X12_thrift : zCalV RX12 yX12_thrift cX12_thrift 6 (some (.int)) 3 := ⟨zmk7 236 (by decide +kernel) rfl, zmk7 237 (by decide +kernel) rfl, zmk7 238 (by decide +kernel) rfl, zmk1 14 (by decide +kernel) rfl, by decide, rfl, by decide +kernel, by decide +kernel, by decide +kernel⟩
theorem kc_X12_trim : zCalV RX12 yX12_trim cX12_trim 8 (some (.int)) 2 := ⟨zmk8 116 (by decide +kernel) rfl, zmk8 117 (by decide +kernel) rfl, zmk8 118 (by decide +kernel) rfl, zmk1 14 (by decide +kernel) rfl, by decide, rfl, by decide +kernel, by decide +kernel, by decide +kernel⟩
theorem kc_X12_turn : zCalV RX12 yX12_turn cX12_turn 3 (some (.int)) 1 := ⟨zmk7 164 (by decide +kernel) rfl, zmk0 94 (by decide +kernel) rfl, zmk7 165 (by decide +kernel) rfl, zmk1 14 (by decide +kernel) rfl, by decide, rfl, by decide +kernel, by decide +kernel, by decide +kernel⟩
theorem kc_X12_wake : zCalV RX12 yX12_wake cX12_wake 3 (some (.int)) 0 := ⟨zmk7 168 (by decide +kernel) rfl, zmk0 95 (by decide +kernel) rfl, zmk7 169 (by decide +kernel) rfl, zmk1 14 (by decide +kernel) rfl, by decide, rfl, by decide +kernel, by decide +kernel, by decide +kernel⟩
theorem kc_X12_wordOf : zCalS yX12_wordOf cX12_wordOf 2 (some (.int)) 1 := ⟨zmk6 166 (by decide +kernel) rfl, zmk6 167 (by decide +kernel) rfl, zmk1 14 (by decide +kernel) rfl, by decide, by decide +kernel, by decide +kernel, by decide +kernel⟩
theorem kc_X12_worst : zCalV RX12 yX12_worst cX12_worst 8 (some (.int)) 2 := ⟨zmk8 92 (by decide +kernel) rfl, zmk0 121 (by decide +kernel) rfl, zmk8 93 (by decide +kernel) rfl, zmk1 14 (by decide +kernel) rfl, by decide, rfl, by decide +kernel, by decide +kernel, by decide +kernel⟩
theorem kc_X12_wrongAtEnd : zCalV RX12 yX12_wrongAtEnd cX12_wrongAtEnd 6 (some (.int)) 0 := ⟨zmk6 237 (by decide +kernel) rfl, zmk0 65 (by decide +kernel) rfl, zmk6 238 (by decide +kernel) rfl, zmk1 14 (by decide +kernel) rfl, by decide, rfl, by decide +kernel, by decide +kernel, by decide +kernel⟩
theorem kc_J6_bitCount_0f7a4 : zCalS yJ6_bitCount_0f7a4 cJ6_bitCount_0f7a4 1 (some (.int)) 1 := ⟨zmk5 105 (by decide +kernel) rfl, zmk5 106 (by decide +kernel) rfl, zmk1 21 (by decide +kernel) rfl, by decide, by decide +kernel, by decide +kernel, by decide +kernel⟩
theorem kc_J6_numberOfTrailingZeros_0f7a4 : zCalS yJ6_numberOfTrailingZeros_0f7a4 cJ6_numberOfTrailingZeros_0f7a4 2 (some (.int)) 1 := ⟨zmk5 157 (by decide +kernel) rfl, zmk5 158 (by decide +kernel) rfl, zmk1 21 (by decide +kernel) rfl, by decide, by decide +kernel, by decide +kernel, by decide +kernel⟩
theorem kc_J6_signum_0f7a4 : zCalS yJ6_signum_0f7a4 cJ6_signum_0f7a4 1 (some (.int)) 1 := ⟨zmk4 79 (by decide +kernel) rfl, zmk4 80 (by decide +kernel) rfl, zmk1 21 (by decide +kernel) rfl, by decide, by decide +kernel, by decide +kernel, by decide +kernel⟩
theorem kc_J9_abs_0f7a4 : zCalS yJ9_abs_0f7a4 cJ9_abs_0f7a4 1 (some (.int)) 1 := ⟨zmk4 76 (by decide +kernel) rfl, zmk4 77 (by decide +kernel) rfl, zmk1 5 (by decide +kernel) rfl, by decide, by decide +kernel, by decide +kernel, by decide +kernel⟩
theorem kc_J9_max_7cf53 : zCalS yJ9_max_7cf53 cJ9_max_7cf53 2 (some (.int)) 2 := ⟨zmk1 52 (by decide +kernel) rfl, zmk1 53 (by decide +kernel) rfl, zmk1 5 (by decide +kernel) rfl, by decide, by decide +kernel, by decide +kernel, by decide +kernel⟩
theorem kc_J9_min_7cf53 : zCalS yJ9_min_7cf53 cJ9_min_7cf53 2 (some (.int)) 2 := ⟨zmk2 229 (by decide +kernel) rfl, zmk2 230 (by decide +kernel) rfl, zmk1 5 (by decide +kernel) rfl, by decide, by decide +kernel, by decide +kernel, by decide +kernel⟩
theorem kc_J0_charAt_5068e : zCalV RJ0 yJ0_charAt_5068e cJ0_charAt_5068e 2 (some (.char)) 1 := ⟨zmk3 40 (by decide +kernel) rfl, zmk3 41 (by decide +kernel) rfl, zmk3 42 (by decide +kernel) rfl, zmk1 15 (by decide +kernel) rfl, by decide, rfl, by decide +kernel, by decide +kernel, by decide +kernel⟩
theorem kc_J0_checkIndex_df160 : zCalS yJ0_checkIndex_df160 cJ0_checkIndex_df160 2 none 2 := ⟨zmk3 51 (by decide +kernel) rfl, zmk3 52 (by decide +kernel) rfl, zmk1 15 (by decide +kernel) rfl, by decide, by decide +kernel, by decide +kernel, by decide +kernel⟩
theorem kc_J0_coder_7d493 : zCalV RJ0 yJ0_coder_7d493 cJ0_coder_7d493 1 (some (.byte)) 0 := ⟨zmk3 34 (by decide +kernel) rfl, zmk3 35 (by decide +kernel) rfl, zmk3 36 (by decide +kernel) rfl, zmk1 15 (by decide +kernel) rfl, by decide, rfl, by decide +kernel, by decide +kernel, by decide +kernel⟩
theorem kc_J0_isLatin1_aae02 : zCalV RJ0 yJ0_isLatin1_aae02 cJ0_isLatin1_aae02 1 (some (.boolean)) 0 := ⟨zmk3 44 (by decide +kernel) rfl, zmk3 45 (by decide +kernel) rfl, zmk3 46 (by decide +kernel) rfl, zmk1 15 (by decide +kernel) rfl, by decide, rfl, by decide +kernel, by decide +kernel, by decide +kernel⟩
theorem kc_J0_length_8abf5 : zCalV RJ0 yJ0_length_8abf5 cJ0_length_8abf5 1 (some (.int)) 0 := ⟨zmk3 30 (by decide +kernel) rfl, zmk3 31 (by decide +kernel) rfl, zmk3 32 (by decide +kernel) rfl, zmk1 15 (by decide +kernel) rfl, by decide, rfl, by decide +kernel, by decide +kernel, by decide +kernel⟩
theorem kc_J1_charAt_3b067 : zCalS yJ1_charAt_3b067 cJ1_charAt_3b067 2 (some (.char)) 2 := ⟨zmk3 48 (by decide +kernel) rfl, zmk3 49 (by decide +kernel) rfl, zmk1 16 (by decide +kernel) rfl, by decide, by decide +kernel, by decide +kernel, by decide +kernel⟩
theorem kc_J2_charAt_3b067 : zCalS yJ2_charAt_3b067 cJ2_charAt_3b067 2 (some (.char)) 2 := ⟨zmk3 59 (by decide +kernel) rfl, zmk3 60 (by decide +kernel) rfl, zmk1 18 (by decide +kernel) rfl, by decide, by decide +kernel, by decide +kernel, by decide +kernel⟩
theorem kc_J2_checkIndex_2214a : zCalS yJ2_checkIndex_2214a cJ2_checkIndex_2214a 2 none 2 := ⟨zmk3 62 (by decide +kernel) rfl, zmk3 63 (by decide +kernel) rfl, zmk1 18 (by decide +kernel) rfl, by decide, by decide +kernel, by decide +kernel, by decide +kernel⟩
theorem kc_J2_getChar_3b067 : zCalS yJ2_getChar_3b067 cJ2_getChar_3b067 2 (some (.char)) 2 := ⟨zmk3 69 (by decide +kernel) rfl, zmk3 70 (by decide +kernel) rfl, zmk1 18 (by decide +kernel) rfl, by decide, by decide +kernel, by decide +kernel, by decide +kernel⟩
theorem kc_J2_length_9d52b : zCalS yJ2_length_9d52b cJ2_length_9d52b 1 (some (.int)) 1 := ⟨zmk3 65 (by decide +kernel) rfl, zmk3 66 (by decide +kernel) rfl, zmk1 18 (by decide +kernel) rfl, by decide, by decide +kernel, by decide +kernel, by decide +kernel⟩
theorem kc_J3_checkIndex_8e157 : zCalS yJ3_checkIndex_8e157 cJ3_checkIndex_8e157 3 (some (.int)) 3 := ⟨zmk3 56 (by decide +kernel) rfl, zmk3 57 (by decide +kernel) rfl, zmk1 17 (by decide +kernel) rfl, by decide, by decide +kernel, by decide +kernel, by decide +kernel⟩
theorem kM_max : Cond.static Lib.Math.max.name ∈ ztbl ∧ Cond.initialized "java/lang/Math" ∈ ztbl ∧ Cond.code Lib.Math.max.name Lib.Math.max.code 2 (some .int) ∈ ztbl := ⟨zmk1 52 (by decide +kernel) rfl, zmk1 5 (by decide +kernel) rfl, zmk1 53 (by decide +kernel) rfl⟩
theorem kM_RX1_68 : Cond.methodLink RX1 68 Lib.Math.max.name ∈ ztbl := zmk1 87 (by decide +kernel) rfl
theorem kM_RX2_51 : Cond.methodLink RX2 51 Lib.Math.max.name ∈ ztbl := zmk5 193 (by decide +kernel) rfl
theorem kM_RX4_187 : Cond.methodLink RX4 187 Lib.Math.max.name ∈ ztbl := zmk5 211 (by decide +kernel) rfl
theorem kM_RX6_9 : Cond.methodLink RX6 9 Lib.Math.max.name ∈ ztbl := zmk1 51 (by decide +kernel) rfl
theorem kM_RX8_63 : Cond.methodLink RX8 63 Lib.Math.max.name ∈ ztbl := zmk3 172 (by decide +kernel) rfl
theorem kM_RX9_107 : Cond.methodLink RX9 107 Lib.Math.max.name ∈ ztbl := zmk5 99 (by decide +kernel) rfl
theorem kM_min : Cond.static Lib.Math.min.name ∈ ztbl ∧ Cond.initialized "java/lang/Math" ∈ ztbl ∧ Cond.code Lib.Math.min.name Lib.Math.min.code 2 (some .int) ∈ ztbl := ⟨zmk2 229 (by decide +kernel) rfl, zmk1 5 (by decide +kernel) rfl, zmk2 230 (by decide +kernel) rfl⟩
theorem kM_RX0_140 : Cond.methodLink RX0 140 Lib.Math.min.name ∈ ztbl := zmk5 15 (by decide +kernel) rfl
theorem kM_RX2_23 : Cond.methodLink RX2 23 Lib.Math.min.name ∈ ztbl := zmk5 182 (by decide +kernel) rfl
theorem kM_RX4_184 : Cond.methodLink RX4 184 Lib.Math.min.name ∈ ztbl := zmk4 165 (by decide +kernel) rfl
theorem kM_RX5_42 : Cond.methodLink RX5 42 Lib.Math.min.name ∈ ztbl := zmk2 228 (by decide +kernel) rfl
theorem kM_RX6_28 : Cond.methodLink RX6 28 Lib.Math.min.name ∈ ztbl := zmk3 169 (by decide +kernel) rfl
theorem kM_RX7_25 : Cond.methodLink RX7 25 Lib.Math.min.name ∈ ztbl := zmk5 130 (by decide +kernel) rfl
theorem kM_RX9_120 : Cond.methodLink RX9 120 Lib.Math.min.name ∈ ztbl := zmk5 110 (by decide +kernel) rfl
theorem kM_abs : Cond.static Lib.Math.abs.name ∈ ztbl ∧ Cond.initialized "java/lang/Math" ∈ ztbl ∧ Cond.code Lib.Math.abs.name Lib.Math.abs.code 1 (some .int) ∈ ztbl := ⟨zmk4 76 (by decide +kernel) rfl, zmk1 5 (by decide +kernel) rfl, zmk4 77 (by decide +kernel) rfl⟩
theorem kM_RX1_97 : Cond.methodLink RX1 97 Lib.Math.abs.name ∈ ztbl := zmk4 75 (by decide +kernel) rfl
theorem kM_RX4_176 : Cond.methodLink RX4 176 Lib.Math.abs.name ∈ ztbl := zmk4 163 (by decide +kernel) rfl
