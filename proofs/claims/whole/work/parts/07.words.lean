theorem wd_323 : Cond.code ⟨"CabbageCradles", "isOff", "(II)Z"⟩ prog_1_method_39_code 2 (Option.some .boolean) ∈ cb_ws := cb_wt (cb_t2 _ (List.mem_of_getElem? (i := 19) rfl)) rfl
theorem wd_108 : Cond.fieldLink "CabbageCradles$Row" 21 "CabbageCradles$Row" "size" "I" ∈ cb_ws := cb_wt (cb_t1 _ (List.mem_of_getElem? (i := 44) rfl)) rfl
theorem wi_X2 : ∀ x ∈ u_ws RX2 TX2 2, x ∈ cb_ws := fun x h => List.mem_filter.mpr ⟨(show ∀ x ∈ u_ws RX2 TX2 2, x ∈ lw_tbl by decide +kernel) x h, (show ∀ x ∈ u_ws RX2 TX2 2, goodWord x = true by decide +kernel) x h⟩
theorem fa_X2_21 : cb_FA RX2 21 2 1 := ⟨RX2, TX2, 2, rfl, by decide, wi_X2, wd_108⟩
theorem wd_107 : Cond.fieldLink "CabbageCradles$Row" 15 "CabbageCradles$Row" "items" "[I" ∈ cb_ws := cb_wt (cb_t1 _ (List.mem_of_getElem? (i := 43) rfl)) rfl
theorem fa_X2_15 : cb_FA RX2 15 2 0 := ⟨RX2, TX2, 2, rfl, by decide, wi_X2, wd_107⟩
theorem wd_347 : Cond.code ⟨"CabbageCradles$Row", "at", "(I)I"⟩ prog_4_method_2_code 2 (Option.some .int) ∈ cb_ws := cb_wt (cb_t2 _ (List.mem_of_getElem? (i := 43) rfl)) rfl
theorem fp_X2_21 : cb_FP RX2 21 2 1 := ⟨RX2, TX2, 2, tyX2, rfl, by decide, wi_X2, wd_108, tyX2_ok, nmX2, rfl, by decide +kernel⟩
theorem wd_335 : Cond.code ⟨"CabbageCradles$Row", "add", "(I)I"⟩ prog_4_method_3_code 2 (Option.some .int) ∈ cb_ws := cb_wt (cb_t2 _ (List.mem_of_getElem? (i := 31) rfl)) rfl
theorem wd_463 : Cond.code ⟨"CabbageCradles$Row", "dropLast", "()I"⟩ prog_4_method_4_code 1 (Option.some .int) ∈ cb_ws := cb_wt (cb_t2 _ (List.mem_of_getElem? (i := 159) rfl)) rfl
theorem wd_451 : Cond.code ⟨"CabbageCradles$Row", "clear", "()I"⟩ prog_4_method_5_code 2 (Option.some .int) ∈ cb_ws := cb_wt (cb_t2 _ (List.mem_of_getElem? (i := 147) rfl)) rfl
theorem wd_584 : Cond.code ⟨"CabbageCradles", "leastBit", "(I)I"⟩ prog_1_method_45_code 2 (Option.some .int) ∈ cb_ws := cb_wt (cb_t3 _ (List.mem_of_getElem? (i := 40) rfl)) rfl
theorem wd_654 : Cond.constant "java/lang/Integer" 265 1431655765 ∈ cb_ws := cb_wt (cb_t3 _ (List.mem_of_getElem? (i := 110) rfl)) rfl
theorem wd_655 : Cond.constant "java/lang/Integer" 266 858993459 ∈ cb_ws := cb_wt (cb_t3 _ (List.mem_of_getElem? (i := 111) rfl)) rfl
theorem wd_656 : Cond.constant "java/lang/Integer" 267 252645135 ∈ cb_ws := cb_wt (cb_t3 _ (List.mem_of_getElem? (i := 112) rfl)) rfl
theorem wd_653 : Cond.code ⟨"java/lang/Integer", "bitCount", "(I)I"⟩ prog_11_method_49_code 1 (Option.some .int) ∈ cb_ws := cb_wt (cb_t3 _ (List.mem_of_getElem? (i := 109) rfl)) rfl
theorem wd_550 : Cond.code ⟨"java/util/Arrays", "fill", "([II)V"⟩ prog_17_method_103_code 4 (Option.none) ∈ cb_ws := cb_wt (cb_t3 _ (List.mem_of_getElem? (i := 6) rfl)) rfl
theorem wd_947 : Cond.code ⟨"CabbageCradlesModel", "in", "(JJJ)Z"⟩ prog_9_method_3_code 6 (Option.some .boolean) ∈ cb_ws := cb_wt (cb_t4 _ (List.mem_of_getElem? (i := 163) rfl)) rfl
theorem wd_1243 : Cond.constantLong "CabbageCradlesModel" 77 (-9223372036854775808) ∈ cb_ws := cb_wt (cb_t5 _ (List.mem_of_getElem? (i := 219) rfl)) rfl
theorem wd_1242 : Cond.code ⟨"CabbageCradlesModel", "no", "(I)J"⟩ prog_9_method_4_code 1 (Option.some .long) ∈ cb_ws := cb_wt (cb_t5 _ (List.mem_of_getElem? (i := 218) rfl)) rfl
theorem wd_73 : Cond.initialized "CabbageCradlesModel" ∈ cb_ws := cb_wt (cb_t1 _ (List.mem_of_getElem? (i := 9) rfl)) rfl
theorem wd_945 : Cond.methodLink "CabbageCradlesModel" 79 ⟨"CabbageCradlesModel", "in", "(JJJ)Z"⟩ ∈ cb_ws := cb_wt (cb_t4 _ (List.mem_of_getElem? (i := 161) rfl)) rfl
theorem wd_946 : Cond.static ⟨"CabbageCradlesModel", "in", "(JJJ)Z"⟩ ∈ cb_ws := cb_wt (cb_t4 _ (List.mem_of_getElem? (i := 162) rfl)) rfl
theorem cs_X7_79 : cb_CS RX7 79 yX7_in cX7_in 6 (some .boolean) 3 := ⟨wd_947, wd_945, wd_946, wd_73, ⟨by decide +kernel, by decide +kernel, by decide +kernel⟩, by decide⟩
theorem wd_983 : Cond.code ⟨"CabbageCradlesModel", "isTwo", "(I)Z"⟩ prog_9_method_5_code 1 (Option.some .boolean) ∈ cb_ws := cb_wt (cb_t4 _ (List.mem_of_getElem? (i := 199) rfl)) rfl
theorem wd_1075 : Cond.code ⟨"CabbageCradlesModel", "isIn", "(II)Z"⟩ prog_9_method_6_code 2 (Option.some .boolean) ∈ cb_ws := cb_wt (cb_t5 _ (List.mem_of_getElem? (i := 51) rfl)) rfl
theorem wd_1181 : Cond.code ⟨"CabbageCradlesModel", "ones", "(I)I"⟩ prog_9_method_7_code 3 (Option.some .int) ∈ cb_ws := cb_wt (cb_t5 _ (List.mem_of_getElem? (i := 157) rfl)) rfl
theorem wd_1263 : Cond.code ⟨"CabbageCradlesModel", "lesser", "(II)I"⟩ prog_9_method_8_code 2 (Option.some .int) ∈ cb_ws := cb_wt (cb_t5 _ (List.mem_of_getElem? (i := 239) rfl)) rfl
theorem wd_1157 : Cond.code ⟨"CabbageCradlesModel", "greater", "(II)I"⟩ prog_9_method_9_code 2 (Option.some .int) ∈ cb_ws := cb_wt (cb_t5 _ (List.mem_of_getElem? (i := 133) rfl)) rfl
theorem wd_1239 : Cond.code ⟨"CabbageCradlesModel", "part", "(JJI)J"⟩ prog_9_method_10_code 11 (Option.some .long) ∈ cb_ws := cb_wt (cb_t5 _ (List.mem_of_getElem? (i := 215) rfl)) rfl
theorem wd_847 : Cond.fieldLink "CabbageCradlesModel" 83 "CabbageCradlesModel" "latest" "I" ∈ cb_ws := cb_wt (cb_t4 _ (List.mem_of_getElem? (i := 63) rfl)) rfl
theorem wi_X7 : ∀ x ∈ u_ws RX7 TX7 31, x ∈ cb_ws := fun x h => List.mem_filter.mpr ⟨(show ∀ x ∈ u_ws RX7 TX7 31, x ∈ lw_tbl by decide +kernel) x h, (show ∀ x ∈ u_ws RX7 TX7 31, goodWord x = true by decide +kernel) x h⟩
theorem fp_X7_83 : cb_FP RX7 83 7 4 := ⟨RX7, TX7, 31, tyX7, rfl, by decide, wi_X7, wd_847, tyX7_ok, nmX7, rfl, by decide +kernel⟩
theorem wd_952 : Cond.code ⟨"CabbageCradlesModel", "finds", "(I)I"⟩ prog_9_method_11_code 2 (Option.some .int) ∈ cb_ws := cb_wt (cb_t4 _ (List.mem_of_getElem? (i := 168) rfl)) rfl
theorem wd_944 : Cond.constantLong "CabbageCradlesModel" 86 3 ∈ cb_ws := cb_wt (cb_t4 _ (List.mem_of_getElem? (i := 160) rfl)) rfl
theorem wd_943 : Cond.code ⟨"CabbageCradlesModel", "isSheet", "(I)Z"⟩ prog_9_method_12_code 1 (Option.some .boolean) ∈ cb_ws := cb_wt (cb_t4 _ (List.mem_of_getElem? (i := 159) rfl)) rfl
theorem wd_941 : Cond.methodLink "CabbageCradlesModel" 88 ⟨"CabbageCradlesModel", "isSheet", "(I)Z"⟩ ∈ cb_ws := cb_wt (cb_t4 _ (List.mem_of_getElem? (i := 157) rfl)) rfl
theorem wd_942 : Cond.static ⟨"CabbageCradlesModel", "isSheet", "(I)Z"⟩ ∈ cb_ws := cb_wt (cb_t4 _ (List.mem_of_getElem? (i := 158) rfl)) rfl
theorem cs_X7_88 : cb_CS RX7 88 yX7_isSheet cX7_isSheet 1 (some .boolean) 1 := ⟨wd_943, wd_941, wd_942, wd_73, ⟨by decide +kernel, by decide +kernel, by decide +kernel⟩, by decide⟩
theorem wd_948 : Cond.constantLong "CabbageCradlesModel" 92 2 ∈ cb_ws := cb_wt (cb_t4 _ (List.mem_of_getElem? (i := 164) rfl)) rfl
theorem wd_843 : Cond.fieldLink "CabbageCradlesModel" 7 "CabbageCradlesModel" "forms" "[I" ∈ cb_ws := cb_wt (cb_t4 _ (List.mem_of_getElem? (i := 59) rfl)) rfl
theorem fa_X7_7 : cb_FA RX7 7 7 0 := ⟨RX7, TX7, 31, rfl, by decide, wi_X7, wd_843⟩
theorem wd_844 : Cond.fieldLink "CabbageCradlesModel" 13 "CabbageCradlesModel" "sizes" "[I" ∈ cb_ws := cb_wt (cb_t4 _ (List.mem_of_getElem? (i := 60) rfl)) rfl
theorem fa_X7_13 : cb_FA RX7 13 7 1 := ⟨RX7, TX7, 31, rfl, by decide, wi_X7, wd_844⟩
theorem wd_845 : Cond.fieldLink "CabbageCradlesModel" 16 "CabbageCradlesModel" "items" "[I" ∈ cb_ws := cb_wt (cb_t4 _ (List.mem_of_getElem? (i := 61) rfl)) rfl
theorem fa_X7_16 : cb_FA RX7 16 7 2 := ⟨RX7, TX7, 31, rfl, by decide, wi_X7, wd_845⟩
theorem wd_949 : Cond.methodLink "CabbageCradlesModel" 94 ⟨"CabbageCradlesModel", "finds", "(I)I"⟩ ∈ cb_ws := cb_wt (cb_t4 _ (List.mem_of_getElem? (i := 165) rfl)) rfl
theorem wd_951 : Cond.instanceMethod ⟨"CabbageCradlesModel", "finds", "(I)I"⟩ ∈ cb_ws := cb_wt (cb_t4 _ (List.mem_of_getElem? (i := 167) rfl)) rfl
theorem wd_28 : Cond.selects "CabbageCradlesModel" ⟨"CabbageCradlesModel", "finds", "(I)I"⟩ ⟨"CabbageCradlesModel", "finds", "(I)I"⟩ ∈ cb_ws := cb_wt (List.mem_of_getElem? (i := 28) (by rfl)) rfl
theorem cv_X7_94 : cb_CV RX7 94 yX7_finds cX7_finds 2 (some .int) 1 := ⟨wd_952, wd_949, wd_951, wd_28, wd_73, ⟨by decide +kernel, by decide +kernel, by decide +kernel⟩, by decide⟩
theorem wd_940 : Cond.code ⟨"CabbageCradlesModel", "sheet", "(III)I"⟩ prog_9_method_13_code 5 (Option.some .int) ∈ cb_ws := cb_wt (cb_t4 _ (List.mem_of_getElem? (i := 156) rfl)) rfl
theorem wd_956 : Cond.code ⟨"CabbageCradlesModel", "lose", "(I)I"⟩ prog_9_method_14_code 2 (Option.some .int) ∈ cb_ws := cb_wt (cb_t4 _ (List.mem_of_getElem? (i := 172) rfl)) rfl
theorem wd_964 : Cond.code ⟨"CabbageCradlesModel", "lacks", "(III)I"⟩ prog_9_method_15_code 4 (Option.some .int) ∈ cb_ws := cb_wt (cb_t4 _ (List.mem_of_getElem? (i := 180) rfl)) rfl
theorem wd_967 : Cond.code ⟨"CabbageCradlesModel", "cut", "(II)I"⟩ prog_9_method_16_code 2 (Option.some .int) ∈ cb_ws := cb_wt (cb_t4 _ (List.mem_of_getElem? (i := 183) rfl)) rfl
theorem wd_961 : Cond.methodLink "CabbageCradlesModel" 98 ⟨"CabbageCradlesModel", "lacks", "(III)I"⟩ ∈ cb_ws := cb_wt (cb_t4 _ (List.mem_of_getElem? (i := 177) rfl)) rfl
theorem wd_963 : Cond.instanceMethod ⟨"CabbageCradlesModel", "lacks", "(III)I"⟩ ∈ cb_ws := cb_wt (cb_t4 _ (List.mem_of_getElem? (i := 179) rfl)) rfl
theorem wd_29 : Cond.selects "CabbageCradlesModel" ⟨"CabbageCradlesModel", "lacks", "(III)I"⟩ ⟨"CabbageCradlesModel", "lacks", "(III)I"⟩ ∈ cb_ws := cb_wt (List.mem_of_getElem? (i := 29) (by rfl)) rfl
theorem cv_X7_98 : cb_CV RX7 98 yX7_lacks cX7_lacks 4 (some .int) 3 := ⟨wd_964, wd_961, wd_963, wd_29, wd_73, ⟨by decide +kernel, by decide +kernel, by decide +kernel⟩, by decide⟩
theorem wd_965 : Cond.methodLink "CabbageCradlesModel" 102 ⟨"CabbageCradlesModel", "cut", "(II)I"⟩ ∈ cb_ws := cb_wt (cb_t4 _ (List.mem_of_getElem? (i := 181) rfl)) rfl
theorem wd_966 : Cond.static ⟨"CabbageCradlesModel", "cut", "(II)I"⟩ ∈ cb_ws := cb_wt (cb_t4 _ (List.mem_of_getElem? (i := 182) rfl)) rfl
theorem cs_X7_102 : cb_CS RX7 102 yX7_cut cX7_cut 2 (some .int) 2 := ⟨wd_967, wd_965, wd_966, wd_73, ⟨by decide +kernel, by decide +kernel, by decide +kernel⟩, by decide⟩
theorem wd_960 : Cond.code ⟨"CabbageCradlesModel", "lay", "(IIII)I"⟩ prog_9_method_17_code 6 (Option.some .int) ∈ cb_ws := cb_wt (cb_t4 _ (List.mem_of_getElem? (i := 176) rfl)) rfl
theorem wd_972 : Cond.constant "CabbageCradlesModel" 106 (-2147483648) ∈ cb_ws := cb_wt (cb_t4 _ (List.mem_of_getElem? (i := 188) rfl)) rfl
theorem wd_971 : Cond.code ⟨"CabbageCradlesModel", "get", "(III)I"⟩ prog_9_method_18_code 4 (Option.some .int) ∈ cb_ws := cb_wt (cb_t4 _ (List.mem_of_getElem? (i := 187) rfl)) rfl
theorem wd_846 : Cond.fieldLink "CabbageCradlesModel" 19 "CabbageCradlesModel" "moved" "[I" ∈ cb_ws := cb_wt (cb_t4 _ (List.mem_of_getElem? (i := 62) rfl)) rfl
theorem fa_X7_19 : cb_FA RX7 19 7 3 := ⟨RX7, TX7, 31, rfl, by decide, wi_X7, wd_846⟩
theorem wd_976 : Cond.code ⟨"CabbageCradlesModel", "copy", "(IIIII)I"⟩ prog_9_method_19_code 7 (Option.some .int) ∈ cb_ws := cb_wt (cb_t4 _ (List.mem_of_getElem? (i := 192) rfl)) rfl
theorem wd_981 : Cond.methodLink "CabbageCradlesModel" 107 ⟨"CabbageCradlesModel", "isTwo", "(I)Z"⟩ ∈ cb_ws := cb_wt (cb_t4 _ (List.mem_of_getElem? (i := 197) rfl)) rfl
theorem wd_982 : Cond.static ⟨"CabbageCradlesModel", "isTwo", "(I)Z"⟩ ∈ cb_ws := cb_wt (cb_t4 _ (List.mem_of_getElem? (i := 198) rfl)) rfl
theorem cs_X7_107 : cb_CS RX7 107 yX7_isTwo cX7_isTwo 1 (some .boolean) 1 := ⟨wd_983, wd_981, wd_982, wd_73, ⟨by decide +kernel, by decide +kernel, by decide +kernel⟩, by decide⟩
theorem wd_984 : Cond.constantLong "CabbageCradlesModel" 110 255 ∈ cb_ws := cb_wt (cb_t4 _ (List.mem_of_getElem? (i := 200) rfl)) rfl
theorem wd_849 : Cond.fieldLink "CabbageCradlesModel" 25 "CabbageCradlesModel" "typed" "[I" ∈ cb_ws := cb_wt (cb_t4 _ (List.mem_of_getElem? (i := 65) rfl)) rfl
theorem fa_X7_25 : cb_FA RX7 25 7 6 := ⟨RX7, TX7, 31, rfl, by decide, wi_X7, wd_849⟩
theorem wd_848 : Cond.fieldLink "CabbageCradlesModel" 22 "CabbageCradlesModel" "bytes" "[I" ∈ cb_ws := cb_wt (cb_t4 _ (List.mem_of_getElem? (i := 64) rfl)) rfl
theorem fa_X7_22 : cb_FA RX7 22 7 5 := ⟨RX7, TX7, 31, rfl, by decide, wi_X7, wd_848⟩
theorem wd_980 : Cond.code ⟨"CabbageCradlesModel", "type", "(II)I"⟩ prog_9_method_20_code 3 (Option.some .int) ∈ cb_ws := cb_wt (cb_t4 _ (List.mem_of_getElem? (i := 196) rfl)) rfl
theorem wd_988 : Cond.code ⟨"CabbageCradlesModel", "wipe", "(I)I"⟩ prog_9_method_21_code 3 (Option.some .int) ∈ cb_ws := cb_wt (cb_t4 _ (List.mem_of_getElem? (i := 204) rfl)) rfl
theorem wd_992 : Cond.code ⟨"CabbageCradlesModel", "undo", "(I)I"⟩ prog_9_method_22_code 2 (Option.some .int) ∈ cb_ws := cb_wt (cb_t4 _ (List.mem_of_getElem? (i := 208) rfl)) rfl
theorem wd_1006 : Cond.code ⟨"CabbageCradlesModel", "sortOf", "(I)I"⟩ prog_9_method_23_code 1 (Option.some .int) ∈ cb_ws := cb_wt (cb_t4 _ (List.mem_of_getElem? (i := 222) rfl)) rfl
theorem wd_1009 : Cond.code ⟨"CabbageCradlesModel", "figureOf", "(III)I"⟩ prog_9_method_24_code 3 (Option.some .int) ∈ cb_ws := cb_wt (cb_t4 _ (List.mem_of_getElem? (i := 225) rfl)) rfl
theorem wd_1007 : Cond.methodLink "CabbageCradlesModel" 115 ⟨"CabbageCradlesModel", "figureOf", "(III)I"⟩ ∈ cb_ws := cb_wt (cb_t4 _ (List.mem_of_getElem? (i := 223) rfl)) rfl
theorem wd_1008 : Cond.static ⟨"CabbageCradlesModel", "figureOf", "(III)I"⟩ ∈ cb_ws := cb_wt (cb_t4 _ (List.mem_of_getElem? (i := 224) rfl)) rfl
theorem cs_X7_115 : cb_CS RX7 115 yX7_figureOf cX7_figureOf 3 (some .int) 3 := ⟨wd_1009, wd_1007, wd_1008, wd_73, ⟨by decide +kernel, by decide +kernel, by decide +kernel⟩, by decide⟩
theorem wd_1004 : Cond.methodLink "CabbageCradlesModel" 112 ⟨"CabbageCradlesModel", "sortOf", "(I)I"⟩ ∈ cb_ws := cb_wt (cb_t4 _ (List.mem_of_getElem? (i := 220) rfl)) rfl
theorem wd_1005 : Cond.static ⟨"CabbageCradlesModel", "sortOf", "(I)I"⟩ ∈ cb_ws := cb_wt (cb_t4 _ (List.mem_of_getElem? (i := 221) rfl)) rfl
theorem cs_X7_112 : cb_CS RX7 112 yX7_sortOf cX7_sortOf 1 (some .int) 1 := ⟨wd_1006, wd_1004, wd_1005, wd_73, ⟨by decide +kernel, by decide +kernel, by decide +kernel⟩, by decide⟩
theorem wd_1003 : Cond.code ⟨"CabbageCradlesModel", "tellsOf", "(III)I"⟩ prog_9_method_25_code 3 (Option.some .int) ∈ cb_ws := cb_wt (cb_t4 _ (List.mem_of_getElem? (i := 219) rfl)) rfl
theorem wd_850 : Cond.fieldLink "CabbageCradlesModel" 118 "CabbageCradlesModel" "heads" "I" ∈ cb_ws := cb_wt (cb_t4 _ (List.mem_of_getElem? (i := 66) rfl)) rfl
theorem fp_X7_118 : cb_FP RX7 118 7 7 := ⟨RX7, TX7, 31, tyX7, rfl, by decide, wi_X7, wd_850, tyX7_ok, nmX7, rfl, by decide +kernel⟩
theorem wd_1001 : Cond.methodLink "CabbageCradlesModel" 121 ⟨"CabbageCradlesModel", "tellsOf", "(III)I"⟩ ∈ cb_ws := cb_wt (cb_t4 _ (List.mem_of_getElem? (i := 217) rfl)) rfl
theorem wd_1002 : Cond.static ⟨"CabbageCradlesModel", "tellsOf", "(III)I"⟩ ∈ cb_ws := cb_wt (cb_t4 _ (List.mem_of_getElem? (i := 218) rfl)) rfl
theorem cs_X7_121 : cb_CS RX7 121 yX7_tellsOf cX7_tellsOf 3 (some .int) 3 := ⟨wd_1003, wd_1001, wd_1002, wd_73, ⟨by decide +kernel, by decide +kernel, by decide +kernel⟩, by decide⟩
theorem wd_851 : Cond.fieldLink "CabbageCradlesModel" 28 "CabbageCradlesModel" "head" "[I" ∈ cb_ws := cb_wt (cb_t4 _ (List.mem_of_getElem? (i := 67) rfl)) rfl
theorem fa_X7_28 : cb_FA RX7 28 7 8 := ⟨RX7, TX7, 31, rfl, by decide, wi_X7, wd_851⟩
theorem fa_X7_118 : cb_FA RX7 118 7 7 := ⟨RX7, TX7, 31, rfl, by decide, wi_X7, wd_850⟩
theorem wd_1000 : Cond.code ⟨"CabbageCradlesModel", "readsHeads", "()I"⟩ prog_9_method_26_code 6 (Option.some .int) ∈ cb_ws := cb_wt (cb_t4 _ (List.mem_of_getElem? (i := 216) rfl)) rfl
theorem wd_852 : Cond.fieldLink "CabbageCradlesModel" 124 "CabbageCradlesModel" "couples" "I" ∈ cb_ws := cb_wt (cb_t4 _ (List.mem_of_getElem? (i := 68) rfl)) rfl
theorem fp_X7_124 : cb_FP RX7 124 7 9 := ⟨RX7, TX7, 31, tyX7, rfl, by decide, wi_X7, wd_852, tyX7_ok, nmX7, rfl, by decide +kernel⟩
theorem wd_853 : Cond.fieldLink "CabbageCradlesModel" 31 "CabbageCradlesModel" "couple" "[I" ∈ cb_ws := cb_wt (cb_t4 _ (List.mem_of_getElem? (i := 69) rfl)) rfl
theorem fa_X7_31 : cb_FA RX7 31 7 10 := ⟨RX7, TX7, 31, rfl, by decide, wi_X7, wd_853⟩
theorem fa_X7_124 : cb_FA RX7 124 7 9 := ⟨RX7, TX7, 31, rfl, by decide, wi_X7, wd_852⟩
theorem wd_1013 : Cond.code ⟨"CabbageCradlesModel", "readsCouples", "()I"⟩ prog_9_method_27_code 6 (Option.some .int) ∈ cb_ws := cb_wt (cb_t4 _ (List.mem_of_getElem? (i := 229) rfl)) rfl
theorem wd_1010 : Cond.methodLink "CabbageCradlesModel" 131 ⟨"CabbageCradlesModel", "readsCouples", "()I"⟩ ∈ cb_ws := cb_wt (cb_t4 _ (List.mem_of_getElem? (i := 226) rfl)) rfl
theorem wd_1012 : Cond.instanceMethod ⟨"CabbageCradlesModel", "readsCouples", "()I"⟩ ∈ cb_ws := cb_wt (cb_t4 _ (List.mem_of_getElem? (i := 228) rfl)) rfl
theorem wd_31 : Cond.selects "CabbageCradlesModel" ⟨"CabbageCradlesModel", "readsCouples", "()I"⟩ ⟨"CabbageCradlesModel", "readsCouples", "()I"⟩ ∈ cb_ws := cb_wt (List.mem_of_getElem? (i := 31) (by rfl)) rfl
theorem cv_X7_131 : cb_CV RX7 131 yX7_readsCouples cX7_readsCouples 6 (some .int) 0 := ⟨wd_1013, wd_1010, wd_1012, wd_31, wd_73, ⟨by decide +kernel, by decide +kernel, by decide +kernel⟩, by decide⟩
theorem wd_997 : Cond.methodLink "CabbageCradlesModel" 127 ⟨"CabbageCradlesModel", "readsHeads", "()I"⟩ ∈ cb_ws := cb_wt (cb_t4 _ (List.mem_of_getElem? (i := 213) rfl)) rfl
theorem wd_999 : Cond.instanceMethod ⟨"CabbageCradlesModel", "readsHeads", "()I"⟩ ∈ cb_ws := cb_wt (cb_t4 _ (List.mem_of_getElem? (i := 215) rfl)) rfl
theorem wd_30 : Cond.selects "CabbageCradlesModel" ⟨"CabbageCradlesModel", "readsHeads", "()I"⟩ ⟨"CabbageCradlesModel", "readsHeads", "()I"⟩ ∈ cb_ws := cb_wt (List.mem_of_getElem? (i := 30) (by rfl)) rfl
theorem cv_X7_127 : cb_CV RX7 127 yX7_readsHeads cX7_readsHeads 6 (some .int) 0 := ⟨wd_1000, wd_997, wd_999, wd_30, wd_73, ⟨by decide +kernel, by decide +kernel, by decide +kernel⟩, by decide⟩
theorem wd_996 : Cond.code ⟨"CabbageCradlesModel", "fault", "(I)I"⟩ prog_9_method_28_code 2 (Option.some .int) ∈ cb_ws := cb_wt (cb_t4 _ (List.mem_of_getElem? (i := 212) rfl)) rfl
theorem wd_1021 : Cond.code ⟨"CabbageCradlesModel", "isHead", "(I)Z"⟩ prog_9_method_29_code 2 (Option.some .boolean) ∈ cb_ws := cb_wt (cb_t4 _ (List.mem_of_getElem? (i := 237) rfl)) rfl
theorem wd_1029 : Cond.code ⟨"CabbageCradlesModel", "isCouple", "(I)Z"⟩ prog_9_method_30_code 2 (Option.some .boolean) ∈ cb_ws := cb_wt (cb_t5 _ (List.mem_of_getElem? (i := 5) rfl)) rfl
theorem wd_1035 : Cond.constantLong "CabbageCradlesModel" 134 39 ∈ cb_ws := cb_wt (cb_t5 _ (List.mem_of_getElem? (i := 11) rfl)) rfl
theorem wd_1042 : Cond.code ⟨"CabbageCradlesModel", "isDay", "(I)Z"⟩ prog_9_method_31_code 1 (Option.some .boolean) ∈ cb_ws := cb_wt (cb_t5 _ (List.mem_of_getElem? (i := 18) rfl)) rfl
theorem wd_1018 : Cond.methodLink "CabbageCradlesModel" 136 ⟨"CabbageCradlesModel", "isHead", "(I)Z"⟩ ∈ cb_ws := cb_wt (cb_t4 _ (List.mem_of_getElem? (i := 234) rfl)) rfl
theorem wd_1020 : Cond.instanceMethod ⟨"CabbageCradlesModel", "isHead", "(I)Z"⟩ ∈ cb_ws := cb_wt (cb_t4 _ (List.mem_of_getElem? (i := 236) rfl)) rfl
theorem wd_32 : Cond.selects "CabbageCradlesModel" ⟨"CabbageCradlesModel", "isHead", "(I)Z"⟩ ⟨"CabbageCradlesModel", "isHead", "(I)Z"⟩ ∈ cb_ws := cb_wt (List.mem_of_getElem? (i := 32) (by rfl)) rfl
theorem cv_X7_136 : cb_CV RX7 136 yX7_isHead cX7_isHead 2 (some .boolean) 1 := ⟨wd_1021, wd_1018, wd_1020, wd_32, wd_73, ⟨by decide +kernel, by decide +kernel, by decide +kernel⟩, by decide⟩
theorem wd_1017 : Cond.code ⟨"CabbageCradlesModel", "head", "(II)I"⟩ prog_9_method_32_code 3 (Option.some .int) ∈ cb_ws := cb_wt (cb_t4 _ (List.mem_of_getElem? (i := 233) rfl)) rfl
theorem wd_1026 : Cond.methodLink "CabbageCradlesModel" 139 ⟨"CabbageCradlesModel", "isCouple", "(I)Z"⟩ ∈ cb_ws := cb_wt (cb_t5 _ (List.mem_of_getElem? (i := 2) rfl)) rfl
theorem wd_1028 : Cond.instanceMethod ⟨"CabbageCradlesModel", "isCouple", "(I)Z"⟩ ∈ cb_ws := cb_wt (cb_t5 _ (List.mem_of_getElem? (i := 4) rfl)) rfl
theorem wd_33 : Cond.selects "CabbageCradlesModel" ⟨"CabbageCradlesModel", "isCouple", "(I)Z"⟩ ⟨"CabbageCradlesModel", "isCouple", "(I)Z"⟩ ∈ cb_ws := cb_wt (List.mem_of_getElem? (i := 33) (by rfl)) rfl
theorem cv_X7_139 : cb_CV RX7 139 yX7_isCouple cX7_isCouple 2 (some .boolean) 1 := ⟨wd_1029, wd_1026, wd_1028, wd_33, wd_73, ⟨by decide +kernel, by decide +kernel, by decide +kernel⟩, by decide⟩
theorem wd_1025 : Cond.code ⟨"CabbageCradlesModel", "couple", "(II)I"⟩ prog_9_method_33_code 3 (Option.some .int) ∈ cb_ws := cb_wt (cb_t5 _ (List.mem_of_getElem? (i := 1) rfl)) rfl
theorem wd_1034 : Cond.constantLong "CabbageCradlesModel" 142 29 ∈ cb_ws := cb_wt (cb_t5 _ (List.mem_of_getElem? (i := 10) rfl)) rfl
theorem wd_854 : Cond.fieldLink "CabbageCradlesModel" 34 "CabbageCradlesModel" "weathers" "[I" ∈ cb_ws := cb_wt (cb_t4 _ (List.mem_of_getElem? (i := 70) rfl)) rfl
theorem fa_X7_34 : cb_FA RX7 34 7 11 := ⟨RX7, TX7, 31, rfl, by decide, wi_X7, wd_854⟩
theorem wd_855 : Cond.fieldLink "CabbageCradlesModel" 37 "CabbageCradlesModel" "weather" "[I" ∈ cb_ws := cb_wt (cb_t4 _ (List.mem_of_getElem? (i := 71) rfl)) rfl
theorem fa_X7_37 : cb_FA RX7 37 7 12 := ⟨RX7, TX7, 31, rfl, by decide, wi_X7, wd_855⟩
theorem wd_1033 : Cond.code ⟨"CabbageCradlesModel", "weather", "(II)I"⟩ prog_9_method_34_code 3 (Option.some .int) ∈ cb_ws := cb_wt (cb_t5 _ (List.mem_of_getElem? (i := 9) rfl)) rfl
theorem wd_1040 : Cond.methodLink "CabbageCradlesModel" 144 ⟨"CabbageCradlesModel", "isDay", "(I)Z"⟩ ∈ cb_ws := cb_wt (cb_t5 _ (List.mem_of_getElem? (i := 16) rfl)) rfl
theorem wd_1041 : Cond.static ⟨"CabbageCradlesModel", "isDay", "(I)Z"⟩ ∈ cb_ws := cb_wt (cb_t5 _ (List.mem_of_getElem? (i := 17) rfl)) rfl
theorem cs_X7_144 : cb_CS RX7 144 yX7_isDay cX7_isDay 1 (some .boolean) 1 := ⟨wd_1042, wd_1040, wd_1041, wd_73, ⟨by decide +kernel, by decide +kernel, by decide +kernel⟩, by decide⟩
theorem wd_1043 : Cond.constantLong "CabbageCradlesModel" 147 7 ∈ cb_ws := cb_wt (cb_t5 _ (List.mem_of_getElem? (i := 19) rfl)) rfl
theorem wd_856 : Cond.fieldLink "CabbageCradlesModel" 149 "CabbageCradlesModel" "rabbits" "I" ∈ cb_ws := cb_wt (cb_t4 _ (List.mem_of_getElem? (i := 72) rfl)) rfl
theorem fa_X7_149 : cb_FA RX7 149 7 13 := ⟨RX7, TX7, 31, rfl, by decide, wi_X7, wd_856⟩
theorem wd_857 : Cond.fieldLink "CabbageCradlesModel" 40 "CabbageCradlesModel" "rabbit" "[I" ∈ cb_ws := cb_wt (cb_t4 _ (List.mem_of_getElem? (i := 73) rfl)) rfl
theorem fa_X7_40 : cb_FA RX7 40 7 14 := ⟨RX7, TX7, 31, rfl, by decide, wi_X7, wd_857⟩
theorem fp_X7_149 : cb_FP RX7 149 7 13 := ⟨RX7, TX7, 31, tyX7, rfl, by decide, wi_X7, wd_856, tyX7_ok, nmX7, rfl, by decide +kernel⟩
theorem wd_1039 : Cond.code ⟨"CabbageCradlesModel", "rabbit", "(II)I"⟩ prog_9_method_35_code 3 (Option.some .int) ∈ cb_ws := cb_wt (cb_t5 _ (List.mem_of_getElem? (i := 15) rfl)) rfl
theorem wd_1047 : Cond.code ⟨"CabbageCradlesModel", "back", "(I)I"⟩ prog_9_method_36_code 3 (Option.some .int) ∈ cb_ws := cb_wt (cb_t5 _ (List.mem_of_getElem? (i := 23) rfl)) rfl
theorem wd_1052 : Cond.methodLink "CabbageCradlesModel" 152 ⟨"CabbageCradlesModel", "rabbit", "(II)I"⟩ ∈ cb_ws := cb_wt (cb_t5 _ (List.mem_of_getElem? (i := 28) rfl)) rfl
theorem wd_1037 : Cond.instanceMethod ⟨"CabbageCradlesModel", "rabbit", "(II)I"⟩ ∈ cb_ws := cb_wt (cb_t5 _ (List.mem_of_getElem? (i := 13) rfl)) rfl
theorem wd_1038 : Cond.selects "CabbageCradlesModel" ⟨"CabbageCradlesModel", "rabbit", "(II)I"⟩ ⟨"CabbageCradlesModel", "rabbit", "(II)I"⟩ ∈ cb_ws := cb_wt (cb_t5 _ (List.mem_of_getElem? (i := 14) rfl)) rfl
theorem cv_X7_152 : cb_CV RX7 152 yX7_rabbit cX7_rabbit 3 (some .int) 2 := ⟨wd_1039, wd_1052, wd_1037, wd_1038, wd_73, ⟨by decide +kernel, by decide +kernel, by decide +kernel⟩, by decide⟩
theorem wd_1051 : Cond.code ⟨"CabbageCradlesModel", "read", "(I)I"⟩ prog_9_method_37_code 4 (Option.some .int) ∈ cb_ws := cb_wt (cb_t5 _ (List.mem_of_getElem? (i := 27) rfl)) rfl
theorem wd_859 : Cond.fieldLink "CabbageCradlesModel" 73 "CabbageCradlesModel" "chills" "I" ∈ cb_ws := cb_wt (cb_t4 _ (List.mem_of_getElem? (i := 75) rfl)) rfl
theorem fa_X7_73 : cb_FA RX7 73 7 16 := ⟨RX7, TX7, 31, rfl, by decide, wi_X7, wd_859⟩
theorem wd_1073 : Cond.methodLink "CabbageCradlesModel" 154 ⟨"CabbageCradlesModel", "isIn", "(II)Z"⟩ ∈ cb_ws := cb_wt (cb_t5 _ (List.mem_of_getElem? (i := 49) rfl)) rfl
theorem wd_1074 : Cond.static ⟨"CabbageCradlesModel", "isIn", "(II)Z"⟩ ∈ cb_ws := cb_wt (cb_t5 _ (List.mem_of_getElem? (i := 50) rfl)) rfl
theorem cs_X7_154 : cb_CS RX7 154 yX7_isIn cX7_isIn 2 (some .boolean) 2 := ⟨wd_1075, wd_1073, wd_1074, wd_73, ⟨by decide +kernel, by decide +kernel, by decide +kernel⟩, by decide⟩
theorem wd_1072 : Cond.code ⟨"CabbageCradlesModel", "isSo", "(II)Z"⟩ prog_9_method_38_code 5 (Option.some .boolean) ∈ cb_ws := cb_wt (cb_t5 _ (List.mem_of_getElem? (i := 48) rfl)) rfl
theorem wd_860 : Cond.fieldLink "CabbageCradlesModel" 43 "CabbageCradlesModel" "due" "[I" ∈ cb_ws := cb_wt (cb_t4 _ (List.mem_of_getElem? (i := 76) rfl)) rfl
theorem fa_X7_43 : cb_FA RX7 43 7 17 := ⟨RX7, TX7, 31, rfl, by decide, wi_X7, wd_860⟩
theorem wd_861 : Cond.fieldLink "CabbageCradlesModel" 46 "CabbageCradlesModel" "lost" "[I" ∈ cb_ws := cb_wt (cb_t4 _ (List.mem_of_getElem? (i := 77) rfl)) rfl
theorem fa_X7_46 : cb_FA RX7 46 7 18 := ⟨RX7, TX7, 31, rfl, by decide, wi_X7, wd_861⟩
theorem wd_1069 : Cond.methodLink "CabbageCradlesModel" 158 ⟨"CabbageCradlesModel", "isSo", "(II)Z"⟩ ∈ cb_ws := cb_wt (cb_t5 _ (List.mem_of_getElem? (i := 45) rfl)) rfl
theorem wd_1071 : Cond.instanceMethod ⟨"CabbageCradlesModel", "isSo", "(II)Z"⟩ ∈ cb_ws := cb_wt (cb_t5 _ (List.mem_of_getElem? (i := 47) rfl)) rfl
theorem wd_37 : Cond.selects "CabbageCradlesModel" ⟨"CabbageCradlesModel", "isSo", "(II)Z"⟩ ⟨"CabbageCradlesModel", "isSo", "(II)Z"⟩ ∈ cb_ws := cb_wt (List.mem_of_getElem? (i := 37) (by rfl)) rfl
theorem cv_X7_158 : cb_CV RX7 158 yX7_isSo cX7_isSo 5 (some .boolean) 2 := ⟨wd_1072, wd_1069, wd_1071, wd_37, wd_73, ⟨by decide +kernel, by decide +kernel, by decide +kernel⟩, by decide⟩
theorem wd_858 : Cond.fieldLink "CabbageCradlesModel" 161 "CabbageCradlesModel" "gone" "I" ∈ cb_ws := cb_wt (cb_t4 _ (List.mem_of_getElem? (i := 74) rfl)) rfl
theorem fa_X7_161 : cb_FA RX7 161 7 15 := ⟨RX7, TX7, 31, rfl, by decide, wi_X7, wd_858⟩
theorem wd_1068 : Cond.code ⟨"CabbageCradlesModel", "ripens", "(I)V"⟩ prog_9_method_39_code 4 (Option.none) ∈ cb_ws := cb_wt (cb_t5 _ (List.mem_of_getElem? (i := 44) rfl)) rfl
theorem wd_1094 : Cond.code ⟨"CabbageCradlesModel", "span", "(I)I"⟩ prog_9_method_40_code 1 (Option.some .int) ∈ cb_ws := cb_wt (cb_t5 _ (List.mem_of_getElem? (i := 70) rfl)) rfl
theorem wd_1092 : Cond.methodLink "CabbageCradlesModel" 164 ⟨"CabbageCradlesModel", "span", "(I)I"⟩ ∈ cb_ws := cb_wt (cb_t5 _ (List.mem_of_getElem? (i := 68) rfl)) rfl
theorem wd_1093 : Cond.static ⟨"CabbageCradlesModel", "span", "(I)I"⟩ ∈ cb_ws := cb_wt (cb_t5 _ (List.mem_of_getElem? (i := 69) rfl)) rfl
theorem cs_X7_164 : cb_CS RX7 164 yX7_span cX7_span 1 (some .int) 1 := ⟨wd_1094, wd_1092, wd_1093, wd_73, ⟨by decide +kernel, by decide +kernel, by decide +kernel⟩, by decide⟩
theorem wd_1091 : Cond.code ⟨"CabbageCradlesModel", "isRipe", "(II)Z"⟩ prog_9_method_41_code 3 (Option.some .boolean) ∈ cb_ws := cb_wt (cb_t5 _ (List.mem_of_getElem? (i := 67) rfl)) rfl
theorem wd_1087 : Cond.code ⟨"CabbageCradlesModel", "wants", "(II)Z"⟩ prog_9_method_42_code 3 (Option.some .boolean) ∈ cb_ws := cb_wt (cb_t5 _ (List.mem_of_getElem? (i := 63) rfl)) rfl
theorem wd_1079 : Cond.code ⟨"CabbageCradlesModel", "comes", "(II)Z"⟩ prog_9_method_43_code 3 (Option.some .boolean) ∈ cb_ws := cb_wt (cb_t5 _ (List.mem_of_getElem? (i := 55) rfl)) rfl
theorem wd_867 : Cond.fieldLink "CabbageCradlesModel" 167 "CabbageCradlesModel" "turnWho" "I" ∈ cb_ws := cb_wt (cb_t4 _ (List.mem_of_getElem? (i := 83) rfl)) rfl
theorem fa_X7_167 : cb_FA RX7 167 7 24 := ⟨RX7, TX7, 31, rfl, by decide, wi_X7, wd_867⟩
theorem wd_1084 : Cond.methodLink "CabbageCradlesModel" 170 ⟨"CabbageCradlesModel", "wants", "(II)Z"⟩ ∈ cb_ws := cb_wt (cb_t5 _ (List.mem_of_getElem? (i := 60) rfl)) rfl
theorem wd_1086 : Cond.instanceMethod ⟨"CabbageCradlesModel", "wants", "(II)Z"⟩ ∈ cb_ws := cb_wt (cb_t5 _ (List.mem_of_getElem? (i := 62) rfl)) rfl
theorem wd_40 : Cond.selects "CabbageCradlesModel" ⟨"CabbageCradlesModel", "wants", "(II)Z"⟩ ⟨"CabbageCradlesModel", "wants", "(II)Z"⟩ ∈ cb_ws := cb_wt (List.mem_of_getElem? (i := 40) (by rfl)) rfl
theorem cv_X7_170 : cb_CV RX7 170 yX7_wants cX7_wants 3 (some .boolean) 2 := ⟨wd_1087, wd_1084, wd_1086, wd_40, wd_73, ⟨by decide +kernel, by decide +kernel, by decide +kernel⟩, by decide⟩
theorem wd_1076 : Cond.methodLink "CabbageCradlesModel" 173 ⟨"CabbageCradlesModel", "comes", "(II)Z"⟩ ∈ cb_ws := cb_wt (cb_t5 _ (List.mem_of_getElem? (i := 52) rfl)) rfl
theorem wd_1078 : Cond.instanceMethod ⟨"CabbageCradlesModel", "comes", "(II)Z"⟩ ∈ cb_ws := cb_wt (cb_t5 _ (List.mem_of_getElem? (i := 54) rfl)) rfl
theorem wd_38 : Cond.selects "CabbageCradlesModel" ⟨"CabbageCradlesModel", "comes", "(II)Z"⟩ ⟨"CabbageCradlesModel", "comes", "(II)Z"⟩ ∈ cb_ws := cb_wt (List.mem_of_getElem? (i := 38) (by rfl)) rfl
theorem cv_X7_173 : cb_CV RX7 173 yX7_comes cX7_comes 3 (some .boolean) 2 := ⟨wd_1079, wd_1076, wd_1078, wd_38, wd_73, ⟨by decide +kernel, by decide +kernel, by decide +kernel⟩, by decide⟩
theorem wd_864 : Cond.fieldLink "CabbageCradlesModel" 55 "CabbageCradlesModel" "got" "[I" ∈ cb_ws := cb_wt (cb_t4 _ (List.mem_of_getElem? (i := 80) rfl)) rfl
theorem fa_X7_55 : cb_FA RX7 55 7 21 := ⟨RX7, TX7, 31, rfl, by decide, wi_X7, wd_864⟩
theorem fp_X7_167 : cb_FP RX7 167 7 24 := ⟨RX7, TX7, 31, tyX7, rfl, by decide, wi_X7, wd_867, tyX7_ok, nmX7, rfl, by decide +kernel⟩
theorem wd_868 : Cond.fieldLink "CabbageCradlesModel" 176 "CabbageCradlesModel" "turnOn" "I" ∈ cb_ws := cb_wt (cb_t4 _ (List.mem_of_getElem? (i := 84) rfl)) rfl
theorem fa_X7_176 : cb_FA RX7 176 7 25 := ⟨RX7, TX7, 31, rfl, by decide, wi_X7, wd_868⟩
theorem fp_X7_176 : cb_FP RX7 176 7 25 := ⟨RX7, TX7, 31, tyX7, rfl, by decide, wi_X7, wd_868, tyX7_ok, nmX7, rfl, by decide +kernel⟩
theorem wd_862 : Cond.fieldLink "CabbageCradlesModel" 49 "CabbageCradlesModel" "by" "[I" ∈ cb_ws := cb_wt (cb_t4 _ (List.mem_of_getElem? (i := 78) rfl)) rfl
theorem fa_X7_49 : cb_FA RX7 49 7 19 := ⟨RX7, TX7, 31, rfl, by decide, wi_X7, wd_862⟩
theorem wd_863 : Cond.fieldLink "CabbageCradlesModel" 52 "CabbageCradlesModel" "when" "[I" ∈ cb_ws := cb_wt (cb_t4 _ (List.mem_of_getElem? (i := 79) rfl)) rfl
theorem fa_X7_52 : cb_FA RX7 52 7 20 := ⟨RX7, TX7, 31, rfl, by decide, wi_X7, wd_863⟩
theorem wd_865 : Cond.fieldLink "CabbageCradlesModel" 58 "CabbageCradlesModel" "gotOn" "[I" ∈ cb_ws := cb_wt (cb_t4 _ (List.mem_of_getElem? (i := 81) rfl)) rfl
theorem fa_X7_58 : cb_FA RX7 58 7 22 := ⟨RX7, TX7, 31, rfl, by decide, wi_X7, wd_865⟩
theorem wd_866 : Cond.fieldLink "CabbageCradlesModel" 61 "CabbageCradlesModel" "births" "[I" ∈ cb_ws := cb_wt (cb_t4 _ (List.mem_of_getElem? (i := 82) rfl)) rfl
theorem fa_X7_61 : cb_FA RX7 61 7 23 := ⟨RX7, TX7, 31, rfl, by decide, wi_X7, wd_866⟩
theorem wd_1098 : Cond.code ⟨"CabbageCradlesModel", "lifts", "(III)V"⟩ prog_9_method_44_code 6 (Option.none) ∈ cb_ws := cb_wt (cb_t5 _ (List.mem_of_getElem? (i := 74) rfl)) rfl
theorem wd_1088 : Cond.methodLink "CabbageCradlesModel" 179 ⟨"CabbageCradlesModel", "isRipe", "(II)Z"⟩ ∈ cb_ws := cb_wt (cb_t5 _ (List.mem_of_getElem? (i := 64) rfl)) rfl
theorem wd_1090 : Cond.instanceMethod ⟨"CabbageCradlesModel", "isRipe", "(II)Z"⟩ ∈ cb_ws := cb_wt (cb_t5 _ (List.mem_of_getElem? (i := 66) rfl)) rfl
theorem wd_41 : Cond.selects "CabbageCradlesModel" ⟨"CabbageCradlesModel", "isRipe", "(II)Z"⟩ ⟨"CabbageCradlesModel", "isRipe", "(II)Z"⟩ ∈ cb_ws := cb_wt (List.mem_of_getElem? (i := 41) (by rfl)) rfl
theorem cv_X7_179 : cb_CV RX7 179 yX7_isRipe cX7_isRipe 3 (some .boolean) 2 := ⟨wd_1091, wd_1088, wd_1090, wd_41, wd_73, ⟨by decide +kernel, by decide +kernel, by decide +kernel⟩, by decide⟩
theorem wd_1095 : Cond.methodLink "CabbageCradlesModel" 182 ⟨"CabbageCradlesModel", "lifts", "(III)V"⟩ ∈ cb_ws := cb_wt (cb_t5 _ (List.mem_of_getElem? (i := 71) rfl)) rfl
theorem wd_1097 : Cond.instanceMethod ⟨"CabbageCradlesModel", "lifts", "(III)V"⟩ ∈ cb_ws := cb_wt (cb_t5 _ (List.mem_of_getElem? (i := 73) rfl)) rfl
theorem wd_42 : Cond.selects "CabbageCradlesModel" ⟨"CabbageCradlesModel", "lifts", "(III)V"⟩ ⟨"CabbageCradlesModel", "lifts", "(III)V"⟩ ∈ cb_ws := cb_wt (List.mem_of_getElem? (i := 42) (by rfl)) rfl
theorem cv_X7_182 : cb_CV RX7 182 yX7_lifts cX7_lifts 6 none 3 := ⟨wd_1098, wd_1095, wd_1097, wd_42, wd_73, ⟨by decide +kernel, by decide +kernel, by decide +kernel⟩, by decide⟩
theorem wd_1083 : Cond.code ⟨"CabbageCradlesModel", "dawn", "(II)V"⟩ prog_9_method_45_code 4 (Option.none) ∈ cb_ws := cb_wt (cb_t5 _ (List.mem_of_getElem? (i := 59) rfl)) rfl
theorem wd_1065 : Cond.methodLink "CabbageCradlesModel" 186 ⟨"CabbageCradlesModel", "ripens", "(I)V"⟩ ∈ cb_ws := cb_wt (cb_t5 _ (List.mem_of_getElem? (i := 41) rfl)) rfl
theorem wd_1067 : Cond.instanceMethod ⟨"CabbageCradlesModel", "ripens", "(I)V"⟩ ∈ cb_ws := cb_wt (cb_t5 _ (List.mem_of_getElem? (i := 43) rfl)) rfl
theorem wd_36 : Cond.selects "CabbageCradlesModel" ⟨"CabbageCradlesModel", "ripens", "(I)V"⟩ ⟨"CabbageCradlesModel", "ripens", "(I)V"⟩ ∈ cb_ws := cb_wt (List.mem_of_getElem? (i := 36) (by rfl)) rfl
theorem cv_X7_186 : cb_CV RX7 186 yX7_ripens cX7_ripens 4 none 1 := ⟨wd_1068, wd_1065, wd_1067, wd_36, wd_73, ⟨by decide +kernel, by decide +kernel, by decide +kernel⟩, by decide⟩
theorem wd_1080 : Cond.methodLink "CabbageCradlesModel" 190 ⟨"CabbageCradlesModel", "dawn", "(II)V"⟩ ∈ cb_ws := cb_wt (cb_t5 _ (List.mem_of_getElem? (i := 56) rfl)) rfl
theorem wd_1082 : Cond.instanceMethod ⟨"CabbageCradlesModel", "dawn", "(II)V"⟩ ∈ cb_ws := cb_wt (cb_t5 _ (List.mem_of_getElem? (i := 58) rfl)) rfl
theorem wd_39 : Cond.selects "CabbageCradlesModel" ⟨"CabbageCradlesModel", "dawn", "(II)V"⟩ ⟨"CabbageCradlesModel", "dawn", "(II)V"⟩ ∈ cb_ws := cb_wt (List.mem_of_getElem? (i := 39) (by rfl)) rfl
theorem cv_X7_190 : cb_CV RX7 190 yX7_dawn cX7_dawn 4 none 2 := ⟨wd_1083, wd_1080, wd_1082, wd_39, wd_73, ⟨by decide +kernel, by decide +kernel, by decide +kernel⟩, by decide⟩
theorem wd_1064 : Cond.code ⟨"CabbageCradlesModel", "lives", "()V"⟩ prog_9_method_46_code 3 (Option.none) ∈ cb_ws := cb_wt (cb_t5 _ (List.mem_of_getElem? (i := 40) rfl)) rfl
theorem wd_1061 : Cond.methodLink "CabbageCradlesModel" 194 ⟨"CabbageCradlesModel", "lives", "()V"⟩ ∈ cb_ws := cb_wt (cb_t5 _ (List.mem_of_getElem? (i := 37) rfl)) rfl
theorem wd_1063 : Cond.instanceMethod ⟨"CabbageCradlesModel", "lives", "()V"⟩ ∈ cb_ws := cb_wt (cb_t5 _ (List.mem_of_getElem? (i := 39) rfl)) rfl
theorem wd_35 : Cond.selects "CabbageCradlesModel" ⟨"CabbageCradlesModel", "lives", "()V"⟩ ⟨"CabbageCradlesModel", "lives", "()V"⟩ ∈ cb_ws := cb_wt (List.mem_of_getElem? (i := 35) (by rfl)) rfl
theorem cv_X7_194 : cb_CV RX7 194 yX7_lives cX7_lives 3 none 0 := ⟨wd_1064, wd_1061, wd_1063, wd_35, wd_73, ⟨by decide +kernel, by decide +kernel, by decide +kernel⟩, by decide⟩
theorem wd_1060 : Cond.code ⟨"CabbageCradlesModel", "find", "()V"⟩ prog_9_method_47_code 1 (Option.none) ∈ cb_ws := cb_wt (cb_t5 _ (List.mem_of_getElem? (i := 36) rfl)) rfl
theorem wd_1106 : Cond.code ⟨"CabbageCradlesModel", "dueBy", "(II)I"⟩ prog_9_method_48_code 5 (Option.some .int) ∈ cb_ws := cb_wt (cb_t5 _ (List.mem_of_getElem? (i := 82) rfl)) rfl
theorem wd_1103 : Cond.methodLink "CabbageCradlesModel" 197 ⟨"CabbageCradlesModel", "dueBy", "(II)I"⟩ ∈ cb_ws := cb_wt (cb_t5 _ (List.mem_of_getElem? (i := 79) rfl)) rfl
theorem wd_1105 : Cond.instanceMethod ⟨"CabbageCradlesModel", "dueBy", "(II)I"⟩ ∈ cb_ws := cb_wt (cb_t5 _ (List.mem_of_getElem? (i := 81) rfl)) rfl
theorem wd_44 : Cond.selects "CabbageCradlesModel" ⟨"CabbageCradlesModel", "dueBy", "(II)I"⟩ ⟨"CabbageCradlesModel", "dueBy", "(II)I"⟩ ∈ cb_ws := cb_wt (List.mem_of_getElem? (i := 44) (by rfl)) rfl
theorem cv_X7_197 : cb_CV RX7 197 yX7_dueBy cX7_dueBy 5 (some .int) 2 := ⟨wd_1106, wd_1103, wd_1105, wd_44, wd_73, ⟨by decide +kernel, by decide +kernel, by decide +kernel⟩, by decide⟩
theorem wd_1102 : Cond.code ⟨"CabbageCradlesModel", "stateOf", "(II)I"⟩ prog_9_method_49_code 4 (Option.some .int) ∈ cb_ws := cb_wt (cb_t5 _ (List.mem_of_getElem? (i := 78) rfl)) rfl
theorem wd_1057 : Cond.methodLink "CabbageCradlesModel" 200 ⟨"CabbageCradlesModel", "find", "()V"⟩ ∈ cb_ws := cb_wt (cb_t5 _ (List.mem_of_getElem? (i := 33) rfl)) rfl
theorem wd_1059 : Cond.instanceMethod ⟨"CabbageCradlesModel", "find", "()V"⟩ ∈ cb_ws := cb_wt (cb_t5 _ (List.mem_of_getElem? (i := 35) rfl)) rfl
theorem wd_34 : Cond.selects "CabbageCradlesModel" ⟨"CabbageCradlesModel", "find", "()V"⟩ ⟨"CabbageCradlesModel", "find", "()V"⟩ ∈ cb_ws := cb_wt (List.mem_of_getElem? (i := 34) (by rfl)) rfl
theorem cv_X7_200 : cb_CV RX7 200 yX7_find cX7_find 1 none 0 := ⟨wd_1060, wd_1057, wd_1059, wd_34, wd_73, ⟨by decide +kernel, by decide +kernel, by decide +kernel⟩, by decide⟩
theorem wd_1099 : Cond.methodLink "CabbageCradlesModel" 203 ⟨"CabbageCradlesModel", "stateOf", "(II)I"⟩ ∈ cb_ws := cb_wt (cb_t5 _ (List.mem_of_getElem? (i := 75) rfl)) rfl
theorem wd_1101 : Cond.instanceMethod ⟨"CabbageCradlesModel", "stateOf", "(II)I"⟩ ∈ cb_ws := cb_wt (cb_t5 _ (List.mem_of_getElem? (i := 77) rfl)) rfl
theorem wd_43 : Cond.selects "CabbageCradlesModel" ⟨"CabbageCradlesModel", "stateOf", "(II)I"⟩ ⟨"CabbageCradlesModel", "stateOf", "(II)I"⟩ ∈ cb_ws := cb_wt (List.mem_of_getElem? (i := 43) (by rfl)) rfl
theorem cv_X7_203 : cb_CV RX7 203 yX7_stateOf cX7_stateOf 4 (some .int) 2 := ⟨wd_1102, wd_1099, wd_1101, wd_43, wd_73, ⟨by decide +kernel, by decide +kernel, by decide +kernel⟩, by decide⟩
theorem wd_1056 : Cond.code ⟨"CabbageCradlesModel", "state", "(II)I"⟩ prog_9_method_50_code 3 (Option.some .int) ∈ cb_ws := cb_wt (cb_t5 _ (List.mem_of_getElem? (i := 32) rfl)) rfl
theorem wd_1114 : Cond.code ⟨"CabbageCradlesModel", "liftedBy", "(II)I"⟩ prog_9_method_51_code 3 (Option.some .int) ∈ cb_ws := cb_wt (cb_t5 _ (List.mem_of_getElem? (i := 90) rfl)) rfl
theorem wd_1111 : Cond.methodLink "CabbageCradlesModel" 206 ⟨"CabbageCradlesModel", "liftedBy", "(II)I"⟩ ∈ cb_ws := cb_wt (cb_t5 _ (List.mem_of_getElem? (i := 87) rfl)) rfl
theorem wd_1113 : Cond.instanceMethod ⟨"CabbageCradlesModel", "liftedBy", "(II)I"⟩ ∈ cb_ws := cb_wt (cb_t5 _ (List.mem_of_getElem? (i := 89) rfl)) rfl
theorem wd_45 : Cond.selects "CabbageCradlesModel" ⟨"CabbageCradlesModel", "liftedBy", "(II)I"⟩ ⟨"CabbageCradlesModel", "liftedBy", "(II)I"⟩ ∈ cb_ws := cb_wt (List.mem_of_getElem? (i := 45) (by rfl)) rfl
theorem cv_X7_206 : cb_CV RX7 206 yX7_liftedBy cX7_liftedBy 3 (some .int) 2 := ⟨wd_1114, wd_1111, wd_1113, wd_45, wd_73, ⟨by decide +kernel, by decide +kernel, by decide +kernel⟩, by decide⟩
theorem wd_1110 : Cond.code ⟨"CabbageCradlesModel", "lifted", "(II)I"⟩ prog_9_method_52_code 3 (Option.some .int) ∈ cb_ws := cb_wt (cb_t5 _ (List.mem_of_getElem? (i := 86) rfl)) rfl
theorem wd_1122 : Cond.code ⟨"CabbageCradlesModel", "getsBy", "(II)I"⟩ prog_9_method_53_code 3 (Option.some .int) ∈ cb_ws := cb_wt (cb_t5 _ (List.mem_of_getElem? (i := 98) rfl)) rfl
theorem wd_1119 : Cond.methodLink "CabbageCradlesModel" 209 ⟨"CabbageCradlesModel", "getsBy", "(II)I"⟩ ∈ cb_ws := cb_wt (cb_t5 _ (List.mem_of_getElem? (i := 95) rfl)) rfl
theorem wd_1121 : Cond.instanceMethod ⟨"CabbageCradlesModel", "getsBy", "(II)I"⟩ ∈ cb_ws := cb_wt (cb_t5 _ (List.mem_of_getElem? (i := 97) rfl)) rfl
theorem wd_46 : Cond.selects "CabbageCradlesModel" ⟨"CabbageCradlesModel", "getsBy", "(II)I"⟩ ⟨"CabbageCradlesModel", "getsBy", "(II)I"⟩ ∈ cb_ws := cb_wt (List.mem_of_getElem? (i := 46) (by rfl)) rfl
theorem cv_X7_209 : cb_CV RX7 209 yX7_getsBy cX7_getsBy 3 (some .int) 2 := ⟨wd_1122, wd_1119, wd_1121, wd_46, wd_73, ⟨by decide +kernel, by decide +kernel, by decide +kernel⟩, by decide⟩
theorem wd_1118 : Cond.code ⟨"CabbageCradlesModel", "gets", "(II)I"⟩ prog_9_method_54_code 3 (Option.some .int) ∈ cb_ws := cb_wt (cb_t5 _ (List.mem_of_getElem? (i := 94) rfl)) rfl
theorem wd_1130 : Cond.code ⟨"CabbageCradlesModel", "childrenBy", "(I)I"⟩ prog_9_method_55_code 4 (Option.some .int) ∈ cb_ws := cb_wt (cb_t5 _ (List.mem_of_getElem? (i := 106) rfl)) rfl
theorem wd_1127 : Cond.methodLink "CabbageCradlesModel" 212 ⟨"CabbageCradlesModel", "childrenBy", "(I)I"⟩ ∈ cb_ws := cb_wt (cb_t5 _ (List.mem_of_getElem? (i := 103) rfl)) rfl
theorem wd_1129 : Cond.instanceMethod ⟨"CabbageCradlesModel", "childrenBy", "(I)I"⟩ ∈ cb_ws := cb_wt (cb_t5 _ (List.mem_of_getElem? (i := 105) rfl)) rfl
theorem wd_47 : Cond.selects "CabbageCradlesModel" ⟨"CabbageCradlesModel", "childrenBy", "(I)I"⟩ ⟨"CabbageCradlesModel", "childrenBy", "(I)I"⟩ ∈ cb_ws := cb_wt (List.mem_of_getElem? (i := 47) (by rfl)) rfl
theorem cv_X7_212 : cb_CV RX7 212 yX7_childrenBy cX7_childrenBy 4 (some .int) 1 := ⟨wd_1130, wd_1127, wd_1129, wd_47, wd_73, ⟨by decide +kernel, by decide +kernel, by decide +kernel⟩, by decide⟩
theorem wd_1126 : Cond.code ⟨"CabbageCradlesModel", "children", "(I)I"⟩ prog_9_method_56_code 2 (Option.some .int) ∈ cb_ws := cb_wt (cb_t5 _ (List.mem_of_getElem? (i := 102) rfl)) rfl
theorem wd_1138 : Cond.code ⟨"CabbageCradlesModel", "withoutNow", "()I"⟩ prog_9_method_57_code 3 (Option.some .int) ∈ cb_ws := cb_wt (cb_t5 _ (List.mem_of_getElem? (i := 114) rfl)) rfl
theorem wd_1135 : Cond.methodLink "CabbageCradlesModel" 215 ⟨"CabbageCradlesModel", "withoutNow", "()I"⟩ ∈ cb_ws := cb_wt (cb_t5 _ (List.mem_of_getElem? (i := 111) rfl)) rfl
theorem wd_1137 : Cond.instanceMethod ⟨"CabbageCradlesModel", "withoutNow", "()I"⟩ ∈ cb_ws := cb_wt (cb_t5 _ (List.mem_of_getElem? (i := 113) rfl)) rfl
theorem wd_48 : Cond.selects "CabbageCradlesModel" ⟨"CabbageCradlesModel", "withoutNow", "()I"⟩ ⟨"CabbageCradlesModel", "withoutNow", "()I"⟩ ∈ cb_ws := cb_wt (List.mem_of_getElem? (i := 48) (by rfl)) rfl
theorem cv_X7_215 : cb_CV RX7 215 yX7_withoutNow cX7_withoutNow 3 (some .int) 0 := ⟨wd_1138, wd_1135, wd_1137, wd_48, wd_73, ⟨by decide +kernel, by decide +kernel, by decide +kernel⟩, by decide⟩
theorem wd_1134 : Cond.code ⟨"CabbageCradlesModel", "without", "()I"⟩ prog_9_method_58_code 1 (Option.some .int) ∈ cb_ws := cb_wt (cb_t5 _ (List.mem_of_getElem? (i := 110) rfl)) rfl
theorem wd_1142 : Cond.code ⟨"CabbageCradlesModel", "turn", "(I)I"⟩ prog_9_method_59_code 2 (Option.some .int) ∈ cb_ws := cb_wt (cb_t5 _ (List.mem_of_getElem? (i := 118) rfl)) rfl
theorem wd_1154 : Cond.code ⟨"CabbageCradlesModel", "mightMeet", "(II)Z"⟩ prog_9_method_60_code 5 (Option.some .boolean) ∈ cb_ws := cb_wt (cb_t5 _ (List.mem_of_getElem? (i := 130) rfl)) rfl
theorem wd_869 : Cond.fieldLink "CabbageCradlesModel" 64 "CabbageCradlesModel" "most" "[I" ∈ cb_ws := cb_wt (cb_t4 _ (List.mem_of_getElem? (i := 85) rfl)) rfl
theorem fa_X7_64 : cb_FA RX7 64 7 26 := ⟨RX7, TX7, 31, rfl, by decide, wi_X7, wd_869⟩
theorem wd_1151 : Cond.methodLink "CabbageCradlesModel" 218 ⟨"CabbageCradlesModel", "mightMeet", "(II)Z"⟩ ∈ cb_ws := cb_wt (cb_t5 _ (List.mem_of_getElem? (i := 127) rfl)) rfl
theorem wd_1153 : Cond.instanceMethod ⟨"CabbageCradlesModel", "mightMeet", "(II)Z"⟩ ∈ cb_ws := cb_wt (cb_t5 _ (List.mem_of_getElem? (i := 129) rfl)) rfl
theorem wd_50 : Cond.selects "CabbageCradlesModel" ⟨"CabbageCradlesModel", "mightMeet", "(II)Z"⟩ ⟨"CabbageCradlesModel", "mightMeet", "(II)Z"⟩ ∈ cb_ws := cb_wt (List.mem_of_getElem? (i := 50) (by rfl)) rfl
theorem cv_X7_218 : cb_CV RX7 218 yX7_mightMeet cX7_mightMeet 5 (some .boolean) 2 := ⟨wd_1154, wd_1151, wd_1153, wd_50, wd_73, ⟨by decide +kernel, by decide +kernel, by decide +kernel⟩, by decide⟩
theorem wd_1155 : Cond.methodLink "CabbageCradlesModel" 221 ⟨"CabbageCradlesModel", "greater", "(II)I"⟩ ∈ cb_ws := cb_wt (cb_t5 _ (List.mem_of_getElem? (i := 131) rfl)) rfl
theorem wd_1156 : Cond.static ⟨"CabbageCradlesModel", "greater", "(II)I"⟩ ∈ cb_ws := cb_wt (cb_t5 _ (List.mem_of_getElem? (i := 132) rfl)) rfl
theorem cs_X7_221 : cb_CS RX7 221 yX7_greater cX7_greater 2 (some .int) 2 := ⟨wd_1157, wd_1155, wd_1156, wd_73, ⟨by decide +kernel, by decide +kernel, by decide +kernel⟩, by decide⟩
theorem wd_1150 : Cond.code ⟨"CabbageCradlesModel", "metNow", "()I"⟩ prog_9_method_61_code 7 (Option.some .int) ∈ cb_ws := cb_wt (cb_t5 _ (List.mem_of_getElem? (i := 126) rfl)) rfl
theorem wd_1147 : Cond.methodLink "CabbageCradlesModel" 224 ⟨"CabbageCradlesModel", "metNow", "()I"⟩ ∈ cb_ws := cb_wt (cb_t5 _ (List.mem_of_getElem? (i := 123) rfl)) rfl
theorem wd_1149 : Cond.instanceMethod ⟨"CabbageCradlesModel", "metNow", "()I"⟩ ∈ cb_ws := cb_wt (cb_t5 _ (List.mem_of_getElem? (i := 125) rfl)) rfl
theorem wd_49 : Cond.selects "CabbageCradlesModel" ⟨"CabbageCradlesModel", "metNow", "()I"⟩ ⟨"CabbageCradlesModel", "metNow", "()I"⟩ ∈ cb_ws := cb_wt (List.mem_of_getElem? (i := 49) (by rfl)) rfl
theorem cv_X7_224 : cb_CV RX7 224 yX7_metNow cX7_metNow 7 (some .int) 0 := ⟨wd_1150, wd_1147, wd_1149, wd_49, wd_73, ⟨by decide +kernel, by decide +kernel, by decide +kernel⟩, by decide⟩
theorem wd_1146 : Cond.code ⟨"CabbageCradlesModel", "met", "()I"⟩ prog_9_method_62_code 1 (Option.some .int) ∈ cb_ws := cb_wt (cb_t5 _ (List.mem_of_getElem? (i := 122) rfl)) rfl
theorem fp_X7_161 : cb_FP RX7 161 7 15 := ⟨RX7, TX7, 31, tyX7, rfl, by decide, wi_X7, wd_858, tyX7_ok, nmX7, rfl, by decide +kernel⟩
theorem wd_1170 : Cond.code ⟨"CabbageCradlesModel", "isMet", "(II)Z"⟩ prog_9_method_63_code 3 (Option.some .boolean) ∈ cb_ws := cb_wt (cb_t5 _ (List.mem_of_getElem? (i := 146) rfl)) rfl
theorem wd_1167 : Cond.methodLink "CabbageCradlesModel" 227 ⟨"CabbageCradlesModel", "isMet", "(II)Z"⟩ ∈ cb_ws := cb_wt (cb_t5 _ (List.mem_of_getElem? (i := 143) rfl)) rfl
theorem wd_1169 : Cond.instanceMethod ⟨"CabbageCradlesModel", "isMet", "(II)Z"⟩ ∈ cb_ws := cb_wt (cb_t5 _ (List.mem_of_getElem? (i := 145) rfl)) rfl
theorem wd_52 : Cond.selects "CabbageCradlesModel" ⟨"CabbageCradlesModel", "isMet", "(II)Z"⟩ ⟨"CabbageCradlesModel", "isMet", "(II)Z"⟩ ∈ cb_ws := cb_wt (List.mem_of_getElem? (i := 52) (by rfl)) rfl
theorem cv_X7_227 : cb_CV RX7 227 yX7_isMet cX7_isMet 3 (some .boolean) 2 := ⟨wd_1170, wd_1167, wd_1169, wd_52, wd_73, ⟨by decide +kernel, by decide +kernel, by decide +kernel⟩, by decide⟩
theorem wd_1166 : Cond.code ⟨"CabbageCradlesModel", "keepOf", "(II)I"⟩ prog_9_method_64_code 5 (Option.some .int) ∈ cb_ws := cb_wt (cb_t5 _ (List.mem_of_getElem? (i := 142) rfl)) rfl
theorem wd_1162 : Cond.constantLong "CabbageCradlesModel" 230 (-1) ∈ cb_ws := cb_wt (cb_t5 _ (List.mem_of_getElem? (i := 138) rfl)) rfl
theorem wd_1163 : Cond.methodLink "CabbageCradlesModel" 232 ⟨"CabbageCradlesModel", "keepOf", "(II)I"⟩ ∈ cb_ws := cb_wt (cb_t5 _ (List.mem_of_getElem? (i := 139) rfl)) rfl
theorem wd_1165 : Cond.instanceMethod ⟨"CabbageCradlesModel", "keepOf", "(II)I"⟩ ∈ cb_ws := cb_wt (cb_t5 _ (List.mem_of_getElem? (i := 141) rfl)) rfl
theorem wd_51 : Cond.selects "CabbageCradlesModel" ⟨"CabbageCradlesModel", "keepOf", "(II)I"⟩ ⟨"CabbageCradlesModel", "keepOf", "(II)I"⟩ ∈ cb_ws := cb_wt (List.mem_of_getElem? (i := 51) (by rfl)) rfl
theorem cv_X7_232 : cb_CV RX7 232 yX7_keepOf cX7_keepOf 5 (some .int) 2 := ⟨wd_1166, wd_1163, wd_1165, wd_51, wd_73, ⟨by decide +kernel, by decide +kernel, by decide +kernel⟩, by decide⟩
theorem wd_1161 : Cond.code ⟨"CabbageCradlesModel", "keep", "(II)I"⟩ prog_9_method_65_code 3 (Option.some .int) ∈ cb_ws := cb_wt (cb_t5 _ (List.mem_of_getElem? (i := 137) rfl)) rfl
theorem wd_1179 : Cond.methodLink "CabbageCradlesModel" 235 ⟨"CabbageCradlesModel", "ones", "(I)I"⟩ ∈ cb_ws := cb_wt (cb_t5 _ (List.mem_of_getElem? (i := 155) rfl)) rfl
theorem wd_1180 : Cond.static ⟨"CabbageCradlesModel", "ones", "(I)I"⟩ ∈ cb_ws := cb_wt (cb_t5 _ (List.mem_of_getElem? (i := 156) rfl)) rfl
theorem cs_X7_235 : cb_CS RX7 235 yX7_ones cX7_ones 3 (some .int) 1 := ⟨wd_1181, wd_1179, wd_1180, wd_73, ⟨by decide +kernel, by decide +kernel, by decide +kernel⟩, by decide⟩
theorem wd_1178 : Cond.code ⟨"CabbageCradlesModel", "sowOf", "(II)I"⟩ prog_9_method_66_code 9 (Option.some .int) ∈ cb_ws := cb_wt (cb_t5 _ (List.mem_of_getElem? (i := 154) rfl)) rfl
theorem wd_1175 : Cond.methodLink "CabbageCradlesModel" 238 ⟨"CabbageCradlesModel", "sowOf", "(II)I"⟩ ∈ cb_ws := cb_wt (cb_t5 _ (List.mem_of_getElem? (i := 151) rfl)) rfl
theorem wd_1177 : Cond.instanceMethod ⟨"CabbageCradlesModel", "sowOf", "(II)I"⟩ ∈ cb_ws := cb_wt (cb_t5 _ (List.mem_of_getElem? (i := 153) rfl)) rfl
theorem wd_53 : Cond.selects "CabbageCradlesModel" ⟨"CabbageCradlesModel", "sowOf", "(II)I"⟩ ⟨"CabbageCradlesModel", "sowOf", "(II)I"⟩ ∈ cb_ws := cb_wt (List.mem_of_getElem? (i := 53) (by rfl)) rfl
theorem cv_X7_238 : cb_CV RX7 238 yX7_sowOf cX7_sowOf 9 (some .int) 2 := ⟨wd_1178, wd_1175, wd_1177, wd_53, wd_73, ⟨by decide +kernel, by decide +kernel, by decide +kernel⟩, by decide⟩
theorem wd_1174 : Cond.code ⟨"CabbageCradlesModel", "sow", "(II)I"⟩ prog_9_method_67_code 3 (Option.some .int) ∈ cb_ws := cb_wt (cb_t5 _ (List.mem_of_getElem? (i := 150) rfl)) rfl
theorem wd_1189 : Cond.code ⟨"CabbageCradlesModel", "comeOf", "(II)I"⟩ prog_9_method_68_code 8 (Option.some .int) ∈ cb_ws := cb_wt (cb_t5 _ (List.mem_of_getElem? (i := 165) rfl)) rfl
theorem wd_1186 : Cond.methodLink "CabbageCradlesModel" 241 ⟨"CabbageCradlesModel", "comeOf", "(II)I"⟩ ∈ cb_ws := cb_wt (cb_t5 _ (List.mem_of_getElem? (i := 162) rfl)) rfl
theorem wd_1188 : Cond.instanceMethod ⟨"CabbageCradlesModel", "comeOf", "(II)I"⟩ ∈ cb_ws := cb_wt (cb_t5 _ (List.mem_of_getElem? (i := 164) rfl)) rfl
theorem wd_54 : Cond.selects "CabbageCradlesModel" ⟨"CabbageCradlesModel", "comeOf", "(II)I"⟩ ⟨"CabbageCradlesModel", "comeOf", "(II)I"⟩ ∈ cb_ws := cb_wt (List.mem_of_getElem? (i := 54) (by rfl)) rfl
theorem cv_X7_241 : cb_CV RX7 241 yX7_comeOf cX7_comeOf 8 (some .int) 2 := ⟨wd_1189, wd_1186, wd_1188, wd_54, wd_73, ⟨by decide +kernel, by decide +kernel, by decide +kernel⟩, by decide⟩
theorem wd_1185 : Cond.code ⟨"CabbageCradlesModel", "come", "(II)I"⟩ prog_9_method_69_code 3 (Option.some .int) ∈ cb_ws := cb_wt (cb_t5 _ (List.mem_of_getElem? (i := 161) rfl)) rfl
theorem wd_1194 : Cond.constantLong "CabbageCradlesModel" 244 8 ∈ cb_ws := cb_wt (cb_t5 _ (List.mem_of_getElem? (i := 170) rfl)) rfl
theorem wd_870 : Cond.fieldLink "CabbageCradlesModel" 246 "CabbageCradlesModel" "sights" "I" ∈ cb_ws := cb_wt (cb_t4 _ (List.mem_of_getElem? (i := 86) rfl)) rfl
theorem fa_X7_246 : cb_FA RX7 246 7 27 := ⟨RX7, TX7, 31, rfl, by decide, wi_X7, wd_870⟩
theorem wd_871 : Cond.fieldLink "CabbageCradlesModel" 67 "CabbageCradlesModel" "sight" "[I" ∈ cb_ws := cb_wt (cb_t4 _ (List.mem_of_getElem? (i := 87) rfl)) rfl
theorem fa_X7_67 : cb_FA RX7 67 7 28 := ⟨RX7, TX7, 31, rfl, by decide, wi_X7, wd_871⟩
theorem fp_X7_246 : cb_FP RX7 246 7 27 := ⟨RX7, TX7, 31, tyX7, rfl, by decide, wi_X7, wd_870, tyX7_ok, nmX7, rfl, by decide +kernel⟩
theorem wd_1193 : Cond.code ⟨"CabbageCradlesModel", "seen", "(II)I"⟩ prog_9_method_70_code 3 (Option.some .int) ∈ cb_ws := cb_wt (cb_t5 _ (List.mem_of_getElem? (i := 169) rfl)) rfl
theorem wd_1198 : Cond.code ⟨"CabbageCradlesModel", "forget", "()I"⟩ prog_9_method_71_code 2 (Option.some .int) ∈ cb_ws := cb_wt (cb_t5 _ (List.mem_of_getElem? (i := 174) rfl)) rfl
theorem wd_1210 : Cond.code ⟨"CabbageCradlesModel", "isSeen", "()Z"⟩ prog_9_method_72_code 4 (Option.some .boolean) ∈ cb_ws := cb_wt (cb_t5 _ (List.mem_of_getElem? (i := 186) rfl)) rfl
theorem wd_1207 : Cond.methodLink "CabbageCradlesModel" 249 ⟨"CabbageCradlesModel", "isSeen", "()Z"⟩ ∈ cb_ws := cb_wt (cb_t5 _ (List.mem_of_getElem? (i := 183) rfl)) rfl
theorem wd_1209 : Cond.instanceMethod ⟨"CabbageCradlesModel", "isSeen", "()Z"⟩ ∈ cb_ws := cb_wt (cb_t5 _ (List.mem_of_getElem? (i := 185) rfl)) rfl
theorem wd_56 : Cond.selects "CabbageCradlesModel" ⟨"CabbageCradlesModel", "isSeen", "()Z"⟩ ⟨"CabbageCradlesModel", "isSeen", "()Z"⟩ ∈ cb_ws := cb_wt (List.mem_of_getElem? (i := 56) (by rfl)) rfl
theorem cv_X7_249 : cb_CV RX7 249 yX7_isSeen cX7_isSeen 4 (some .boolean) 0 := ⟨wd_1210, wd_1207, wd_1209, wd_56, wd_73, ⟨by decide +kernel, by decide +kernel, by decide +kernel⟩, by decide⟩
theorem wd_1206 : Cond.code ⟨"CabbageCradlesModel", "neverNow", "()I"⟩ prog_9_method_73_code 3 (Option.some .int) ∈ cb_ws := cb_wt (cb_t5 _ (List.mem_of_getElem? (i := 182) rfl)) rfl
theorem wd_1203 : Cond.methodLink "CabbageCradlesModel" 253 ⟨"CabbageCradlesModel", "neverNow", "()I"⟩ ∈ cb_ws := cb_wt (cb_t5 _ (List.mem_of_getElem? (i := 179) rfl)) rfl
theorem wd_1205 : Cond.instanceMethod ⟨"CabbageCradlesModel", "neverNow", "()I"⟩ ∈ cb_ws := cb_wt (cb_t5 _ (List.mem_of_getElem? (i := 181) rfl)) rfl
theorem wd_55 : Cond.selects "CabbageCradlesModel" ⟨"CabbageCradlesModel", "neverNow", "()I"⟩ ⟨"CabbageCradlesModel", "neverNow", "()I"⟩ ∈ cb_ws := cb_wt (List.mem_of_getElem? (i := 55) (by rfl)) rfl
theorem cv_X7_253 : cb_CV RX7 253 yX7_neverNow cX7_neverNow 3 (some .int) 0 := ⟨wd_1206, wd_1203, wd_1205, wd_55, wd_73, ⟨by decide +kernel, by decide +kernel, by decide +kernel⟩, by decide⟩
theorem wd_1202 : Cond.code ⟨"CabbageCradlesModel", "never", "()I"⟩ prog_9_method_74_code 1 (Option.some .int) ∈ cb_ws := cb_wt (cb_t5 _ (List.mem_of_getElem? (i := 178) rfl)) rfl
theorem wd_1218 : Cond.code ⟨"CabbageCradlesModel", "wasOf", "(II)I"⟩ prog_9_method_75_code 6 (Option.some .int) ∈ cb_ws := cb_wt (cb_t5 _ (List.mem_of_getElem? (i := 194) rfl)) rfl
theorem wd_1215 : Cond.methodLink "CabbageCradlesModel" 256 ⟨"CabbageCradlesModel", "wasOf", "(II)I"⟩ ∈ cb_ws := cb_wt (cb_t5 _ (List.mem_of_getElem? (i := 191) rfl)) rfl
theorem wd_1217 : Cond.instanceMethod ⟨"CabbageCradlesModel", "wasOf", "(II)I"⟩ ∈ cb_ws := cb_wt (cb_t5 _ (List.mem_of_getElem? (i := 193) rfl)) rfl
theorem wd_57 : Cond.selects "CabbageCradlesModel" ⟨"CabbageCradlesModel", "wasOf", "(II)I"⟩ ⟨"CabbageCradlesModel", "wasOf", "(II)I"⟩ ∈ cb_ws := cb_wt (List.mem_of_getElem? (i := 57) (by rfl)) rfl
theorem cv_X7_256 : cb_CV RX7 256 yX7_wasOf cX7_wasOf 6 (some .int) 2 := ⟨wd_1218, wd_1215, wd_1217, wd_57, wd_73, ⟨by decide +kernel, by decide +kernel, by decide +kernel⟩, by decide⟩
theorem wd_1214 : Cond.code ⟨"CabbageCradlesModel", "was", "(II)I"⟩ prog_9_method_76_code 3 (Option.some .int) ∈ cb_ws := cb_wt (cb_t5 _ (List.mem_of_getElem? (i := 190) rfl)) rfl
theorem wd_872 : Cond.fieldLink "CabbageCradlesModel" 70 "CabbageCradlesModel" "alike" "[I" ∈ cb_ws := cb_wt (cb_t4 _ (List.mem_of_getElem? (i := 88) rfl)) rfl
theorem fa_X7_70 : cb_FA RX7 70 7 29 := ⟨RX7, TX7, 31, rfl, by decide, wi_X7, wd_872⟩
theorem wd_1226 : Cond.code ⟨"CabbageCradlesModel", "askOf", "(I)I"⟩ prog_9_method_77_code 9 (Option.some .int) ∈ cb_ws := cb_wt (cb_t5 _ (List.mem_of_getElem? (i := 202) rfl)) rfl
theorem wd_1223 : Cond.methodLink "CabbageCradlesModel" 259 ⟨"CabbageCradlesModel", "askOf", "(I)I"⟩ ∈ cb_ws := cb_wt (cb_t5 _ (List.mem_of_getElem? (i := 199) rfl)) rfl
theorem wd_1225 : Cond.instanceMethod ⟨"CabbageCradlesModel", "askOf", "(I)I"⟩ ∈ cb_ws := cb_wt (cb_t5 _ (List.mem_of_getElem? (i := 201) rfl)) rfl
theorem wd_58 : Cond.selects "CabbageCradlesModel" ⟨"CabbageCradlesModel", "askOf", "(I)I"⟩ ⟨"CabbageCradlesModel", "askOf", "(I)I"⟩ ∈ cb_ws := cb_wt (List.mem_of_getElem? (i := 58) (by rfl)) rfl
theorem cv_X7_259 : cb_CV RX7 259 yX7_askOf cX7_askOf 9 (some .int) 1 := ⟨wd_1226, wd_1223, wd_1225, wd_58, wd_73, ⟨by decide +kernel, by decide +kernel, by decide +kernel⟩, by decide⟩
theorem wd_1222 : Cond.code ⟨"CabbageCradlesModel", "ask", "(I)I"⟩ prog_9_method_78_code 2 (Option.some .int) ∈ cb_ws := cb_wt (cb_t5 _ (List.mem_of_getElem? (i := 198) rfl)) rfl
theorem fp_X7_73 : cb_FP RX7 73 7 16 := ⟨RX7, TX7, 31, tyX7, rfl, by decide, wi_X7, wd_859, tyX7_ok, nmX7, rfl, by decide +kernel⟩
theorem wd_1237 : Cond.methodLink "CabbageCradlesModel" 262 ⟨"CabbageCradlesModel", "part", "(JJI)J"⟩ ∈ cb_ws := cb_wt (cb_t5 _ (List.mem_of_getElem? (i := 213) rfl)) rfl
theorem wd_1238 : Cond.static ⟨"CabbageCradlesModel", "part", "(JJI)J"⟩ ∈ cb_ws := cb_wt (cb_t5 _ (List.mem_of_getElem? (i := 214) rfl)) rfl
theorem cs_X7_262 : cb_CS RX7 262 yX7_part cX7_part 11 (some .long) 3 := ⟨wd_1239, wd_1237, wd_1238, wd_73, ⟨by decide +kernel, by decide +kernel, by decide +kernel⟩, by decide⟩
theorem wd_1236 : Cond.code ⟨"CabbageCradlesModel", "chillOf", "(IIII)J"⟩ prog_9_method_79_code 11 (Option.some .long) ∈ cb_ws := cb_wt (cb_t5 _ (List.mem_of_getElem? (i := 212) rfl)) rfl
theorem wd_1231 : Cond.constantLong "CabbageCradlesModel" 266 16 ∈ cb_ws := cb_wt (cb_t5 _ (List.mem_of_getElem? (i := 207) rfl)) rfl
theorem wd_1232 : Cond.constantLong "CabbageCradlesModel" 268 9 ∈ cb_ws := cb_wt (cb_t5 _ (List.mem_of_getElem? (i := 208) rfl)) rfl
theorem wd_1233 : Cond.methodLink "CabbageCradlesModel" 270 ⟨"CabbageCradlesModel", "chillOf", "(IIII)J"⟩ ∈ cb_ws := cb_wt (cb_t5 _ (List.mem_of_getElem? (i := 209) rfl)) rfl
theorem wd_1235 : Cond.instanceMethod ⟨"CabbageCradlesModel", "chillOf", "(IIII)J"⟩ ∈ cb_ws := cb_wt (cb_t5 _ (List.mem_of_getElem? (i := 211) rfl)) rfl
theorem wd_59 : Cond.selects "CabbageCradlesModel" ⟨"CabbageCradlesModel", "chillOf", "(IIII)J"⟩ ⟨"CabbageCradlesModel", "chillOf", "(IIII)J"⟩ ∈ cb_ws := cb_wt (List.mem_of_getElem? (i := 59) (by rfl)) rfl
theorem cv_X7_270 : cb_CV RX7 270 yX7_chillOf cX7_chillOf 11 (some .long) 4 := ⟨wd_1236, wd_1233, wd_1235, wd_59, wd_73, ⟨by decide +kernel, by decide +kernel, by decide +kernel⟩, by decide⟩
theorem wd_1240 : Cond.methodLink "CabbageCradlesModel" 274 ⟨"CabbageCradlesModel", "no", "(I)J"⟩ ∈ cb_ws := cb_wt (cb_t5 _ (List.mem_of_getElem? (i := 216) rfl)) rfl
theorem wd_1241 : Cond.static ⟨"CabbageCradlesModel", "no", "(I)J"⟩ ∈ cb_ws := cb_wt (cb_t5 _ (List.mem_of_getElem? (i := 217) rfl)) rfl
theorem cs_X7_274 : cb_CS RX7 274 yX7_no cX7_no 1 (some .long) 1 := ⟨wd_1242, wd_1240, wd_1241, wd_73, ⟨by decide +kernel, by decide +kernel, by decide +kernel⟩, by decide⟩
theorem wd_1230 : Cond.code ⟨"CabbageCradlesModel", "chill", "(IIII)J"⟩ prog_9_method_80_code 5 (Option.some .long) ∈ cb_ws := cb_wt (cb_t5 _ (List.mem_of_getElem? (i := 206) rfl)) rfl
theorem wd_1256 : Cond.constant "CabbageCradlesModel" 278 1103515245 ∈ cb_ws := cb_wt (cb_t5 _ (List.mem_of_getElem? (i := 232) rfl)) rfl
theorem wd_873 : Cond.fieldLink "CabbageCradlesModel" 279 "CabbageCradlesModel" "drawn" "I" ∈ cb_ws := cb_wt (cb_t4 _ (List.mem_of_getElem? (i := 89) rfl)) rfl
theorem fa_X7_279 : cb_FA RX7 279 7 30 := ⟨RX7, TX7, 31, rfl, by decide, wi_X7, wd_873⟩
theorem fp_X7_279 : cb_FP RX7 279 7 30 := ⟨RX7, TX7, 31, tyX7, rfl, by decide, wi_X7, wd_873, tyX7_ok, nmX7, rfl, by decide +kernel⟩
theorem wd_1255 : Cond.code ⟨"CabbageCradlesModel", "lot", "(I)I"⟩ prog_9_method_81_code 2 (Option.some .int) ∈ cb_ws := cb_wt (cb_t5 _ (List.mem_of_getElem? (i := 231) rfl)) rfl
theorem wd_1252 : Cond.methodLink "CabbageCradlesModel" 282 ⟨"CabbageCradlesModel", "lot", "(I)I"⟩ ∈ cb_ws := cb_wt (cb_t5 _ (List.mem_of_getElem? (i := 228) rfl)) rfl
theorem wd_1254 : Cond.instanceMethod ⟨"CabbageCradlesModel", "lot", "(I)I"⟩ ∈ cb_ws := cb_wt (cb_t5 _ (List.mem_of_getElem? (i := 230) rfl)) rfl
theorem wd_61 : Cond.selects "CabbageCradlesModel" ⟨"CabbageCradlesModel", "lot", "(I)I"⟩ ⟨"CabbageCradlesModel", "lot", "(I)I"⟩ ∈ cb_ws := cb_wt (List.mem_of_getElem? (i := 61) (by rfl)) rfl
theorem cv_X7_282 : cb_CV RX7 282 yX7_lot cX7_lot 2 (some .int) 1 := ⟨wd_1255, wd_1252, wd_1254, wd_61, wd_73, ⟨by decide +kernel, by decide +kernel, by decide +kernel⟩, by decide⟩
theorem wd_1251 : Cond.code ⟨"CabbageCradlesModel", "yearOf", "(II)I"⟩ prog_9_method_82_code 4 (Option.some .int) ∈ cb_ws := cb_wt (cb_t5 _ (List.mem_of_getElem? (i := 227) rfl)) rfl
theorem wd_1248 : Cond.methodLink "CabbageCradlesModel" 285 ⟨"CabbageCradlesModel", "yearOf", "(II)I"⟩ ∈ cb_ws := cb_wt (cb_t5 _ (List.mem_of_getElem? (i := 224) rfl)) rfl
theorem wd_1250 : Cond.instanceMethod ⟨"CabbageCradlesModel", "yearOf", "(II)I"⟩ ∈ cb_ws := cb_wt (cb_t5 _ (List.mem_of_getElem? (i := 226) rfl)) rfl
theorem wd_60 : Cond.selects "CabbageCradlesModel" ⟨"CabbageCradlesModel", "yearOf", "(II)I"⟩ ⟨"CabbageCradlesModel", "yearOf", "(II)I"⟩ ∈ cb_ws := cb_wt (List.mem_of_getElem? (i := 60) (by rfl)) rfl
theorem cv_X7_285 : cb_CV RX7 285 yX7_yearOf cX7_yearOf 4 (some .int) 2 := ⟨wd_1251, wd_1248, wd_1250, wd_60, wd_73, ⟨by decide +kernel, by decide +kernel, by decide +kernel⟩, by decide⟩
theorem wd_1247 : Cond.code ⟨"CabbageCradlesModel", "year", "(II)I"⟩ prog_9_method_83_code 3 (Option.some .int) ∈ cb_ws := cb_wt (cb_t5 _ (List.mem_of_getElem? (i := 223) rfl)) rfl
theorem wd_1261 : Cond.methodLink "CabbageCradlesModel" 288 ⟨"CabbageCradlesModel", "lesser", "(II)I"⟩ ∈ cb_ws := cb_wt (cb_t5 _ (List.mem_of_getElem? (i := 237) rfl)) rfl
theorem wd_1262 : Cond.static ⟨"CabbageCradlesModel", "lesser", "(II)I"⟩ ∈ cb_ws := cb_wt (cb_t5 _ (List.mem_of_getElem? (i := 238) rfl)) rfl
theorem cs_X7_288 : cb_CS RX7 288 yX7_lesser cX7_lesser 2 (some .int) 2 := ⟨wd_1263, wd_1261, wd_1262, wd_73, ⟨by decide +kernel, by decide +kernel, by decide +kernel⟩, by decide⟩
theorem wd_1260 : Cond.code ⟨"CabbageCradlesModel", "write", "(II)I"⟩ prog_9_method_84_code 5 (Option.some .int) ∈ cb_ws := cb_wt (cb_t5 _ (List.mem_of_getElem? (i := 236) rfl)) rfl
theorem fa_X7_83 : cb_FA RX7 83 7 4 := ⟨RX7, TX7, 31, rfl, by decide, wi_X7, wd_847⟩
theorem wd_1267 : Cond.code ⟨"CabbageCradlesModel", "count", "(I)I"⟩ prog_9_method_85_code 2 (Option.some .int) ∈ cb_ws := cb_wt (cb_t6 _ (List.mem_of_getElem? (i := 3) rfl)) rfl
theorem wd_1273 : Cond.constantLong "CabbageCradlesModel" 291 31 ∈ cb_ws := cb_wt (cb_t6 _ (List.mem_of_getElem? (i := 9) rfl)) rfl
theorem wd_1278 : Cond.code ⟨"CabbageCradlesModel", "tellsHead", "(JI)J"⟩ prog_9_method_86_code 7 (Option.some .long) ∈ cb_ws := cb_wt (cb_t6 _ (List.mem_of_getElem? (i := 14) rfl)) rfl
theorem wd_1282 : Cond.code ⟨"CabbageCradlesModel", "tellsCouple", "(JI)J"⟩ prog_9_method_87_code 7 (Option.some .long) ∈ cb_ws := cb_wt (cb_t6 _ (List.mem_of_getElem? (i := 18) rfl)) rfl
theorem wd_1272 : Cond.constantLong "CabbageCradlesModel" 293 17 ∈ cb_ws := cb_wt (cb_t6 _ (List.mem_of_getElem? (i := 8) rfl)) rfl
theorem wd_1274 : Cond.methodLink "CabbageCradlesModel" 295 ⟨"CabbageCradlesModel", "count", "(I)I"⟩ ∈ cb_ws := cb_wt (cb_t6 _ (List.mem_of_getElem? (i := 10) rfl)) rfl
theorem wd_1265 : Cond.instanceMethod ⟨"CabbageCradlesModel", "count", "(I)I"⟩ ∈ cb_ws := cb_wt (cb_t6 _ (List.mem_of_getElem? (i := 1) rfl)) rfl
theorem wd_1266 : Cond.selects "CabbageCradlesModel" ⟨"CabbageCradlesModel", "count", "(I)I"⟩ ⟨"CabbageCradlesModel", "count", "(I)I"⟩ ∈ cb_ws := cb_wt (cb_t6 _ (List.mem_of_getElem? (i := 2) rfl)) rfl
theorem cv_X7_295 : cb_CV RX7 295 yX7_count cX7_count 2 (some .int) 1 := ⟨wd_1267, wd_1274, wd_1265, wd_1266, wd_73, ⟨by decide +kernel, by decide +kernel, by decide +kernel⟩, by decide⟩
theorem wd_1275 : Cond.methodLink "CabbageCradlesModel" 298 ⟨"CabbageCradlesModel", "tellsHead", "(JI)J"⟩ ∈ cb_ws := cb_wt (cb_t6 _ (List.mem_of_getElem? (i := 11) rfl)) rfl
theorem wd_1277 : Cond.instanceMethod ⟨"CabbageCradlesModel", "tellsHead", "(JI)J"⟩ ∈ cb_ws := cb_wt (cb_t6 _ (List.mem_of_getElem? (i := 13) rfl)) rfl
theorem wd_62 : Cond.selects "CabbageCradlesModel" ⟨"CabbageCradlesModel", "tellsHead", "(JI)J"⟩ ⟨"CabbageCradlesModel", "tellsHead", "(JI)J"⟩ ∈ cb_ws := cb_wt (List.mem_of_getElem? (i := 62) (by rfl)) rfl
theorem cv_X7_298 : cb_CV RX7 298 yX7_tellsHead cX7_tellsHead 7 (some .long) 2 := ⟨wd_1278, wd_1275, wd_1277, wd_62, wd_73, ⟨by decide +kernel, by decide +kernel, by decide +kernel⟩, by decide⟩
theorem wd_1279 : Cond.methodLink "CabbageCradlesModel" 302 ⟨"CabbageCradlesModel", "tellsCouple", "(JI)J"⟩ ∈ cb_ws := cb_wt (cb_t6 _ (List.mem_of_getElem? (i := 15) rfl)) rfl
theorem wd_1281 : Cond.instanceMethod ⟨"CabbageCradlesModel", "tellsCouple", "(JI)J"⟩ ∈ cb_ws := cb_wt (cb_t6 _ (List.mem_of_getElem? (i := 17) rfl)) rfl
theorem wd_63 : Cond.selects "CabbageCradlesModel" ⟨"CabbageCradlesModel", "tellsCouple", "(JI)J"⟩ ⟨"CabbageCradlesModel", "tellsCouple", "(JI)J"⟩ ∈ cb_ws := cb_wt (List.mem_of_getElem? (i := 63) (by rfl)) rfl
theorem cv_X7_302 : cb_CV RX7 302 yX7_tellsCouple cX7_tellsCouple 7 (some .long) 2 := ⟨wd_1282, wd_1279, wd_1281, wd_63, wd_73, ⟨by decide +kernel, by decide +kernel, by decide +kernel⟩, by decide⟩
theorem wd_1271 : Cond.code ⟨"CabbageCradlesModel", "digest", "()J"⟩ prog_9_method_88_code 4 (Option.some .long) ∈ cb_ws := cb_wt (cb_t6 _ (List.mem_of_getElem? (i := 7) rfl)) rfl
theorem wd_168 : Cond.fieldLink "CabbageCradles$Sheet" 19 "CabbageCradles$Sheet" "size" "I" ∈ cb_ws := cb_wt (cb_t1 _ (List.mem_of_getElem? (i := 104) rfl)) rfl
theorem wi_X3 : ∀ x ∈ u_ws RX3 TX3 3, x ∈ cb_ws := fun x h => List.mem_filter.mpr ⟨(show ∀ x ∈ u_ws RX3 TX3 3, x ∈ lw_tbl by decide +kernel) x h, (show ∀ x ∈ u_ws RX3 TX3 3, goodWord x = true by decide +kernel) x h⟩
theorem fa_X3_19 : cb_FA RX3 19 3 2 := ⟨RX3, TX3, 3, rfl, by decide, wi_X3, wd_168⟩
theorem wd_505 : Cond.code ⟨"CabbageCradles$Sheet", "isLost", "()Z"⟩ prog_5_method_2_code 1 (Option.some .boolean) ∈ cb_ws := cb_wt (cb_t2 _ (List.mem_of_getElem? (i := 201) rfl)) rfl
theorem wd_164 : Cond.fieldLink "CabbageCradles$Sheet" 9 "CabbageCradles$Sheet" "items" "[I" ∈ cb_ws := cb_wt (cb_t1 _ (List.mem_of_getElem? (i := 100) rfl)) rfl
theorem fa_X3_9 : cb_FA RX3 9 3 0 := ⟨RX3, TX3, 3, rfl, by decide, wi_X3, wd_164⟩
theorem wd_80 : Cond.initialized "java/util/Arrays" ∈ cb_ws := cb_wt (cb_t1 _ (List.mem_of_getElem? (i := 16) rfl)) rfl
theorem wd_766 : Cond.methodLink "CabbageCradles$Sheet" 22 ⟨"java/util/Arrays", "fill", "([II)V"⟩ ∈ cb_ws := cb_wt (cb_t3 _ (List.mem_of_getElem? (i := 222) rfl)) rfl
theorem wd_549 : Cond.static ⟨"java/util/Arrays", "fill", "([II)V"⟩ ∈ cb_ws := cb_wt (cb_t3 _ (List.mem_of_getElem? (i := 5) rfl)) rfl
theorem cs_X3_22 : cb_CS RX3 22 yJ7_fill_53178 cJ7_fill_53178 4 none 2 := ⟨wd_550, wd_766, wd_549, wd_80, ⟨by decide +kernel, by decide +kernel, by decide +kernel⟩, by decide⟩
theorem wd_166 : Cond.fieldLink "CabbageCradles$Sheet" 15 "CabbageCradles$Sheet" "form" "I" ∈ cb_ws := cb_wt (cb_t1 _ (List.mem_of_getElem? (i := 102) rfl)) rfl
theorem fp_X3_15 : cb_FP RX3 15 3 1 := ⟨RX3, TX3, 3, tyX3, rfl, by decide, wi_X3, wd_166, tyX3_ok, nmX3, rfl, by decide +kernel⟩
theorem fp_X3_19 : cb_FP RX3 19 3 2 := ⟨RX3, TX3, 3, tyX3, rfl, by decide, wi_X3, wd_168, tyX3_ok, nmX3, rfl, by decide +kernel⟩
theorem wd_765 : Cond.code ⟨"CabbageCradles$Sheet", "renew", "(II)V"⟩ prog_5_method_3_code 3 (Option.none) ∈ cb_ws := cb_wt (cb_t3 _ (List.mem_of_getElem? (i := 221) rfl)) rfl
theorem wd_65 : Cond.initialized "CabbageCradles" ∈ cb_ws := cb_wt (cb_t1 _ (List.mem_of_getElem? (i := 1) rfl)) rfl
theorem wn_514 : Cond.methodLinkNest "CabbageCradles$Sheet" 28 ⟨"CabbageCradles", "isOff", "(II)Z"⟩ "CabbageCradles" ∈ cb_nest := List.mem_filter.mpr ⟨cb_t2 _ (List.mem_of_getElem? (i := 210) rfl), rfl⟩
theorem wd_322 : Cond.static ⟨"CabbageCradles", "isOff", "(II)Z"⟩ ∈ cb_ws := cb_wt (cb_t2 _ (List.mem_of_getElem? (i := 18) rfl)) rfl
theorem cn_X3_28 : cb_CN RX3 28 yX6_isOff cX6_isOff 2 (some .boolean) 2 "CabbageCradles" := ⟨wd_323, wn_514, wd_322, wd_65, ⟨by decide +kernel, by decide +kernel, by decide +kernel⟩, by decide⟩
theorem wd_513 : Cond.code ⟨"CabbageCradles$Sheet", "itemAt", "(I)I"⟩ prog_5_method_4_code 2 (Option.some .int) ∈ cb_ws := cb_wt (cb_t2 _ (List.mem_of_getElem? (i := 209) rfl)) rfl
theorem fa_X3_15 : cb_FA RX3 15 3 1 := ⟨RX3, TX3, 3, rfl, by decide, wi_X3, wd_166⟩
theorem wd_781 : Cond.code ⟨"CabbageCradles$Sheet", "put", "(II)V"⟩ prog_5_method_5_code 3 (Option.none) ∈ cb_ws := cb_wt (cb_t3 _ (List.mem_of_getElem? (i := 237) rfl)) rfl
theorem wd_794 : Cond.code ⟨"CabbageCradles$Sheet", "hasRun", "(II)Z"⟩ prog_5_method_6_code 3 (Option.some .boolean) ∈ cb_ws := cb_wt (cb_t4 _ (List.mem_of_getElem? (i := 10) rfl)) rfl
theorem wd_275 : Cond.fieldLink "CabbageCradles$Chances" 16 "CabbageCradles$Chances" "lastDay" "I" ∈ cb_ws := cb_wt (cb_t1 _ (List.mem_of_getElem? (i := 211) rfl)) rfl
theorem wi_X0 : ∀ x ∈ u_ws RX0 TX0 2, x ∈ cb_ws := fun x h => List.mem_filter.mpr ⟨(show ∀ x ∈ u_ws RX0 TX0 2, x ∈ lw_tbl by decide +kernel) x h, (show ∀ x ∈ u_ws RX0 TX0 2, goodWord x = true by decide +kernel) x h⟩
theorem fp_X0_16 : cb_FP RX0 16 0 1 := ⟨RX0, TX0, 2, tyX0, rfl, by decide, wi_X0, wd_275, tyX0_ok, nmX0, rfl, by decide +kernel⟩
theorem wd_327 : Cond.code ⟨"CabbageCradles$Chances", "forgetAll", "()V"⟩ prog_2_method_2_code 1 (Option.none) ∈ cb_ws := cb_wt (cb_t2 _ (List.mem_of_getElem? (i := 23) rfl)) rfl
theorem wd_274 : Cond.fieldLink "CabbageCradles$Chances" 11 "CabbageCradles$Chances" "cases" "[[I" ∈ cb_ws := cb_wt (cb_t1 _ (List.mem_of_getElem? (i := 210) rfl)) rfl
theorem fa_X0_11 : cb_FA RX0 11 0 0 := ⟨RX0, TX0, 2, rfl, by decide, wi_X0, wd_274⟩
theorem wd_744 : Cond.methodLink "CabbageCradles$Chances" 20 ⟨"java/util/Arrays", "fill", "([II)V"⟩ ∈ cb_ws := cb_wt (cb_t3 _ (List.mem_of_getElem? (i := 200) rfl)) rfl
theorem cs_X0_20 : cb_CS RX0 20 yJ7_fill_53178 cJ7_fill_53178 4 none 2 := ⟨wd_550, wd_744, wd_549, wd_80, ⟨by decide +kernel, by decide +kernel, by decide +kernel⟩, by decide⟩
theorem wd_743 : Cond.code ⟨"CabbageCradles$Chances", "startFor", "(I)V"⟩ prog_2_method_3_code 3 (Option.none) ∈ cb_ws := cb_wt (cb_t3 _ (List.mem_of_getElem? (i := 199) rfl)) rfl
theorem wd_748 : Cond.code ⟨"CabbageCradles$Chances", "addCase", "(II)V"⟩ prog_2_method_4_code 4 (Option.none) ∈ cb_ws := cb_wt (cb_t3 _ (List.mem_of_getElem? (i := 204) rfl)) rfl
theorem fa_X0_16 : cb_FA RX0 16 0 1 := ⟨RX0, TX0, 2, rfl, by decide, wi_X0, wd_275⟩
theorem wd_752 : Cond.code ⟨"CabbageCradles$Chances", "weightOf", "(II)J"⟩ prog_2_method_5_code 9 (Option.some .long) ∈ cb_ws := cb_wt (cb_t3 _ (List.mem_of_getElem? (i := 208) rfl)) rfl
theorem wd_133 : Cond.fieldLink "CabbageCradles$Field" 30 "CabbageCradles$Text" "parts" "I" ∈ cb_ws := cb_wt (cb_t1 _ (List.mem_of_getElem? (i := 69) rfl)) rfl
theorem wi_X4 : ∀ x ∈ u_ws RX4 TX4 8, x ∈ cb_ws := fun x h => List.mem_filter.mpr ⟨(show ∀ x ∈ u_ws RX4 TX4 8, x ∈ lw_tbl by decide +kernel) x h, (show ∀ x ∈ u_ws RX4 TX4 8, goodWord x = true by decide +kernel) x h⟩
theorem fa_X1_30 : cb_FA RX1 30 4 6 := ⟨RX4, TX4, 8, rfl, by decide, wi_X4, wd_133⟩
theorem wd_197 : Cond.fieldLink "CabbageCradles$Field" 36 "CabbageCradles$Field" "heads" "I" ∈ cb_ws := cb_wt (cb_t1 _ (List.mem_of_getElem? (i := 133) rfl)) rfl
theorem wi_X1 : ∀ x ∈ u_ws RX1 TX1 9, x ∈ cb_ws := fun x h => List.mem_filter.mpr ⟨(show ∀ x ∈ u_ws RX1 TX1 9, x ∈ lw_tbl by decide +kernel) x h, (show ∀ x ∈ u_ws RX1 TX1 9, goodWord x = true by decide +kernel) x h⟩
theorem fp_X1_36 : cb_FP RX1 36 1 6 := ⟨RX1, TX1, 9, tyX1, rfl, by decide, wi_X1, wd_197, tyX1_ok, nmX1, rfl, by decide +kernel⟩
theorem wd_124 : Cond.fieldLink "CabbageCradles$Field" 39 "CabbageCradles$Text" "kinds" "[I" ∈ cb_ws := cb_wt (cb_t1 _ (List.mem_of_getElem? (i := 60) rfl)) rfl
theorem fa_X1_39 : cb_FA RX1 39 4 3 := ⟨RX4, TX4, 8, rfl, by decide, wi_X4, wd_124⟩
theorem wd_183 : Cond.fieldLink "CabbageCradles$Field" 9 "CabbageCradles$Field" "sorts" "[I" ∈ cb_ws := cb_wt (cb_t1 _ (List.mem_of_getElem? (i := 119) rfl)) rfl
theorem fa_X1_9 : cb_FA RX1 9 1 0 := ⟨RX1, TX1, 9, rfl, by decide, wi_X1, wd_183⟩
theorem wd_532 : Cond.methodLink "CabbageCradles$Field" 42 ⟨"java/lang/System", "arraycopy", "(Ljava/lang/Object;ILjava/lang/Object;II)V"⟩ ∈ cb_ws := cb_wt (cb_t2 _ (List.mem_of_getElem? (i := 228) rfl)) rfl
theorem wd_534 : Cond.native ⟨"java/lang/System", "arraycopy", "(Ljava/lang/Object;ILjava/lang/Object;II)V"⟩ ∈ cb_ws := cb_wt (cb_t2 _ (List.mem_of_getElem? (i := 230) rfl)) rfl
theorem wd_533 : Cond.static ⟨"java/lang/System", "arraycopy", "(Ljava/lang/Object;ILjava/lang/Object;II)V"⟩ ∈ cb_ws := cb_wt (cb_t2 _ (List.mem_of_getElem? (i := 229) rfl)) rfl
theorem wd_79 : Cond.initialized "java/lang/System" ∈ cb_ws := cb_wt (cb_t1 _ (List.mem_of_getElem? (i := 15) rfl)) rfl
theorem wd_127 : Cond.fieldLink "CabbageCradles$Field" 48 "CabbageCradles$Text" "days" "[I" ∈ cb_ws := cb_wt (cb_t1 _ (List.mem_of_getElem? (i := 63) rfl)) rfl
theorem fa_X1_48 : cb_FA RX1 48 4 4 := ⟨RX4, TX4, 8, rfl, by decide, wi_X4, wd_127⟩
theorem wd_186 : Cond.fieldLink "CabbageCradles$Field" 15 "CabbageCradles$Field" "dues" "[I" ∈ cb_ws := cb_wt (cb_t1 _ (List.mem_of_getElem? (i := 122) rfl)) rfl
theorem fa_X1_15 : cb_FA RX1 15 1 1 := ⟨RX1, TX1, 9, rfl, by decide, wi_X1, wd_186⟩
theorem wd_531 : Cond.code ⟨"CabbageCradles$Field", "plant", "(LCabbageCradles$Text;)V"⟩ prog_3_method_2_code 2 (Option.none) ∈ cb_ws := cb_wt (cb_t2 _ (List.mem_of_getElem? (i := 227) rfl)) rfl
theorem wd_201 : Cond.fieldLink "CabbageCradles$Field" 51 "CabbageCradles$Field" "couples" "I" ∈ cb_ws := cb_wt (cb_t1 _ (List.mem_of_getElem? (i := 137) rfl)) rfl
theorem fp_X1_51 : cb_FP RX1 51 1 7 := ⟨RX1, TX1, 9, tyX1, rfl, by decide, wi_X1, wd_201, tyX1_ok, nmX1, rfl, by decide +kernel⟩
theorem wd_188 : Cond.fieldLink "CabbageCradles$Field" 18 "CabbageCradles$Field" "wants" "[I" ∈ cb_ws := cb_wt (cb_t1 _ (List.mem_of_getElem? (i := 124) rfl)) rfl
theorem fa_X1_18 : cb_FA RX1 18 1 2 := ⟨RX1, TX1, 9, rfl, by decide, wi_X1, wd_188⟩
theorem wd_190 : Cond.fieldLink "CabbageCradles$Field" 21 "CabbageCradles$Field" "froms" "[I" ∈ cb_ws := cb_wt (cb_t1 _ (List.mem_of_getElem? (i := 126) rfl)) rfl
theorem fa_X1_21 : cb_FA RX1 21 1 3 := ⟨RX1, TX1, 9, rfl, by decide, wi_X1, wd_190⟩
theorem wd_130 : Cond.fieldLink "CabbageCradles$Field" 54 "CabbageCradles$Text" "lengths" "[I" ∈ cb_ws := cb_wt (cb_t1 _ (List.mem_of_getElem? (i := 66) rfl)) rfl
theorem fa_X1_54 : cb_FA RX1 54 4 5 := ⟨RX4, TX4, 8, rfl, by decide, wi_X4, wd_130⟩
theorem wd_193 : Cond.fieldLink "CabbageCradles$Field" 24 "CabbageCradles$Field" "stays" "[I" ∈ cb_ws := cb_wt (cb_t1 _ (List.mem_of_getElem? (i := 129) rfl)) rfl
theorem fa_X1_24 : cb_FA RX1 24 1 4 := ⟨RX1, TX1, 9, rfl, by decide, wi_X1, wd_193⟩
theorem wd_538 : Cond.code ⟨"CabbageCradles$Field", "invite", "(LCabbageCradles$Text;)V"⟩ prog_3_method_3_code 2 (Option.none) ∈ cb_ws := cb_wt (cb_t2 _ (List.mem_of_getElem? (i := 234) rfl)) rfl
theorem wd_203 : Cond.fieldLink "CabbageCradles$Field" 57 "CabbageCradles$Field" "frosts" "I" ∈ cb_ws := cb_wt (cb_t1 _ (List.mem_of_getElem? (i := 139) rfl)) rfl
theorem fp_X1_57 : cb_FP RX1 57 1 8 := ⟨RX1, TX1, 9, tyX1, rfl, by decide, wi_X1, wd_203, tyX1_ok, nmX1, rfl, by decide +kernel⟩
theorem wd_109 : Cond.fieldLink "CabbageCradles$Field" 60 "CabbageCradles$Row" "size" "I" ∈ cb_ws := cb_wt (cb_t1 _ (List.mem_of_getElem? (i := 45) rfl)) rfl
theorem fa_X1_60 : cb_FA RX1 60 2 1 := ⟨RX2, TX2, 2, rfl, by decide, wi_X2, wd_109⟩
theorem fa_X1_57 : cb_FA RX1 57 1 8 := ⟨RX1, TX1, 9, rfl, by decide, wi_X1, wd_203⟩
theorem wd_67 : Cond.initialized "CabbageCradles$Row" ∈ cb_ws := cb_wt (cb_t1 _ (List.mem_of_getElem? (i := 3) rfl)) rfl
theorem wd_543 : Cond.methodLink "CabbageCradles$Field" 65 ⟨"CabbageCradles$Row", "at", "(I)I"⟩ ∈ cb_ws := cb_wt (cb_t2 _ (List.mem_of_getElem? (i := 239) rfl)) rfl
theorem wd_345 : Cond.instanceMethod ⟨"CabbageCradles$Row", "at", "(I)I"⟩ ∈ cb_ws := cb_wt (cb_t2 _ (List.mem_of_getElem? (i := 41) rfl)) rfl
theorem wd_346 : Cond.selects "CabbageCradles$Row" ⟨"CabbageCradles$Row", "at", "(I)I"⟩ ⟨"CabbageCradles$Row", "at", "(I)I"⟩ ∈ cb_ws := cb_wt (cb_t2 _ (List.mem_of_getElem? (i := 42) rfl)) rfl
theorem cv_X1_65 : cb_CV RX1 65 yX2_at cX2_at 2 (some .int) 1 := ⟨wd_347, wd_543, wd_345, wd_346, wd_67, ⟨by decide +kernel, by decide +kernel, by decide +kernel⟩, by decide⟩
theorem wd_542 : Cond.code ⟨"CabbageCradles$Field", "freeze", "(LCabbageCradles$Row;)V"⟩ prog_3_method_4_code 3 (Option.none) ∈ cb_ws := cb_wt (cb_t2 _ (List.mem_of_getElem? (i := 238) rfl)) rfl
theorem wd_195 : Cond.fieldLink "CabbageCradles$Field" 27 "CabbageCradles$Field" "rabbitDays" "[I" ∈ cb_ws := cb_wt (cb_t1 _ (List.mem_of_getElem? (i := 131) rfl)) rfl
theorem fa_X1_27 : cb_FA RX1 27 1 5 := ⟨RX1, TX1, 9, rfl, by decide, wi_X1, wd_195⟩
theorem wd_548 : Cond.methodLink "CabbageCradles$Field" 69 ⟨"java/util/Arrays", "fill", "([II)V"⟩ ∈ cb_ws := cb_wt (cb_t3 _ (List.mem_of_getElem? (i := 4) rfl)) rfl
theorem cs_X1_69 : cb_CS RX1 69 yJ7_fill_53178 cJ7_fill_53178 4 none 2 := ⟨wd_550, wd_548, wd_549, wd_80, ⟨by decide +kernel, by decide +kernel, by decide +kernel⟩, by decide⟩
theorem wn_551 : Cond.methodLinkNest "CabbageCradles$Field" 75 ⟨"CabbageCradles", "isOff", "(II)Z"⟩ "CabbageCradles" ∈ cb_nest := List.mem_filter.mpr ⟨cb_t3 _ (List.mem_of_getElem? (i := 7) rfl), rfl⟩
theorem cn_X1_75 : cb_CN RX1 75 yX6_isOff cX6_isOff 2 (some .boolean) 2 "CabbageCradles" := ⟨wd_323, wn_551, wd_322, wd_65, ⟨by decide +kernel, by decide +kernel, by decide +kernel⟩, by decide⟩
theorem wd_552 : Cond.methodLink "CabbageCradles$Field" 79 ⟨"java/lang/Math", "min", "(II)I"⟩ ∈ cb_ws := cb_wt (cb_t3 _ (List.mem_of_getElem? (i := 8) rfl)) rfl
theorem wd_382 : Cond.static ⟨"java/lang/Math", "min", "(II)I"⟩ ∈ cb_ws := cb_wt (cb_t2 _ (List.mem_of_getElem? (i := 78) rfl)) rfl
theorem wd_68 : Cond.initialized "java/lang/Math" ∈ cb_ws := cb_wt (cb_t1 _ (List.mem_of_getElem? (i := 4) rfl)) rfl
theorem wd_383 : Cond.code ⟨"java/lang/Math", "min", "(II)I"⟩ prog_12_method_69_code 2 (Option.some .int) ∈ cb_ws := cb_wt (cb_t2 _ (List.mem_of_getElem? (i := 79) rfl)) rfl
theorem wd_547 : Cond.code ⟨"CabbageCradles$Field", "letRabbitsIn", "(LCabbageCradles$Row;I)V"⟩ prog_3_method_5_code 5 (Option.none) ∈ cb_ws := cb_wt (cb_t3 _ (List.mem_of_getElem? (i := 3) rfl)) rfl
theorem wd_638 : Cond.code ⟨"CabbageCradles$Field", "comesOn", "(II)Z"⟩ prog_3_method_6_code 3 (Option.some .boolean) ∈ cb_ws := cb_wt (cb_t3 _ (List.mem_of_getElem? (i := 94) rfl)) rfl
theorem wd_642 : Cond.code ⟨"CabbageCradles$Field", "isWantedBy", "(II)Z"⟩ prog_3_method_7_code 3 (Option.some .boolean) ∈ cb_ws := cb_wt (cb_t3 _ (List.mem_of_getElem? (i := 98) rfl)) rfl
theorem wd_570 : Cond.code ⟨"CabbageCradles$Field", "firstRipe", "(I)I"⟩ prog_3_method_8_code 4 (Option.some .int) ∈ cb_ws := cb_wt (cb_t3 _ (List.mem_of_getElem? (i := 26) rfl)) rfl
theorem wd_596 : Cond.code ⟨"CabbageCradles$Field", "firstFrost", "()I"⟩ prog_3_method_9_code 2 (Option.some .int) ∈ cb_ws := cb_wt (cb_t3 _ (List.mem_of_getElem? (i := 52) rfl)) rfl
theorem wd_230 : Cond.fieldLink "CabbageCradles$Walk" 9 "CabbageCradles$Walk" "ripe" "[I" ∈ cb_ws := cb_wt (cb_t1 _ (List.mem_of_getElem? (i := 166) rfl)) rfl
theorem wi_X5 : ∀ x ∈ u_ws RX5 TX5 10, x ∈ cb_ws := fun x h => List.mem_filter.mpr ⟨(show ∀ x ∈ u_ws RX5 TX5 10, x ∈ lw_tbl by decide +kernel) x h, (show ∀ x ∈ u_ws RX5 TX5 10, goodWord x = true by decide +kernel) x h⟩
theorem fa_X5_9 : cb_FA RX5 9 5 0 := ⟨RX5, TX5, 10, rfl, by decide, wi_X5, wd_230⟩
theorem wd_561 : Cond.methodLink "CabbageCradles$Walk" 64 ⟨"java/util/Arrays", "fill", "([II)V"⟩ ∈ cb_ws := cb_wt (cb_t3 _ (List.mem_of_getElem? (i := 17) rfl)) rfl
theorem cs_X5_64 : cb_CS RX5 64 yJ7_fill_53178 cJ7_fill_53178 4 none 2 := ⟨wd_550, wd_561, wd_549, wd_80, ⟨by decide +kernel, by decide +kernel, by decide +kernel⟩, by decide⟩
theorem wd_232 : Cond.fieldLink "CabbageCradles$Walk" 15 "CabbageCradles$Walk" "bolted" "[I" ∈ cb_ws := cb_wt (cb_t1 _ (List.mem_of_getElem? (i := 168) rfl)) rfl
theorem fa_X5_15 : cb_FA RX5 15 5 1 := ⟨RX5, TX5, 10, rfl, by decide, wi_X5, wd_232⟩
theorem wd_233 : Cond.fieldLink "CabbageCradles$Walk" 18 "CabbageCradles$Walk" "headGot" "[I" ∈ cb_ws := cb_wt (cb_t1 _ (List.mem_of_getElem? (i := 169) rfl)) rfl
theorem fa_X5_18 : cb_FA RX5 18 5 2 := ⟨RX5, TX5, 10, rfl, by decide, wi_X5, wd_233⟩
theorem wd_235 : Cond.fieldLink "CabbageCradles$Walk" 21 "CabbageCradles$Walk" "dayGot" "[I" ∈ cb_ws := cb_wt (cb_t1 _ (List.mem_of_getElem? (i := 171) rfl)) rfl
theorem fa_X5_21 : cb_FA RX5 21 5 3 := ⟨RX5, TX5, 10, rfl, by decide, wi_X5, wd_235⟩
theorem wd_237 : Cond.fieldLink "CabbageCradles$Walk" 24 "CabbageCradles$Walk" "goodFor" "[I" ∈ cb_ws := cb_wt (cb_t1 _ (List.mem_of_getElem? (i := 173) rfl)) rfl
theorem fa_X5_24 : cb_FA RX5 24 5 4 := ⟨RX5, TX5, 10, rfl, by decide, wi_X5, wd_237⟩
theorem wd_239 : Cond.fieldLink "CabbageCradles$Walk" 27 "CabbageCradles$Walk" "ripeOn" "[I" ∈ cb_ws := cb_wt (cb_t1 _ (List.mem_of_getElem? (i := 175) rfl)) rfl
theorem fa_X5_27 : cb_FA RX5 27 5 5 := ⟨RX5, TX5, 10, rfl, by decide, wi_X5, wd_239⟩
theorem wd_240 : Cond.fieldLink "CabbageCradles$Walk" 30 "CabbageCradles$Walk" "comingOn" "[I" ∈ cb_ws := cb_wt (cb_t1 _ (List.mem_of_getElem? (i := 176) rfl)) rfl
theorem fa_X5_30 : cb_FA RX5 30 5 6 := ⟨RX5, TX5, 10, rfl, by decide, wi_X5, wd_240⟩
theorem wd_241 : Cond.fieldLink "CabbageCradles$Walk" 33 "CabbageCradles$Walk" "ofSort" "[I" ∈ cb_ws := cb_wt (cb_t1 _ (List.mem_of_getElem? (i := 177) rfl)) rfl
theorem fa_X5_33 : cb_FA RX5 33 5 7 := ⟨RX5, TX5, 10, rfl, by decide, wi_X5, wd_241⟩
theorem wd_242 : Cond.fieldLink "CabbageCradles$Walk" 55 "CabbageCradles$Walk" "taken" "I" ∈ cb_ws := cb_wt (cb_t1 _ (List.mem_of_getElem? (i := 178) rfl)) rfl
theorem fp_X5_55 : cb_FP RX5 55 5 8 := ⟨RX5, TX5, 10, tyX5, rfl, by decide, wi_X5, wd_242, tyX5_ok, nmX5, rfl, by decide +kernel⟩
theorem wd_243 : Cond.fieldLink "CabbageCradles$Walk" 58 "CabbageCradles$Walk" "served" "I" ∈ cb_ws := cb_wt (cb_t1 _ (List.mem_of_getElem? (i := 179) rfl)) rfl
theorem fp_X5_58 : cb_FP RX5 58 5 9 := ⟨RX5, TX5, 10, tyX5, rfl, by decide, wi_X5, wd_243, tyX5_ok, nmX5, rfl, by decide +kernel⟩
theorem wd_560 : Cond.code ⟨"CabbageCradles$Walk", "clear", "()V"⟩ prog_7_method_3_code 1 (Option.none) ∈ cb_ws := cb_wt (cb_t3 _ (List.mem_of_getElem? (i := 16) rfl)) rfl
theorem wd_184 : Cond.fieldLink "CabbageCradles$Walk" 70 "CabbageCradles$Field" "sorts" "[I" ∈ cb_ws := cb_wt (cb_t1 _ (List.mem_of_getElem? (i := 120) rfl)) rfl
theorem fa_X5_70 : cb_FA RX5 70 1 0 := ⟨RX1, TX1, 9, rfl, by decide, wi_X1, wd_184⟩
theorem wn_566 : Cond.methodLinkNest "CabbageCradles$Walk" 73 ⟨"CabbageCradles", "isOff", "(II)Z"⟩ "CabbageCradles" ∈ cb_nest := List.mem_filter.mpr ⟨cb_t3 _ (List.mem_of_getElem? (i := 22) rfl), rfl⟩
theorem cn_X5_73 : cb_CN RX5 73 yX6_isOff cX6_isOff 2 (some .boolean) 2 "CabbageCradles" := ⟨wd_323, wn_566, wd_322, wd_65, ⟨by decide +kernel, by decide +kernel, by decide +kernel⟩, by decide⟩
theorem wd_70 : Cond.initialized "CabbageCradles$Field" ∈ cb_ws := cb_wt (cb_t1 _ (List.mem_of_getElem? (i := 6) rfl)) rfl
theorem wd_567 : Cond.methodLink "CabbageCradles$Walk" 77 ⟨"CabbageCradles$Field", "firstRipe", "(I)I"⟩ ∈ cb_ws := cb_wt (cb_t3 _ (List.mem_of_getElem? (i := 23) rfl)) rfl
theorem wd_568 : Cond.instanceMethod ⟨"CabbageCradles$Field", "firstRipe", "(I)I"⟩ ∈ cb_ws := cb_wt (cb_t3 _ (List.mem_of_getElem? (i := 24) rfl)) rfl
theorem wd_569 : Cond.selects "CabbageCradles$Field" ⟨"CabbageCradles$Field", "firstRipe", "(I)I"⟩ ⟨"CabbageCradles$Field", "firstRipe", "(I)I"⟩ ∈ cb_ws := cb_wt (cb_t3 _ (List.mem_of_getElem? (i := 25) rfl)) rfl
theorem cv_X5_77 : cb_CV RX5 77 yX1_firstRipe cX1_firstRipe 4 (some .int) 1 := ⟨wd_570, wd_567, wd_568, wd_569, wd_70, ⟨by decide +kernel, by decide +kernel, by decide +kernel⟩, by decide⟩
theorem wn_571 : Cond.fieldLinkNest "CabbageCradles$Walk" 81 "CabbageCradles" "RIPE_DAYS" "[I" "CabbageCradles" ∈ cb_nest := List.mem_filter.mpr ⟨cb_t3 _ (List.mem_of_getElem? (i := 27) rfl), rfl⟩
theorem wd_196 : Cond.fieldLink "CabbageCradles$Walk" 84 "CabbageCradles$Field" "rabbitDays" "[I" ∈ cb_ws := cb_wt (cb_t1 _ (List.mem_of_getElem? (i := 132) rfl)) rfl
theorem fa_X5_84 : cb_FA RX5 84 1 5 := ⟨RX1, TX1, 9, rfl, by decide, wi_X1, wd_196⟩
theorem wd_573 : Cond.methodLink "CabbageCradles$Walk" 87 ⟨"java/lang/Math", "min", "(II)I"⟩ ∈ cb_ws := cb_wt (cb_t3 _ (List.mem_of_getElem? (i := 29) rfl)) rfl
theorem wd_565 : Cond.code ⟨"CabbageCradles$Walk", "bringHead", "(LCabbageCradles$Field;I)V"⟩ prog_7_method_4_code 6 (Option.none) ∈ cb_ws := cb_wt (cb_t3 _ (List.mem_of_getElem? (i := 21) rfl)) rfl
theorem wd_189 : Cond.fieldLink "CabbageCradles$Walk" 93 "CabbageCradles$Field" "wants" "[I" ∈ cb_ws := cb_wt (cb_t1 _ (List.mem_of_getElem? (i := 125) rfl)) rfl
theorem fa_X5_93 : cb_FA RX5 93 1 2 := ⟨RX1, TX1, 9, rfl, by decide, wi_X1, wd_189⟩
theorem wd_191 : Cond.fieldLink "CabbageCradles$Walk" 96 "CabbageCradles$Field" "froms" "[I" ∈ cb_ws := cb_wt (cb_t1 _ (List.mem_of_getElem? (i := 127) rfl)) rfl
theorem fa_X5_96 : cb_FA RX5 96 1 3 := ⟨RX1, TX1, 9, rfl, by decide, wi_X1, wd_191⟩
theorem wd_194 : Cond.fieldLink "CabbageCradles$Walk" 99 "CabbageCradles$Field" "stays" "[I" ∈ cb_ws := cb_wt (cb_t1 _ (List.mem_of_getElem? (i := 130) rfl)) rfl
theorem fa_X5_99 : cb_FA RX5 99 1 4 := ⟨RX1, TX1, 9, rfl, by decide, wi_X1, wd_194⟩
theorem wd_577 : Cond.code ⟨"CabbageCradles$Walk", "bringCouple", "(LCabbageCradles$Field;I)V"⟩ prog_7_method_5_code 6 (Option.none) ∈ cb_ws := cb_wt (cb_t3 _ (List.mem_of_getElem? (i := 33) rfl)) rfl
theorem wd_200 : Cond.fieldLink "CabbageCradles$Walk" 49 "CabbageCradles$Field" "couples" "I" ∈ cb_ws := cb_wt (cb_t1 _ (List.mem_of_getElem? (i := 136) rfl)) rfl
theorem fa_X5_49 : cb_FA RX5 49 1 7 := ⟨RX1, TX1, 9, rfl, by decide, wi_X1, wd_200⟩
theorem fa_X5_58 : cb_FA RX5 58 5 9 := ⟨RX5, TX5, 10, rfl, by decide, wi_X5, wd_243⟩
theorem fa_X5_55 : cb_FA RX5 55 5 8 := ⟨RX5, TX5, 10, rfl, by decide, wi_X5, wd_242⟩
theorem wn_582 : Cond.methodLinkNest "CabbageCradles$Walk" 102 ⟨"CabbageCradles", "leastBit", "(I)I"⟩ "CabbageCradles" ∈ cb_nest := List.mem_filter.mpr ⟨cb_t3 _ (List.mem_of_getElem? (i := 38) rfl), rfl⟩
theorem wd_583 : Cond.static ⟨"CabbageCradles", "leastBit", "(I)I"⟩ ∈ cb_ws := cb_wt (cb_t3 _ (List.mem_of_getElem? (i := 39) rfl)) rfl
theorem cn_X5_102 : cb_CN RX5 102 yX6_leastBit cX6_leastBit 2 (some .int) 1 "CabbageCradles" := ⟨wd_584, wn_582, wd_583, wd_65, ⟨by decide +kernel, by decide +kernel, by decide +kernel⟩, by decide⟩
theorem wd_581 : Cond.code ⟨"CabbageCradles$Walk", "dawn", "(LCabbageCradles$Field;I)V"⟩ prog_7_method_6_code 5 (Option.none) ∈ cb_ws := cb_wt (cb_t3 _ (List.mem_of_getElem? (i := 37) rfl)) rfl
theorem wd_71 : Cond.initialized "CabbageCradles$Walk" ∈ cb_ws := cb_wt (cb_t1 _ (List.mem_of_getElem? (i := 7) rfl)) rfl
theorem wd_557 : Cond.methodLink "CabbageCradles$Walk" 36 ⟨"CabbageCradles$Walk", "clear", "()V"⟩ ∈ cb_ws := cb_wt (cb_t3 _ (List.mem_of_getElem? (i := 13) rfl)) rfl
theorem wd_559 : Cond.instanceMethod ⟨"CabbageCradles$Walk", "clear", "()V"⟩ ∈ cb_ws := cb_wt (cb_t3 _ (List.mem_of_getElem? (i := 15) rfl)) rfl
theorem wd_9 : Cond.selects "CabbageCradles$Walk" ⟨"CabbageCradles$Walk", "clear", "()V"⟩ ⟨"CabbageCradles$Walk", "clear", "()V"⟩ ∈ cb_ws := cb_wt (List.mem_of_getElem? (i := 9) (by rfl)) rfl
theorem cv_X5_36 : cb_CV RX5 36 yX5_clear cX5_clear 1 none 0 := ⟨wd_560, wd_557, wd_559, wd_9, wd_71, ⟨by decide +kernel, by decide +kernel, by decide +kernel⟩, by decide⟩
theorem wd_198 : Cond.fieldLink "CabbageCradles$Walk" 39 "CabbageCradles$Field" "heads" "I" ∈ cb_ws := cb_wt (cb_t1 _ (List.mem_of_getElem? (i := 134) rfl)) rfl
theorem fa_X5_39 : cb_FA RX5 39 1 6 := ⟨RX1, TX1, 9, rfl, by decide, wi_X1, wd_198⟩
theorem wd_562 : Cond.methodLink "CabbageCradles$Walk" 45 ⟨"CabbageCradles$Walk", "bringHead", "(LCabbageCradles$Field;I)V"⟩ ∈ cb_ws := cb_wt (cb_t3 _ (List.mem_of_getElem? (i := 18) rfl)) rfl
theorem wd_564 : Cond.instanceMethod ⟨"CabbageCradles$Walk", "bringHead", "(LCabbageCradles$Field;I)V"⟩ ∈ cb_ws := cb_wt (cb_t3 _ (List.mem_of_getElem? (i := 20) rfl)) rfl
theorem wd_10 : Cond.selects "CabbageCradles$Walk" ⟨"CabbageCradles$Walk", "bringHead", "(LCabbageCradles$Field;I)V"⟩ ⟨"CabbageCradles$Walk", "bringHead", "(LCabbageCradles$Field;I)V"⟩ ∈ cb_ws := cb_wt (List.mem_of_getElem? (i := 10) (by rfl)) rfl
theorem cv_X5_45 : cb_CV RX5 45 yX5_bringHead cX5_bringHead 6 none 2 := ⟨wd_565, wd_562, wd_564, wd_10, wd_71, ⟨by decide +kernel, by decide +kernel, by decide +kernel⟩, by decide⟩
theorem wd_574 : Cond.methodLink "CabbageCradles$Walk" 52 ⟨"CabbageCradles$Walk", "bringCouple", "(LCabbageCradles$Field;I)V"⟩ ∈ cb_ws := cb_wt (cb_t3 _ (List.mem_of_getElem? (i := 30) rfl)) rfl
theorem wd_576 : Cond.instanceMethod ⟨"CabbageCradles$Walk", "bringCouple", "(LCabbageCradles$Field;I)V"⟩ ∈ cb_ws := cb_wt (cb_t3 _ (List.mem_of_getElem? (i := 32) rfl)) rfl
theorem wd_11 : Cond.selects "CabbageCradles$Walk" ⟨"CabbageCradles$Walk", "bringCouple", "(LCabbageCradles$Field;I)V"⟩ ⟨"CabbageCradles$Walk", "bringCouple", "(LCabbageCradles$Field;I)V"⟩ ∈ cb_ws := cb_wt (List.mem_of_getElem? (i := 11) (by rfl)) rfl
theorem cv_X5_52 : cb_CV RX5 52 yX5_bringCouple cX5_bringCouple 6 none 2 := ⟨wd_577, wd_574, wd_576, wd_11, wd_71, ⟨by decide +kernel, by decide +kernel, by decide +kernel⟩, by decide⟩
theorem wd_578 : Cond.methodLink "CabbageCradles$Walk" 61 ⟨"CabbageCradles$Walk", "dawn", "(LCabbageCradles$Field;I)V"⟩ ∈ cb_ws := cb_wt (cb_t3 _ (List.mem_of_getElem? (i := 34) rfl)) rfl
theorem wd_580 : Cond.instanceMethod ⟨"CabbageCradles$Walk", "dawn", "(LCabbageCradles$Field;I)V"⟩ ∈ cb_ws := cb_wt (cb_t3 _ (List.mem_of_getElem? (i := 36) rfl)) rfl
theorem wd_12 : Cond.selects "CabbageCradles$Walk" ⟨"CabbageCradles$Walk", "dawn", "(LCabbageCradles$Field;I)V"⟩ ⟨"CabbageCradles$Walk", "dawn", "(LCabbageCradles$Field;I)V"⟩ ∈ cb_ws := cb_wt (List.mem_of_getElem? (i := 12) (by rfl)) rfl
theorem cv_X5_61 : cb_CV RX5 61 yX5_dawn cX5_dawn 5 none 2 := ⟨wd_581, wd_578, wd_580, wd_12, wd_71, ⟨by decide +kernel, by decide +kernel, by decide +kernel⟩, by decide⟩
theorem wd_556 : Cond.code ⟨"CabbageCradles$Walk", "go", "(LCabbageCradles$Field;)V"⟩ prog_7_method_2_code 3 (Option.none) ∈ cb_ws := cb_wt (cb_t3 _ (List.mem_of_getElem? (i := 12) rfl)) rfl
theorem wd_592 : Cond.code ⟨"CabbageCradles$Walk", "lifterOf", "(I)I"⟩ prog_7_method_7_code 3 (Option.some .int) ∈ cb_ws := cb_wt (cb_t3 _ (List.mem_of_getElem? (i := 48) rfl)) rfl
theorem wd_589 : Cond.methodLink "CabbageCradles$Walk" 105 ⟨"CabbageCradles$Walk", "lifterOf", "(I)I"⟩ ∈ cb_ws := cb_wt (cb_t3 _ (List.mem_of_getElem? (i := 45) rfl)) rfl
theorem wd_590 : Cond.instanceMethod ⟨"CabbageCradles$Walk", "lifterOf", "(I)I"⟩ ∈ cb_ws := cb_wt (cb_t3 _ (List.mem_of_getElem? (i := 46) rfl)) rfl
theorem wd_591 : Cond.selects "CabbageCradles$Walk" ⟨"CabbageCradles$Walk", "lifterOf", "(I)I"⟩ ⟨"CabbageCradles$Walk", "lifterOf", "(I)I"⟩ ∈ cb_ws := cb_wt (cb_t3 _ (List.mem_of_getElem? (i := 47) rfl)) rfl
theorem cv_X5_105 : cb_CV RX5 105 yX5_lifterOf cX5_lifterOf 3 (some .int) 1 := ⟨wd_592, wd_589, wd_590, wd_591, wd_71, ⟨by decide +kernel, by decide +kernel, by decide +kernel⟩, by decide⟩
theorem wd_593 : Cond.methodLink "CabbageCradles$Walk" 108 ⟨"CabbageCradles$Field", "firstFrost", "()I"⟩ ∈ cb_ws := cb_wt (cb_t3 _ (List.mem_of_getElem? (i := 49) rfl)) rfl
theorem wd_594 : Cond.instanceMethod ⟨"CabbageCradles$Field", "firstFrost", "()I"⟩ ∈ cb_ws := cb_wt (cb_t3 _ (List.mem_of_getElem? (i := 50) rfl)) rfl
theorem wd_595 : Cond.selects "CabbageCradles$Field" ⟨"CabbageCradles$Field", "firstFrost", "()I"⟩ ⟨"CabbageCradles$Field", "firstFrost", "()I"⟩ ∈ cb_ws := cb_wt (cb_t3 _ (List.mem_of_getElem? (i := 51) rfl)) rfl
theorem cv_X5_108 : cb_CV RX5 108 yX1_firstFrost cX1_firstFrost 2 (some .int) 0 := ⟨wd_596, wd_593, wd_594, wd_595, wd_70, ⟨by decide +kernel, by decide +kernel, by decide +kernel⟩, by decide⟩
theorem wd_588 : Cond.code ⟨"CabbageCradles$Walk", "stateOf", "(LCabbageCradles$Field;II)I"⟩ prog_7_method_8_code 5 (Option.some .int) ∈ cb_ws := cb_wt (cb_t3 _ (List.mem_of_getElem? (i := 44) rfl)) rfl
theorem wd_646 : Cond.code ⟨"CabbageCradles$Walk", "isStillWithout", "(II)Z"⟩ prog_7_method_11_code 3 (Option.some .boolean) ∈ cb_ws := cb_wt (cb_t3 _ (List.mem_of_getElem? (i := 102) rfl)) rfl
theorem wd_635 : Cond.methodLink "CabbageCradles$Walk" 116 ⟨"CabbageCradles$Field", "comesOn", "(II)Z"⟩ ∈ cb_ws := cb_wt (cb_t3 _ (List.mem_of_getElem? (i := 91) rfl)) rfl
theorem wd_636 : Cond.instanceMethod ⟨"CabbageCradles$Field", "comesOn", "(II)Z"⟩ ∈ cb_ws := cb_wt (cb_t3 _ (List.mem_of_getElem? (i := 92) rfl)) rfl
theorem wd_637 : Cond.selects "CabbageCradles$Field" ⟨"CabbageCradles$Field", "comesOn", "(II)Z"⟩ ⟨"CabbageCradles$Field", "comesOn", "(II)Z"⟩ ∈ cb_ws := cb_wt (cb_t3 _ (List.mem_of_getElem? (i := 93) rfl)) rfl
theorem cv_X5_116 : cb_CV RX5 116 yX1_comesOn cX1_comesOn 3 (some .boolean) 2 := ⟨wd_638, wd_635, wd_636, wd_637, wd_70, ⟨by decide +kernel, by decide +kernel, by decide +kernel⟩, by decide⟩
theorem wd_639 : Cond.methodLink "CabbageCradles$Walk" 119 ⟨"CabbageCradles$Field", "isWantedBy", "(II)Z"⟩ ∈ cb_ws := cb_wt (cb_t3 _ (List.mem_of_getElem? (i := 95) rfl)) rfl
theorem wd_640 : Cond.instanceMethod ⟨"CabbageCradles$Field", "isWantedBy", "(II)Z"⟩ ∈ cb_ws := cb_wt (cb_t3 _ (List.mem_of_getElem? (i := 96) rfl)) rfl
theorem wd_641 : Cond.selects "CabbageCradles$Field" ⟨"CabbageCradles$Field", "isWantedBy", "(II)Z"⟩ ⟨"CabbageCradles$Field", "isWantedBy", "(II)Z"⟩ ∈ cb_ws := cb_wt (cb_t3 _ (List.mem_of_getElem? (i := 97) rfl)) rfl
theorem cv_X5_119 : cb_CV RX5 119 yX1_isWantedBy cX1_isWantedBy 3 (some .boolean) 2 := ⟨wd_642, wd_639, wd_640, wd_641, wd_70, ⟨by decide +kernel, by decide +kernel, by decide +kernel⟩, by decide⟩
theorem wd_643 : Cond.methodLink "CabbageCradles$Walk" 122 ⟨"CabbageCradles$Walk", "isStillWithout", "(II)Z"⟩ ∈ cb_ws := cb_wt (cb_t3 _ (List.mem_of_getElem? (i := 99) rfl)) rfl
theorem wd_645 : Cond.instanceMethod ⟨"CabbageCradles$Walk", "isStillWithout", "(II)Z"⟩ ∈ cb_ws := cb_wt (cb_t3 _ (List.mem_of_getElem? (i := 101) rfl)) rfl
theorem wd_16 : Cond.selects "CabbageCradles$Walk" ⟨"CabbageCradles$Walk", "isStillWithout", "(II)Z"⟩ ⟨"CabbageCradles$Walk", "isStillWithout", "(II)Z"⟩ ∈ cb_ws := cb_wt (List.mem_of_getElem? (i := 16) (by rfl)) rfl
theorem cv_X5_122 : cb_CV RX5 122 yX5_isStillWithout cX5_isStillWithout 3 (some .boolean) 2 := ⟨wd_646, wd_643, wd_645, wd_16, wd_71, ⟨by decide +kernel, by decide +kernel, by decide +kernel⟩, by decide⟩
theorem wd_634 : Cond.code ⟨"CabbageCradles$Walk", "isOutOfTurn", "(LCabbageCradles$Field;I)Z"⟩ prog_7_method_10_code 5 (Option.some .boolean) ∈ cb_ws := cb_wt (cb_t3 _ (List.mem_of_getElem? (i := 90) rfl)) rfl
theorem wd_631 : Cond.methodLink "CabbageCradles$Walk" 112 ⟨"CabbageCradles$Walk", "isOutOfTurn", "(LCabbageCradles$Field;I)Z"⟩ ∈ cb_ws := cb_wt (cb_t3 _ (List.mem_of_getElem? (i := 87) rfl)) rfl
theorem wd_633 : Cond.instanceMethod ⟨"CabbageCradles$Walk", "isOutOfTurn", "(LCabbageCradles$Field;I)Z"⟩ ∈ cb_ws := cb_wt (cb_t3 _ (List.mem_of_getElem? (i := 89) rfl)) rfl
theorem wd_15 : Cond.selects "CabbageCradles$Walk" ⟨"CabbageCradles$Walk", "isOutOfTurn", "(LCabbageCradles$Field;I)Z"⟩ ⟨"CabbageCradles$Walk", "isOutOfTurn", "(LCabbageCradles$Field;I)Z"⟩ ∈ cb_ws := cb_wt (List.mem_of_getElem? (i := 15) (by rfl)) rfl
theorem cv_X5_112 : cb_CV RX5 112 yX5_isOutOfTurn cX5_isOutOfTurn 5 (some .boolean) 2 := ⟨wd_634, wd_631, wd_633, wd_15, wd_71, ⟨by decide +kernel, by decide +kernel, by decide +kernel⟩, by decide⟩
theorem wd_630 : Cond.code ⟨"CabbageCradles$Walk", "firstOutOfTurn", "(LCabbageCradles$Field;)I"⟩ prog_7_method_9_code 4 (Option.some .int) ∈ cb_ws := cb_wt (cb_t3 _ (List.mem_of_getElem? (i := 86) rfl)) rfl
theorem wd_364 : Cond.fieldLink "java/lang/String" 38 "java/lang/String" "COMPACT_STRINGS" "Z" ∈ cb_ws := cb_wt (cb_t2 _ (List.mem_of_getElem? (i := 60) rfl)) rfl
theorem wd_1283 : Cond.fieldLink "java/lang/String" 15 "java/lang/String" "coder" "B" ∈ cb_ws := cb_wt (cb_t6 _ (List.mem_of_getElem? (i := 19) rfl)) rfl
theorem wd_363 : Cond.code ⟨"java/lang/String", "isLatin1", "()Z"⟩ prog_13_method_154_code 1 (Option.some .boolean) ∈ cb_ws := cb_wt (cb_t2 _ (List.mem_of_getElem? (i := 59) rfl)) rfl
theorem wd_373 : Cond.code ⟨"java/lang/String", "coder", "()B"⟩ prog_13_method_152_code 1 (Option.some .byte) ∈ cb_ws := cb_wt (cb_t2 _ (List.mem_of_getElem? (i := 69) rfl)) rfl
theorem wd_1284 : Cond.fieldLink "java/lang/String" 9 "java/lang/String" "value" "[B" ∈ cb_ws := cb_wt (cb_t6 _ (List.mem_of_getElem? (i := 20) rfl)) rfl
theorem wd_74 : Cond.initialized "java/lang/String" ∈ cb_ws := cb_wt (cb_t1 _ (List.mem_of_getElem? (i := 10) rfl)) rfl
theorem wd_370 : Cond.methodLink "java/lang/String" 335 ⟨"java/lang/String", "coder", "()B"⟩ ∈ cb_ws := cb_wt (cb_t2 _ (List.mem_of_getElem? (i := 66) rfl)) rfl
theorem wd_371 : Cond.instanceMethod ⟨"java/lang/String", "coder", "()B"⟩ ∈ cb_ws := cb_wt (cb_t2 _ (List.mem_of_getElem? (i := 67) rfl)) rfl
theorem wd_372 : Cond.selects "java/lang/String" ⟨"java/lang/String", "coder", "()B"⟩ ⟨"java/lang/String", "coder", "()B"⟩ ∈ cb_ws := cb_wt (cb_t2 _ (List.mem_of_getElem? (i := 68) rfl)) rfl
theorem cv_J0_335 : cb_CV RJ0 335 yJ0_coder_7d493 cJ0_coder_7d493 1 (some .byte) 0 := ⟨wd_373, wd_370, wd_371, wd_372, wd_74, ⟨by decide +kernel, by decide +kernel, by decide +kernel⟩, by decide⟩
theorem wd_369 : Cond.code ⟨"java/lang/String", "length", "()I"⟩ prog_13_method_54_code 1 (Option.some .int) ∈ cb_ws := cb_wt (cb_t2 _ (List.mem_of_getElem? (i := 65) rfl)) rfl
theorem wd_379 : Cond.code ⟨"java/lang/StringLatin1", "canEncode", "(I)Z"⟩ prog_14_method_4_code 1 (Option.some .boolean) ∈ cb_ws := cb_wt (cb_t2 _ (List.mem_of_getElem? (i := 75) rfl)) rfl
theorem wd_386 : Cond.code ⟨"java/lang/StringLatin1", "indexOfChar", "([BIII)I"⟩ prog_14_method_23_code 6 (Option.some .int) ∈ cb_ws := cb_wt (cb_t2 _ (List.mem_of_getElem? (i := 82) rfl)) rfl
theorem wd_75 : Cond.initialized "java/lang/StringLatin1" ∈ cb_ws := cb_wt (cb_t1 _ (List.mem_of_getElem? (i := 11) rfl)) rfl
theorem wd_377 : Cond.methodLink "java/lang/StringLatin1" 88 ⟨"java/lang/StringLatin1", "canEncode", "(I)Z"⟩ ∈ cb_ws := cb_wt (cb_t2 _ (List.mem_of_getElem? (i := 73) rfl)) rfl
theorem wd_378 : Cond.static ⟨"java/lang/StringLatin1", "canEncode", "(I)Z"⟩ ∈ cb_ws := cb_wt (cb_t2 _ (List.mem_of_getElem? (i := 74) rfl)) rfl
theorem cs_J1_88 : cb_CS RJ1 88 yJ1_canEncode_9a6ad cJ1_canEncode_9a6ad 1 (some .boolean) 1 := ⟨wd_379, wd_377, wd_378, wd_75, ⟨by decide +kernel, by decide +kernel, by decide +kernel⟩, by decide⟩
theorem wd_380 : Cond.methodLink "java/lang/StringLatin1" 92 ⟨"java/lang/Math", "max", "(II)I"⟩ ∈ cb_ws := cb_wt (cb_t2 _ (List.mem_of_getElem? (i := 76) rfl)) rfl
theorem wd_105 : Cond.static ⟨"java/lang/Math", "max", "(II)I"⟩ ∈ cb_ws := cb_wt (cb_t1 _ (List.mem_of_getElem? (i := 41) rfl)) rfl
theorem wd_106 : Cond.code ⟨"java/lang/Math", "max", "(II)I"⟩ prog_12_method_65_code 2 (Option.some .int) ∈ cb_ws := cb_wt (cb_t1 _ (List.mem_of_getElem? (i := 42) rfl)) rfl
theorem wd_381 : Cond.methodLink "java/lang/StringLatin1" 38 ⟨"java/lang/Math", "min", "(II)I"⟩ ∈ cb_ws := cb_wt (cb_t2 _ (List.mem_of_getElem? (i := 77) rfl)) rfl
theorem wd_384 : Cond.methodLink "java/lang/StringLatin1" 95 ⟨"java/lang/StringLatin1", "indexOfChar", "([BIII)I"⟩ ∈ cb_ws := cb_wt (cb_t2 _ (List.mem_of_getElem? (i := 80) rfl)) rfl
theorem wd_385 : Cond.static ⟨"java/lang/StringLatin1", "indexOfChar", "([BIII)I"⟩ ∈ cb_ws := cb_wt (cb_t2 _ (List.mem_of_getElem? (i := 81) rfl)) rfl
theorem cs_J1_95 : cb_CS RJ1 95 yJ1_indexOfChar_4cfef cJ1_indexOfChar_4cfef 6 (some .int) 4 := ⟨wd_386, wd_384, wd_385, wd_75, ⟨by decide +kernel, by decide +kernel, by decide +kernel⟩, by decide⟩
theorem wd_376 : Cond.code ⟨"java/lang/StringLatin1", "indexOf", "([BIII)I"⟩ prog_14_method_22_code 4 (Option.some .int) ∈ cb_ws := cb_wt (cb_t2 _ (List.mem_of_getElem? (i := 72) rfl)) rfl
theorem wd_360 : Cond.methodLink "java/lang/String" 492 ⟨"java/lang/String", "isLatin1", "()Z"⟩ ∈ cb_ws := cb_wt (cb_t2 _ (List.mem_of_getElem? (i := 56) rfl)) rfl
theorem wd_361 : Cond.instanceMethod ⟨"java/lang/String", "isLatin1", "()Z"⟩ ∈ cb_ws := cb_wt (cb_t2 _ (List.mem_of_getElem? (i := 57) rfl)) rfl
theorem wd_362 : Cond.selects "java/lang/String" ⟨"java/lang/String", "isLatin1", "()Z"⟩ ⟨"java/lang/String", "isLatin1", "()Z"⟩ ∈ cb_ws := cb_wt (cb_t2 _ (List.mem_of_getElem? (i := 58) rfl)) rfl
theorem cv_J0_492 : cb_CV RJ0 492 yJ0_isLatin1_aae02 cJ0_isLatin1_aae02 1 (some .boolean) 0 := ⟨wd_363, wd_360, wd_361, wd_362, wd_74, ⟨by decide +kernel, by decide +kernel, by decide +kernel⟩, by decide⟩
theorem wd_366 : Cond.methodLink "java/lang/String" 505 ⟨"java/lang/String", "length", "()I"⟩ ∈ cb_ws := cb_wt (cb_t2 _ (List.mem_of_getElem? (i := 62) rfl)) rfl
theorem wd_367 : Cond.instanceMethod ⟨"java/lang/String", "length", "()I"⟩ ∈ cb_ws := cb_wt (cb_t2 _ (List.mem_of_getElem? (i := 63) rfl)) rfl
theorem wd_368 : Cond.selects "java/lang/String" ⟨"java/lang/String", "length", "()I"⟩ ⟨"java/lang/String", "length", "()I"⟩ ∈ cb_ws := cb_wt (cb_t2 _ (List.mem_of_getElem? (i := 64) rfl)) rfl
theorem cv_J0_505 : cb_CV RJ0 505 yJ0_length_8abf5 cJ0_length_8abf5 1 (some .int) 0 := ⟨wd_369, wd_366, wd_367, wd_368, wd_74, ⟨by decide +kernel, by decide +kernel, by decide +kernel⟩, by decide⟩
theorem wd_374 : Cond.methodLink "java/lang/String" 637 ⟨"java/lang/StringLatin1", "indexOf", "([BIII)I"⟩ ∈ cb_ws := cb_wt (cb_t2 _ (List.mem_of_getElem? (i := 70) rfl)) rfl
theorem wd_375 : Cond.static ⟨"java/lang/StringLatin1", "indexOf", "([BIII)I"⟩ ∈ cb_ws := cb_wt (cb_t2 _ (List.mem_of_getElem? (i := 71) rfl)) rfl
theorem cs_J0_637 : cb_CS RJ0 637 yJ1_indexOf_4cfef cJ1_indexOf_4cfef 4 (some .int) 4 := ⟨wd_376, wd_374, wd_375, wd_75, ⟨by decide +kernel, by decide +kernel, by decide +kernel⟩, by decide⟩
theorem wd_359 : Cond.code ⟨"java/lang/String", "indexOf", "(II)I"⟩ prog_13_method_80_code 3 (Option.some .int) ∈ cb_ws := cb_wt (cb_t2 _ (List.mem_of_getElem? (i := 55) rfl)) rfl
theorem wd_356 : Cond.methodLink "java/lang/String" 633 ⟨"java/lang/String", "indexOf", "(II)I"⟩ ∈ cb_ws := cb_wt (cb_t2 _ (List.mem_of_getElem? (i := 52) rfl)) rfl
theorem wd_357 : Cond.instanceMethod ⟨"java/lang/String", "indexOf", "(II)I"⟩ ∈ cb_ws := cb_wt (cb_t2 _ (List.mem_of_getElem? (i := 53) rfl)) rfl
theorem wd_358 : Cond.selects "java/lang/String" ⟨"java/lang/String", "indexOf", "(II)I"⟩ ⟨"java/lang/String", "indexOf", "(II)I"⟩ ∈ cb_ws := cb_wt (cb_t2 _ (List.mem_of_getElem? (i := 54) rfl)) rfl
theorem cv_J0_633 : cb_CV RJ0 633 yJ0_indexOf_7cf53 cJ0_indexOf_7cf53 3 (some .int) 2 := ⟨wd_359, wd_356, wd_357, wd_358, wd_74, ⟨by decide +kernel, by decide +kernel, by decide +kernel⟩, by decide⟩
theorem wd_355 : Cond.code ⟨"java/lang/String", "indexOf", "(I)I"⟩ prog_13_method_79_code 2 (Option.some .int) ∈ cb_ws := cb_wt (cb_t2 _ (List.mem_of_getElem? (i := 51) rfl)) rfl
theorem wd_122 : Cond.fieldLink "CabbageCradles$Text" 32 "CabbageCradles$Text" "figures" "I" ∈ cb_ws := cb_wt (cb_t1 _ (List.mem_of_getElem? (i := 58) rfl)) rfl
theorem fa_X4_32 : cb_FA RX4 32 4 2 := ⟨RX4, TX4, 8, rfl, by decide, wi_X4, wd_122⟩
theorem wd_121 : Cond.fieldLink "CabbageCradles$Text" 28 "CabbageCradles$Text" "letters" "Ljava/lang/String;" ∈ cb_ws := cb_wt (cb_t1 _ (List.mem_of_getElem? (i := 57) rfl)) rfl
theorem fa_X4_28 : cb_FA RX4 28 4 1 := ⟨RX4, TX4, 8, rfl, by decide, wi_X4, wd_121⟩
theorem wd_352 : Cond.methodLink "CabbageCradles$Text" 67 ⟨"java/lang/String", "indexOf", "(I)I"⟩ ∈ cb_ws := cb_wt (cb_t2 _ (List.mem_of_getElem? (i := 48) rfl)) rfl
theorem wd_353 : Cond.instanceMethod ⟨"java/lang/String", "indexOf", "(I)I"⟩ ∈ cb_ws := cb_wt (cb_t2 _ (List.mem_of_getElem? (i := 49) rfl)) rfl
theorem wd_354 : Cond.selects "java/lang/String" ⟨"java/lang/String", "indexOf", "(I)I"⟩ ⟨"java/lang/String", "indexOf", "(I)I"⟩ ∈ cb_ws := cb_wt (cb_t2 _ (List.mem_of_getElem? (i := 50) rfl)) rfl
theorem cv_X4_67 : cb_CV RX4 67 yJ0_indexOf_0f7a4 cJ0_indexOf_0f7a4 2 (some .int) 1 := ⟨wd_355, wd_352, wd_353, wd_354, wd_74, ⟨by decide +kernel, by decide +kernel, by decide +kernel⟩, by decide⟩
theorem wd_351 : Cond.code ⟨"CabbageCradles$Text", "fits", "(II)Z"⟩ prog_6_method_7_code 3 (Option.some .boolean) ∈ cb_ws := cb_wt (cb_t2 _ (List.mem_of_getElem? (i := 47) rfl)) rfl
theorem wd_119 : Cond.fieldLink "CabbageCradles$Text" 40 "CabbageCradles$Text" "bytes" "LCabbageCradles$Row;" ∈ cb_ws := cb_wt (cb_t1 _ (List.mem_of_getElem? (i := 55) rfl)) rfl
theorem fa_X4_40 : cb_FA RX4 40 4 0 := ⟨RX4, TX4, 8, rfl, by decide, wi_X4, wd_119⟩
theorem wd_344 : Cond.methodLink "CabbageCradles$Text" 64 ⟨"CabbageCradles$Row", "at", "(I)I"⟩ ∈ cb_ws := cb_wt (cb_t2 _ (List.mem_of_getElem? (i := 40) rfl)) rfl
theorem cv_X4_64 : cb_CV RX4 64 yX2_at cX2_at 2 (some .int) 1 := ⟨wd_347, wd_344, wd_345, wd_346, wd_67, ⟨by decide +kernel, by decide +kernel, by decide +kernel⟩, by decide⟩
theorem wd_439 : Cond.code ⟨"CabbageCradles$Text", "figureAt", "(I)I"⟩ prog_6_method_8_code 2 (Option.some .int) ∈ cb_ws := cb_wt (cb_t2 _ (List.mem_of_getElem? (i := 135) rfl)) rfl
theorem wd_110 : Cond.fieldLink "CabbageCradles$Text" 61 "CabbageCradles$Row" "size" "I" ∈ cb_ws := cb_wt (cb_t1 _ (List.mem_of_getElem? (i := 46) rfl)) rfl
theorem fa_X4_61 : cb_FA RX4 61 2 1 := ⟨RX2, TX2, 2, rfl, by decide, wi_X2, wd_110⟩
theorem wd_66 : Cond.initialized "CabbageCradles$Text" ∈ cb_ws := cb_wt (cb_t1 _ (List.mem_of_getElem? (i := 2) rfl)) rfl
theorem wd_348 : Cond.methodLink "CabbageCradles$Text" 75 ⟨"CabbageCradles$Text", "fits", "(II)Z"⟩ ∈ cb_ws := cb_wt (cb_t2 _ (List.mem_of_getElem? (i := 44) rfl)) rfl
theorem wd_350 : Cond.instanceMethod ⟨"CabbageCradles$Text", "fits", "(II)Z"⟩ ∈ cb_ws := cb_wt (cb_t2 _ (List.mem_of_getElem? (i := 46) rfl)) rfl
theorem wd_2 : Cond.selects "CabbageCradles$Text" ⟨"CabbageCradles$Text", "fits", "(II)Z"⟩ ⟨"CabbageCradles$Text", "fits", "(II)Z"⟩ ∈ cb_ws := cb_wt (List.mem_of_getElem? (i := 2) (by rfl)) rfl
theorem cv_X4_75 : cb_CV RX4 75 yX4_fits cX4_fits 3 (some .boolean) 2 := ⟨wd_351, wd_348, wd_350, wd_2, wd_66, ⟨by decide +kernel, by decide +kernel, by decide +kernel⟩, by decide⟩
theorem wd_343 : Cond.code ⟨"CabbageCradles$Text", "firstFault", "()I"⟩ prog_6_method_6_code 3 (Option.some .int) ∈ cb_ws := cb_wt (cb_t2 _ (List.mem_of_getElem? (i := 39) rfl)) rfl
theorem wd_340 : Cond.methodLink "CabbageCradles$Text" 58 ⟨"CabbageCradles$Text", "firstFault", "()I"⟩ ∈ cb_ws := cb_wt (cb_t2 _ (List.mem_of_getElem? (i := 36) rfl)) rfl
theorem wd_342 : Cond.instanceMethod ⟨"CabbageCradles$Text", "firstFault", "()I"⟩ ∈ cb_ws := cb_wt (cb_t2 _ (List.mem_of_getElem? (i := 38) rfl)) rfl
theorem wd_1 : Cond.selects "CabbageCradles$Text" ⟨"CabbageCradles$Text", "firstFault", "()I"⟩ ⟨"CabbageCradles$Text", "firstFault", "()I"⟩ ∈ cb_ws := cb_wt (List.mem_of_getElem? (i := 1) (by rfl)) rfl
theorem cv_X4_58 : cb_CV RX4 58 yX4_firstFault cX4_firstFault 3 (some .int) 0 := ⟨wd_343, wd_340, wd_342, wd_1, wd_66, ⟨by decide +kernel, by decide +kernel, by decide +kernel⟩, by decide⟩
theorem wd_135 : Cond.fieldLink "CabbageCradles$Text" 25 "CabbageCradles$Text" "fault" "I" ∈ cb_ws := cb_wt (cb_t1 _ (List.mem_of_getElem? (i := 71) rfl)) rfl
theorem fp_X4_25 : cb_FP RX4 25 4 7 := ⟨RX4, TX4, 8, tyX4, rfl, by decide, wi_X4, wd_135, tyX4_ok, nmX4, rfl, by decide +kernel⟩
theorem wd_132 : Cond.fieldLink "CabbageCradles$Text" 21 "CabbageCradles$Text" "parts" "I" ∈ cb_ws := cb_wt (cb_t1 _ (List.mem_of_getElem? (i := 68) rfl)) rfl
theorem fp_X4_21 : cb_FP RX4 21 4 6 := ⟨RX4, TX4, 8, tyX4, rfl, by decide, wi_X4, wd_132, tyX4_ok, nmX4, rfl, by decide +kernel⟩
theorem fa_X4_25 : cb_FA RX4 25 4 7 := ⟨RX4, TX4, 8, rfl, by decide, wi_X4, wd_135⟩
theorem fa_X4_21 : cb_FA RX4 21 4 6 := ⟨RX4, TX4, 8, rfl, by decide, wi_X4, wd_132⟩
theorem wd_123 : Cond.fieldLink "CabbageCradles$Text" 9 "CabbageCradles$Text" "kinds" "[I" ∈ cb_ws := cb_wt (cb_t1 _ (List.mem_of_getElem? (i := 59) rfl)) rfl
theorem fa_X4_9 : cb_FA RX4 9 4 3 := ⟨RX4, TX4, 8, rfl, by decide, wi_X4, wd_123⟩
theorem wd_126 : Cond.fieldLink "CabbageCradles$Text" 15 "CabbageCradles$Text" "days" "[I" ∈ cb_ws := cb_wt (cb_t1 _ (List.mem_of_getElem? (i := 62) rfl)) rfl
theorem fa_X4_15 : cb_FA RX4 15 4 4 := ⟨RX4, TX4, 8, rfl, by decide, wi_X4, wd_126⟩
theorem wd_436 : Cond.methodLink "CabbageCradles$Text" 72 ⟨"CabbageCradles$Text", "figureAt", "(I)I"⟩ ∈ cb_ws := cb_wt (cb_t2 _ (List.mem_of_getElem? (i := 132) rfl)) rfl
theorem wd_438 : Cond.instanceMethod ⟨"CabbageCradles$Text", "figureAt", "(I)I"⟩ ∈ cb_ws := cb_wt (cb_t2 _ (List.mem_of_getElem? (i := 134) rfl)) rfl
theorem wd_3 : Cond.selects "CabbageCradles$Text" ⟨"CabbageCradles$Text", "figureAt", "(I)I"⟩ ⟨"CabbageCradles$Text", "figureAt", "(I)I"⟩ ∈ cb_ws := cb_wt (List.mem_of_getElem? (i := 3) (by rfl)) rfl
theorem cv_X4_72 : cb_CV RX4 72 yX4_figureAt cX4_figureAt 2 (some .int) 1 := ⟨wd_439, wd_436, wd_438, wd_3, wd_66, ⟨by decide +kernel, by decide +kernel, by decide +kernel⟩, by decide⟩
theorem wd_129 : Cond.fieldLink "CabbageCradles$Text" 18 "CabbageCradles$Text" "lengths" "[I" ∈ cb_ws := cb_wt (cb_t1 _ (List.mem_of_getElem? (i := 65) rfl)) rfl
theorem fa_X4_18 : cb_FA RX4 18 4 5 := ⟨RX4, TX4, 8, rfl, by decide, wi_X4, wd_129⟩
theorem wd_339 : Cond.code ⟨"CabbageCradles$Text", "parse", "()V"⟩ prog_6_method_5_code 3 (Option.none) ∈ cb_ws := cb_wt (cb_t2 _ (List.mem_of_getElem? (i := 35) rfl)) rfl
theorem wd_332 : Cond.methodLink "CabbageCradles$Text" 44 ⟨"CabbageCradles$Row", "add", "(I)I"⟩ ∈ cb_ws := cb_wt (cb_t2 _ (List.mem_of_getElem? (i := 28) rfl)) rfl
theorem wd_333 : Cond.instanceMethod ⟨"CabbageCradles$Row", "add", "(I)I"⟩ ∈ cb_ws := cb_wt (cb_t2 _ (List.mem_of_getElem? (i := 29) rfl)) rfl
theorem wd_334 : Cond.selects "CabbageCradles$Row" ⟨"CabbageCradles$Row", "add", "(I)I"⟩ ⟨"CabbageCradles$Row", "add", "(I)I"⟩ ∈ cb_ws := cb_wt (cb_t2 _ (List.mem_of_getElem? (i := 30) rfl)) rfl
theorem cv_X4_44 : cb_CV RX4 44 yX2_add cX2_add 2 (some .int) 1 := ⟨wd_335, wd_332, wd_333, wd_334, wd_67, ⟨by decide +kernel, by decide +kernel, by decide +kernel⟩, by decide⟩
theorem wd_336 : Cond.methodLink "CabbageCradles$Text" 48 ⟨"CabbageCradles$Text", "parse", "()V"⟩ ∈ cb_ws := cb_wt (cb_t2 _ (List.mem_of_getElem? (i := 32) rfl)) rfl
theorem wd_338 : Cond.instanceMethod ⟨"CabbageCradles$Text", "parse", "()V"⟩ ∈ cb_ws := cb_wt (cb_t2 _ (List.mem_of_getElem? (i := 34) rfl)) rfl
theorem wd_0 : Cond.selects "CabbageCradles$Text" ⟨"CabbageCradles$Text", "parse", "()V"⟩ ⟨"CabbageCradles$Text", "parse", "()V"⟩ ∈ cb_ws := cb_wt (List.mem_of_getElem? (i := 0) (by rfl)) rfl
theorem cv_X4_48 : cb_CV RX4 48 yX4_parse cX4_parse 3 none 0 := ⟨wd_339, wd_336, wd_338, wd_0, wd_66, ⟨by decide +kernel, by decide +kernel, by decide +kernel⟩, by decide⟩
theorem wd_331 : Cond.code ⟨"CabbageCradles$Text", "append", "(I)I"⟩ prog_6_method_2_code 3 (Option.some .int) ∈ cb_ws := cb_wt (cb_t2 _ (List.mem_of_getElem? (i := 27) rfl)) rfl
theorem wd_460 : Cond.methodLink "CabbageCradles$Text" 51 ⟨"CabbageCradles$Row", "dropLast", "()I"⟩ ∈ cb_ws := cb_wt (cb_t2 _ (List.mem_of_getElem? (i := 156) rfl)) rfl
theorem wd_461 : Cond.instanceMethod ⟨"CabbageCradles$Row", "dropLast", "()I"⟩ ∈ cb_ws := cb_wt (cb_t2 _ (List.mem_of_getElem? (i := 157) rfl)) rfl
theorem wd_462 : Cond.selects "CabbageCradles$Row" ⟨"CabbageCradles$Row", "dropLast", "()I"⟩ ⟨"CabbageCradles$Row", "dropLast", "()I"⟩ ∈ cb_ws := cb_wt (cb_t2 _ (List.mem_of_getElem? (i := 158) rfl)) rfl
theorem cv_X4_51 : cb_CV RX4 51 yX2_dropLast cX2_dropLast 1 (some .int) 0 := ⟨wd_463, wd_460, wd_461, wd_462, wd_67, ⟨by decide +kernel, by decide +kernel, by decide +kernel⟩, by decide⟩
theorem wd_459 : Cond.code ⟨"CabbageCradles$Text", "dropLast", "()I"⟩ prog_6_method_3_code 2 (Option.some .int) ∈ cb_ws := cb_wt (cb_t2 _ (List.mem_of_getElem? (i := 155) rfl)) rfl
theorem wd_448 : Cond.methodLink "CabbageCradles$Text" 55 ⟨"CabbageCradles$Row", "clear", "()I"⟩ ∈ cb_ws := cb_wt (cb_t2 _ (List.mem_of_getElem? (i := 144) rfl)) rfl
theorem wd_449 : Cond.instanceMethod ⟨"CabbageCradles$Row", "clear", "()I"⟩ ∈ cb_ws := cb_wt (cb_t2 _ (List.mem_of_getElem? (i := 145) rfl)) rfl
theorem wd_450 : Cond.selects "CabbageCradles$Row" ⟨"CabbageCradles$Row", "clear", "()I"⟩ ⟨"CabbageCradles$Row", "clear", "()I"⟩ ∈ cb_ws := cb_wt (cb_t2 _ (List.mem_of_getElem? (i := 146) rfl)) rfl
theorem cv_X4_55 : cb_CV RX4 55 yX2_clear cX2_clear 2 (some .int) 0 := ⟨wd_451, wd_448, wd_449, wd_450, wd_67, ⟨by decide +kernel, by decide +kernel, by decide +kernel⟩, by decide⟩
theorem wd_447 : Cond.code ⟨"CabbageCradles$Text", "empty", "()I"⟩ prog_6_method_4_code 2 (Option.some .int) ∈ cb_ws := cb_wt (cb_t2 _ (List.mem_of_getElem? (i := 143) rfl)) rfl
theorem wd_283 : Cond.fieldLink "CabbageCradles" 16 "CabbageCradles" "texts" "[LCabbageCradles$Text;" ∈ cb_ws := cb_wt (cb_t1 _ (List.mem_of_getElem? (i := 219) rfl)) rfl
theorem wi_X6 : ∀ x ∈ u_ws RX6 TX6 11, x ∈ cb_ws := fun x h => List.mem_filter.mpr ⟨(show ∀ x ∈ u_ws RX6 TX6 11, x ∈ lw_tbl by decide +kernel) x h, (show ∀ x ∈ u_ws RX6 TX6 11, goodWord x = true by decide +kernel) x h⟩
theorem fa_X6_16 : cb_FA RX6 16 6 0 := ⟨RX6, TX6, 11, rfl, by decide, wi_X6, wd_283⟩
theorem wd_134 : Cond.fieldLink "CabbageCradles" 280 "CabbageCradles$Text" "parts" "I" ∈ cb_ws := cb_wt (cb_t1 _ (List.mem_of_getElem? (i := 70) rfl)) rfl
theorem fa_X6_280 : cb_FA RX6 280 4 6 := ⟨RX4, TX4, 8, rfl, by decide, wi_X4, wd_134⟩
theorem wd_321 : Cond.methodLink "CabbageCradles" 77 ⟨"CabbageCradles", "isOff", "(II)Z"⟩ ∈ cb_ws := cb_wt (cb_t2 _ (List.mem_of_getElem? (i := 17) rfl)) rfl
theorem cs_X6_77 : cb_CS RX6 77 yX6_isOff cX6_isOff 2 (some .boolean) 2 := ⟨wd_323, wd_321, wd_322, wd_65, ⟨by decide +kernel, by decide +kernel, by decide +kernel⟩, by decide⟩
theorem wd_475 : Cond.code ⟨"CabbageCradles", "isNoHead", "(I)Z"⟩ prog_1_method_40_code 2 (Option.some .boolean) ∈ cb_ws := cb_wt (cb_t2 _ (List.mem_of_getElem? (i := 171) rfl)) rfl
theorem wd_483 : Cond.code ⟨"CabbageCradles", "isNoCouple", "(I)Z"⟩ prog_1_method_41_code 2 (Option.some .boolean) ∈ cb_ws := cb_wt (cb_t2 _ (List.mem_of_getElem? (i := 179) rfl)) rfl
theorem wd_735 : Cond.constantLong "CabbageCradles" 354 (-9223372036854775808) ∈ cb_ws := cb_wt (cb_t3 _ (List.mem_of_getElem? (i := 191) rfl)) rfl
theorem wd_734 : Cond.code ⟨"CabbageCradles", "asLong", "(I)J"⟩ prog_1_method_42_code 1 (Option.some .long) ∈ cb_ws := cb_wt (cb_t3 _ (List.mem_of_getElem? (i := 190) rfl)) rfl
theorem wd_293 : Cond.fieldLink "CabbageCradles" 73 "CabbageCradles" "finding" "I" ∈ cb_ws := cb_wt (cb_t1 _ (List.mem_of_getElem? (i := 229) rfl)) rfl
theorem fp_X6_73 : cb_FP RX6 73 6 10 := ⟨RX6, TX6, 11, tyX6, rfl, by decide, wi_X6, wd_293, tyX6_ok, nmX6, rfl, by decide +kernel⟩
theorem wd_509 : Cond.code ⟨"CabbageCradles", "found", "(I)I"⟩ prog_1_method_43_code 2 (Option.some .int) ∈ cb_ws := cb_wt (cb_t2 _ (List.mem_of_getElem? (i := 205) rfl)) rfl
theorem wd_69 : Cond.initialized "CabbageCradles$Sheet" ∈ cb_ws := cb_wt (cb_t1 _ (List.mem_of_getElem? (i := 5) rfl)) rfl
theorem wd_502 : Cond.methodLink "CabbageCradles" 119 ⟨"CabbageCradles$Sheet", "isLost", "()Z"⟩ ∈ cb_ws := cb_wt (cb_t2 _ (List.mem_of_getElem? (i := 198) rfl)) rfl
theorem wd_503 : Cond.instanceMethod ⟨"CabbageCradles$Sheet", "isLost", "()Z"⟩ ∈ cb_ws := cb_wt (cb_t2 _ (List.mem_of_getElem? (i := 199) rfl)) rfl
theorem wd_504 : Cond.selects "CabbageCradles$Sheet" ⟨"CabbageCradles$Sheet", "isLost", "()Z"⟩ ⟨"CabbageCradles$Sheet", "isLost", "()Z"⟩ ∈ cb_ws := cb_wt (cb_t2 _ (List.mem_of_getElem? (i := 200) rfl)) rfl
theorem cv_X6_119 : cb_CV RX6 119 yX3_isLost cX3_isLost 1 (some .boolean) 0 := ⟨wd_505, wd_502, wd_503, wd_504, wd_69, ⟨by decide +kernel, by decide +kernel, by decide +kernel⟩, by decide⟩
theorem wd_167 : Cond.fieldLink "CabbageCradles" 265 "CabbageCradles$Sheet" "form" "I" ∈ cb_ws := cb_wt (cb_t1 _ (List.mem_of_getElem? (i := 103) rfl)) rfl
theorem fa_X6_265 : cb_FA RX6 265 3 1 := ⟨RX3, TX3, 3, rfl, by decide, wi_X3, wd_167⟩
theorem wd_169 : Cond.fieldLink "CabbageCradles" 126 "CabbageCradles$Sheet" "size" "I" ∈ cb_ws := cb_wt (cb_t1 _ (List.mem_of_getElem? (i := 105) rfl)) rfl
theorem fa_X6_126 : cb_FA RX6 126 3 2 := ⟨RX3, TX3, 3, rfl, by decide, wi_X3, wd_169⟩
theorem wd_777 : Cond.code ⟨"CabbageCradles", "whatIsWrong", "(LCabbageCradles$Sheet;II)I"⟩ prog_1_method_44_code 3 (Option.some .int) ∈ cb_ws := cb_wt (cb_t3 _ (List.mem_of_getElem? (i := 233) rfl)) rfl
theorem wd_289 : Cond.fieldLink "CabbageCradles" 50 "CabbageCradles" "field" "LCabbageCradles$Field;" ∈ cb_ws := cb_wt (cb_t1 _ (List.mem_of_getElem? (i := 225) rfl)) rfl
theorem fa_X6_50 : cb_FA RX6 50 6 6 := ⟨RX6, TX6, 11, rfl, by decide, wi_X6, wd_289⟩
theorem wd_528 : Cond.methodLink "CabbageCradles" 356 ⟨"CabbageCradles$Field", "plant", "(LCabbageCradles$Text;)V"⟩ ∈ cb_ws := cb_wt (cb_t2 _ (List.mem_of_getElem? (i := 224) rfl)) rfl
theorem wd_529 : Cond.instanceMethod ⟨"CabbageCradles$Field", "plant", "(LCabbageCradles$Text;)V"⟩ ∈ cb_ws := cb_wt (cb_t2 _ (List.mem_of_getElem? (i := 225) rfl)) rfl
theorem wd_530 : Cond.selects "CabbageCradles$Field" ⟨"CabbageCradles$Field", "plant", "(LCabbageCradles$Text;)V"⟩ ⟨"CabbageCradles$Field", "plant", "(LCabbageCradles$Text;)V"⟩ ∈ cb_ws := cb_wt (cb_t2 _ (List.mem_of_getElem? (i := 226) rfl)) rfl
theorem cv_X6_356 : cb_CV RX6 356 yX1_plant cX1_plant 2 none 1 := ⟨wd_531, wd_528, wd_529, wd_530, wd_70, ⟨by decide +kernel, by decide +kernel, by decide +kernel⟩, by decide⟩
theorem wd_535 : Cond.methodLink "CabbageCradles" 360 ⟨"CabbageCradles$Field", "invite", "(LCabbageCradles$Text;)V"⟩ ∈ cb_ws := cb_wt (cb_t2 _ (List.mem_of_getElem? (i := 231) rfl)) rfl
theorem wd_536 : Cond.instanceMethod ⟨"CabbageCradles$Field", "invite", "(LCabbageCradles$Text;)V"⟩ ∈ cb_ws := cb_wt (cb_t2 _ (List.mem_of_getElem? (i := 232) rfl)) rfl
theorem wd_537 : Cond.selects "CabbageCradles$Field" ⟨"CabbageCradles$Field", "invite", "(LCabbageCradles$Text;)V"⟩ ⟨"CabbageCradles$Field", "invite", "(LCabbageCradles$Text;)V"⟩ ∈ cb_ws := cb_wt (cb_t2 _ (List.mem_of_getElem? (i := 233) rfl)) rfl
theorem cv_X6_360 : cb_CV RX6 360 yX1_invite cX1_invite 2 none 1 := ⟨wd_538, wd_535, wd_536, wd_537, wd_70, ⟨by decide +kernel, by decide +kernel, by decide +kernel⟩, by decide⟩
theorem wd_284 : Cond.fieldLink "CabbageCradles" 27 "CabbageCradles" "frosts" "LCabbageCradles$Row;" ∈ cb_ws := cb_wt (cb_t1 _ (List.mem_of_getElem? (i := 220) rfl)) rfl
theorem fa_X6_27 : cb_FA RX6 27 6 1 := ⟨RX6, TX6, 11, rfl, by decide, wi_X6, wd_284⟩
theorem wd_539 : Cond.methodLink "CabbageCradles" 363 ⟨"CabbageCradles$Field", "freeze", "(LCabbageCradles$Row;)V"⟩ ∈ cb_ws := cb_wt (cb_t2 _ (List.mem_of_getElem? (i := 235) rfl)) rfl
theorem wd_540 : Cond.instanceMethod ⟨"CabbageCradles$Field", "freeze", "(LCabbageCradles$Row;)V"⟩ ∈ cb_ws := cb_wt (cb_t2 _ (List.mem_of_getElem? (i := 236) rfl)) rfl
theorem wd_541 : Cond.selects "CabbageCradles$Field" ⟨"CabbageCradles$Field", "freeze", "(LCabbageCradles$Row;)V"⟩ ⟨"CabbageCradles$Field", "freeze", "(LCabbageCradles$Row;)V"⟩ ∈ cb_ws := cb_wt (cb_t2 _ (List.mem_of_getElem? (i := 237) rfl)) rfl
theorem cv_X6_363 : cb_CV RX6 363 yX1_freeze cX1_freeze 3 none 1 := ⟨wd_542, wd_539, wd_540, wd_541, wd_70, ⟨by decide +kernel, by decide +kernel, by decide +kernel⟩, by decide⟩
theorem wd_286 : Cond.fieldLink "CabbageCradles" 34 "CabbageCradles" "rabbits" "LCabbageCradles$Row;" ∈ cb_ws := cb_wt (cb_t1 _ (List.mem_of_getElem? (i := 222) rfl)) rfl
theorem fa_X6_34 : cb_FA RX6 34 6 3 := ⟨RX6, TX6, 11, rfl, by decide, wi_X6, wd_286⟩
theorem wd_544 : Cond.methodLink "CabbageCradles" 210 ⟨"CabbageCradles$Field", "letRabbitsIn", "(LCabbageCradles$Row;I)V"⟩ ∈ cb_ws := cb_wt (cb_t3 _ (List.mem_of_getElem? (i := 0) rfl)) rfl
theorem wd_545 : Cond.instanceMethod ⟨"CabbageCradles$Field", "letRabbitsIn", "(LCabbageCradles$Row;I)V"⟩ ∈ cb_ws := cb_wt (cb_t3 _ (List.mem_of_getElem? (i := 1) rfl)) rfl
theorem wd_546 : Cond.selects "CabbageCradles$Field" ⟨"CabbageCradles$Field", "letRabbitsIn", "(LCabbageCradles$Row;I)V"⟩ ⟨"CabbageCradles$Field", "letRabbitsIn", "(LCabbageCradles$Row;I)V"⟩ ∈ cb_ws := cb_wt (cb_t3 _ (List.mem_of_getElem? (i := 2) rfl)) rfl
theorem cv_X6_210 : cb_CV RX6 210 yX1_letRabbitsIn cX1_letRabbitsIn 5 none 2 := ⟨wd_547, wd_544, wd_545, wd_546, wd_70, ⟨by decide +kernel, by decide +kernel, by decide +kernel⟩, by decide⟩
theorem wd_527 : Cond.code ⟨"CabbageCradles", "layOut", "()V"⟩ prog_1_method_46_code 1 (Option.none) ∈ cb_ws := cb_wt (cb_t2 _ (List.mem_of_getElem? (i := 223) rfl)) rfl
theorem wd_524 : Cond.methodLink "CabbageCradles" 184 ⟨"CabbageCradles", "layOut", "()V"⟩ ∈ cb_ws := cb_wt (cb_t2 _ (List.mem_of_getElem? (i := 220) rfl)) rfl
theorem wd_526 : Cond.instanceMethod ⟨"CabbageCradles", "layOut", "()V"⟩ ∈ cb_ws := cb_wt (cb_t2 _ (List.mem_of_getElem? (i := 222) rfl)) rfl
theorem wd_8 : Cond.selects "CabbageCradles" ⟨"CabbageCradles", "layOut", "()V"⟩ ⟨"CabbageCradles", "layOut", "()V"⟩ ∈ cb_ws := cb_wt (List.mem_of_getElem? (i := 8) (by rfl)) rfl
theorem cv_X6_184 : cb_CV RX6 184 yX6_layOut cX6_layOut 1 none 0 := ⟨wd_527, wd_524, wd_526, wd_8, wd_65, ⟨by decide +kernel, by decide +kernel, by decide +kernel⟩, by decide⟩
theorem wd_290 : Cond.fieldLink "CabbageCradles" 57 "CabbageCradles" "walk" "LCabbageCradles$Walk;" ∈ cb_ws := cb_wt (cb_t1 _ (List.mem_of_getElem? (i := 226) rfl)) rfl
theorem fa_X6_57 : cb_FA RX6 57 6 7 := ⟨RX6, TX6, 11, rfl, by decide, wi_X6, wd_290⟩
theorem wd_553 : Cond.methodLink "CabbageCradles" 196 ⟨"CabbageCradles$Walk", "go", "(LCabbageCradles$Field;)V"⟩ ∈ cb_ws := cb_wt (cb_t3 _ (List.mem_of_getElem? (i := 9) rfl)) rfl
theorem wd_554 : Cond.instanceMethod ⟨"CabbageCradles$Walk", "go", "(LCabbageCradles$Field;)V"⟩ ∈ cb_ws := cb_wt (cb_t3 _ (List.mem_of_getElem? (i := 10) rfl)) rfl
theorem wd_555 : Cond.selects "CabbageCradles$Walk" ⟨"CabbageCradles$Walk", "go", "(LCabbageCradles$Field;)V"⟩ ⟨"CabbageCradles$Walk", "go", "(LCabbageCradles$Field;)V"⟩ ∈ cb_ws := cb_wt (cb_t3 _ (List.mem_of_getElem? (i := 11) rfl)) rfl
theorem cv_X6_196 : cb_CV RX6 196 yX5_go cX5_go 3 none 1 := ⟨wd_556, wd_553, wd_554, wd_555, wd_71, ⟨by decide +kernel, by decide +kernel, by decide +kernel⟩, by decide⟩
theorem wd_523 : Cond.code ⟨"CabbageCradles", "walkAsItIs", "()V"⟩ prog_1_method_47_code 1 (Option.none) ∈ cb_ws := cb_wt (cb_t2 _ (List.mem_of_getElem? (i := 219) rfl)) rfl
theorem wd_236 : Cond.fieldLink "CabbageCradles" 149 "CabbageCradles$Walk" "dayGot" "[I" ∈ cb_ws := cb_wt (cb_t1 _ (List.mem_of_getElem? (i := 172) rfl)) rfl
theorem fa_X6_149 : cb_FA RX6 149 5 3 := ⟨RX5, TX5, 10, rfl, by decide, wi_X5, wd_236⟩
theorem wd_285 : Cond.fieldLink "CabbageCradles" 31 "CabbageCradles" "wets" "LCabbageCradles$Row;" ∈ cb_ws := cb_wt (cb_t1 _ (List.mem_of_getElem? (i := 221) rfl)) rfl
theorem fa_X6_31 : cb_FA RX6 31 6 2 := ⟨RX6, TX6, 11, rfl, by decide, wi_X6, wd_285⟩
theorem wd_111 : Cond.fieldLink "CabbageCradles" 209 "CabbageCradles$Row" "size" "I" ∈ cb_ws := cb_wt (cb_t1 _ (List.mem_of_getElem? (i := 47) rfl)) rfl
theorem fa_X6_209 : cb_FA RX6 209 2 1 := ⟨RX2, TX2, 2, rfl, by decide, wi_X2, wd_111⟩
theorem wd_610 : Cond.methodLink "CabbageCradles" 367 ⟨"CabbageCradles$Row", "at", "(I)I"⟩ ∈ cb_ws := cb_wt (cb_t3 _ (List.mem_of_getElem? (i := 66) rfl)) rfl
theorem cv_X6_367 : cb_CV RX6 367 yX2_at cX2_at 2 (some .int) 1 := ⟨wd_347, wd_610, wd_345, wd_346, wd_67, ⟨by decide +kernel, by decide +kernel, by decide +kernel⟩, by decide⟩
theorem wd_609 : Cond.code ⟨"CabbageCradles", "childrenOf", "(I)I"⟩ prog_1_method_48_code 4 (Option.some .int) ∈ cb_ws := cb_wt (cb_t3 _ (List.mem_of_getElem? (i := 65) rfl)) rfl
theorem wd_202 : Cond.fieldLink "CabbageCradles" 164 "CabbageCradles$Field" "couples" "I" ∈ cb_ws := cb_wt (cb_t1 _ (List.mem_of_getElem? (i := 138) rfl)) rfl
theorem fa_X6_164 : cb_FA RX6 164 1 7 := ⟨RX1, TX1, 9, rfl, by decide, wi_X1, wd_202⟩
theorem wd_606 : Cond.methodLink "CabbageCradles" 155 ⟨"CabbageCradles", "childrenOf", "(I)I"⟩ ∈ cb_ws := cb_wt (cb_t3 _ (List.mem_of_getElem? (i := 62) rfl)) rfl
theorem wd_608 : Cond.instanceMethod ⟨"CabbageCradles", "childrenOf", "(I)I"⟩ ∈ cb_ws := cb_wt (cb_t3 _ (List.mem_of_getElem? (i := 64) rfl)) rfl
theorem wd_13 : Cond.selects "CabbageCradles" ⟨"CabbageCradles", "childrenOf", "(I)I"⟩ ⟨"CabbageCradles", "childrenOf", "(I)I"⟩ ∈ cb_ws := cb_wt (List.mem_of_getElem? (i := 13) (by rfl)) rfl
theorem cv_X6_155 : cb_CV RX6 155 yX6_childrenOf cX6_childrenOf 4 (some .int) 1 := ⟨wd_609, wd_606, wd_608, wd_13, wd_65, ⟨by decide +kernel, by decide +kernel, by decide +kernel⟩, by decide⟩
theorem wd_618 : Cond.code ⟨"CabbageCradles", "childrenBehind", "(I)I"⟩ prog_1_method_49_code 4 (Option.some .int) ∈ cb_ws := cb_wt (cb_t3 _ (List.mem_of_getElem? (i := 74) rfl)) rfl
theorem wd_244 : Cond.fieldLink "CabbageCradles" 161 "CabbageCradles$Walk" "served" "I" ∈ cb_ws := cb_wt (cb_t1 _ (List.mem_of_getElem? (i := 180) rfl)) rfl
theorem fa_X6_161 : cb_FA RX6 161 5 9 := ⟨RX5, TX5, 10, rfl, by decide, wi_X5, wd_244⟩
theorem wd_81 : Cond.initialized "java/lang/Integer" ∈ cb_ws := cb_wt (cb_t1 _ (List.mem_of_getElem? (i := 17) rfl)) rfl
theorem wd_651 : Cond.methodLink "CabbageCradles" 171 ⟨"java/lang/Integer", "bitCount", "(I)I"⟩ ∈ cb_ws := cb_wt (cb_t3 _ (List.mem_of_getElem? (i := 107) rfl)) rfl
theorem wd_652 : Cond.static ⟨"java/lang/Integer", "bitCount", "(I)I"⟩ ∈ cb_ws := cb_wt (cb_t3 _ (List.mem_of_getElem? (i := 108) rfl)) rfl
theorem cs_X6_171 : cb_CS RX6 171 yJ6_bitCount_0f7a4 cJ6_bitCount_0f7a4 1 (some .int) 1 := ⟨wd_653, wd_651, wd_652, wd_81, ⟨by decide +kernel, by decide +kernel, by decide +kernel⟩, by decide⟩
theorem wd_680 : Cond.code ⟨"CabbageCradles", "numberWithout", "()I"⟩ prog_1_method_50_code 1 (Option.some .int) ∈ cb_ws := cb_wt (cb_t3 _ (List.mem_of_getElem? (i := 136) rfl)) rfl
theorem wd_238 : Cond.fieldLink "CabbageCradles" 370 "CabbageCradles$Walk" "goodFor" "[I" ∈ cb_ws := cb_wt (cb_t1 _ (List.mem_of_getElem? (i := 174) rfl)) rfl
theorem fa_X6_370 : cb_FA RX6 370 5 4 := ⟨RX5, TX5, 10, rfl, by decide, wi_X5, wd_238⟩
theorem wd_660 : Cond.code ⟨"CabbageCradles", "headsFor", "(I)I"⟩ prog_1_method_51_code 4 (Option.some .int) ∈ cb_ws := cb_wt (cb_t3 _ (List.mem_of_getElem? (i := 116) rfl)) rfl
theorem wd_670 : Cond.fieldLink "CabbageCradles" 373 "CabbageCradles" "KEPT_OFF" "[I" ∈ cb_ws := cb_wt (cb_t3 _ (List.mem_of_getElem? (i := 126) rfl)) rfl
theorem wd_669 : Cond.code ⟨"CabbageCradles", "fewestKeptOff", "(I)I"⟩ prog_1_method_52_code 6 (Option.some .int) ∈ cb_ws := cb_wt (cb_t3 _ (List.mem_of_getElem? (i := 125) rfl)) rfl
theorem wd_287 : Cond.fieldLink "CabbageCradles" 37 "CabbageCradles" "sights" "LCabbageCradles$Row;" ∈ cb_ws := cb_wt (cb_t1 _ (List.mem_of_getElem? (i := 223) rfl)) rfl
theorem fa_X6_37 : cb_FA RX6 37 6 4 := ⟨RX6, TX6, 11, rfl, by decide, wi_X6, wd_287⟩
theorem wd_234 : Cond.fieldLink "CabbageCradles" 152 "CabbageCradles$Walk" "headGot" "[I" ∈ cb_ws := cb_wt (cb_t1 _ (List.mem_of_getElem? (i := 170) rfl)) rfl
theorem fa_X6_152 : cb_FA RX6 152 5 2 := ⟨RX5, TX5, 10, rfl, by decide, wi_X5, wd_234⟩
theorem wd_701 : Cond.code ⟨"CabbageCradles", "isAsSeen", "()Z"⟩ prog_1_method_53_code 4 (Option.some .boolean) ∈ cb_ws := cb_wt (cb_t3 _ (List.mem_of_getElem? (i := 157) rfl)) rfl
theorem wd_185 : Cond.fieldLink "CabbageCradles" 376 "CabbageCradles$Field" "sorts" "[I" ∈ cb_ws := cb_wt (cb_t1 _ (List.mem_of_getElem? (i := 121) rfl)) rfl
theorem fa_X6_376 : cb_FA RX6 376 1 0 := ⟨RX1, TX1, 9, rfl, by decide, wi_X1, wd_185⟩
theorem wd_698 : Cond.methodLink "CabbageCradles" 214 ⟨"CabbageCradles", "isAsSeen", "()Z"⟩ ∈ cb_ws := cb_wt (cb_t3 _ (List.mem_of_getElem? (i := 154) rfl)) rfl
theorem wd_700 : Cond.instanceMethod ⟨"CabbageCradles", "isAsSeen", "()Z"⟩ ∈ cb_ws := cb_wt (cb_t3 _ (List.mem_of_getElem? (i := 156) rfl)) rfl
theorem wd_20 : Cond.selects "CabbageCradles" ⟨"CabbageCradles", "isAsSeen", "()Z"⟩ ⟨"CabbageCradles", "isAsSeen", "()Z"⟩ ∈ cb_ws := cb_wt (List.mem_of_getElem? (i := 20) (by rfl)) rfl
theorem cv_X6_214 : cb_CV RX6 214 yX6_isAsSeen cX6_isAsSeen 4 (some .boolean) 0 := ⟨wd_701, wd_698, wd_700, wd_20, wd_65, ⟨by decide +kernel, by decide +kernel, by decide +kernel⟩, by decide⟩
theorem wd_709 : Cond.code ⟨"CabbageCradles", "sortsAsSeen", "(I)I"⟩ prog_1_method_54_code 4 (Option.some .int) ∈ cb_ws := cb_wt (cb_t3 _ (List.mem_of_getElem? (i := 165) rfl)) rfl
theorem wd_187 : Cond.fieldLink "CabbageCradles" 193 "CabbageCradles$Field" "dues" "[I" ∈ cb_ws := cb_wt (cb_t1 _ (List.mem_of_getElem? (i := 123) rfl)) rfl
theorem fa_X6_193 : cb_FA RX6 193 1 1 := ⟨RX1, TX1, 9, rfl, by decide, wi_X1, wd_187⟩
theorem wd_713 : Cond.code ⟨"CabbageCradles", "duesAsSeen", "(I)I"⟩ prog_1_method_55_code 4 (Option.some .int) ∈ cb_ws := cb_wt (cb_t3 _ (List.mem_of_getElem? (i := 169) rfl)) rfl
theorem wd_292 : Cond.fieldLink "CabbageCradles" 70 "CabbageCradles" "tallies" "[[I" ∈ cb_ws := cb_wt (cb_t1 _ (List.mem_of_getElem? (i := 228) rfl)) rfl
theorem fa_X6_70 : cb_FA RX6 70 6 9 := ⟨RX6, TX6, 11, rfl, by decide, wi_X6, wd_292⟩
theorem wd_722 : Cond.code ⟨"CabbageCradles", "tallyWhoGotWhat", "()V"⟩ prog_1_method_56_code 3 (Option.none) ∈ cb_ws := cb_wt (cb_t3 _ (List.mem_of_getElem? (i := 178) rfl)) rfl
theorem wd_727 : Cond.methodLink "CabbageCradles" 379 ⟨"java/lang/Math", "max", "(II)I"⟩ ∈ cb_ws := cb_wt (cb_t3 _ (List.mem_of_getElem? (i := 183) rfl)) rfl
theorem wd_726 : Cond.code ⟨"CabbageCradles", "leastTallied", "()I"⟩ prog_1_method_57_code 6 (Option.some .int) ∈ cb_ws := cb_wt (cb_t3 _ (List.mem_of_getElem? (i := 182) rfl)) rfl
theorem wd_291 : Cond.fieldLink "CabbageCradles" 64 "CabbageCradles" "chances" "LCabbageCradles$Chances;" ∈ cb_ws := cb_wt (cb_t1 _ (List.mem_of_getElem? (i := 227) rfl)) rfl
theorem fa_X6_64 : cb_FA RX6 64 6 8 := ⟨RX6, TX6, 11, rfl, by decide, wi_X6, wd_291⟩
theorem wd_72 : Cond.initialized "CabbageCradles$Chances" ∈ cb_ws := cb_wt (cb_t1 _ (List.mem_of_getElem? (i := 8) rfl)) rfl
theorem wd_740 : Cond.methodLink "CabbageCradles" 382 ⟨"CabbageCradles$Chances", "startFor", "(I)V"⟩ ∈ cb_ws := cb_wt (cb_t3 _ (List.mem_of_getElem? (i := 196) rfl)) rfl
theorem wd_741 : Cond.instanceMethod ⟨"CabbageCradles$Chances", "startFor", "(I)V"⟩ ∈ cb_ws := cb_wt (cb_t3 _ (List.mem_of_getElem? (i := 197) rfl)) rfl
theorem wd_742 : Cond.selects "CabbageCradles$Chances" ⟨"CabbageCradles$Chances", "startFor", "(I)V"⟩ ⟨"CabbageCradles$Chances", "startFor", "(I)V"⟩ ∈ cb_ws := cb_wt (cb_t3 _ (List.mem_of_getElem? (i := 198) rfl)) rfl
theorem cv_X6_382 : cb_CV RX6 382 yX0_startFor cX0_startFor 3 none 1 := ⟨wd_743, wd_740, wd_741, wd_742, wd_72, ⟨by decide +kernel, by decide +kernel, by decide +kernel⟩, by decide⟩
theorem wd_204 : Cond.fieldLink "CabbageCradles" 385 "CabbageCradles$Field" "frosts" "I" ∈ cb_ws := cb_wt (cb_t1 _ (List.mem_of_getElem? (i := 140) rfl)) rfl
theorem fp_X6_385 : cb_FP RX6 385 1 8 := ⟨RX1, TX1, 9, tyX1, rfl, by decide, wi_X1, wd_204, tyX1_ok, nmX1, rfl, by decide +kernel⟩
theorem wd_745 : Cond.methodLink "CabbageCradles" 387 ⟨"CabbageCradles$Chances", "addCase", "(II)V"⟩ ∈ cb_ws := cb_wt (cb_t3 _ (List.mem_of_getElem? (i := 201) rfl)) rfl
theorem wd_746 : Cond.instanceMethod ⟨"CabbageCradles$Chances", "addCase", "(II)V"⟩ ∈ cb_ws := cb_wt (cb_t3 _ (List.mem_of_getElem? (i := 202) rfl)) rfl
theorem wd_747 : Cond.selects "CabbageCradles$Chances" ⟨"CabbageCradles$Chances", "addCase", "(II)V"⟩ ⟨"CabbageCradles$Chances", "addCase", "(II)V"⟩ ∈ cb_ws := cb_wt (cb_t3 _ (List.mem_of_getElem? (i := 203) rfl)) rfl
theorem cv_X6_387 : cb_CV RX6 387 yX0_addCase cX0_addCase 4 none 2 := ⟨wd_748, wd_745, wd_746, wd_747, wd_72, ⟨by decide +kernel, by decide +kernel, by decide +kernel⟩, by decide⟩
theorem wd_739 : Cond.code ⟨"CabbageCradles", "countChances", "(I)V"⟩ prog_1_method_58_code 3 (Option.none) ∈ cb_ws := cb_wt (cb_t3 _ (List.mem_of_getElem? (i := 195) rfl)) rfl
theorem wd_324 : Cond.methodLink "CabbageCradles" 81 ⟨"CabbageCradles$Chances", "forgetAll", "()V"⟩ ∈ cb_ws := cb_wt (cb_t2 _ (List.mem_of_getElem? (i := 20) rfl)) rfl
theorem wd_325 : Cond.instanceMethod ⟨"CabbageCradles$Chances", "forgetAll", "()V"⟩ ∈ cb_ws := cb_wt (cb_t2 _ (List.mem_of_getElem? (i := 21) rfl)) rfl
theorem wd_326 : Cond.selects "CabbageCradles$Chances" ⟨"CabbageCradles$Chances", "forgetAll", "()V"⟩ ⟨"CabbageCradles$Chances", "forgetAll", "()V"⟩ ∈ cb_ws := cb_wt (cb_t2 _ (List.mem_of_getElem? (i := 22) rfl)) rfl
theorem cv_X6_81 : cb_CV RX6 81 yX0_forgetAll cX0_forgetAll 1 none 0 := ⟨wd_327, wd_324, wd_325, wd_326, wd_72, ⟨by decide +kernel, by decide +kernel, by decide +kernel⟩, by decide⟩
theorem wd_328 : Cond.methodLink "CabbageCradles" 84 ⟨"CabbageCradles$Text", "append", "(I)I"⟩ ∈ cb_ws := cb_wt (cb_t2 _ (List.mem_of_getElem? (i := 24) rfl)) rfl
theorem wd_329 : Cond.instanceMethod ⟨"CabbageCradles$Text", "append", "(I)I"⟩ ∈ cb_ws := cb_wt (cb_t2 _ (List.mem_of_getElem? (i := 25) rfl)) rfl
theorem wd_330 : Cond.selects "CabbageCradles$Text" ⟨"CabbageCradles$Text", "append", "(I)I"⟩ ⟨"CabbageCradles$Text", "append", "(I)I"⟩ ∈ cb_ws := cb_wt (cb_t2 _ (List.mem_of_getElem? (i := 26) rfl)) rfl
theorem cv_X6_84 : cb_CV RX6 84 yX4_append cX4_append 3 (some .int) 1 := ⟨wd_331, wd_328, wd_329, wd_330, wd_66, ⟨by decide +kernel, by decide +kernel, by decide +kernel⟩, by decide⟩
theorem wd_320 : Cond.code ⟨"CabbageCradles", "type", "(II)I"⟩ prog_1_method_2_code 3 (Option.some .int) ∈ cb_ws := cb_wt (cb_t2 _ (List.mem_of_getElem? (i := 16) rfl)) rfl
theorem wd_444 : Cond.methodLink "CabbageCradles" 88 ⟨"CabbageCradles$Text", "empty", "()I"⟩ ∈ cb_ws := cb_wt (cb_t2 _ (List.mem_of_getElem? (i := 140) rfl)) rfl
theorem wd_445 : Cond.instanceMethod ⟨"CabbageCradles$Text", "empty", "()I"⟩ ∈ cb_ws := cb_wt (cb_t2 _ (List.mem_of_getElem? (i := 141) rfl)) rfl
theorem wd_446 : Cond.selects "CabbageCradles$Text" ⟨"CabbageCradles$Text", "empty", "()I"⟩ ⟨"CabbageCradles$Text", "empty", "()I"⟩ ∈ cb_ws := cb_wt (cb_t2 _ (List.mem_of_getElem? (i := 142) rfl)) rfl
theorem cv_X6_88 : cb_CV RX6 88 yX4_empty cX4_empty 2 (some .int) 0 := ⟨wd_447, wd_444, wd_445, wd_446, wd_66, ⟨by decide +kernel, by decide +kernel, by decide +kernel⟩, by decide⟩
theorem wd_443 : Cond.code ⟨"CabbageCradles", "wipe", "(I)I"⟩ prog_1_method_3_code 2 (Option.some .int) ∈ cb_ws := cb_wt (cb_t2 _ (List.mem_of_getElem? (i := 139) rfl)) rfl
theorem wd_456 : Cond.methodLink "CabbageCradles" 92 ⟨"CabbageCradles$Text", "dropLast", "()I"⟩ ∈ cb_ws := cb_wt (cb_t2 _ (List.mem_of_getElem? (i := 152) rfl)) rfl
theorem wd_457 : Cond.instanceMethod ⟨"CabbageCradles$Text", "dropLast", "()I"⟩ ∈ cb_ws := cb_wt (cb_t2 _ (List.mem_of_getElem? (i := 153) rfl)) rfl
theorem wd_458 : Cond.selects "CabbageCradles$Text" ⟨"CabbageCradles$Text", "dropLast", "()I"⟩ ⟨"CabbageCradles$Text", "dropLast", "()I"⟩ ∈ cb_ws := cb_wt (cb_t2 _ (List.mem_of_getElem? (i := 154) rfl)) rfl
theorem cv_X6_92 : cb_CV RX6 92 yX4_dropLast cX4_dropLast 2 (some .int) 0 := ⟨wd_459, wd_456, wd_457, wd_458, wd_66, ⟨by decide +kernel, by decide +kernel, by decide +kernel⟩, by decide⟩
theorem wd_455 : Cond.code ⟨"CabbageCradles", "undo", "(I)I"⟩ prog_1_method_4_code 2 (Option.some .int) ∈ cb_ws := cb_wt (cb_t2 _ (List.mem_of_getElem? (i := 151) rfl)) rfl
theorem wd_136 : Cond.fieldLink "CabbageCradles" 95 "CabbageCradles$Text" "fault" "I" ∈ cb_ws := cb_wt (cb_t1 _ (List.mem_of_getElem? (i := 72) rfl)) rfl
theorem fa_X6_95 : cb_FA RX6 95 4 7 := ⟨RX4, TX4, 8, rfl, by decide, wi_X4, wd_136⟩
theorem wd_467 : Cond.code ⟨"CabbageCradles", "fault", "(I)I"⟩ prog_1_method_5_code 2 (Option.some .int) ∈ cb_ws := cb_wt (cb_t2 _ (List.mem_of_getElem? (i := 163) rfl)) rfl
theorem wd_472 : Cond.methodLink "CabbageCradles" 98 ⟨"CabbageCradles", "isNoHead", "(I)Z"⟩ ∈ cb_ws := cb_wt (cb_t2 _ (List.mem_of_getElem? (i := 168) rfl)) rfl
theorem wd_474 : Cond.instanceMethod ⟨"CabbageCradles", "isNoHead", "(I)Z"⟩ ∈ cb_ws := cb_wt (cb_t2 _ (List.mem_of_getElem? (i := 170) rfl)) rfl
theorem wd_4 : Cond.selects "CabbageCradles" ⟨"CabbageCradles", "isNoHead", "(I)Z"⟩ ⟨"CabbageCradles", "isNoHead", "(I)Z"⟩ ∈ cb_ws := cb_wt (List.mem_of_getElem? (i := 4) (by rfl)) rfl
theorem cv_X6_98 : cb_CV RX6 98 yX6_isNoHead cX6_isNoHead 2 (some .boolean) 1 := ⟨wd_475, wd_472, wd_474, wd_4, wd_65, ⟨by decide +kernel, by decide +kernel, by decide +kernel⟩, by decide⟩
theorem wd_128 : Cond.fieldLink "CabbageCradles" 106 "CabbageCradles$Text" "days" "[I" ∈ cb_ws := cb_wt (cb_t1 _ (List.mem_of_getElem? (i := 64) rfl)) rfl
theorem fa_X6_106 : cb_FA RX6 106 4 4 := ⟨RX4, TX4, 8, rfl, by decide, wi_X4, wd_128⟩
theorem wd_125 : Cond.fieldLink "CabbageCradles" 102 "CabbageCradles$Text" "kinds" "[I" ∈ cb_ws := cb_wt (cb_t1 _ (List.mem_of_getElem? (i := 61) rfl)) rfl
theorem fa_X6_102 : cb_FA RX6 102 4 3 := ⟨RX4, TX4, 8, rfl, by decide, wi_X4, wd_125⟩
theorem wd_471 : Cond.code ⟨"CabbageCradles", "head", "(II)I"⟩ prog_1_method_6_code 3 (Option.some .int) ∈ cb_ws := cb_wt (cb_t2 _ (List.mem_of_getElem? (i := 167) rfl)) rfl
theorem wd_480 : Cond.methodLink "CabbageCradles" 109 ⟨"CabbageCradles", "isNoCouple", "(I)Z"⟩ ∈ cb_ws := cb_wt (cb_t2 _ (List.mem_of_getElem? (i := 176) rfl)) rfl
theorem wd_482 : Cond.instanceMethod ⟨"CabbageCradles", "isNoCouple", "(I)Z"⟩ ∈ cb_ws := cb_wt (cb_t2 _ (List.mem_of_getElem? (i := 178) rfl)) rfl
theorem wd_5 : Cond.selects "CabbageCradles" ⟨"CabbageCradles", "isNoCouple", "(I)Z"⟩ ⟨"CabbageCradles", "isNoCouple", "(I)Z"⟩ ∈ cb_ws := cb_wt (List.mem_of_getElem? (i := 5) (by rfl)) rfl
theorem cv_X6_109 : cb_CV RX6 109 yX6_isNoCouple cX6_isNoCouple 2 (some .boolean) 1 := ⟨wd_483, wd_480, wd_482, wd_5, wd_65, ⟨by decide +kernel, by decide +kernel, by decide +kernel⟩, by decide⟩
theorem wd_131 : Cond.fieldLink "CabbageCradles" 112 "CabbageCradles$Text" "lengths" "[I" ∈ cb_ws := cb_wt (cb_t1 _ (List.mem_of_getElem? (i := 67) rfl)) rfl
theorem fa_X6_112 : cb_FA RX6 112 4 5 := ⟨RX4, TX4, 8, rfl, by decide, wi_X4, wd_131⟩
theorem wd_479 : Cond.code ⟨"CabbageCradles", "couple", "(II)I"⟩ prog_1_method_7_code 3 (Option.some .int) ∈ cb_ws := cb_wt (cb_t2 _ (List.mem_of_getElem? (i := 175) rfl)) rfl
theorem wd_488 : Cond.methodLink "CabbageCradles" 115 ⟨"CabbageCradles$Row", "add", "(I)I"⟩ ∈ cb_ws := cb_wt (cb_t2 _ (List.mem_of_getElem? (i := 184) rfl)) rfl
theorem cv_X6_115 : cb_CV RX6 115 yX2_add cX2_add 2 (some .int) 1 := ⟨wd_335, wd_488, wd_333, wd_334, wd_67, ⟨by decide +kernel, by decide +kernel, by decide +kernel⟩, by decide⟩
theorem wd_487 : Cond.code ⟨"CabbageCradles", "weather", "(II)I"⟩ prog_1_method_8_code 3 (Option.some .int) ∈ cb_ws := cb_wt (cb_t2 _ (List.mem_of_getElem? (i := 183) rfl)) rfl
theorem wd_492 : Cond.code ⟨"CabbageCradles", "rabbit", "(II)I"⟩ prog_1_method_9_code 3 (Option.some .int) ∈ cb_ws := cb_wt (cb_t2 _ (List.mem_of_getElem? (i := 188) rfl)) rfl
theorem wd_497 : Cond.methodLink "CabbageCradles" 118 ⟨"CabbageCradles$Row", "dropLast", "()I"⟩ ∈ cb_ws := cb_wt (cb_t2 _ (List.mem_of_getElem? (i := 193) rfl)) rfl
theorem cv_X6_118 : cb_CV RX6 118 yX2_dropLast cX2_dropLast 1 (some .int) 0 := ⟨wd_463, wd_497, wd_461, wd_462, wd_67, ⟨by decide +kernel, by decide +kernel, by decide +kernel⟩, by decide⟩
theorem wd_496 : Cond.code ⟨"CabbageCradles", "back", "(I)I"⟩ prog_1_method_10_code 2 (Option.some .int) ∈ cb_ws := cb_wt (cb_t2 _ (List.mem_of_getElem? (i := 192) rfl)) rfl
theorem wd_288 : Cond.fieldLink "CabbageCradles" 43 "CabbageCradles" "sheets" "[LCabbageCradles$Sheet;" ∈ cb_ws := cb_wt (cb_t1 _ (List.mem_of_getElem? (i := 224) rfl)) rfl
theorem fa_X6_43 : cb_FA RX6 43 6 5 := ⟨RX6, TX6, 11, rfl, by decide, wi_X6, wd_288⟩
theorem wd_510 : Cond.methodLink "CabbageCradles" 129 ⟨"CabbageCradles$Sheet", "itemAt", "(I)I"⟩ ∈ cb_ws := cb_wt (cb_t2 _ (List.mem_of_getElem? (i := 206) rfl)) rfl
theorem wd_511 : Cond.instanceMethod ⟨"CabbageCradles$Sheet", "itemAt", "(I)I"⟩ ∈ cb_ws := cb_wt (cb_t2 _ (List.mem_of_getElem? (i := 207) rfl)) rfl
theorem wd_512 : Cond.selects "CabbageCradles$Sheet" ⟨"CabbageCradles$Sheet", "itemAt", "(I)I"⟩ ⟨"CabbageCradles$Sheet", "itemAt", "(I)I"⟩ ∈ cb_ws := cb_wt (cb_t2 _ (List.mem_of_getElem? (i := 208) rfl)) rfl
theorem cv_X6_129 : cb_CV RX6 129 yX3_itemAt cX3_itemAt 2 (some .int) 1 := ⟨wd_513, wd_510, wd_511, wd_512, wd_69, ⟨by decide +kernel, by decide +kernel, by decide +kernel⟩, by decide⟩
theorem wd_515 : Cond.methodLink "CabbageCradles" 132 ⟨"CabbageCradles", "rabbit", "(II)I"⟩ ∈ cb_ws := cb_wt (cb_t2 _ (List.mem_of_getElem? (i := 211) rfl)) rfl
theorem wd_490 : Cond.instanceMethod ⟨"CabbageCradles", "rabbit", "(II)I"⟩ ∈ cb_ws := cb_wt (cb_t2 _ (List.mem_of_getElem? (i := 186) rfl)) rfl
theorem wd_491 : Cond.selects "CabbageCradles" ⟨"CabbageCradles", "rabbit", "(II)I"⟩ ⟨"CabbageCradles", "rabbit", "(II)I"⟩ ∈ cb_ws := cb_wt (cb_t2 _ (List.mem_of_getElem? (i := 187) rfl)) rfl
theorem cv_X6_132 : cb_CV RX6 132 yX6_rabbit cX6_rabbit 3 (some .int) 2 := ⟨wd_492, wd_515, wd_490, wd_491, wd_65, ⟨by decide +kernel, by decide +kernel, by decide +kernel⟩, by decide⟩
theorem wd_506 : Cond.methodLink "CabbageCradles" 123 ⟨"CabbageCradles", "found", "(I)I"⟩ ∈ cb_ws := cb_wt (cb_t2 _ (List.mem_of_getElem? (i := 202) rfl)) rfl
theorem wd_508 : Cond.instanceMethod ⟨"CabbageCradles", "found", "(I)I"⟩ ∈ cb_ws := cb_wt (cb_t2 _ (List.mem_of_getElem? (i := 204) rfl)) rfl
theorem wd_6 : Cond.selects "CabbageCradles" ⟨"CabbageCradles", "found", "(I)I"⟩ ⟨"CabbageCradles", "found", "(I)I"⟩ ∈ cb_ws := cb_wt (List.mem_of_getElem? (i := 6) (by rfl)) rfl
theorem cv_X6_123 : cb_CV RX6 123 yX6_found cX6_found 2 (some .int) 1 := ⟨wd_509, wd_506, wd_508, wd_6, wd_65, ⟨by decide +kernel, by decide +kernel, by decide +kernel⟩, by decide⟩
theorem wd_501 : Cond.code ⟨"CabbageCradles", "read", "(I)I"⟩ prog_1_method_11_code 5 (Option.some .int) ∈ cb_ws := cb_wt (cb_t2 _ (List.mem_of_getElem? (i := 197) rfl)) rfl
theorem wd_520 : Cond.methodLink "CabbageCradles" 136 ⟨"CabbageCradles", "walkAsItIs", "()V"⟩ ∈ cb_ws := cb_wt (cb_t2 _ (List.mem_of_getElem? (i := 216) rfl)) rfl
theorem wd_522 : Cond.instanceMethod ⟨"CabbageCradles", "walkAsItIs", "()V"⟩ ∈ cb_ws := cb_wt (cb_t2 _ (List.mem_of_getElem? (i := 218) rfl)) rfl
theorem wd_7 : Cond.selects "CabbageCradles" ⟨"CabbageCradles", "walkAsItIs", "()V"⟩ ⟨"CabbageCradles", "walkAsItIs", "()V"⟩ ∈ cb_ws := cb_wt (List.mem_of_getElem? (i := 7) (by rfl)) rfl
theorem cv_X6_136 : cb_CV RX6 136 yX6_walkAsItIs cX6_walkAsItIs 1 none 0 := ⟨wd_523, wd_520, wd_522, wd_7, wd_65, ⟨by decide +kernel, by decide +kernel, by decide +kernel⟩, by decide⟩
theorem wd_585 : Cond.methodLink "CabbageCradles" 139 ⟨"CabbageCradles$Walk", "stateOf", "(LCabbageCradles$Field;II)I"⟩ ∈ cb_ws := cb_wt (cb_t3 _ (List.mem_of_getElem? (i := 41) rfl)) rfl
theorem wd_586 : Cond.instanceMethod ⟨"CabbageCradles$Walk", "stateOf", "(LCabbageCradles$Field;II)I"⟩ ∈ cb_ws := cb_wt (cb_t3 _ (List.mem_of_getElem? (i := 42) rfl)) rfl
theorem wd_587 : Cond.selects "CabbageCradles$Walk" ⟨"CabbageCradles$Walk", "stateOf", "(LCabbageCradles$Field;II)I"⟩ ⟨"CabbageCradles$Walk", "stateOf", "(LCabbageCradles$Field;II)I"⟩ ∈ cb_ws := cb_wt (cb_t3 _ (List.mem_of_getElem? (i := 43) rfl)) rfl
theorem cv_X6_139 : cb_CV RX6 139 yX5_stateOf cX5_stateOf 5 (some .int) 3 := ⟨wd_588, wd_585, wd_586, wd_587, wd_71, ⟨by decide +kernel, by decide +kernel, by decide +kernel⟩, by decide⟩
theorem wd_519 : Cond.code ⟨"CabbageCradles", "state", "(II)I"⟩ prog_1_method_12_code 3 (Option.some .int) ∈ cb_ws := cb_wt (cb_t2 _ (List.mem_of_getElem? (i := 215) rfl)) rfl
theorem wd_601 : Cond.methodLink "CabbageCradles" 146 ⟨"CabbageCradles$Walk", "lifterOf", "(I)I"⟩ ∈ cb_ws := cb_wt (cb_t3 _ (List.mem_of_getElem? (i := 57) rfl)) rfl
theorem cv_X6_146 : cb_CV RX6 146 yX5_lifterOf cX5_lifterOf 3 (some .int) 1 := ⟨wd_592, wd_601, wd_590, wd_591, wd_71, ⟨by decide +kernel, by decide +kernel, by decide +kernel⟩, by decide⟩
theorem wd_231 : Cond.fieldLink "CabbageCradles" 143 "CabbageCradles$Walk" "ripe" "[I" ∈ cb_ws := cb_wt (cb_t1 _ (List.mem_of_getElem? (i := 167) rfl)) rfl
theorem fa_X6_143 : cb_FA RX6 143 5 0 := ⟨RX5, TX5, 10, rfl, by decide, wi_X5, wd_231⟩
theorem wd_600 : Cond.code ⟨"CabbageCradles", "lifted", "(II)I"⟩ prog_1_method_13_code 4 (Option.some .int) ∈ cb_ws := cb_wt (cb_t3 _ (List.mem_of_getElem? (i := 56) rfl)) rfl
theorem wd_605 : Cond.code ⟨"CabbageCradles", "gets", "(II)I"⟩ prog_1_method_14_code 3 (Option.some .int) ∈ cb_ws := cb_wt (cb_t3 _ (List.mem_of_getElem? (i := 61) rfl)) rfl
theorem wd_615 : Cond.methodLink "CabbageCradles" 158 ⟨"CabbageCradles", "childrenBehind", "(I)I"⟩ ∈ cb_ws := cb_wt (cb_t3 _ (List.mem_of_getElem? (i := 71) rfl)) rfl
theorem wd_617 : Cond.instanceMethod ⟨"CabbageCradles", "childrenBehind", "(I)I"⟩ ∈ cb_ws := cb_wt (cb_t3 _ (List.mem_of_getElem? (i := 73) rfl)) rfl
theorem wd_14 : Cond.selects "CabbageCradles" ⟨"CabbageCradles", "childrenBehind", "(I)I"⟩ ⟨"CabbageCradles", "childrenBehind", "(I)I"⟩ ∈ cb_ws := cb_wt (List.mem_of_getElem? (i := 14) (by rfl)) rfl
theorem cv_X6_158 : cb_CV RX6 158 yX6_childrenBehind cX6_childrenBehind 4 (some .int) 1 := ⟨wd_618, wd_615, wd_617, wd_14, wd_65, ⟨by decide +kernel, by decide +kernel, by decide +kernel⟩, by decide⟩
theorem wd_614 : Cond.code ⟨"CabbageCradles", "children", "(I)I"⟩ prog_1_method_15_code 2 (Option.some .int) ∈ cb_ws := cb_wt (cb_t3 _ (List.mem_of_getElem? (i := 70) rfl)) rfl
theorem wd_622 : Cond.code ⟨"CabbageCradles", "without", "()I"⟩ prog_1_method_16_code 1 (Option.some .int) ∈ cb_ws := cb_wt (cb_t3 _ (List.mem_of_getElem? (i := 78) rfl)) rfl
theorem wd_627 : Cond.methodLink "CabbageCradles" 167 ⟨"CabbageCradles$Walk", "firstOutOfTurn", "(LCabbageCradles$Field;)I"⟩ ∈ cb_ws := cb_wt (cb_t3 _ (List.mem_of_getElem? (i := 83) rfl)) rfl
theorem wd_628 : Cond.instanceMethod ⟨"CabbageCradles$Walk", "firstOutOfTurn", "(LCabbageCradles$Field;)I"⟩ ∈ cb_ws := cb_wt (cb_t3 _ (List.mem_of_getElem? (i := 84) rfl)) rfl
theorem wd_629 : Cond.selects "CabbageCradles$Walk" ⟨"CabbageCradles$Walk", "firstOutOfTurn", "(LCabbageCradles$Field;)I"⟩ ⟨"CabbageCradles$Walk", "firstOutOfTurn", "(LCabbageCradles$Field;)I"⟩ ∈ cb_ws := cb_wt (cb_t3 _ (List.mem_of_getElem? (i := 85) rfl)) rfl
theorem cv_X6_167 : cb_CV RX6 167 yX5_firstOutOfTurn cX5_firstOutOfTurn 4 (some .int) 1 := ⟨wd_630, wd_627, wd_628, wd_629, wd_71, ⟨by decide +kernel, by decide +kernel, by decide +kernel⟩, by decide⟩
theorem wd_626 : Cond.code ⟨"CabbageCradles", "turn", "(I)I"⟩ prog_1_method_17_code 3 (Option.some .int) ∈ cb_ws := cb_wt (cb_t3 _ (List.mem_of_getElem? (i := 82) rfl)) rfl
theorem wd_657 : Cond.methodLink "CabbageCradles" 176 ⟨"CabbageCradles", "headsFor", "(I)I"⟩ ∈ cb_ws := cb_wt (cb_t3 _ (List.mem_of_getElem? (i := 113) rfl)) rfl
theorem wd_659 : Cond.instanceMethod ⟨"CabbageCradles", "headsFor", "(I)I"⟩ ∈ cb_ws := cb_wt (cb_t3 _ (List.mem_of_getElem? (i := 115) rfl)) rfl
theorem wd_17 : Cond.selects "CabbageCradles" ⟨"CabbageCradles", "headsFor", "(I)I"⟩ ⟨"CabbageCradles", "headsFor", "(I)I"⟩ ∈ cb_ws := cb_wt (List.mem_of_getElem? (i := 17) (by rfl)) rfl
theorem cv_X6_176 : cb_CV RX6 176 yX6_headsFor cX6_headsFor 4 (some .int) 1 := ⟨wd_660, wd_657, wd_659, wd_17, wd_65, ⟨by decide +kernel, by decide +kernel, by decide +kernel⟩, by decide⟩
theorem wd_661 : Cond.methodLink "CabbageCradles" 179 ⟨"java/lang/Math", "min", "(II)I"⟩ ∈ cb_ws := cb_wt (cb_t3 _ (List.mem_of_getElem? (i := 117) rfl)) rfl
theorem wd_650 : Cond.code ⟨"CabbageCradles", "met", "()I"⟩ prog_1_method_18_code 4 (Option.some .int) ∈ cb_ws := cb_wt (cb_t3 _ (List.mem_of_getElem? (i := 106) rfl)) rfl
theorem wd_666 : Cond.methodLink "CabbageCradles" 187 ⟨"CabbageCradles", "fewestKeptOff", "(I)I"⟩ ∈ cb_ws := cb_wt (cb_t3 _ (List.mem_of_getElem? (i := 122) rfl)) rfl
theorem wd_668 : Cond.instanceMethod ⟨"CabbageCradles", "fewestKeptOff", "(I)I"⟩ ∈ cb_ws := cb_wt (cb_t3 _ (List.mem_of_getElem? (i := 124) rfl)) rfl
theorem wd_18 : Cond.selects "CabbageCradles" ⟨"CabbageCradles", "fewestKeptOff", "(I)I"⟩ ⟨"CabbageCradles", "fewestKeptOff", "(I)I"⟩ ∈ cb_ws := cb_wt (List.mem_of_getElem? (i := 18) (by rfl)) rfl
theorem cv_X6_187 : cb_CV RX6 187 yX6_fewestKeptOff cX6_fewestKeptOff 6 (some .int) 1 := ⟨wd_669, wd_666, wd_668, wd_18, wd_65, ⟨by decide +kernel, by decide +kernel, by decide +kernel⟩, by decide⟩
theorem wd_672 : Cond.methodLink "CabbageCradles" 190 ⟨"CabbageCradles", "leastBit", "(I)I"⟩ ∈ cb_ws := cb_wt (cb_t3 _ (List.mem_of_getElem? (i := 128) rfl)) rfl
theorem cs_X6_190 : cb_CS RX6 190 yX6_leastBit cX6_leastBit 2 (some .int) 1 := ⟨wd_584, wd_672, wd_583, wd_65, ⟨by decide +kernel, by decide +kernel, by decide +kernel⟩, by decide⟩
theorem wd_665 : Cond.code ⟨"CabbageCradles", "keep", "(II)I"⟩ prog_1_method_19_code 4 (Option.some .int) ∈ cb_ws := cb_wt (cb_t3 _ (List.mem_of_getElem? (i := 121) rfl)) rfl
theorem wd_677 : Cond.methodLink "CabbageCradles" 200 ⟨"CabbageCradles", "numberWithout", "()I"⟩ ∈ cb_ws := cb_wt (cb_t3 _ (List.mem_of_getElem? (i := 133) rfl)) rfl
theorem wd_679 : Cond.instanceMethod ⟨"CabbageCradles", "numberWithout", "()I"⟩ ∈ cb_ws := cb_wt (cb_t3 _ (List.mem_of_getElem? (i := 135) rfl)) rfl
theorem wd_19 : Cond.selects "CabbageCradles" ⟨"CabbageCradles", "numberWithout", "()I"⟩ ⟨"CabbageCradles", "numberWithout", "()I"⟩ ∈ cb_ws := cb_wt (List.mem_of_getElem? (i := 19) (by rfl)) rfl
theorem cv_X6_200 : cb_CV RX6 200 yX6_numberWithout cX6_numberWithout 1 (some .int) 0 := ⟨wd_680, wd_677, wd_679, wd_19, wd_65, ⟨by decide +kernel, by decide +kernel, by decide +kernel⟩, by decide⟩
theorem wd_676 : Cond.code ⟨"CabbageCradles", "sow", "(II)I"⟩ prog_1_method_20_code 6 (Option.some .int) ∈ cb_ws := cb_wt (cb_t3 _ (List.mem_of_getElem? (i := 132) rfl)) rfl
theorem wd_192 : Cond.fieldLink "CabbageCradles" 203 "CabbageCradles$Field" "froms" "[I" ∈ cb_ws := cb_wt (cb_t1 _ (List.mem_of_getElem? (i := 128) rfl)) rfl
theorem fa_X6_203 : cb_FA RX6 203 1 3 := ⟨RX1, TX1, 9, rfl, by decide, wi_X1, wd_192⟩
theorem wd_684 : Cond.code ⟨"CabbageCradles", "come", "(II)I"⟩ prog_1_method_21_code 7 (Option.some .int) ∈ cb_ws := cb_wt (cb_t3 _ (List.mem_of_getElem? (i := 140) rfl)) rfl
theorem wd_688 : Cond.code ⟨"CabbageCradles", "seen", "(II)I"⟩ prog_1_method_22_code 3 (Option.some .int) ∈ cb_ws := cb_wt (cb_t3 _ (List.mem_of_getElem? (i := 144) rfl)) rfl
theorem wd_693 : Cond.methodLink "CabbageCradles" 206 ⟨"CabbageCradles$Row", "clear", "()I"⟩ ∈ cb_ws := cb_wt (cb_t3 _ (List.mem_of_getElem? (i := 149) rfl)) rfl
theorem cv_X6_206 : cb_CV RX6 206 yX2_clear cX2_clear 2 (some .int) 0 := ⟨wd_451, wd_693, wd_449, wd_450, wd_67, ⟨by decide +kernel, by decide +kernel, by decide +kernel⟩, by decide⟩
theorem wd_692 : Cond.code ⟨"CabbageCradles", "forget", "()I"⟩ prog_1_method_23_code 1 (Option.some .int) ∈ cb_ws := cb_wt (cb_t3 _ (List.mem_of_getElem? (i := 148) rfl)) rfl
theorem wd_697 : Cond.code ⟨"CabbageCradles", "never", "()I"⟩ prog_1_method_24_code 3 (Option.some .int) ∈ cb_ws := cb_wt (cb_t3 _ (List.mem_of_getElem? (i := 153) rfl)) rfl
theorem wd_710 : Cond.methodLink "CabbageCradles" 220 ⟨"CabbageCradles", "duesAsSeen", "(I)I"⟩ ∈ cb_ws := cb_wt (cb_t3 _ (List.mem_of_getElem? (i := 166) rfl)) rfl
theorem wd_712 : Cond.instanceMethod ⟨"CabbageCradles", "duesAsSeen", "(I)I"⟩ ∈ cb_ws := cb_wt (cb_t3 _ (List.mem_of_getElem? (i := 168) rfl)) rfl
theorem wd_22 : Cond.selects "CabbageCradles" ⟨"CabbageCradles", "duesAsSeen", "(I)I"⟩ ⟨"CabbageCradles", "duesAsSeen", "(I)I"⟩ ∈ cb_ws := cb_wt (List.mem_of_getElem? (i := 22) (by rfl)) rfl
theorem cv_X6_220 : cb_CV RX6 220 yX6_duesAsSeen cX6_duesAsSeen 4 (some .int) 1 := ⟨wd_713, wd_710, wd_712, wd_22, wd_65, ⟨by decide +kernel, by decide +kernel, by decide +kernel⟩, by decide⟩
theorem wd_706 : Cond.methodLink "CabbageCradles" 217 ⟨"CabbageCradles", "sortsAsSeen", "(I)I"⟩ ∈ cb_ws := cb_wt (cb_t3 _ (List.mem_of_getElem? (i := 162) rfl)) rfl
theorem wd_708 : Cond.instanceMethod ⟨"CabbageCradles", "sortsAsSeen", "(I)I"⟩ ∈ cb_ws := cb_wt (cb_t3 _ (List.mem_of_getElem? (i := 164) rfl)) rfl
theorem wd_21 : Cond.selects "CabbageCradles" ⟨"CabbageCradles", "sortsAsSeen", "(I)I"⟩ ⟨"CabbageCradles", "sortsAsSeen", "(I)I"⟩ ∈ cb_ws := cb_wt (List.mem_of_getElem? (i := 21) (by rfl)) rfl
theorem cv_X6_217 : cb_CV RX6 217 yX6_sortsAsSeen cX6_sortsAsSeen 4 (some .int) 1 := ⟨wd_709, wd_706, wd_708, wd_21, wd_65, ⟨by decide +kernel, by decide +kernel, by decide +kernel⟩, by decide⟩
theorem wd_705 : Cond.code ⟨"CabbageCradles", "was", "(II)I"⟩ prog_1_method_25_code 3 (Option.some .int) ∈ cb_ws := cb_wt (cb_t3 _ (List.mem_of_getElem? (i := 161) rfl)) rfl
theorem wd_718 : Cond.methodLink "CabbageCradles" 223 ⟨"java/util/Arrays", "fill", "([II)V"⟩ ∈ cb_ws := cb_wt (cb_t3 _ (List.mem_of_getElem? (i := 174) rfl)) rfl
theorem cs_X6_223 : cb_CS RX6 223 yJ7_fill_53178 cJ7_fill_53178 4 none 2 := ⟨wd_550, wd_718, wd_549, wd_80, ⟨by decide +kernel, by decide +kernel, by decide +kernel⟩, by decide⟩
theorem wd_719 : Cond.methodLink "CabbageCradles" 229 ⟨"CabbageCradles", "tallyWhoGotWhat", "()V"⟩ ∈ cb_ws := cb_wt (cb_t3 _ (List.mem_of_getElem? (i := 175) rfl)) rfl
theorem wd_721 : Cond.instanceMethod ⟨"CabbageCradles", "tallyWhoGotWhat", "()V"⟩ ∈ cb_ws := cb_wt (cb_t3 _ (List.mem_of_getElem? (i := 177) rfl)) rfl
theorem wd_23 : Cond.selects "CabbageCradles" ⟨"CabbageCradles", "tallyWhoGotWhat", "()V"⟩ ⟨"CabbageCradles", "tallyWhoGotWhat", "()V"⟩ ∈ cb_ws := cb_wt (List.mem_of_getElem? (i := 23) (by rfl)) rfl
theorem cv_X6_229 : cb_CV RX6 229 yX6_tallyWhoGotWhat cX6_tallyWhoGotWhat 3 none 0 := ⟨wd_722, wd_719, wd_721, wd_23, wd_65, ⟨by decide +kernel, by decide +kernel, by decide +kernel⟩, by decide⟩
theorem wd_723 : Cond.methodLink "CabbageCradles" 232 ⟨"CabbageCradles", "leastTallied", "()I"⟩ ∈ cb_ws := cb_wt (cb_t3 _ (List.mem_of_getElem? (i := 179) rfl)) rfl
theorem wd_725 : Cond.instanceMethod ⟨"CabbageCradles", "leastTallied", "()I"⟩ ∈ cb_ws := cb_wt (cb_t3 _ (List.mem_of_getElem? (i := 181) rfl)) rfl
theorem wd_24 : Cond.selects "CabbageCradles" ⟨"CabbageCradles", "leastTallied", "()I"⟩ ⟨"CabbageCradles", "leastTallied", "()I"⟩ ∈ cb_ws := cb_wt (List.mem_of_getElem? (i := 24) (by rfl)) rfl
theorem cv_X6_232 : cb_CV RX6 232 yX6_leastTallied cX6_leastTallied 6 (some .int) 0 := ⟨wd_726, wd_723, wd_725, wd_24, wd_65, ⟨by decide +kernel, by decide +kernel, by decide +kernel⟩, by decide⟩
theorem wd_717 : Cond.code ⟨"CabbageCradles", "ask", "(I)I"⟩ prog_1_method_26_code 3 (Option.some .int) ∈ cb_ws := cb_wt (cb_t3 _ (List.mem_of_getElem? (i := 173) rfl)) rfl
theorem wd_276 : Cond.fieldLink "CabbageCradles" 239 "CabbageCradles$Chances" "lastDay" "I" ∈ cb_ws := cb_wt (cb_t1 _ (List.mem_of_getElem? (i := 212) rfl)) rfl
theorem fa_X6_239 : cb_FA RX6 239 0 1 := ⟨RX0, TX0, 2, rfl, by decide, wi_X0, wd_276⟩
theorem wd_736 : Cond.methodLink "CabbageCradles" 242 ⟨"CabbageCradles", "countChances", "(I)V"⟩ ∈ cb_ws := cb_wt (cb_t3 _ (List.mem_of_getElem? (i := 192) rfl)) rfl
theorem wd_738 : Cond.instanceMethod ⟨"CabbageCradles", "countChances", "(I)V"⟩ ∈ cb_ws := cb_wt (cb_t3 _ (List.mem_of_getElem? (i := 194) rfl)) rfl
theorem wd_25 : Cond.selects "CabbageCradles" ⟨"CabbageCradles", "countChances", "(I)V"⟩ ⟨"CabbageCradles", "countChances", "(I)V"⟩ ∈ cb_ws := cb_wt (List.mem_of_getElem? (i := 25) (by rfl)) rfl
theorem cv_X6_242 : cb_CV RX6 242 yX6_countChances cX6_countChances 3 none 1 := ⟨wd_739, wd_736, wd_738, wd_25, wd_65, ⟨by decide +kernel, by decide +kernel, by decide +kernel⟩, by decide⟩
theorem wd_749 : Cond.methodLink "CabbageCradles" 245 ⟨"CabbageCradles$Chances", "weightOf", "(II)J"⟩ ∈ cb_ws := cb_wt (cb_t3 _ (List.mem_of_getElem? (i := 205) rfl)) rfl
theorem wd_750 : Cond.instanceMethod ⟨"CabbageCradles$Chances", "weightOf", "(II)J"⟩ ∈ cb_ws := cb_wt (cb_t3 _ (List.mem_of_getElem? (i := 206) rfl)) rfl
theorem wd_751 : Cond.selects "CabbageCradles$Chances" ⟨"CabbageCradles$Chances", "weightOf", "(II)J"⟩ ⟨"CabbageCradles$Chances", "weightOf", "(II)J"⟩ ∈ cb_ws := cb_wt (cb_t3 _ (List.mem_of_getElem? (i := 207) rfl)) rfl
theorem cv_X6_245 : cb_CV RX6 245 yX0_weightOf cX0_weightOf 9 (some .long) 2 := ⟨wd_752, wd_749, wd_750, wd_751, wd_72, ⟨by decide +kernel, by decide +kernel, by decide +kernel⟩, by decide⟩
theorem wd_732 : Cond.methodLink "CabbageCradles" 235 ⟨"CabbageCradles", "asLong", "(I)J"⟩ ∈ cb_ws := cb_wt (cb_t3 _ (List.mem_of_getElem? (i := 188) rfl)) rfl
theorem wd_733 : Cond.static ⟨"CabbageCradles", "asLong", "(I)J"⟩ ∈ cb_ws := cb_wt (cb_t3 _ (List.mem_of_getElem? (i := 189) rfl)) rfl
theorem cs_X6_235 : cb_CS RX6 235 yX6_asLong cX6_asLong 1 (some .long) 1 := ⟨wd_734, wd_732, wd_733, wd_65, ⟨by decide +kernel, by decide +kernel, by decide +kernel⟩, by decide⟩
theorem wd_731 : Cond.code ⟨"CabbageCradles", "chill", "(IIII)J"⟩ prog_1_method_27_code 10 (Option.some .long) ∈ cb_ws := cb_wt (cb_t3 _ (List.mem_of_getElem? (i := 187) rfl)) rfl
theorem wd_199 : Cond.fieldLink "CabbageCradles" 249 "CabbageCradles$Field" "heads" "I" ∈ cb_ws := cb_wt (cb_t1 _ (List.mem_of_getElem? (i := 135) rfl)) rfl
theorem fa_X6_249 : cb_FA RX6 249 1 6 := ⟨RX1, TX1, 9, rfl, by decide, wi_X1, wd_199⟩
theorem wd_757 : Cond.constant "CabbageCradles" 252 1103515245 ∈ cb_ws := cb_wt (cb_t3 _ (List.mem_of_getElem? (i := 213) rfl)) rfl
theorem wd_756 : Cond.code ⟨"CabbageCradles", "year", "(II)I"⟩ prog_1_method_28_code 5 (Option.some .int) ∈ cb_ws := cb_wt (cb_t3 _ (List.mem_of_getElem? (i := 212) rfl)) rfl
theorem wd_762 : Cond.methodLink "CabbageCradles" 253 ⟨"CabbageCradles$Sheet", "renew", "(II)V"⟩ ∈ cb_ws := cb_wt (cb_t3 _ (List.mem_of_getElem? (i := 218) rfl)) rfl
theorem wd_763 : Cond.instanceMethod ⟨"CabbageCradles$Sheet", "renew", "(II)V"⟩ ∈ cb_ws := cb_wt (cb_t3 _ (List.mem_of_getElem? (i := 219) rfl)) rfl
theorem wd_764 : Cond.selects "CabbageCradles$Sheet" ⟨"CabbageCradles$Sheet", "renew", "(II)V"⟩ ⟨"CabbageCradles$Sheet", "renew", "(II)V"⟩ ∈ cb_ws := cb_wt (cb_t3 _ (List.mem_of_getElem? (i := 220) rfl)) rfl
theorem cv_X6_253 : cb_CV RX6 253 yX3_renew cX3_renew 3 none 2 := ⟨wd_765, wd_762, wd_763, wd_764, wd_69, ⟨by decide +kernel, by decide +kernel, by decide +kernel⟩, by decide⟩
theorem wd_761 : Cond.code ⟨"CabbageCradles", "sheet", "(III)I"⟩ prog_1_method_29_code 4 (Option.some .int) ∈ cb_ws := cb_wt (cb_t3 _ (List.mem_of_getElem? (i := 217) rfl)) rfl
theorem fp_X6_126 : cb_FP RX6 126 3 2 := ⟨RX3, TX3, 3, tyX3, rfl, by decide, wi_X3, wd_169, tyX3_ok, nmX3, rfl, by decide +kernel⟩
theorem wd_770 : Cond.code ⟨"CabbageCradles", "lose", "(I)I"⟩ prog_1_method_30_code 4 (Option.some .int) ∈ cb_ws := cb_wt (cb_t3 _ (List.mem_of_getElem? (i := 226) rfl)) rfl
theorem wd_775 : Cond.methodLink "CabbageCradles" 257 ⟨"CabbageCradles", "whatIsWrong", "(LCabbageCradles$Sheet;II)I"⟩ ∈ cb_ws := cb_wt (cb_t3 _ (List.mem_of_getElem? (i := 231) rfl)) rfl
theorem wd_776 : Cond.static ⟨"CabbageCradles", "whatIsWrong", "(LCabbageCradles$Sheet;II)I"⟩ ∈ cb_ws := cb_wt (cb_t3 _ (List.mem_of_getElem? (i := 232) rfl)) rfl
theorem cs_X6_257 : cb_CS RX6 257 yX6_whatIsWrong cX6_whatIsWrong 3 (some .int) 3 := ⟨wd_777, wd_775, wd_776, wd_65, ⟨by decide +kernel, by decide +kernel, by decide +kernel⟩, by decide⟩
theorem wd_778 : Cond.methodLink "CabbageCradles" 261 ⟨"CabbageCradles$Sheet", "put", "(II)V"⟩ ∈ cb_ws := cb_wt (cb_t3 _ (List.mem_of_getElem? (i := 234) rfl)) rfl
theorem wd_779 : Cond.instanceMethod ⟨"CabbageCradles$Sheet", "put", "(II)V"⟩ ∈ cb_ws := cb_wt (cb_t3 _ (List.mem_of_getElem? (i := 235) rfl)) rfl
theorem wd_780 : Cond.selects "CabbageCradles$Sheet" ⟨"CabbageCradles$Sheet", "put", "(II)V"⟩ ⟨"CabbageCradles$Sheet", "put", "(II)V"⟩ ∈ cb_ws := cb_wt (cb_t3 _ (List.mem_of_getElem? (i := 236) rfl)) rfl
theorem cv_X6_261 : cb_CV RX6 261 yX3_put cX3_put 3 none 2 := ⟨wd_781, wd_778, wd_779, wd_780, wd_69, ⟨by decide +kernel, by decide +kernel, by decide +kernel⟩, by decide⟩
theorem wd_774 : Cond.code ⟨"CabbageCradles", "lay", "(IIII)I"⟩ prog_1_method_31_code 6 (Option.some .int) ∈ cb_ws := cb_wt (cb_t3 _ (List.mem_of_getElem? (i := 230) rfl)) rfl
theorem wd_786 : Cond.constant "CabbageCradles" 264 (-2147483648) ∈ cb_ws := cb_wt (cb_t4 _ (List.mem_of_getElem? (i := 2) rfl)) rfl
theorem wd_785 : Cond.code ⟨"CabbageCradles", "get", "(III)I"⟩ prog_1_method_32_code 5 (Option.some .int) ∈ cb_ws := cb_wt (cb_t4 _ (List.mem_of_getElem? (i := 1) rfl)) rfl
theorem wd_791 : Cond.methodLink "CabbageCradles" 268 ⟨"CabbageCradles$Sheet", "hasRun", "(II)Z"⟩ ∈ cb_ws := cb_wt (cb_t4 _ (List.mem_of_getElem? (i := 7) rfl)) rfl
theorem wd_792 : Cond.instanceMethod ⟨"CabbageCradles$Sheet", "hasRun", "(II)Z"⟩ ∈ cb_ws := cb_wt (cb_t4 _ (List.mem_of_getElem? (i := 8) rfl)) rfl
theorem wd_793 : Cond.selects "CabbageCradles$Sheet" ⟨"CabbageCradles$Sheet", "hasRun", "(II)Z"⟩ ⟨"CabbageCradles$Sheet", "hasRun", "(II)Z"⟩ ∈ cb_ws := cb_wt (cb_t4 _ (List.mem_of_getElem? (i := 9) rfl)) rfl
theorem cv_X6_268 : cb_CV RX6 268 yX3_hasRun cX3_hasRun 3 (some .boolean) 2 := ⟨wd_794, wd_791, wd_792, wd_793, wd_69, ⟨by decide +kernel, by decide +kernel, by decide +kernel⟩, by decide⟩
theorem wd_165 : Cond.fieldLink "CabbageCradles" 271 "CabbageCradles$Sheet" "items" "[I" ∈ cb_ws := cb_wt (cb_t1 _ (List.mem_of_getElem? (i := 101) rfl)) rfl
theorem fa_X6_271 : cb_FA RX6 271 3 0 := ⟨RX3, TX3, 3, rfl, by decide, wi_X3, wd_165⟩
theorem wd_795 : Cond.methodLink "CabbageCradles" 274 ⟨"java/lang/System", "arraycopy", "(Ljava/lang/Object;ILjava/lang/Object;II)V"⟩ ∈ cb_ws := cb_wt (cb_t4 _ (List.mem_of_getElem? (i := 11) rfl)) rfl
theorem wd_790 : Cond.code ⟨"CabbageCradles", "copy", "(IIIII)I"⟩ prog_1_method_33_code 8 (Option.some .int) ∈ cb_ws := cb_wt (cb_t4 _ (List.mem_of_getElem? (i := 6) rfl)) rfl
theorem wd_799 : Cond.code ⟨"CabbageCradles", "write", "(II)I"⟩ prog_1_method_34_code 6 (Option.some .int) ∈ cb_ws := cb_wt (cb_t4 _ (List.mem_of_getElem? (i := 15) rfl)) rfl
theorem wd_120 : Cond.fieldLink "CabbageCradles" 283 "CabbageCradles$Text" "bytes" "LCabbageCradles$Row;" ∈ cb_ws := cb_wt (cb_t1 _ (List.mem_of_getElem? (i := 56) rfl)) rfl
theorem fa_X6_283 : cb_FA RX6 283 4 0 := ⟨RX4, TX4, 8, rfl, by decide, wi_X4, wd_120⟩
theorem wd_804 : Cond.methodLink "CabbageCradles" 286 ⟨"CabbageCradles", "children", "(I)I"⟩ ∈ cb_ws := cb_wt (cb_t4 _ (List.mem_of_getElem? (i := 20) rfl)) rfl
theorem wd_612 : Cond.instanceMethod ⟨"CabbageCradles", "children", "(I)I"⟩ ∈ cb_ws := cb_wt (cb_t3 _ (List.mem_of_getElem? (i := 68) rfl)) rfl
theorem wd_613 : Cond.selects "CabbageCradles" ⟨"CabbageCradles", "children", "(I)I"⟩ ⟨"CabbageCradles", "children", "(I)I"⟩ ∈ cb_ws := cb_wt (cb_t3 _ (List.mem_of_getElem? (i := 69) rfl)) rfl
theorem cv_X6_286 : cb_CV RX6 286 yX6_children cX6_children 2 (some .int) 1 := ⟨wd_614, wd_804, wd_612, wd_613, wd_65, ⟨by decide +kernel, by decide +kernel, by decide +kernel⟩, by decide⟩
theorem fa_X6_73 : cb_FA RX6 73 6 10 := ⟨RX6, TX6, 11, rfl, by decide, wi_X6, wd_293⟩
theorem wd_803 : Cond.code ⟨"CabbageCradles", "count", "(I)I"⟩ prog_1_method_35_code 2 (Option.some .int) ∈ cb_ws := cb_wt (cb_t4 _ (List.mem_of_getElem? (i := 19) rfl)) rfl
theorem wd_810 : Cond.constantLong "CabbageCradles" 291 31 ∈ cb_ws := cb_wt (cb_t4 _ (List.mem_of_getElem? (i := 26) rfl)) rfl
theorem wd_817 : Cond.methodLink "CabbageCradles" 320 ⟨"CabbageCradles", "head", "(II)I"⟩ ∈ cb_ws := cb_wt (cb_t4 _ (List.mem_of_getElem? (i := 33) rfl)) rfl
theorem wd_469 : Cond.instanceMethod ⟨"CabbageCradles", "head", "(II)I"⟩ ∈ cb_ws := cb_wt (cb_t2 _ (List.mem_of_getElem? (i := 165) rfl)) rfl
theorem wd_470 : Cond.selects "CabbageCradles" ⟨"CabbageCradles", "head", "(II)I"⟩ ⟨"CabbageCradles", "head", "(II)I"⟩ ∈ cb_ws := cb_wt (cb_t2 _ (List.mem_of_getElem? (i := 166) rfl)) rfl
theorem cv_X6_320 : cb_CV RX6 320 yX6_head cX6_head 3 (some .int) 2 := ⟨wd_471, wd_817, wd_469, wd_470, wd_65, ⟨by decide +kernel, by decide +kernel, by decide +kernel⟩, by decide⟩
theorem wd_818 : Cond.methodLink "CabbageCradles" 323 ⟨"CabbageCradles", "state", "(II)I"⟩ ∈ cb_ws := cb_wt (cb_t4 _ (List.mem_of_getElem? (i := 34) rfl)) rfl
theorem wd_517 : Cond.instanceMethod ⟨"CabbageCradles", "state", "(II)I"⟩ ∈ cb_ws := cb_wt (cb_t2 _ (List.mem_of_getElem? (i := 213) rfl)) rfl
theorem wd_518 : Cond.selects "CabbageCradles" ⟨"CabbageCradles", "state", "(II)I"⟩ ⟨"CabbageCradles", "state", "(II)I"⟩ ∈ cb_ws := cb_wt (cb_t2 _ (List.mem_of_getElem? (i := 214) rfl)) rfl
theorem cv_X6_323 : cb_CV RX6 323 yX6_state cX6_state 3 (some .int) 2 := ⟨wd_519, wd_818, wd_517, wd_518, wd_65, ⟨by decide +kernel, by decide +kernel, by decide +kernel⟩, by decide⟩
theorem wd_819 : Cond.methodLink "CabbageCradles" 326 ⟨"CabbageCradles", "lifted", "(II)I"⟩ ∈ cb_ws := cb_wt (cb_t4 _ (List.mem_of_getElem? (i := 35) rfl)) rfl
theorem wd_598 : Cond.instanceMethod ⟨"CabbageCradles", "lifted", "(II)I"⟩ ∈ cb_ws := cb_wt (cb_t3 _ (List.mem_of_getElem? (i := 54) rfl)) rfl
theorem wd_599 : Cond.selects "CabbageCradles" ⟨"CabbageCradles", "lifted", "(II)I"⟩ ⟨"CabbageCradles", "lifted", "(II)I"⟩ ∈ cb_ws := cb_wt (cb_t3 _ (List.mem_of_getElem? (i := 55) rfl)) rfl
theorem cv_X6_326 : cb_CV RX6 326 yX6_lifted cX6_lifted 4 (some .int) 2 := ⟨wd_600, wd_819, wd_598, wd_599, wd_65, ⟨by decide +kernel, by decide +kernel, by decide +kernel⟩, by decide⟩
theorem wd_820 : Cond.methodLink "CabbageCradles" 329 ⟨"CabbageCradles", "sow", "(II)I"⟩ ∈ cb_ws := cb_wt (cb_t4 _ (List.mem_of_getElem? (i := 36) rfl)) rfl
theorem wd_674 : Cond.instanceMethod ⟨"CabbageCradles", "sow", "(II)I"⟩ ∈ cb_ws := cb_wt (cb_t3 _ (List.mem_of_getElem? (i := 130) rfl)) rfl
theorem wd_675 : Cond.selects "CabbageCradles" ⟨"CabbageCradles", "sow", "(II)I"⟩ ⟨"CabbageCradles", "sow", "(II)I"⟩ ∈ cb_ws := cb_wt (cb_t3 _ (List.mem_of_getElem? (i := 131) rfl)) rfl
theorem cv_X6_329 : cb_CV RX6 329 yX6_sow cX6_sow 6 (some .int) 2 := ⟨wd_676, wd_820, wd_674, wd_675, wd_65, ⟨by decide +kernel, by decide +kernel, by decide +kernel⟩, by decide⟩
theorem wd_821 : Cond.methodLink "CabbageCradles" 332 ⟨"CabbageCradles", "was", "(II)I"⟩ ∈ cb_ws := cb_wt (cb_t4 _ (List.mem_of_getElem? (i := 37) rfl)) rfl
theorem wd_703 : Cond.instanceMethod ⟨"CabbageCradles", "was", "(II)I"⟩ ∈ cb_ws := cb_wt (cb_t3 _ (List.mem_of_getElem? (i := 159) rfl)) rfl
theorem wd_704 : Cond.selects "CabbageCradles" ⟨"CabbageCradles", "was", "(II)I"⟩ ⟨"CabbageCradles", "was", "(II)I"⟩ ∈ cb_ws := cb_wt (cb_t3 _ (List.mem_of_getElem? (i := 160) rfl)) rfl
theorem cv_X6_332 : cb_CV RX6 332 yX6_was cX6_was 3 (some .int) 2 := ⟨wd_705, wd_821, wd_703, wd_704, wd_65, ⟨by decide +kernel, by decide +kernel, by decide +kernel⟩, by decide⟩
theorem wd_822 : Cond.methodLink "CabbageCradles" 335 ⟨"CabbageCradles", "ask", "(I)I"⟩ ∈ cb_ws := cb_wt (cb_t4 _ (List.mem_of_getElem? (i := 38) rfl)) rfl
theorem wd_715 : Cond.instanceMethod ⟨"CabbageCradles", "ask", "(I)I"⟩ ∈ cb_ws := cb_wt (cb_t3 _ (List.mem_of_getElem? (i := 171) rfl)) rfl
theorem wd_716 : Cond.selects "CabbageCradles" ⟨"CabbageCradles", "ask", "(I)I"⟩ ⟨"CabbageCradles", "ask", "(I)I"⟩ ∈ cb_ws := cb_wt (cb_t3 _ (List.mem_of_getElem? (i := 172) rfl)) rfl
theorem cv_X6_335 : cb_CV RX6 335 yX6_ask cX6_ask 3 (some .int) 1 := ⟨wd_717, wd_822, wd_715, wd_716, wd_65, ⟨by decide +kernel, by decide +kernel, by decide +kernel⟩, by decide⟩
theorem wd_816 : Cond.code ⟨"CabbageCradles", "digestHead", "(JI)J"⟩ prog_1_method_37_code 7 (Option.some .long) ∈ cb_ws := cb_wt (cb_t4 _ (List.mem_of_getElem? (i := 32) rfl)) rfl
theorem wd_827 : Cond.methodLink "CabbageCradles" 338 ⟨"CabbageCradles", "couple", "(II)I"⟩ ∈ cb_ws := cb_wt (cb_t4 _ (List.mem_of_getElem? (i := 43) rfl)) rfl
theorem wd_477 : Cond.instanceMethod ⟨"CabbageCradles", "couple", "(II)I"⟩ ∈ cb_ws := cb_wt (cb_t2 _ (List.mem_of_getElem? (i := 173) rfl)) rfl
theorem wd_478 : Cond.selects "CabbageCradles" ⟨"CabbageCradles", "couple", "(II)I"⟩ ⟨"CabbageCradles", "couple", "(II)I"⟩ ∈ cb_ws := cb_wt (cb_t2 _ (List.mem_of_getElem? (i := 174) rfl)) rfl
theorem cv_X6_338 : cb_CV RX6 338 yX6_couple cX6_couple 3 (some .int) 2 := ⟨wd_479, wd_827, wd_477, wd_478, wd_65, ⟨by decide +kernel, by decide +kernel, by decide +kernel⟩, by decide⟩
theorem wd_828 : Cond.methodLink "CabbageCradles" 341 ⟨"CabbageCradles", "gets", "(II)I"⟩ ∈ cb_ws := cb_wt (cb_t4 _ (List.mem_of_getElem? (i := 44) rfl)) rfl
theorem wd_603 : Cond.instanceMethod ⟨"CabbageCradles", "gets", "(II)I"⟩ ∈ cb_ws := cb_wt (cb_t3 _ (List.mem_of_getElem? (i := 59) rfl)) rfl
theorem wd_604 : Cond.selects "CabbageCradles" ⟨"CabbageCradles", "gets", "(II)I"⟩ ⟨"CabbageCradles", "gets", "(II)I"⟩ ∈ cb_ws := cb_wt (cb_t3 _ (List.mem_of_getElem? (i := 60) rfl)) rfl
theorem cv_X6_341 : cb_CV RX6 341 yX6_gets cX6_gets 3 (some .int) 2 := ⟨wd_605, wd_828, wd_603, wd_604, wd_65, ⟨by decide +kernel, by decide +kernel, by decide +kernel⟩, by decide⟩
theorem wd_829 : Cond.methodLink "CabbageCradles" 344 ⟨"CabbageCradles", "keep", "(II)I"⟩ ∈ cb_ws := cb_wt (cb_t4 _ (List.mem_of_getElem? (i := 45) rfl)) rfl
theorem wd_663 : Cond.instanceMethod ⟨"CabbageCradles", "keep", "(II)I"⟩ ∈ cb_ws := cb_wt (cb_t3 _ (List.mem_of_getElem? (i := 119) rfl)) rfl
theorem wd_664 : Cond.selects "CabbageCradles" ⟨"CabbageCradles", "keep", "(II)I"⟩ ⟨"CabbageCradles", "keep", "(II)I"⟩ ∈ cb_ws := cb_wt (cb_t3 _ (List.mem_of_getElem? (i := 120) rfl)) rfl
theorem cv_X6_344 : cb_CV RX6 344 yX6_keep cX6_keep 4 (some .int) 2 := ⟨wd_665, wd_829, wd_663, wd_664, wd_65, ⟨by decide +kernel, by decide +kernel, by decide +kernel⟩, by decide⟩
theorem wd_830 : Cond.methodLink "CabbageCradles" 347 ⟨"CabbageCradles", "come", "(II)I"⟩ ∈ cb_ws := cb_wt (cb_t4 _ (List.mem_of_getElem? (i := 46) rfl)) rfl
theorem wd_682 : Cond.instanceMethod ⟨"CabbageCradles", "come", "(II)I"⟩ ∈ cb_ws := cb_wt (cb_t3 _ (List.mem_of_getElem? (i := 138) rfl)) rfl
theorem wd_683 : Cond.selects "CabbageCradles" ⟨"CabbageCradles", "come", "(II)I"⟩ ⟨"CabbageCradles", "come", "(II)I"⟩ ∈ cb_ws := cb_wt (cb_t3 _ (List.mem_of_getElem? (i := 139) rfl)) rfl
theorem cv_X6_347 : cb_CV RX6 347 yX6_come cX6_come 7 (some .int) 2 := ⟨wd_684, wd_830, wd_682, wd_683, wd_65, ⟨by decide +kernel, by decide +kernel, by decide +kernel⟩, by decide⟩
theorem wd_831 : Cond.methodLink "CabbageCradles" 350 ⟨"CabbageCradles", "chill", "(IIII)J"⟩ ∈ cb_ws := cb_wt (cb_t4 _ (List.mem_of_getElem? (i := 47) rfl)) rfl
theorem wd_729 : Cond.instanceMethod ⟨"CabbageCradles", "chill", "(IIII)J"⟩ ∈ cb_ws := cb_wt (cb_t3 _ (List.mem_of_getElem? (i := 185) rfl)) rfl
theorem wd_730 : Cond.selects "CabbageCradles" ⟨"CabbageCradles", "chill", "(IIII)J"⟩ ⟨"CabbageCradles", "chill", "(IIII)J"⟩ ∈ cb_ws := cb_wt (cb_t3 _ (List.mem_of_getElem? (i := 186) rfl)) rfl
theorem cv_X6_350 : cb_CV RX6 350 yX6_chill cX6_chill 10 (some .long) 4 := ⟨wd_731, wd_831, wd_729, wd_730, wd_65, ⟨by decide +kernel, by decide +kernel, by decide +kernel⟩, by decide⟩
theorem wd_826 : Cond.code ⟨"CabbageCradles", "digestCouple", "(JI)J"⟩ prog_1_method_38_code 7 (Option.some .long) ∈ cb_ws := cb_wt (cb_t4 _ (List.mem_of_getElem? (i := 42) rfl)) rfl
theorem wd_809 : Cond.constantLong "CabbageCradles" 289 17 ∈ cb_ws := cb_wt (cb_t4 _ (List.mem_of_getElem? (i := 25) rfl)) rfl
theorem wd_811 : Cond.methodLink "CabbageCradles" 293 ⟨"CabbageCradles", "count", "(I)I"⟩ ∈ cb_ws := cb_wt (cb_t4 _ (List.mem_of_getElem? (i := 27) rfl)) rfl
theorem wd_801 : Cond.instanceMethod ⟨"CabbageCradles", "count", "(I)I"⟩ ∈ cb_ws := cb_wt (cb_t4 _ (List.mem_of_getElem? (i := 17) rfl)) rfl
theorem wd_802 : Cond.selects "CabbageCradles" ⟨"CabbageCradles", "count", "(I)I"⟩ ⟨"CabbageCradles", "count", "(I)I"⟩ ∈ cb_ws := cb_wt (cb_t4 _ (List.mem_of_getElem? (i := 18) rfl)) rfl
theorem cv_X6_293 : cb_CV RX6 293 yX6_count cX6_count 2 (some .int) 1 := ⟨wd_803, wd_811, wd_801, wd_802, wd_65, ⟨by decide +kernel, by decide +kernel, by decide +kernel⟩, by decide⟩
theorem wd_812 : Cond.methodLink "CabbageCradles" 296 ⟨"CabbageCradles", "fault", "(I)I"⟩ ∈ cb_ws := cb_wt (cb_t4 _ (List.mem_of_getElem? (i := 28) rfl)) rfl
theorem wd_465 : Cond.instanceMethod ⟨"CabbageCradles", "fault", "(I)I"⟩ ∈ cb_ws := cb_wt (cb_t2 _ (List.mem_of_getElem? (i := 161) rfl)) rfl
theorem wd_466 : Cond.selects "CabbageCradles" ⟨"CabbageCradles", "fault", "(I)I"⟩ ⟨"CabbageCradles", "fault", "(I)I"⟩ ∈ cb_ws := cb_wt (cb_t2 _ (List.mem_of_getElem? (i := 162) rfl)) rfl
theorem cv_X6_296 : cb_CV RX6 296 yX6_fault cX6_fault 2 (some .int) 1 := ⟨wd_467, wd_812, wd_465, wd_466, wd_65, ⟨by decide +kernel, by decide +kernel, by decide +kernel⟩, by decide⟩
theorem wd_813 : Cond.methodLink "CabbageCradles" 298 ⟨"CabbageCradles", "digestHead", "(JI)J"⟩ ∈ cb_ws := cb_wt (cb_t4 _ (List.mem_of_getElem? (i := 29) rfl)) rfl
theorem wd_815 : Cond.instanceMethod ⟨"CabbageCradles", "digestHead", "(JI)J"⟩ ∈ cb_ws := cb_wt (cb_t4 _ (List.mem_of_getElem? (i := 31) rfl)) rfl
theorem wd_26 : Cond.selects "CabbageCradles" ⟨"CabbageCradles", "digestHead", "(JI)J"⟩ ⟨"CabbageCradles", "digestHead", "(JI)J"⟩ ∈ cb_ws := cb_wt (List.mem_of_getElem? (i := 26) (by rfl)) rfl
theorem cv_X6_298 : cb_CV RX6 298 yX6_digestHead cX6_digestHead 7 (some .long) 2 := ⟨wd_816, wd_813, wd_815, wd_26, wd_65, ⟨by decide +kernel, by decide +kernel, by decide +kernel⟩, by decide⟩
theorem wd_823 : Cond.methodLink "CabbageCradles" 302 ⟨"CabbageCradles", "digestCouple", "(JI)J"⟩ ∈ cb_ws := cb_wt (cb_t4 _ (List.mem_of_getElem? (i := 39) rfl)) rfl
theorem wd_825 : Cond.instanceMethod ⟨"CabbageCradles", "digestCouple", "(JI)J"⟩ ∈ cb_ws := cb_wt (cb_t4 _ (List.mem_of_getElem? (i := 41) rfl)) rfl
theorem wd_27 : Cond.selects "CabbageCradles" ⟨"CabbageCradles", "digestCouple", "(JI)J"⟩ ⟨"CabbageCradles", "digestCouple", "(JI)J"⟩ ∈ cb_ws := cb_wt (List.mem_of_getElem? (i := 27) (by rfl)) rfl
theorem cv_X6_302 : cb_CV RX6 302 yX6_digestCouple cX6_digestCouple 7 (some .long) 2 := ⟨wd_826, wd_823, wd_825, wd_27, wd_65, ⟨by decide +kernel, by decide +kernel, by decide +kernel⟩, by decide⟩
theorem wd_832 : Cond.methodLink "CabbageCradles" 305 ⟨"CabbageCradles", "without", "()I"⟩ ∈ cb_ws := cb_wt (cb_t4 _ (List.mem_of_getElem? (i := 48) rfl)) rfl
theorem wd_620 : Cond.instanceMethod ⟨"CabbageCradles", "without", "()I"⟩ ∈ cb_ws := cb_wt (cb_t3 _ (List.mem_of_getElem? (i := 76) rfl)) rfl
theorem wd_621 : Cond.selects "CabbageCradles" ⟨"CabbageCradles", "without", "()I"⟩ ⟨"CabbageCradles", "without", "()I"⟩ ∈ cb_ws := cb_wt (cb_t3 _ (List.mem_of_getElem? (i := 77) rfl)) rfl
theorem cv_X6_305 : cb_CV RX6 305 yX6_without cX6_without 1 (some .int) 0 := ⟨wd_622, wd_832, wd_620, wd_621, wd_65, ⟨by decide +kernel, by decide +kernel, by decide +kernel⟩, by decide⟩
theorem wd_833 : Cond.methodLink "CabbageCradles" 308 ⟨"CabbageCradles", "turn", "(I)I"⟩ ∈ cb_ws := cb_wt (cb_t4 _ (List.mem_of_getElem? (i := 49) rfl)) rfl
theorem wd_624 : Cond.instanceMethod ⟨"CabbageCradles", "turn", "(I)I"⟩ ∈ cb_ws := cb_wt (cb_t3 _ (List.mem_of_getElem? (i := 80) rfl)) rfl
theorem wd_625 : Cond.selects "CabbageCradles" ⟨"CabbageCradles", "turn", "(I)I"⟩ ⟨"CabbageCradles", "turn", "(I)I"⟩ ∈ cb_ws := cb_wt (cb_t3 _ (List.mem_of_getElem? (i := 81) rfl)) rfl
theorem cv_X6_308 : cb_CV RX6 308 yX6_turn cX6_turn 3 (some .int) 1 := ⟨wd_626, wd_833, wd_624, wd_625, wd_65, ⟨by decide +kernel, by decide +kernel, by decide +kernel⟩, by decide⟩
theorem wd_834 : Cond.methodLink "CabbageCradles" 311 ⟨"CabbageCradles", "met", "()I"⟩ ∈ cb_ws := cb_wt (cb_t4 _ (List.mem_of_getElem? (i := 50) rfl)) rfl
theorem wd_648 : Cond.instanceMethod ⟨"CabbageCradles", "met", "()I"⟩ ∈ cb_ws := cb_wt (cb_t3 _ (List.mem_of_getElem? (i := 104) rfl)) rfl
theorem wd_649 : Cond.selects "CabbageCradles" ⟨"CabbageCradles", "met", "()I"⟩ ⟨"CabbageCradles", "met", "()I"⟩ ∈ cb_ws := cb_wt (cb_t3 _ (List.mem_of_getElem? (i := 105) rfl)) rfl
theorem cv_X6_311 : cb_CV RX6 311 yX6_met cX6_met 4 (some .int) 0 := ⟨wd_650, wd_834, wd_648, wd_649, wd_65, ⟨by decide +kernel, by decide +kernel, by decide +kernel⟩, by decide⟩
theorem wd_835 : Cond.methodLink "CabbageCradles" 314 ⟨"CabbageCradles", "never", "()I"⟩ ∈ cb_ws := cb_wt (cb_t4 _ (List.mem_of_getElem? (i := 51) rfl)) rfl
theorem wd_695 : Cond.instanceMethod ⟨"CabbageCradles", "never", "()I"⟩ ∈ cb_ws := cb_wt (cb_t3 _ (List.mem_of_getElem? (i := 151) rfl)) rfl
theorem wd_696 : Cond.selects "CabbageCradles" ⟨"CabbageCradles", "never", "()I"⟩ ⟨"CabbageCradles", "never", "()I"⟩ ∈ cb_ws := cb_wt (cb_t3 _ (List.mem_of_getElem? (i := 152) rfl)) rfl
theorem cv_X6_314 : cb_CV RX6 314 yX6_never cX6_never 3 (some .int) 0 := ⟨wd_697, wd_835, wd_695, wd_696, wd_65, ⟨by decide +kernel, by decide +kernel, by decide +kernel⟩, by decide⟩
theorem wd_836 : Cond.methodLink "CabbageCradles" 317 ⟨"CabbageCradles", "year", "(II)I"⟩ ∈ cb_ws := cb_wt (cb_t4 _ (List.mem_of_getElem? (i := 52) rfl)) rfl
theorem wd_754 : Cond.instanceMethod ⟨"CabbageCradles", "year", "(II)I"⟩ ∈ cb_ws := cb_wt (cb_t3 _ (List.mem_of_getElem? (i := 210) rfl)) rfl
theorem wd_755 : Cond.selects "CabbageCradles" ⟨"CabbageCradles", "year", "(II)I"⟩ ⟨"CabbageCradles", "year", "(II)I"⟩ ∈ cb_ws := cb_wt (cb_t3 _ (List.mem_of_getElem? (i := 211) rfl)) rfl
theorem cv_X6_317 : cb_CV RX6 317 yX6_year cX6_year 5 (some .int) 2 := ⟨wd_756, wd_836, wd_754, wd_755, wd_65, ⟨by decide +kernel, by decide +kernel, by decide +kernel⟩, by decide⟩
theorem wd_808 : Cond.code ⟨"CabbageCradles", "digest", "()J"⟩ prog_1_method_36_code 6 (Option.some .long) ∈ cb_ws := cb_wt (cb_t4 _ (List.mem_of_getElem? (i := 24) rfl)) rfl
