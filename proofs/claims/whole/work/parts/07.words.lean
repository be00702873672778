theorem wd_323 : Cond.code ⟨"CabbageCradles", "isOff", "(II)Z"⟩ prog_1_method_39_code 2 (Option.some .boolean) ∈ cb_ws := cb_wt (cb_t2 _ (List.mem_of_getElem? (i := 19) rfl)) rfl
theorem wd_108 : Cond.fieldLink "CabbageCradles$Row" 21 "CabbageCradles$Row" "size" "I" ∈ cb_ws := cb_wt (cb_t1 _ (List.mem_of_getElem? (i := 44) rfl)) rfl
theorem wi_X2 : ∀ x ∈ u_ws RX2 TX2 2, x ∈ cb_ws := fun x h => List.mem_filter.mpr ⟨(show ∀ x ∈ u_ws RX2 TX2 2, x ∈ lw_tbl by decide +kernel) x h, (show ∀ x ∈ u_ws RX2 TX2 2, goodWord x = true by decide +kernel) x h⟩
theorem fa_X2_21 : cb_FA RX2 21 2 1 := ⟨RX2, TX2, 2, rfl, by decide, wi_X2, wd_108⟩
theorem wd_65 : Cond.initialized "CabbageCradles" ∈ cb_ws := cb_wt (cb_t1 _ (List.mem_of_getElem? (i := 1) rfl)) rfl
theorem wn_348 : Cond.methodLinkNest "CabbageCradles$Row" 25 ⟨"CabbageCradles", "isOff", "(II)Z"⟩ "CabbageCradles" ∈ cb_nest := List.mem_filter.mpr ⟨cb_t2 _ (List.mem_of_getElem? (i := 44) rfl), rfl⟩
theorem wd_322 : Cond.static ⟨"CabbageCradles", "isOff", "(II)Z"⟩ ∈ cb_ws := cb_wt (cb_t2 _ (List.mem_of_getElem? (i := 18) rfl)) rfl
theorem cn_X2_25 : cb_CN RX2 25 yX6_isOff cX6_isOff 2 (some .boolean) 2 "CabbageCradles" := ⟨wd_323, wn_348, wd_322, wd_65, ⟨by decide +kernel, by decide +kernel, by decide +kernel⟩, by decide⟩
theorem wd_107 : Cond.fieldLink "CabbageCradles$Row" 15 "CabbageCradles$Row" "items" "[I" ∈ cb_ws := cb_wt (cb_t1 _ (List.mem_of_getElem? (i := 43) rfl)) rfl
theorem fa_X2_15 : cb_FA RX2 15 2 0 := ⟨RX2, TX2, 2, rfl, by decide, wi_X2, wd_107⟩
theorem wd_347 : Cond.code ⟨"CabbageCradles$Row", "at", "(I)I"⟩ prog_4_method_2_code 2 (Option.some .int) ∈ cb_ws := cb_wt (cb_t2 _ (List.mem_of_getElem? (i := 43) rfl)) rfl
theorem fp_X2_21 : cb_FP RX2 21 2 1 := ⟨RX2, TX2, 2, tyX2, rfl, by decide, wi_X2, wd_108, tyX2_ok, nmX2, rfl, by decide +kernel⟩
theorem wd_335 : Cond.code ⟨"CabbageCradles$Row", "add", "(I)I"⟩ prog_4_method_3_code 2 (Option.some .int) ∈ cb_ws := cb_wt (cb_t2 _ (List.mem_of_getElem? (i := 31) rfl)) rfl
theorem wd_464 : Cond.code ⟨"CabbageCradles$Row", "dropLast", "()I"⟩ prog_4_method_4_code 1 (Option.some .int) ∈ cb_ws := cb_wt (cb_t2 _ (List.mem_of_getElem? (i := 160) rfl)) rfl
theorem wd_452 : Cond.code ⟨"CabbageCradles$Row", "clear", "()I"⟩ prog_4_method_5_code 2 (Option.some .int) ∈ cb_ws := cb_wt (cb_t2 _ (List.mem_of_getElem? (i := 148) rfl)) rfl
theorem wd_585 : Cond.code ⟨"CabbageCradles", "leastBit", "(I)I"⟩ prog_1_method_45_code 2 (Option.some .int) ∈ cb_ws := cb_wt (cb_t3 _ (List.mem_of_getElem? (i := 41) rfl)) rfl
theorem wd_655 : Cond.constant "java/lang/Integer" 265 1431655765 ∈ cb_ws := cb_wt (cb_t3 _ (List.mem_of_getElem? (i := 111) rfl)) rfl
theorem wd_656 : Cond.constant "java/lang/Integer" 266 858993459 ∈ cb_ws := cb_wt (cb_t3 _ (List.mem_of_getElem? (i := 112) rfl)) rfl
theorem wd_657 : Cond.constant "java/lang/Integer" 267 252645135 ∈ cb_ws := cb_wt (cb_t3 _ (List.mem_of_getElem? (i := 113) rfl)) rfl
theorem wd_654 : Cond.code ⟨"java/lang/Integer", "bitCount", "(I)I"⟩ prog_11_method_49_code 1 (Option.some .int) ∈ cb_ws := cb_wt (cb_t3 _ (List.mem_of_getElem? (i := 110) rfl)) rfl
theorem wd_551 : Cond.code ⟨"java/util/Arrays", "fill", "([II)V"⟩ prog_17_method_103_code 4 (Option.none) ∈ cb_ws := cb_wt (cb_t3 _ (List.mem_of_getElem? (i := 7) rfl)) rfl
theorem wd_948 : Cond.code ⟨"CabbageCradlesModel", "in", "(JJJ)Z"⟩ prog_9_method_3_code 6 (Option.some .boolean) ∈ cb_ws := cb_wt (cb_t4 _ (List.mem_of_getElem? (i := 164) rfl)) rfl
theorem wd_1244 : Cond.constantLong "CabbageCradlesModel" 77 (-9223372036854775808) ∈ cb_ws := cb_wt (cb_t5 _ (List.mem_of_getElem? (i := 220) rfl)) rfl
theorem wd_1243 : Cond.code ⟨"CabbageCradlesModel", "no", "(I)J"⟩ prog_9_method_4_code 1 (Option.some .long) ∈ cb_ws := cb_wt (cb_t5 _ (List.mem_of_getElem? (i := 219) rfl)) rfl
theorem wd_73 : Cond.initialized "CabbageCradlesModel" ∈ cb_ws := cb_wt (cb_t1 _ (List.mem_of_getElem? (i := 9) rfl)) rfl
theorem wd_946 : Cond.methodLink "CabbageCradlesModel" 79 ⟨"CabbageCradlesModel", "in", "(JJJ)Z"⟩ ∈ cb_ws := cb_wt (cb_t4 _ (List.mem_of_getElem? (i := 162) rfl)) rfl
theorem wd_947 : Cond.static ⟨"CabbageCradlesModel", "in", "(JJJ)Z"⟩ ∈ cb_ws := cb_wt (cb_t4 _ (List.mem_of_getElem? (i := 163) rfl)) rfl
theorem cs_X7_79 : cb_CS RX7 79 yX7_in cX7_in 6 (some .boolean) 3 := ⟨wd_948, wd_946, wd_947, wd_73, ⟨by decide +kernel, by decide +kernel, by decide +kernel⟩, by decide⟩
theorem wd_984 : Cond.code ⟨"CabbageCradlesModel", "isTwo", "(I)Z"⟩ prog_9_method_5_code 1 (Option.some .boolean) ∈ cb_ws := cb_wt (cb_t4 _ (List.mem_of_getElem? (i := 200) rfl)) rfl
theorem wd_1076 : Cond.code ⟨"CabbageCradlesModel", "isIn", "(II)Z"⟩ prog_9_method_6_code 2 (Option.some .boolean) ∈ cb_ws := cb_wt (cb_t5 _ (List.mem_of_getElem? (i := 52) rfl)) rfl
theorem wd_1182 : Cond.code ⟨"CabbageCradlesModel", "ones", "(I)I"⟩ prog_9_method_7_code 3 (Option.some .int) ∈ cb_ws := cb_wt (cb_t5 _ (List.mem_of_getElem? (i := 158) rfl)) rfl
theorem wd_1264 : Cond.code ⟨"CabbageCradlesModel", "lesser", "(II)I"⟩ prog_9_method_8_code 2 (Option.some .int) ∈ cb_ws := cb_wt (cb_t6 _ (List.mem_of_getElem? (i := 0) rfl)) rfl
theorem wd_1158 : Cond.code ⟨"CabbageCradlesModel", "greater", "(II)I"⟩ prog_9_method_9_code 2 (Option.some .int) ∈ cb_ws := cb_wt (cb_t5 _ (List.mem_of_getElem? (i := 134) rfl)) rfl
theorem wd_1240 : Cond.code ⟨"CabbageCradlesModel", "part", "(JJI)J"⟩ prog_9_method_10_code 11 (Option.some .long) ∈ cb_ws := cb_wt (cb_t5 _ (List.mem_of_getElem? (i := 216) rfl)) rfl
theorem wd_848 : Cond.fieldLink "CabbageCradlesModel" 83 "CabbageCradlesModel" "latest" "I" ∈ cb_ws := cb_wt (cb_t4 _ (List.mem_of_getElem? (i := 64) rfl)) rfl
theorem wi_X7 : ∀ x ∈ u_ws RX7 TX7 31, x ∈ cb_ws := fun x h => List.mem_filter.mpr ⟨(show ∀ x ∈ u_ws RX7 TX7 31, x ∈ lw_tbl by decide +kernel) x h, (show ∀ x ∈ u_ws RX7 TX7 31, goodWord x = true by decide +kernel) x h⟩
theorem fp_X7_83 : cb_FP RX7 83 7 4 := ⟨RX7, TX7, 31, tyX7, rfl, by decide, wi_X7, wd_848, tyX7_ok, nmX7, rfl, by decide +kernel⟩
theorem wd_953 : Cond.code ⟨"CabbageCradlesModel", "finds", "(I)I"⟩ prog_9_method_11_code 2 (Option.some .int) ∈ cb_ws := cb_wt (cb_t4 _ (List.mem_of_getElem? (i := 169) rfl)) rfl
theorem wd_945 : Cond.constantLong "CabbageCradlesModel" 86 3 ∈ cb_ws := cb_wt (cb_t4 _ (List.mem_of_getElem? (i := 161) rfl)) rfl
theorem wd_944 : Cond.code ⟨"CabbageCradlesModel", "isSheet", "(I)Z"⟩ prog_9_method_12_code 1 (Option.some .boolean) ∈ cb_ws := cb_wt (cb_t4 _ (List.mem_of_getElem? (i := 160) rfl)) rfl
theorem wd_942 : Cond.methodLink "CabbageCradlesModel" 88 ⟨"CabbageCradlesModel", "isSheet", "(I)Z"⟩ ∈ cb_ws := cb_wt (cb_t4 _ (List.mem_of_getElem? (i := 158) rfl)) rfl
theorem wd_943 : Cond.static ⟨"CabbageCradlesModel", "isSheet", "(I)Z"⟩ ∈ cb_ws := cb_wt (cb_t4 _ (List.mem_of_getElem? (i := 159) rfl)) rfl
theorem cs_X7_88 : cb_CS RX7 88 yX7_isSheet cX7_isSheet 1 (some .boolean) 1 := ⟨wd_944, wd_942, wd_943, wd_73, ⟨by decide +kernel, by decide +kernel, by decide +kernel⟩, by decide⟩
theorem wd_949 : Cond.constantLong "CabbageCradlesModel" 92 2 ∈ cb_ws := cb_wt (cb_t4 _ (List.mem_of_getElem? (i := 165) rfl)) rfl
theorem wd_844 : Cond.fieldLink "CabbageCradlesModel" 7 "CabbageCradlesModel" "forms" "[I" ∈ cb_ws := cb_wt (cb_t4 _ (List.mem_of_getElem? (i := 60) rfl)) rfl
theorem fa_X7_7 : cb_FA RX7 7 7 0 := ⟨RX7, TX7, 31, rfl, by decide, wi_X7, wd_844⟩
theorem wd_845 : Cond.fieldLink "CabbageCradlesModel" 13 "CabbageCradlesModel" "sizes" "[I" ∈ cb_ws := cb_wt (cb_t4 _ (List.mem_of_getElem? (i := 61) rfl)) rfl
theorem fa_X7_13 : cb_FA RX7 13 7 1 := ⟨RX7, TX7, 31, rfl, by decide, wi_X7, wd_845⟩
theorem wd_846 : Cond.fieldLink "CabbageCradlesModel" 16 "CabbageCradlesModel" "items" "[I" ∈ cb_ws := cb_wt (cb_t4 _ (List.mem_of_getElem? (i := 62) rfl)) rfl
theorem fa_X7_16 : cb_FA RX7 16 7 2 := ⟨RX7, TX7, 31, rfl, by decide, wi_X7, wd_846⟩
theorem wd_950 : Cond.methodLink "CabbageCradlesModel" 94 ⟨"CabbageCradlesModel", "finds", "(I)I"⟩ ∈ cb_ws := cb_wt (cb_t4 _ (List.mem_of_getElem? (i := 166) rfl)) rfl
theorem wd_952 : Cond.instanceMethod ⟨"CabbageCradlesModel", "finds", "(I)I"⟩ ∈ cb_ws := cb_wt (cb_t4 _ (List.mem_of_getElem? (i := 168) rfl)) rfl
theorem wd_28 : Cond.selects "CabbageCradlesModel" ⟨"CabbageCradlesModel", "finds", "(I)I"⟩ ⟨"CabbageCradlesModel", "finds", "(I)I"⟩ ∈ cb_ws := cb_wt (List.mem_of_getElem? (i := 28) (by rfl)) rfl
theorem cv_X7_94 : cb_CV RX7 94 yX7_finds cX7_finds 2 (some .int) 1 := ⟨wd_953, wd_950, wd_952, wd_28, wd_73, ⟨by decide +kernel, by decide +kernel, by decide +kernel⟩, by decide⟩
theorem wd_941 : Cond.code ⟨"CabbageCradlesModel", "sheet", "(III)I"⟩ prog_9_method_13_code 5 (Option.some .int) ∈ cb_ws := cb_wt (cb_t4 _ (List.mem_of_getElem? (i := 157) rfl)) rfl
theorem wd_957 : Cond.code ⟨"CabbageCradlesModel", "lose", "(I)I"⟩ prog_9_method_14_code 2 (Option.some .int) ∈ cb_ws := cb_wt (cb_t4 _ (List.mem_of_getElem? (i := 173) rfl)) rfl
theorem wd_965 : Cond.code ⟨"CabbageCradlesModel", "lacks", "(III)I"⟩ prog_9_method_15_code 4 (Option.some .int) ∈ cb_ws := cb_wt (cb_t4 _ (List.mem_of_getElem? (i := 181) rfl)) rfl
theorem wd_968 : Cond.code ⟨"CabbageCradlesModel", "cut", "(II)I"⟩ prog_9_method_16_code 2 (Option.some .int) ∈ cb_ws := cb_wt (cb_t4 _ (List.mem_of_getElem? (i := 184) rfl)) rfl
theorem wd_962 : Cond.methodLink "CabbageCradlesModel" 98 ⟨"CabbageCradlesModel", "lacks", "(III)I"⟩ ∈ cb_ws := cb_wt (cb_t4 _ (List.mem_of_getElem? (i := 178) rfl)) rfl
theorem wd_964 : Cond.instanceMethod ⟨"CabbageCradlesModel", "lacks", "(III)I"⟩ ∈ cb_ws := cb_wt (cb_t4 _ (List.mem_of_getElem? (i := 180) rfl)) rfl
theorem wd_29 : Cond.selects "CabbageCradlesModel" ⟨"CabbageCradlesModel", "lacks", "(III)I"⟩ ⟨"CabbageCradlesModel", "lacks", "(III)I"⟩ ∈ cb_ws := cb_wt (List.mem_of_getElem? (i := 29) (by rfl)) rfl
theorem cv_X7_98 : cb_CV RX7 98 yX7_lacks cX7_lacks 4 (some .int) 3 := ⟨wd_965, wd_962, wd_964, wd_29, wd_73, ⟨by decide +kernel, by decide +kernel, by decide +kernel⟩, by decide⟩
theorem wd_966 : Cond.methodLink "CabbageCradlesModel" 102 ⟨"CabbageCradlesModel", "cut", "(II)I"⟩ ∈ cb_ws := cb_wt (cb_t4 _ (List.mem_of_getElem? (i := 182) rfl)) rfl
theorem wd_967 : Cond.static ⟨"CabbageCradlesModel", "cut", "(II)I"⟩ ∈ cb_ws := cb_wt (cb_t4 _ (List.mem_of_getElem? (i := 183) rfl)) rfl
theorem cs_X7_102 : cb_CS RX7 102 yX7_cut cX7_cut 2 (some .int) 2 := ⟨wd_968, wd_966, wd_967, wd_73, ⟨by decide +kernel, by decide +kernel, by decide +kernel⟩, by decide⟩
theorem wd_961 : Cond.code ⟨"CabbageCradlesModel", "lay", "(IIII)I"⟩ prog_9_method_17_code 6 (Option.some .int) ∈ cb_ws := cb_wt (cb_t4 _ (List.mem_of_getElem? (i := 177) rfl)) rfl
theorem wd_973 : Cond.constant "CabbageCradlesModel" 106 (-2147483648) ∈ cb_ws := cb_wt (cb_t4 _ (List.mem_of_getElem? (i := 189) rfl)) rfl
theorem wd_972 : Cond.code ⟨"CabbageCradlesModel", "get", "(III)I"⟩ prog_9_method_18_code 4 (Option.some .int) ∈ cb_ws := cb_wt (cb_t4 _ (List.mem_of_getElem? (i := 188) rfl)) rfl
theorem wd_847 : Cond.fieldLink "CabbageCradlesModel" 19 "CabbageCradlesModel" "moved" "[I" ∈ cb_ws := cb_wt (cb_t4 _ (List.mem_of_getElem? (i := 63) rfl)) rfl
theorem fa_X7_19 : cb_FA RX7 19 7 3 := ⟨RX7, TX7, 31, rfl, by decide, wi_X7, wd_847⟩
theorem wd_977 : Cond.code ⟨"CabbageCradlesModel", "copy", "(IIIII)I"⟩ prog_9_method_19_code 7 (Option.some .int) ∈ cb_ws := cb_wt (cb_t4 _ (List.mem_of_getElem? (i := 193) rfl)) rfl
theorem wd_982 : Cond.methodLink "CabbageCradlesModel" 107 ⟨"CabbageCradlesModel", "isTwo", "(I)Z"⟩ ∈ cb_ws := cb_wt (cb_t4 _ (List.mem_of_getElem? (i := 198) rfl)) rfl
theorem wd_983 : Cond.static ⟨"CabbageCradlesModel", "isTwo", "(I)Z"⟩ ∈ cb_ws := cb_wt (cb_t4 _ (List.mem_of_getElem? (i := 199) rfl)) rfl
theorem cs_X7_107 : cb_CS RX7 107 yX7_isTwo cX7_isTwo 1 (some .boolean) 1 := ⟨wd_984, wd_982, wd_983, wd_73, ⟨by decide +kernel, by decide +kernel, by decide +kernel⟩, by decide⟩
theorem wd_985 : Cond.constantLong "CabbageCradlesModel" 110 255 ∈ cb_ws := cb_wt (cb_t4 _ (List.mem_of_getElem? (i := 201) rfl)) rfl
theorem wd_850 : Cond.fieldLink "CabbageCradlesModel" 25 "CabbageCradlesModel" "typed" "[I" ∈ cb_ws := cb_wt (cb_t4 _ (List.mem_of_getElem? (i := 66) rfl)) rfl
theorem fa_X7_25 : cb_FA RX7 25 7 6 := ⟨RX7, TX7, 31, rfl, by decide, wi_X7, wd_850⟩
theorem wd_849 : Cond.fieldLink "CabbageCradlesModel" 22 "CabbageCradlesModel" "bytes" "[I" ∈ cb_ws := cb_wt (cb_t4 _ (List.mem_of_getElem? (i := 65) rfl)) rfl
theorem fa_X7_22 : cb_FA RX7 22 7 5 := ⟨RX7, TX7, 31, rfl, by decide, wi_X7, wd_849⟩
theorem wd_981 : Cond.code ⟨"CabbageCradlesModel", "type", "(II)I"⟩ prog_9_method_20_code 3 (Option.some .int) ∈ cb_ws := cb_wt (cb_t4 _ (List.mem_of_getElem? (i := 197) rfl)) rfl
theorem wd_989 : Cond.code ⟨"CabbageCradlesModel", "wipe", "(I)I"⟩ prog_9_method_21_code 3 (Option.some .int) ∈ cb_ws := cb_wt (cb_t4 _ (List.mem_of_getElem? (i := 205) rfl)) rfl
theorem wd_993 : Cond.code ⟨"CabbageCradlesModel", "undo", "(I)I"⟩ prog_9_method_22_code 2 (Option.some .int) ∈ cb_ws := cb_wt (cb_t4 _ (List.mem_of_getElem? (i := 209) rfl)) rfl
theorem wd_1007 : Cond.code ⟨"CabbageCradlesModel", "sortOf", "(I)I"⟩ prog_9_method_23_code 1 (Option.some .int) ∈ cb_ws := cb_wt (cb_t4 _ (List.mem_of_getElem? (i := 223) rfl)) rfl
theorem wd_1010 : Cond.code ⟨"CabbageCradlesModel", "figureOf", "(III)I"⟩ prog_9_method_24_code 3 (Option.some .int) ∈ cb_ws := cb_wt (cb_t4 _ (List.mem_of_getElem? (i := 226) rfl)) rfl
theorem wd_1008 : Cond.methodLink "CabbageCradlesModel" 115 ⟨"CabbageCradlesModel", "figureOf", "(III)I"⟩ ∈ cb_ws := cb_wt (cb_t4 _ (List.mem_of_getElem? (i := 224) rfl)) rfl
theorem wd_1009 : Cond.static ⟨"CabbageCradlesModel", "figureOf", "(III)I"⟩ ∈ cb_ws := cb_wt (cb_t4 _ (List.mem_of_getElem? (i := 225) rfl)) rfl
theorem cs_X7_115 : cb_CS RX7 115 yX7_figureOf cX7_figureOf 3 (some .int) 3 := ⟨wd_1010, wd_1008, wd_1009, wd_73, ⟨by decide +kernel, by decide +kernel, by decide +kernel⟩, by decide⟩
theorem wd_1005 : Cond.methodLink "CabbageCradlesModel" 112 ⟨"CabbageCradlesModel", "sortOf", "(I)I"⟩ ∈ cb_ws := cb_wt (cb_t4 _ (List.mem_of_getElem? (i := 221) rfl)) rfl
theorem wd_1006 : Cond.static ⟨"CabbageCradlesModel", "sortOf", "(I)I"⟩ ∈ cb_ws := cb_wt (cb_t4 _ (List.mem_of_getElem? (i := 222) rfl)) rfl
theorem cs_X7_112 : cb_CS RX7 112 yX7_sortOf cX7_sortOf 1 (some .int) 1 := ⟨wd_1007, wd_1005, wd_1006, wd_73, ⟨by decide +kernel, by decide +kernel, by decide +kernel⟩, by decide⟩
theorem wd_1004 : Cond.code ⟨"CabbageCradlesModel", "tellsOf", "(III)I"⟩ prog_9_method_25_code 3 (Option.some .int) ∈ cb_ws := cb_wt (cb_t4 _ (List.mem_of_getElem? (i := 220) rfl)) rfl
theorem wd_851 : Cond.fieldLink "CabbageCradlesModel" 118 "CabbageCradlesModel" "heads" "I" ∈ cb_ws := cb_wt (cb_t4 _ (List.mem_of_getElem? (i := 67) rfl)) rfl
theorem fp_X7_118 : cb_FP RX7 118 7 7 := ⟨RX7, TX7, 31, tyX7, rfl, by decide, wi_X7, wd_851, tyX7_ok, nmX7, rfl, by decide +kernel⟩
theorem wd_1002 : Cond.methodLink "CabbageCradlesModel" 121 ⟨"CabbageCradlesModel", "tellsOf", "(III)I"⟩ ∈ cb_ws := cb_wt (cb_t4 _ (List.mem_of_getElem? (i := 218) rfl)) rfl
theorem wd_1003 : Cond.static ⟨"CabbageCradlesModel", "tellsOf", "(III)I"⟩ ∈ cb_ws := cb_wt (cb_t4 _ (List.mem_of_getElem? (i := 219) rfl)) rfl
theorem cs_X7_121 : cb_CS RX7 121 yX7_tellsOf cX7_tellsOf 3 (some .int) 3 := ⟨wd_1004, wd_1002, wd_1003, wd_73, ⟨by decide +kernel, by decide +kernel, by decide +kernel⟩, by decide⟩
theorem wd_852 : Cond.fieldLink "CabbageCradlesModel" 28 "CabbageCradlesModel" "head" "[I" ∈ cb_ws := cb_wt (cb_t4 _ (List.mem_of_getElem? (i := 68) rfl)) rfl
theorem fa_X7_28 : cb_FA RX7 28 7 8 := ⟨RX7, TX7, 31, rfl, by decide, wi_X7, wd_852⟩
theorem fa_X7_118 : cb_FA RX7 118 7 7 := ⟨RX7, TX7, 31, rfl, by decide, wi_X7, wd_851⟩
theorem wd_1001 : Cond.code ⟨"CabbageCradlesModel", "readsHeads", "()I"⟩ prog_9_method_26_code 6 (Option.some .int) ∈ cb_ws := cb_wt (cb_t4 _ (List.mem_of_getElem? (i := 217) rfl)) rfl
theorem wd_853 : Cond.fieldLink "CabbageCradlesModel" 124 "CabbageCradlesModel" "couples" "I" ∈ cb_ws := cb_wt (cb_t4 _ (List.mem_of_getElem? (i := 69) rfl)) rfl
theorem fp_X7_124 : cb_FP RX7 124 7 9 := ⟨RX7, TX7, 31, tyX7, rfl, by decide, wi_X7, wd_853, tyX7_ok, nmX7, rfl, by decide +kernel⟩
theorem wd_854 : Cond.fieldLink "CabbageCradlesModel" 31 "CabbageCradlesModel" "couple" "[I" ∈ cb_ws := cb_wt (cb_t4 _ (List.mem_of_getElem? (i := 70) rfl)) rfl
theorem fa_X7_31 : cb_FA RX7 31 7 10 := ⟨RX7, TX7, 31, rfl, by decide, wi_X7, wd_854⟩
theorem fa_X7_124 : cb_FA RX7 124 7 9 := ⟨RX7, TX7, 31, rfl, by decide, wi_X7, wd_853⟩
theorem wd_1014 : Cond.code ⟨"CabbageCradlesModel", "readsCouples", "()I"⟩ prog_9_method_27_code 6 (Option.some .int) ∈ cb_ws := cb_wt (cb_t4 _ (List.mem_of_getElem? (i := 230) rfl)) rfl
theorem wd_1011 : Cond.methodLink "CabbageCradlesModel" 131 ⟨"CabbageCradlesModel", "readsCouples", "()I"⟩ ∈ cb_ws := cb_wt (cb_t4 _ (List.mem_of_getElem? (i := 227) rfl)) rfl
theorem wd_1013 : Cond.instanceMethod ⟨"CabbageCradlesModel", "readsCouples", "()I"⟩ ∈ cb_ws := cb_wt (cb_t4 _ (List.mem_of_getElem? (i := 229) rfl)) rfl
theorem wd_31 : Cond.selects "CabbageCradlesModel" ⟨"CabbageCradlesModel", "readsCouples", "()I"⟩ ⟨"CabbageCradlesModel", "readsCouples", "()I"⟩ ∈ cb_ws := cb_wt (List.mem_of_getElem? (i := 31) (by rfl)) rfl
theorem cv_X7_131 : cb_CV RX7 131 yX7_readsCouples cX7_readsCouples 6 (some .int) 0 := ⟨wd_1014, wd_1011, wd_1013, wd_31, wd_73, ⟨by decide +kernel, by decide +kernel, by decide +kernel⟩, by decide⟩
theorem wd_998 : Cond.methodLink "CabbageCradlesModel" 127 ⟨"CabbageCradlesModel", "readsHeads", "()I"⟩ ∈ cb_ws := cb_wt (cb_t4 _ (List.mem_of_getElem? (i := 214) rfl)) rfl
theorem wd_1000 : Cond.instanceMethod ⟨"CabbageCradlesModel", "readsHeads", "()I"⟩ ∈ cb_ws := cb_wt (cb_t4 _ (List.mem_of_getElem? (i := 216) rfl)) rfl
theorem wd_30 : Cond.selects "CabbageCradlesModel" ⟨"CabbageCradlesModel", "readsHeads", "()I"⟩ ⟨"CabbageCradlesModel", "readsHeads", "()I"⟩ ∈ cb_ws := cb_wt (List.mem_of_getElem? (i := 30) (by rfl)) rfl
theorem cv_X7_127 : cb_CV RX7 127 yX7_readsHeads cX7_readsHeads 6 (some .int) 0 := ⟨wd_1001, wd_998, wd_1000, wd_30, wd_73, ⟨by decide +kernel, by decide +kernel, by decide +kernel⟩, by decide⟩
theorem wd_997 : Cond.code ⟨"CabbageCradlesModel", "fault", "(I)I"⟩ prog_9_method_28_code 2 (Option.some .int) ∈ cb_ws := cb_wt (cb_t4 _ (List.mem_of_getElem? (i := 213) rfl)) rfl
theorem wd_1022 : Cond.code ⟨"CabbageCradlesModel", "isHead", "(I)Z"⟩ prog_9_method_29_code 2 (Option.some .boolean) ∈ cb_ws := cb_wt (cb_t4 _ (List.mem_of_getElem? (i := 238) rfl)) rfl
theorem wd_1030 : Cond.code ⟨"CabbageCradlesModel", "isCouple", "(I)Z"⟩ prog_9_method_30_code 2 (Option.some .boolean) ∈ cb_ws := cb_wt (cb_t5 _ (List.mem_of_getElem? (i := 6) rfl)) rfl
theorem wd_1036 : Cond.constantLong "CabbageCradlesModel" 134 39 ∈ cb_ws := cb_wt (cb_t5 _ (List.mem_of_getElem? (i := 12) rfl)) rfl
theorem wd_1043 : Cond.code ⟨"CabbageCradlesModel", "isDay", "(I)Z"⟩ prog_9_method_31_code 1 (Option.some .boolean) ∈ cb_ws := cb_wt (cb_t5 _ (List.mem_of_getElem? (i := 19) rfl)) rfl
theorem wd_1019 : Cond.methodLink "CabbageCradlesModel" 136 ⟨"CabbageCradlesModel", "isHead", "(I)Z"⟩ ∈ cb_ws := cb_wt (cb_t4 _ (List.mem_of_getElem? (i := 235) rfl)) rfl
theorem wd_1021 : Cond.instanceMethod ⟨"CabbageCradlesModel", "isHead", "(I)Z"⟩ ∈ cb_ws := cb_wt (cb_t4 _ (List.mem_of_getElem? (i := 237) rfl)) rfl
theorem wd_32 : Cond.selects "CabbageCradlesModel" ⟨"CabbageCradlesModel", "isHead", "(I)Z"⟩ ⟨"CabbageCradlesModel", "isHead", "(I)Z"⟩ ∈ cb_ws := cb_wt (List.mem_of_getElem? (i := 32) (by rfl)) rfl
theorem cv_X7_136 : cb_CV RX7 136 yX7_isHead cX7_isHead 2 (some .boolean) 1 := ⟨wd_1022, wd_1019, wd_1021, wd_32, wd_73, ⟨by decide +kernel, by decide +kernel, by decide +kernel⟩, by decide⟩
theorem wd_1018 : Cond.code ⟨"CabbageCradlesModel", "head", "(II)I"⟩ prog_9_method_32_code 3 (Option.some .int) ∈ cb_ws := cb_wt (cb_t4 _ (List.mem_of_getElem? (i := 234) rfl)) rfl
theorem wd_1027 : Cond.methodLink "CabbageCradlesModel" 139 ⟨"CabbageCradlesModel", "isCouple", "(I)Z"⟩ ∈ cb_ws := cb_wt (cb_t5 _ (List.mem_of_getElem? (i := 3) rfl)) rfl
theorem wd_1029 : Cond.instanceMethod ⟨"CabbageCradlesModel", "isCouple", "(I)Z"⟩ ∈ cb_ws := cb_wt (cb_t5 _ (List.mem_of_getElem? (i := 5) rfl)) rfl
theorem wd_33 : Cond.selects "CabbageCradlesModel" ⟨"CabbageCradlesModel", "isCouple", "(I)Z"⟩ ⟨"CabbageCradlesModel", "isCouple", "(I)Z"⟩ ∈ cb_ws := cb_wt (List.mem_of_getElem? (i := 33) (by rfl)) rfl
theorem cv_X7_139 : cb_CV RX7 139 yX7_isCouple cX7_isCouple 2 (some .boolean) 1 := ⟨wd_1030, wd_1027, wd_1029, wd_33, wd_73, ⟨by decide +kernel, by decide +kernel, by decide +kernel⟩, by decide⟩
theorem wd_1026 : Cond.code ⟨"CabbageCradlesModel", "couple", "(II)I"⟩ prog_9_method_33_code 3 (Option.some .int) ∈ cb_ws := cb_wt (cb_t5 _ (List.mem_of_getElem? (i := 2) rfl)) rfl
theorem wd_1035 : Cond.constantLong "CabbageCradlesModel" 142 29 ∈ cb_ws := cb_wt (cb_t5 _ (List.mem_of_getElem? (i := 11) rfl)) rfl
theorem wd_855 : Cond.fieldLink "CabbageCradlesModel" 34 "CabbageCradlesModel" "weathers" "[I" ∈ cb_ws := cb_wt (cb_t4 _ (List.mem_of_getElem? (i := 71) rfl)) rfl
theorem fa_X7_34 : cb_FA RX7 34 7 11 := ⟨RX7, TX7, 31, rfl, by decide, wi_X7, wd_855⟩
theorem wd_856 : Cond.fieldLink "CabbageCradlesModel" 37 "CabbageCradlesModel" "weather" "[I" ∈ cb_ws := cb_wt (cb_t4 _ (List.mem_of_getElem? (i := 72) rfl)) rfl
theorem fa_X7_37 : cb_FA RX7 37 7 12 := ⟨RX7, TX7, 31, rfl, by decide, wi_X7, wd_856⟩
theorem wd_1034 : Cond.code ⟨"CabbageCradlesModel", "weather", "(II)I"⟩ prog_9_method_34_code 3 (Option.some .int) ∈ cb_ws := cb_wt (cb_t5 _ (List.mem_of_getElem? (i := 10) rfl)) rfl
theorem wd_1041 : Cond.methodLink "CabbageCradlesModel" 144 ⟨"CabbageCradlesModel", "isDay", "(I)Z"⟩ ∈ cb_ws := cb_wt (cb_t5 _ (List.mem_of_getElem? (i := 17) rfl)) rfl
theorem wd_1042 : Cond.static ⟨"CabbageCradlesModel", "isDay", "(I)Z"⟩ ∈ cb_ws := cb_wt (cb_t5 _ (List.mem_of_getElem? (i := 18) rfl)) rfl
theorem cs_X7_144 : cb_CS RX7 144 yX7_isDay cX7_isDay 1 (some .boolean) 1 := ⟨wd_1043, wd_1041, wd_1042, wd_73, ⟨by decide +kernel, by decide +kernel, by decide +kernel⟩, by decide⟩
theorem wd_1044 : Cond.constantLong "CabbageCradlesModel" 147 7 ∈ cb_ws := cb_wt (cb_t5 _ (List.mem_of_getElem? (i := 20) rfl)) rfl
theorem wd_857 : Cond.fieldLink "CabbageCradlesModel" 149 "CabbageCradlesModel" "rabbits" "I" ∈ cb_ws := cb_wt (cb_t4 _ (List.mem_of_getElem? (i := 73) rfl)) rfl
theorem fa_X7_149 : cb_FA RX7 149 7 13 := ⟨RX7, TX7, 31, rfl, by decide, wi_X7, wd_857⟩
theorem wd_858 : Cond.fieldLink "CabbageCradlesModel" 40 "CabbageCradlesModel" "rabbit" "[I" ∈ cb_ws := cb_wt (cb_t4 _ (List.mem_of_getElem? (i := 74) rfl)) rfl
theorem fa_X7_40 : cb_FA RX7 40 7 14 := ⟨RX7, TX7, 31, rfl, by decide, wi_X7, wd_858⟩
theorem fp_X7_149 : cb_FP RX7 149 7 13 := ⟨RX7, TX7, 31, tyX7, rfl, by decide, wi_X7, wd_857, tyX7_ok, nmX7, rfl, by decide +kernel⟩
theorem wd_1040 : Cond.code ⟨"CabbageCradlesModel", "rabbit", "(II)I"⟩ prog_9_method_35_code 3 (Option.some .int) ∈ cb_ws := cb_wt (cb_t5 _ (List.mem_of_getElem? (i := 16) rfl)) rfl
theorem wd_1048 : Cond.code ⟨"CabbageCradlesModel", "back", "(I)I"⟩ prog_9_method_36_code 3 (Option.some .int) ∈ cb_ws := cb_wt (cb_t5 _ (List.mem_of_getElem? (i := 24) rfl)) rfl
theorem wd_1053 : Cond.methodLink "CabbageCradlesModel" 152 ⟨"CabbageCradlesModel", "rabbit", "(II)I"⟩ ∈ cb_ws := cb_wt (cb_t5 _ (List.mem_of_getElem? (i := 29) rfl)) rfl
theorem wd_1038 : Cond.instanceMethod ⟨"CabbageCradlesModel", "rabbit", "(II)I"⟩ ∈ cb_ws := cb_wt (cb_t5 _ (List.mem_of_getElem? (i := 14) rfl)) rfl
theorem wd_1039 : Cond.selects "CabbageCradlesModel" ⟨"CabbageCradlesModel", "rabbit", "(II)I"⟩ ⟨"CabbageCradlesModel", "rabbit", "(II)I"⟩ ∈ cb_ws := cb_wt (cb_t5 _ (List.mem_of_getElem? (i := 15) rfl)) rfl
theorem cv_X7_152 : cb_CV RX7 152 yX7_rabbit cX7_rabbit 3 (some .int) 2 := ⟨wd_1040, wd_1053, wd_1038, wd_1039, wd_73, ⟨by decide +kernel, by decide +kernel, by decide +kernel⟩, by decide⟩
theorem wd_1052 : Cond.code ⟨"CabbageCradlesModel", "read", "(I)I"⟩ prog_9_method_37_code 4 (Option.some .int) ∈ cb_ws := cb_wt (cb_t5 _ (List.mem_of_getElem? (i := 28) rfl)) rfl
theorem wd_860 : Cond.fieldLink "CabbageCradlesModel" 73 "CabbageCradlesModel" "chills" "I" ∈ cb_ws := cb_wt (cb_t4 _ (List.mem_of_getElem? (i := 76) rfl)) rfl
theorem fa_X7_73 : cb_FA RX7 73 7 16 := ⟨RX7, TX7, 31, rfl, by decide, wi_X7, wd_860⟩
theorem wd_1074 : Cond.methodLink "CabbageCradlesModel" 154 ⟨"CabbageCradlesModel", "isIn", "(II)Z"⟩ ∈ cb_ws := cb_wt (cb_t5 _ (List.mem_of_getElem? (i := 50) rfl)) rfl
theorem wd_1075 : Cond.static ⟨"CabbageCradlesModel", "isIn", "(II)Z"⟩ ∈ cb_ws := cb_wt (cb_t5 _ (List.mem_of_getElem? (i := 51) rfl)) rfl
theorem cs_X7_154 : cb_CS RX7 154 yX7_isIn cX7_isIn 2 (some .boolean) 2 := ⟨wd_1076, wd_1074, wd_1075, wd_73, ⟨by decide +kernel, by decide +kernel, by decide +kernel⟩, by decide⟩
theorem wd_1073 : Cond.code ⟨"CabbageCradlesModel", "isSo", "(II)Z"⟩ prog_9_method_38_code 5 (Option.some .boolean) ∈ cb_ws := cb_wt (cb_t5 _ (List.mem_of_getElem? (i := 49) rfl)) rfl
theorem wd_861 : Cond.fieldLink "CabbageCradlesModel" 43 "CabbageCradlesModel" "due" "[I" ∈ cb_ws := cb_wt (cb_t4 _ (List.mem_of_getElem? (i := 77) rfl)) rfl
theorem fa_X7_43 : cb_FA RX7 43 7 17 := ⟨RX7, TX7, 31, rfl, by decide, wi_X7, wd_861⟩
theorem wd_862 : Cond.fieldLink "CabbageCradlesModel" 46 "CabbageCradlesModel" "lost" "[I" ∈ cb_ws := cb_wt (cb_t4 _ (List.mem_of_getElem? (i := 78) rfl)) rfl
theorem fa_X7_46 : cb_FA RX7 46 7 18 := ⟨RX7, TX7, 31, rfl, by decide, wi_X7, wd_862⟩
theorem wd_1070 : Cond.methodLink "CabbageCradlesModel" 158 ⟨"CabbageCradlesModel", "isSo", "(II)Z"⟩ ∈ cb_ws := cb_wt (cb_t5 _ (List.mem_of_getElem? (i := 46) rfl)) rfl
theorem wd_1072 : Cond.instanceMethod ⟨"CabbageCradlesModel", "isSo", "(II)Z"⟩ ∈ cb_ws := cb_wt (cb_t5 _ (List.mem_of_getElem? (i := 48) rfl)) rfl
theorem wd_37 : Cond.selects "CabbageCradlesModel" ⟨"CabbageCradlesModel", "isSo", "(II)Z"⟩ ⟨"CabbageCradlesModel", "isSo", "(II)Z"⟩ ∈ cb_ws := cb_wt (List.mem_of_getElem? (i := 37) (by rfl)) rfl
theorem cv_X7_158 : cb_CV RX7 158 yX7_isSo cX7_isSo 5 (some .boolean) 2 := ⟨wd_1073, wd_1070, wd_1072, wd_37, wd_73, ⟨by decide +kernel, by decide +kernel, by decide +kernel⟩, by decide⟩
theorem wd_859 : Cond.fieldLink "CabbageCradlesModel" 161 "CabbageCradlesModel" "gone" "I" ∈ cb_ws := cb_wt (cb_t4 _ (List.mem_of_getElem? (i := 75) rfl)) rfl
theorem fa_X7_161 : cb_FA RX7 161 7 15 := ⟨RX7, TX7, 31, rfl, by decide, wi_X7, wd_859⟩
theorem wd_1069 : Cond.code ⟨"CabbageCradlesModel", "ripens", "(I)V"⟩ prog_9_method_39_code 4 (Option.none) ∈ cb_ws := cb_wt (cb_t5 _ (List.mem_of_getElem? (i := 45) rfl)) rfl
theorem wd_1095 : Cond.code ⟨"CabbageCradlesModel", "span", "(I)I"⟩ prog_9_method_40_code 1 (Option.some .int) ∈ cb_ws := cb_wt (cb_t5 _ (List.mem_of_getElem? (i := 71) rfl)) rfl
theorem wd_1093 : Cond.methodLink "CabbageCradlesModel" 164 ⟨"CabbageCradlesModel", "span", "(I)I"⟩ ∈ cb_ws := cb_wt (cb_t5 _ (List.mem_of_getElem? (i := 69) rfl)) rfl
theorem wd_1094 : Cond.static ⟨"CabbageCradlesModel", "span", "(I)I"⟩ ∈ cb_ws := cb_wt (cb_t5 _ (List.mem_of_getElem? (i := 70) rfl)) rfl
theorem cs_X7_164 : cb_CS RX7 164 yX7_span cX7_span 1 (some .int) 1 := ⟨wd_1095, wd_1093, wd_1094, wd_73, ⟨by decide +kernel, by decide +kernel, by decide +kernel⟩, by decide⟩
theorem wd_1092 : Cond.code ⟨"CabbageCradlesModel", "isRipe", "(II)Z"⟩ prog_9_method_41_code 3 (Option.some .boolean) ∈ cb_ws := cb_wt (cb_t5 _ (List.mem_of_getElem? (i := 68) rfl)) rfl
theorem wd_1088 : Cond.code ⟨"CabbageCradlesModel", "wants", "(II)Z"⟩ prog_9_method_42_code 3 (Option.some .boolean) ∈ cb_ws := cb_wt (cb_t5 _ (List.mem_of_getElem? (i := 64) rfl)) rfl
theorem wd_1080 : Cond.code ⟨"CabbageCradlesModel", "comes", "(II)Z"⟩ prog_9_method_43_code 3 (Option.some .boolean) ∈ cb_ws := cb_wt (cb_t5 _ (List.mem_of_getElem? (i := 56) rfl)) rfl
theorem wd_868 : Cond.fieldLink "CabbageCradlesModel" 167 "CabbageCradlesModel" "turnWho" "I" ∈ cb_ws := cb_wt (cb_t4 _ (List.mem_of_getElem? (i := 84) rfl)) rfl
theorem fa_X7_167 : cb_FA RX7 167 7 24 := ⟨RX7, TX7, 31, rfl, by decide, wi_X7, wd_868⟩
theorem wd_1085 : Cond.methodLink "CabbageCradlesModel" 170 ⟨"CabbageCradlesModel", "wants", "(II)Z"⟩ ∈ cb_ws := cb_wt (cb_t5 _ (List.mem_of_getElem? (i := 61) rfl)) rfl
theorem wd_1087 : Cond.instanceMethod ⟨"CabbageCradlesModel", "wants", "(II)Z"⟩ ∈ cb_ws := cb_wt (cb_t5 _ (List.mem_of_getElem? (i := 63) rfl)) rfl
theorem wd_40 : Cond.selects "CabbageCradlesModel" ⟨"CabbageCradlesModel", "wants", "(II)Z"⟩ ⟨"CabbageCradlesModel", "wants", "(II)Z"⟩ ∈ cb_ws := cb_wt (List.mem_of_getElem? (i := 40) (by rfl)) rfl
theorem cv_X7_170 : cb_CV RX7 170 yX7_wants cX7_wants 3 (some .boolean) 2 := ⟨wd_1088, wd_1085, wd_1087, wd_40, wd_73, ⟨by decide +kernel, by decide +kernel, by decide +kernel⟩, by decide⟩
theorem wd_1077 : Cond.methodLink "CabbageCradlesModel" 173 ⟨"CabbageCradlesModel", "comes", "(II)Z"⟩ ∈ cb_ws := cb_wt (cb_t5 _ (List.mem_of_getElem? (i := 53) rfl)) rfl
theorem wd_1079 : Cond.instanceMethod ⟨"CabbageCradlesModel", "comes", "(II)Z"⟩ ∈ cb_ws := cb_wt (cb_t5 _ (List.mem_of_getElem? (i := 55) rfl)) rfl
theorem wd_38 : Cond.selects "CabbageCradlesModel" ⟨"CabbageCradlesModel", "comes", "(II)Z"⟩ ⟨"CabbageCradlesModel", "comes", "(II)Z"⟩ ∈ cb_ws := cb_wt (List.mem_of_getElem? (i := 38) (by rfl)) rfl
theorem cv_X7_173 : cb_CV RX7 173 yX7_comes cX7_comes 3 (some .boolean) 2 := ⟨wd_1080, wd_1077, wd_1079, wd_38, wd_73, ⟨by decide +kernel, by decide +kernel, by decide +kernel⟩, by decide⟩
theorem wd_865 : Cond.fieldLink "CabbageCradlesModel" 55 "CabbageCradlesModel" "got" "[I" ∈ cb_ws := cb_wt (cb_t4 _ (List.mem_of_getElem? (i := 81) rfl)) rfl
theorem fa_X7_55 : cb_FA RX7 55 7 21 := ⟨RX7, TX7, 31, rfl, by decide, wi_X7, wd_865⟩
theorem fp_X7_167 : cb_FP RX7 167 7 24 := ⟨RX7, TX7, 31, tyX7, rfl, by decide, wi_X7, wd_868, tyX7_ok, nmX7, rfl, by decide +kernel⟩
theorem wd_869 : Cond.fieldLink "CabbageCradlesModel" 176 "CabbageCradlesModel" "turnOn" "I" ∈ cb_ws := cb_wt (cb_t4 _ (List.mem_of_getElem? (i := 85) rfl)) rfl
theorem fa_X7_176 : cb_FA RX7 176 7 25 := ⟨RX7, TX7, 31, rfl, by decide, wi_X7, wd_869⟩
theorem fp_X7_176 : cb_FP RX7 176 7 25 := ⟨RX7, TX7, 31, tyX7, rfl, by decide, wi_X7, wd_869, tyX7_ok, nmX7, rfl, by decide +kernel⟩
theorem wd_863 : Cond.fieldLink "CabbageCradlesModel" 49 "CabbageCradlesModel" "by" "[I" ∈ cb_ws := cb_wt (cb_t4 _ (List.mem_of_getElem? (i := 79) rfl)) rfl
theorem fa_X7_49 : cb_FA RX7 49 7 19 := ⟨RX7, TX7, 31, rfl, by decide, wi_X7, wd_863⟩
theorem wd_864 : Cond.fieldLink "CabbageCradlesModel" 52 "CabbageCradlesModel" "when" "[I" ∈ cb_ws := cb_wt (cb_t4 _ (List.mem_of_getElem? (i := 80) rfl)) rfl
theorem fa_X7_52 : cb_FA RX7 52 7 20 := ⟨RX7, TX7, 31, rfl, by decide, wi_X7, wd_864⟩
theorem wd_866 : Cond.fieldLink "CabbageCradlesModel" 58 "CabbageCradlesModel" "gotOn" "[I" ∈ cb_ws := cb_wt (cb_t4 _ (List.mem_of_getElem? (i := 82) rfl)) rfl
theorem fa_X7_58 : cb_FA RX7 58 7 22 := ⟨RX7, TX7, 31, rfl, by decide, wi_X7, wd_866⟩
theorem wd_867 : Cond.fieldLink "CabbageCradlesModel" 61 "CabbageCradlesModel" "births" "[I" ∈ cb_ws := cb_wt (cb_t4 _ (List.mem_of_getElem? (i := 83) rfl)) rfl
theorem fa_X7_61 : cb_FA RX7 61 7 23 := ⟨RX7, TX7, 31, rfl, by decide, wi_X7, wd_867⟩
theorem wd_1099 : Cond.code ⟨"CabbageCradlesModel", "lifts", "(III)V"⟩ prog_9_method_44_code 6 (Option.none) ∈ cb_ws := cb_wt (cb_t5 _ (List.mem_of_getElem? (i := 75) rfl)) rfl
theorem wd_1089 : Cond.methodLink "CabbageCradlesModel" 179 ⟨"CabbageCradlesModel", "isRipe", "(II)Z"⟩ ∈ cb_ws := cb_wt (cb_t5 _ (List.mem_of_getElem? (i := 65) rfl)) rfl
theorem wd_1091 : Cond.instanceMethod ⟨"CabbageCradlesModel", "isRipe", "(II)Z"⟩ ∈ cb_ws := cb_wt (cb_t5 _ (List.mem_of_getElem? (i := 67) rfl)) rfl
theorem wd_41 : Cond.selects "CabbageCradlesModel" ⟨"CabbageCradlesModel", "isRipe", "(II)Z"⟩ ⟨"CabbageCradlesModel", "isRipe", "(II)Z"⟩ ∈ cb_ws := cb_wt (List.mem_of_getElem? (i := 41) (by rfl)) rfl
theorem cv_X7_179 : cb_CV RX7 179 yX7_isRipe cX7_isRipe 3 (some .boolean) 2 := ⟨wd_1092, wd_1089, wd_1091, wd_41, wd_73, ⟨by decide +kernel, by decide +kernel, by decide +kernel⟩, by decide⟩
theorem wd_1096 : Cond.methodLink "CabbageCradlesModel" 182 ⟨"CabbageCradlesModel", "lifts", "(III)V"⟩ ∈ cb_ws := cb_wt (cb_t5 _ (List.mem_of_getElem? (i := 72) rfl)) rfl
theorem wd_1098 : Cond.instanceMethod ⟨"CabbageCradlesModel", "lifts", "(III)V"⟩ ∈ cb_ws := cb_wt (cb_t5 _ (List.mem_of_getElem? (i := 74) rfl)) rfl
theorem wd_42 : Cond.selects "CabbageCradlesModel" ⟨"CabbageCradlesModel", "lifts", "(III)V"⟩ ⟨"CabbageCradlesModel", "lifts", "(III)V"⟩ ∈ cb_ws := cb_wt (List.mem_of_getElem? (i := 42) (by rfl)) rfl
theorem cv_X7_182 : cb_CV RX7 182 yX7_lifts cX7_lifts 6 none 3 := ⟨wd_1099, wd_1096, wd_1098, wd_42, wd_73, ⟨by decide +kernel, by decide +kernel, by decide +kernel⟩, by decide⟩
theorem wd_1084 : Cond.code ⟨"CabbageCradlesModel", "dawn", "(II)V"⟩ prog_9_method_45_code 4 (Option.none) ∈ cb_ws := cb_wt (cb_t5 _ (List.mem_of_getElem? (i := 60) rfl)) rfl
theorem wd_1066 : Cond.methodLink "CabbageCradlesModel" 186 ⟨"CabbageCradlesModel", "ripens", "(I)V"⟩ ∈ cb_ws := cb_wt (cb_t5 _ (List.mem_of_getElem? (i := 42) rfl)) rfl
theorem wd_1068 : Cond.instanceMethod ⟨"CabbageCradlesModel", "ripens", "(I)V"⟩ ∈ cb_ws := cb_wt (cb_t5 _ (List.mem_of_getElem? (i := 44) rfl)) rfl
theorem wd_36 : Cond.selects "CabbageCradlesModel" ⟨"CabbageCradlesModel", "ripens", "(I)V"⟩ ⟨"CabbageCradlesModel", "ripens", "(I)V"⟩ ∈ cb_ws := cb_wt (List.mem_of_getElem? (i := 36) (by rfl)) rfl
theorem cv_X7_186 : cb_CV RX7 186 yX7_ripens cX7_ripens 4 none 1 := ⟨wd_1069, wd_1066, wd_1068, wd_36, wd_73, ⟨by decide +kernel, by decide +kernel, by decide +kernel⟩, by decide⟩
theorem wd_1081 : Cond.methodLink "CabbageCradlesModel" 190 ⟨"CabbageCradlesModel", "dawn", "(II)V"⟩ ∈ cb_ws := cb_wt (cb_t5 _ (List.mem_of_getElem? (i := 57) rfl)) rfl
theorem wd_1083 : Cond.instanceMethod ⟨"CabbageCradlesModel", "dawn", "(II)V"⟩ ∈ cb_ws := cb_wt (cb_t5 _ (List.mem_of_getElem? (i := 59) rfl)) rfl
theorem wd_39 : Cond.selects "CabbageCradlesModel" ⟨"CabbageCradlesModel", "dawn", "(II)V"⟩ ⟨"CabbageCradlesModel", "dawn", "(II)V"⟩ ∈ cb_ws := cb_wt (List.mem_of_getElem? (i := 39) (by rfl)) rfl
theorem cv_X7_190 : cb_CV RX7 190 yX7_dawn cX7_dawn 4 none 2 := ⟨wd_1084, wd_1081, wd_1083, wd_39, wd_73, ⟨by decide +kernel, by decide +kernel, by decide +kernel⟩, by decide⟩
theorem wd_1065 : Cond.code ⟨"CabbageCradlesModel", "lives", "()V"⟩ prog_9_method_46_code 3 (Option.none) ∈ cb_ws := cb_wt (cb_t5 _ (List.mem_of_getElem? (i := 41) rfl)) rfl
theorem wd_1062 : Cond.methodLink "CabbageCradlesModel" 194 ⟨"CabbageCradlesModel", "lives", "()V"⟩ ∈ cb_ws := cb_wt (cb_t5 _ (List.mem_of_getElem? (i := 38) rfl)) rfl
theorem wd_1064 : Cond.instanceMethod ⟨"CabbageCradlesModel", "lives", "()V"⟩ ∈ cb_ws := cb_wt (cb_t5 _ (List.mem_of_getElem? (i := 40) rfl)) rfl
theorem wd_35 : Cond.selects "CabbageCradlesModel" ⟨"CabbageCradlesModel", "lives", "()V"⟩ ⟨"CabbageCradlesModel", "lives", "()V"⟩ ∈ cb_ws := cb_wt (List.mem_of_getElem? (i := 35) (by rfl)) rfl
theorem cv_X7_194 : cb_CV RX7 194 yX7_lives cX7_lives 3 none 0 := ⟨wd_1065, wd_1062, wd_1064, wd_35, wd_73, ⟨by decide +kernel, by decide +kernel, by decide +kernel⟩, by decide⟩
theorem wd_1061 : Cond.code ⟨"CabbageCradlesModel", "find", "()V"⟩ prog_9_method_47_code 1 (Option.none) ∈ cb_ws := cb_wt (cb_t5 _ (List.mem_of_getElem? (i := 37) rfl)) rfl
theorem wd_1107 : Cond.code ⟨"CabbageCradlesModel", "dueBy", "(II)I"⟩ prog_9_method_48_code 5 (Option.some .int) ∈ cb_ws := cb_wt (cb_t5 _ (List.mem_of_getElem? (i := 83) rfl)) rfl
theorem wd_1104 : Cond.methodLink "CabbageCradlesModel" 197 ⟨"CabbageCradlesModel", "dueBy", "(II)I"⟩ ∈ cb_ws := cb_wt (cb_t5 _ (List.mem_of_getElem? (i := 80) rfl)) rfl
theorem wd_1106 : Cond.instanceMethod ⟨"CabbageCradlesModel", "dueBy", "(II)I"⟩ ∈ cb_ws := cb_wt (cb_t5 _ (List.mem_of_getElem? (i := 82) rfl)) rfl
theorem wd_44 : Cond.selects "CabbageCradlesModel" ⟨"CabbageCradlesModel", "dueBy", "(II)I"⟩ ⟨"CabbageCradlesModel", "dueBy", "(II)I"⟩ ∈ cb_ws := cb_wt (List.mem_of_getElem? (i := 44) (by rfl)) rfl
theorem cv_X7_197 : cb_CV RX7 197 yX7_dueBy cX7_dueBy 5 (some .int) 2 := ⟨wd_1107, wd_1104, wd_1106, wd_44, wd_73, ⟨by decide +kernel, by decide +kernel, by decide +kernel⟩, by decide⟩
theorem wd_1103 : Cond.code ⟨"CabbageCradlesModel", "stateOf", "(II)I"⟩ prog_9_method_49_code 4 (Option.some .int) ∈ cb_ws := cb_wt (cb_t5 _ (List.mem_of_getElem? (i := 79) rfl)) rfl
theorem wd_1058 : Cond.methodLink "CabbageCradlesModel" 200 ⟨"CabbageCradlesModel", "find", "()V"⟩ ∈ cb_ws := cb_wt (cb_t5 _ (List.mem_of_getElem? (i := 34) rfl)) rfl
theorem wd_1060 : Cond.instanceMethod ⟨"CabbageCradlesModel", "find", "()V"⟩ ∈ cb_ws := cb_wt (cb_t5 _ (List.mem_of_getElem? (i := 36) rfl)) rfl
theorem wd_34 : Cond.selects "CabbageCradlesModel" ⟨"CabbageCradlesModel", "find", "()V"⟩ ⟨"CabbageCradlesModel", "find", "()V"⟩ ∈ cb_ws := cb_wt (List.mem_of_getElem? (i := 34) (by rfl)) rfl
theorem cv_X7_200 : cb_CV RX7 200 yX7_find cX7_find 1 none 0 := ⟨wd_1061, wd_1058, wd_1060, wd_34, wd_73, ⟨by decide +kernel, by decide +kernel, by decide +kernel⟩, by decide⟩
theorem wd_1100 : Cond.methodLink "CabbageCradlesModel" 203 ⟨"CabbageCradlesModel", "stateOf", "(II)I"⟩ ∈ cb_ws := cb_wt (cb_t5 _ (List.mem_of_getElem? (i := 76) rfl)) rfl
theorem wd_1102 : Cond.instanceMethod ⟨"CabbageCradlesModel", "stateOf", "(II)I"⟩ ∈ cb_ws := cb_wt (cb_t5 _ (List.mem_of_getElem? (i := 78) rfl)) rfl
theorem wd_43 : Cond.selects "CabbageCradlesModel" ⟨"CabbageCradlesModel", "stateOf", "(II)I"⟩ ⟨"CabbageCradlesModel", "stateOf", "(II)I"⟩ ∈ cb_ws := cb_wt (List.mem_of_getElem? (i := 43) (by rfl)) rfl
theorem cv_X7_203 : cb_CV RX7 203 yX7_stateOf cX7_stateOf 4 (some .int) 2 := ⟨wd_1103, wd_1100, wd_1102, wd_43, wd_73, ⟨by decide +kernel, by decide +kernel, by decide +kernel⟩, by decide⟩
theorem wd_1057 : Cond.code ⟨"CabbageCradlesModel", "state", "(II)I"⟩ prog_9_method_50_code 3 (Option.some .int) ∈ cb_ws := cb_wt (cb_t5 _ (List.mem_of_getElem? (i := 33) rfl)) rfl
theorem wd_1115 : Cond.code ⟨"CabbageCradlesModel", "liftedBy", "(II)I"⟩ prog_9_method_51_code 3 (Option.some .int) ∈ cb_ws := cb_wt (cb_t5 _ (List.mem_of_getElem? (i := 91) rfl)) rfl
theorem wd_1112 : Cond.methodLink "CabbageCradlesModel" 206 ⟨"CabbageCradlesModel", "liftedBy", "(II)I"⟩ ∈ cb_ws := cb_wt (cb_t5 _ (List.mem_of_getElem? (i := 88) rfl)) rfl
theorem wd_1114 : Cond.instanceMethod ⟨"CabbageCradlesModel", "liftedBy", "(II)I"⟩ ∈ cb_ws := cb_wt (cb_t5 _ (List.mem_of_getElem? (i := 90) rfl)) rfl
theorem wd_45 : Cond.selects "CabbageCradlesModel" ⟨"CabbageCradlesModel", "liftedBy", "(II)I"⟩ ⟨"CabbageCradlesModel", "liftedBy", "(II)I"⟩ ∈ cb_ws := cb_wt (List.mem_of_getElem? (i := 45) (by rfl)) rfl
theorem cv_X7_206 : cb_CV RX7 206 yX7_liftedBy cX7_liftedBy 3 (some .int) 2 := ⟨wd_1115, wd_1112, wd_1114, wd_45, wd_73, ⟨by decide +kernel, by decide +kernel, by decide +kernel⟩, by decide⟩
theorem wd_1111 : Cond.code ⟨"CabbageCradlesModel", "lifted", "(II)I"⟩ prog_9_method_52_code 3 (Option.some .int) ∈ cb_ws := cb_wt (cb_t5 _ (List.mem_of_getElem? (i := 87) rfl)) rfl
theorem wd_1123 : Cond.code ⟨"CabbageCradlesModel", "getsBy", "(II)I"⟩ prog_9_method_53_code 3 (Option.some .int) ∈ cb_ws := cb_wt (cb_t5 _ (List.mem_of_getElem? (i := 99) rfl)) rfl
theorem wd_1120 : Cond.methodLink "CabbageCradlesModel" 209 ⟨"CabbageCradlesModel", "getsBy", "(II)I"⟩ ∈ cb_ws := cb_wt (cb_t5 _ (List.mem_of_getElem? (i := 96) rfl)) rfl
theorem wd_1122 : Cond.instanceMethod ⟨"CabbageCradlesModel", "getsBy", "(II)I"⟩ ∈ cb_ws := cb_wt (cb_t5 _ (List.mem_of_getElem? (i := 98) rfl)) rfl
theorem wd_46 : Cond.selects "CabbageCradlesModel" ⟨"CabbageCradlesModel", "getsBy", "(II)I"⟩ ⟨"CabbageCradlesModel", "getsBy", "(II)I"⟩ ∈ cb_ws := cb_wt (List.mem_of_getElem? (i := 46) (by rfl)) rfl
theorem cv_X7_209 : cb_CV RX7 209 yX7_getsBy cX7_getsBy 3 (some .int) 2 := ⟨wd_1123, wd_1120, wd_1122, wd_46, wd_73, ⟨by decide +kernel, by decide +kernel, by decide +kernel⟩, by decide⟩
theorem wd_1119 : Cond.code ⟨"CabbageCradlesModel", "gets", "(II)I"⟩ prog_9_method_54_code 3 (Option.some .int) ∈ cb_ws := cb_wt (cb_t5 _ (List.mem_of_getElem? (i := 95) rfl)) rfl
theorem wd_1131 : Cond.code ⟨"CabbageCradlesModel", "childrenBy", "(I)I"⟩ prog_9_method_55_code 4 (Option.some .int) ∈ cb_ws := cb_wt (cb_t5 _ (List.mem_of_getElem? (i := 107) rfl)) rfl
theorem wd_1128 : Cond.methodLink "CabbageCradlesModel" 212 ⟨"CabbageCradlesModel", "childrenBy", "(I)I"⟩ ∈ cb_ws := cb_wt (cb_t5 _ (List.mem_of_getElem? (i := 104) rfl)) rfl
theorem wd_1130 : Cond.instanceMethod ⟨"CabbageCradlesModel", "childrenBy", "(I)I"⟩ ∈ cb_ws := cb_wt (cb_t5 _ (List.mem_of_getElem? (i := 106) rfl)) rfl
theorem wd_47 : Cond.selects "CabbageCradlesModel" ⟨"CabbageCradlesModel", "childrenBy", "(I)I"⟩ ⟨"CabbageCradlesModel", "childrenBy", "(I)I"⟩ ∈ cb_ws := cb_wt (List.mem_of_getElem? (i := 47) (by rfl)) rfl
theorem cv_X7_212 : cb_CV RX7 212 yX7_childrenBy cX7_childrenBy 4 (some .int) 1 := ⟨wd_1131, wd_1128, wd_1130, wd_47, wd_73, ⟨by decide +kernel, by decide +kernel, by decide +kernel⟩, by decide⟩
theorem wd_1127 : Cond.code ⟨"CabbageCradlesModel", "children", "(I)I"⟩ prog_9_method_56_code 2 (Option.some .int) ∈ cb_ws := cb_wt (cb_t5 _ (List.mem_of_getElem? (i := 103) rfl)) rfl
theorem wd_1139 : Cond.code ⟨"CabbageCradlesModel", "withoutNow", "()I"⟩ prog_9_method_57_code 3 (Option.some .int) ∈ cb_ws := cb_wt (cb_t5 _ (List.mem_of_getElem? (i := 115) rfl)) rfl
theorem wd_1136 : Cond.methodLink "CabbageCradlesModel" 215 ⟨"CabbageCradlesModel", "withoutNow", "()I"⟩ ∈ cb_ws := cb_wt (cb_t5 _ (List.mem_of_getElem? (i := 112) rfl)) rfl
theorem wd_1138 : Cond.instanceMethod ⟨"CabbageCradlesModel", "withoutNow", "()I"⟩ ∈ cb_ws := cb_wt (cb_t5 _ (List.mem_of_getElem? (i := 114) rfl)) rfl
theorem wd_48 : Cond.selects "CabbageCradlesModel" ⟨"CabbageCradlesModel", "withoutNow", "()I"⟩ ⟨"CabbageCradlesModel", "withoutNow", "()I"⟩ ∈ cb_ws := cb_wt (List.mem_of_getElem? (i := 48) (by rfl)) rfl
theorem cv_X7_215 : cb_CV RX7 215 yX7_withoutNow cX7_withoutNow 3 (some .int) 0 := ⟨wd_1139, wd_1136, wd_1138, wd_48, wd_73, ⟨by decide +kernel, by decide +kernel, by decide +kernel⟩, by decide⟩
theorem wd_1135 : Cond.code ⟨"CabbageCradlesModel", "without", "()I"⟩ prog_9_method_58_code 1 (Option.some .int) ∈ cb_ws := cb_wt (cb_t5 _ (List.mem_of_getElem? (i := 111) rfl)) rfl
theorem wd_1143 : Cond.code ⟨"CabbageCradlesModel", "turn", "(I)I"⟩ prog_9_method_59_code 2 (Option.some .int) ∈ cb_ws := cb_wt (cb_t5 _ (List.mem_of_getElem? (i := 119) rfl)) rfl
theorem wd_1155 : Cond.code ⟨"CabbageCradlesModel", "mightMeet", "(II)Z"⟩ prog_9_method_60_code 5 (Option.some .boolean) ∈ cb_ws := cb_wt (cb_t5 _ (List.mem_of_getElem? (i := 131) rfl)) rfl
theorem wd_870 : Cond.fieldLink "CabbageCradlesModel" 64 "CabbageCradlesModel" "most" "[I" ∈ cb_ws := cb_wt (cb_t4 _ (List.mem_of_getElem? (i := 86) rfl)) rfl
theorem fa_X7_64 : cb_FA RX7 64 7 26 := ⟨RX7, TX7, 31, rfl, by decide, wi_X7, wd_870⟩
theorem wd_1152 : Cond.methodLink "CabbageCradlesModel" 218 ⟨"CabbageCradlesModel", "mightMeet", "(II)Z"⟩ ∈ cb_ws := cb_wt (cb_t5 _ (List.mem_of_getElem? (i := 128) rfl)) rfl
theorem wd_1154 : Cond.instanceMethod ⟨"CabbageCradlesModel", "mightMeet", "(II)Z"⟩ ∈ cb_ws := cb_wt (cb_t5 _ (List.mem_of_getElem? (i := 130) rfl)) rfl
theorem wd_50 : Cond.selects "CabbageCradlesModel" ⟨"CabbageCradlesModel", "mightMeet", "(II)Z"⟩ ⟨"CabbageCradlesModel", "mightMeet", "(II)Z"⟩ ∈ cb_ws := cb_wt (List.mem_of_getElem? (i := 50) (by rfl)) rfl
theorem cv_X7_218 : cb_CV RX7 218 yX7_mightMeet cX7_mightMeet 5 (some .boolean) 2 := ⟨wd_1155, wd_1152, wd_1154, wd_50, wd_73, ⟨by decide +kernel, by decide +kernel, by decide +kernel⟩, by decide⟩
theorem wd_1156 : Cond.methodLink "CabbageCradlesModel" 221 ⟨"CabbageCradlesModel", "greater", "(II)I"⟩ ∈ cb_ws := cb_wt (cb_t5 _ (List.mem_of_getElem? (i := 132) rfl)) rfl
theorem wd_1157 : Cond.static ⟨"CabbageCradlesModel", "greater", "(II)I"⟩ ∈ cb_ws := cb_wt (cb_t5 _ (List.mem_of_getElem? (i := 133) rfl)) rfl
theorem cs_X7_221 : cb_CS RX7 221 yX7_greater cX7_greater 2 (some .int) 2 := ⟨wd_1158, wd_1156, wd_1157, wd_73, ⟨by decide +kernel, by decide +kernel, by decide +kernel⟩, by decide⟩
theorem wd_1151 : Cond.code ⟨"CabbageCradlesModel", "metNow", "()I"⟩ prog_9_method_61_code 7 (Option.some .int) ∈ cb_ws := cb_wt (cb_t5 _ (List.mem_of_getElem? (i := 127) rfl)) rfl
theorem wd_1148 : Cond.methodLink "CabbageCradlesModel" 224 ⟨"CabbageCradlesModel", "metNow", "()I"⟩ ∈ cb_ws := cb_wt (cb_t5 _ (List.mem_of_getElem? (i := 124) rfl)) rfl
theorem wd_1150 : Cond.instanceMethod ⟨"CabbageCradlesModel", "metNow", "()I"⟩ ∈ cb_ws := cb_wt (cb_t5 _ (List.mem_of_getElem? (i := 126) rfl)) rfl
theorem wd_49 : Cond.selects "CabbageCradlesModel" ⟨"CabbageCradlesModel", "metNow", "()I"⟩ ⟨"CabbageCradlesModel", "metNow", "()I"⟩ ∈ cb_ws := cb_wt (List.mem_of_getElem? (i := 49) (by rfl)) rfl
theorem cv_X7_224 : cb_CV RX7 224 yX7_metNow cX7_metNow 7 (some .int) 0 := ⟨wd_1151, wd_1148, wd_1150, wd_49, wd_73, ⟨by decide +kernel, by decide +kernel, by decide +kernel⟩, by decide⟩
theorem wd_1147 : Cond.code ⟨"CabbageCradlesModel", "met", "()I"⟩ prog_9_method_62_code 1 (Option.some .int) ∈ cb_ws := cb_wt (cb_t5 _ (List.mem_of_getElem? (i := 123) rfl)) rfl
theorem fp_X7_161 : cb_FP RX7 161 7 15 := ⟨RX7, TX7, 31, tyX7, rfl, by decide, wi_X7, wd_859, tyX7_ok, nmX7, rfl, by decide +kernel⟩
theorem wd_1171 : Cond.code ⟨"CabbageCradlesModel", "isMet", "(II)Z"⟩ prog_9_method_63_code 3 (Option.some .boolean) ∈ cb_ws := cb_wt (cb_t5 _ (List.mem_of_getElem? (i := 147) rfl)) rfl
theorem wd_1168 : Cond.methodLink "CabbageCradlesModel" 227 ⟨"CabbageCradlesModel", "isMet", "(II)Z"⟩ ∈ cb_ws := cb_wt (cb_t5 _ (List.mem_of_getElem? (i := 144) rfl)) rfl
theorem wd_1170 : Cond.instanceMethod ⟨"CabbageCradlesModel", "isMet", "(II)Z"⟩ ∈ cb_ws := cb_wt (cb_t5 _ (List.mem_of_getElem? (i := 146) rfl)) rfl
theorem wd_52 : Cond.selects "CabbageCradlesModel" ⟨"CabbageCradlesModel", "isMet", "(II)Z"⟩ ⟨"CabbageCradlesModel", "isMet", "(II)Z"⟩ ∈ cb_ws := cb_wt (List.mem_of_getElem? (i := 52) (by rfl)) rfl
theorem cv_X7_227 : cb_CV RX7 227 yX7_isMet cX7_isMet 3 (some .boolean) 2 := ⟨wd_1171, wd_1168, wd_1170, wd_52, wd_73, ⟨by decide +kernel, by decide +kernel, by decide +kernel⟩, by decide⟩
theorem wd_1167 : Cond.code ⟨"CabbageCradlesModel", "keepOf", "(II)I"⟩ prog_9_method_64_code 5 (Option.some .int) ∈ cb_ws := cb_wt (cb_t5 _ (List.mem_of_getElem? (i := 143) rfl)) rfl
theorem wd_1163 : Cond.constantLong "CabbageCradlesModel" 230 (-1) ∈ cb_ws := cb_wt (cb_t5 _ (List.mem_of_getElem? (i := 139) rfl)) rfl
theorem wd_1164 : Cond.methodLink "CabbageCradlesModel" 232 ⟨"CabbageCradlesModel", "keepOf", "(II)I"⟩ ∈ cb_ws := cb_wt (cb_t5 _ (List.mem_of_getElem? (i := 140) rfl)) rfl
theorem wd_1166 : Cond.instanceMethod ⟨"CabbageCradlesModel", "keepOf", "(II)I"⟩ ∈ cb_ws := cb_wt (cb_t5 _ (List.mem_of_getElem? (i := 142) rfl)) rfl
theorem wd_51 : Cond.selects "CabbageCradlesModel" ⟨"CabbageCradlesModel", "keepOf", "(II)I"⟩ ⟨"CabbageCradlesModel", "keepOf", "(II)I"⟩ ∈ cb_ws := cb_wt (List.mem_of_getElem? (i := 51) (by rfl)) rfl
theorem cv_X7_232 : cb_CV RX7 232 yX7_keepOf cX7_keepOf 5 (some .int) 2 := ⟨wd_1167, wd_1164, wd_1166, wd_51, wd_73, ⟨by decide +kernel, by decide +kernel, by decide +kernel⟩, by decide⟩
theorem wd_1162 : Cond.code ⟨"CabbageCradlesModel", "keep", "(II)I"⟩ prog_9_method_65_code 3 (Option.some .int) ∈ cb_ws := cb_wt (cb_t5 _ (List.mem_of_getElem? (i := 138) rfl)) rfl
theorem wd_1180 : Cond.methodLink "CabbageCradlesModel" 235 ⟨"CabbageCradlesModel", "ones", "(I)I"⟩ ∈ cb_ws := cb_wt (cb_t5 _ (List.mem_of_getElem? (i := 156) rfl)) rfl
theorem wd_1181 : Cond.static ⟨"CabbageCradlesModel", "ones", "(I)I"⟩ ∈ cb_ws := cb_wt (cb_t5 _ (List.mem_of_getElem? (i := 157) rfl)) rfl
theorem cs_X7_235 : cb_CS RX7 235 yX7_ones cX7_ones 3 (some .int) 1 := ⟨wd_1182, wd_1180, wd_1181, wd_73, ⟨by decide +kernel, by decide +kernel, by decide +kernel⟩, by decide⟩
theorem wd_1179 : Cond.code ⟨"CabbageCradlesModel", "sowOf", "(II)I"⟩ prog_9_method_66_code 9 (Option.some .int) ∈ cb_ws := cb_wt (cb_t5 _ (List.mem_of_getElem? (i := 155) rfl)) rfl
theorem wd_1176 : Cond.methodLink "CabbageCradlesModel" 238 ⟨"CabbageCradlesModel", "sowOf", "(II)I"⟩ ∈ cb_ws := cb_wt (cb_t5 _ (List.mem_of_getElem? (i := 152) rfl)) rfl
theorem wd_1178 : Cond.instanceMethod ⟨"CabbageCradlesModel", "sowOf", "(II)I"⟩ ∈ cb_ws := cb_wt (cb_t5 _ (List.mem_of_getElem? (i := 154) rfl)) rfl
theorem wd_53 : Cond.selects "CabbageCradlesModel" ⟨"CabbageCradlesModel", "sowOf", "(II)I"⟩ ⟨"CabbageCradlesModel", "sowOf", "(II)I"⟩ ∈ cb_ws := cb_wt (List.mem_of_getElem? (i := 53) (by rfl)) rfl
theorem cv_X7_238 : cb_CV RX7 238 yX7_sowOf cX7_sowOf 9 (some .int) 2 := ⟨wd_1179, wd_1176, wd_1178, wd_53, wd_73, ⟨by decide +kernel, by decide +kernel, by decide +kernel⟩, by decide⟩
theorem wd_1175 : Cond.code ⟨"CabbageCradlesModel", "sow", "(II)I"⟩ prog_9_method_67_code 3 (Option.some .int) ∈ cb_ws := cb_wt (cb_t5 _ (List.mem_of_getElem? (i := 151) rfl)) rfl
theorem wd_1190 : Cond.code ⟨"CabbageCradlesModel", "comeOf", "(II)I"⟩ prog_9_method_68_code 8 (Option.some .int) ∈ cb_ws := cb_wt (cb_t5 _ (List.mem_of_getElem? (i := 166) rfl)) rfl
theorem wd_1187 : Cond.methodLink "CabbageCradlesModel" 241 ⟨"CabbageCradlesModel", "comeOf", "(II)I"⟩ ∈ cb_ws := cb_wt (cb_t5 _ (List.mem_of_getElem? (i := 163) rfl)) rfl
theorem wd_1189 : Cond.instanceMethod ⟨"CabbageCradlesModel", "comeOf", "(II)I"⟩ ∈ cb_ws := cb_wt (cb_t5 _ (List.mem_of_getElem? (i := 165) rfl)) rfl
theorem wd_54 : Cond.selects "CabbageCradlesModel" ⟨"CabbageCradlesModel", "comeOf", "(II)I"⟩ ⟨"CabbageCradlesModel", "comeOf", "(II)I"⟩ ∈ cb_ws := cb_wt (List.mem_of_getElem? (i := 54) (by rfl)) rfl
theorem cv_X7_241 : cb_CV RX7 241 yX7_comeOf cX7_comeOf 8 (some .int) 2 := ⟨wd_1190, wd_1187, wd_1189, wd_54, wd_73, ⟨by decide +kernel, by decide +kernel, by decide +kernel⟩, by decide⟩
theorem wd_1186 : Cond.code ⟨"CabbageCradlesModel", "come", "(II)I"⟩ prog_9_method_69_code 3 (Option.some .int) ∈ cb_ws := cb_wt (cb_t5 _ (List.mem_of_getElem? (i := 162) rfl)) rfl
theorem wd_1195 : Cond.constantLong "CabbageCradlesModel" 244 8 ∈ cb_ws := cb_wt (cb_t5 _ (List.mem_of_getElem? (i := 171) rfl)) rfl
theorem wd_871 : Cond.fieldLink "CabbageCradlesModel" 246 "CabbageCradlesModel" "sights" "I" ∈ cb_ws := cb_wt (cb_t4 _ (List.mem_of_getElem? (i := 87) rfl)) rfl
theorem fa_X7_246 : cb_FA RX7 246 7 27 := ⟨RX7, TX7, 31, rfl, by decide, wi_X7, wd_871⟩
theorem wd_872 : Cond.fieldLink "CabbageCradlesModel" 67 "CabbageCradlesModel" "sight" "[I" ∈ cb_ws := cb_wt (cb_t4 _ (List.mem_of_getElem? (i := 88) rfl)) rfl
theorem fa_X7_67 : cb_FA RX7 67 7 28 := ⟨RX7, TX7, 31, rfl, by decide, wi_X7, wd_872⟩
theorem fp_X7_246 : cb_FP RX7 246 7 27 := ⟨RX7, TX7, 31, tyX7, rfl, by decide, wi_X7, wd_871, tyX7_ok, nmX7, rfl, by decide +kernel⟩
theorem wd_1194 : Cond.code ⟨"CabbageCradlesModel", "seen", "(II)I"⟩ prog_9_method_70_code 3 (Option.some .int) ∈ cb_ws := cb_wt (cb_t5 _ (List.mem_of_getElem? (i := 170) rfl)) rfl
theorem wd_1199 : Cond.code ⟨"CabbageCradlesModel", "forget", "()I"⟩ prog_9_method_71_code 2 (Option.some .int) ∈ cb_ws := cb_wt (cb_t5 _ (List.mem_of_getElem? (i := 175) rfl)) rfl
theorem wd_1211 : Cond.code ⟨"CabbageCradlesModel", "isSeen", "()Z"⟩ prog_9_method_72_code 4 (Option.some .boolean) ∈ cb_ws := cb_wt (cb_t5 _ (List.mem_of_getElem? (i := 187) rfl)) rfl
theorem wd_1208 : Cond.methodLink "CabbageCradlesModel" 249 ⟨"CabbageCradlesModel", "isSeen", "()Z"⟩ ∈ cb_ws := cb_wt (cb_t5 _ (List.mem_of_getElem? (i := 184) rfl)) rfl
theorem wd_1210 : Cond.instanceMethod ⟨"CabbageCradlesModel", "isSeen", "()Z"⟩ ∈ cb_ws := cb_wt (cb_t5 _ (List.mem_of_getElem? (i := 186) rfl)) rfl
theorem wd_56 : Cond.selects "CabbageCradlesModel" ⟨"CabbageCradlesModel", "isSeen", "()Z"⟩ ⟨"CabbageCradlesModel", "isSeen", "()Z"⟩ ∈ cb_ws := cb_wt (List.mem_of_getElem? (i := 56) (by rfl)) rfl
theorem cv_X7_249 : cb_CV RX7 249 yX7_isSeen cX7_isSeen 4 (some .boolean) 0 := ⟨wd_1211, wd_1208, wd_1210, wd_56, wd_73, ⟨by decide +kernel, by decide +kernel, by decide +kernel⟩, by decide⟩
theorem wd_1207 : Cond.code ⟨"CabbageCradlesModel", "neverNow", "()I"⟩ prog_9_method_73_code 3 (Option.some .int) ∈ cb_ws := cb_wt (cb_t5 _ (List.mem_of_getElem? (i := 183) rfl)) rfl
theorem wd_1204 : Cond.methodLink "CabbageCradlesModel" 253 ⟨"CabbageCradlesModel", "neverNow", "()I"⟩ ∈ cb_ws := cb_wt (cb_t5 _ (List.mem_of_getElem? (i := 180) rfl)) rfl
theorem wd_1206 : Cond.instanceMethod ⟨"CabbageCradlesModel", "neverNow", "()I"⟩ ∈ cb_ws := cb_wt (cb_t5 _ (List.mem_of_getElem? (i := 182) rfl)) rfl
theorem wd_55 : Cond.selects "CabbageCradlesModel" ⟨"CabbageCradlesModel", "neverNow", "()I"⟩ ⟨"CabbageCradlesModel", "neverNow", "()I"⟩ ∈ cb_ws := cb_wt (List.mem_of_getElem? (i := 55) (by rfl)) rfl
theorem cv_X7_253 : cb_CV RX7 253 yX7_neverNow cX7_neverNow 3 (some .int) 0 := ⟨wd_1207, wd_1204, wd_1206, wd_55, wd_73, ⟨by decide +kernel, by decide +kernel, by decide +kernel⟩, by decide⟩
theorem wd_1203 : Cond.code ⟨"CabbageCradlesModel", "never", "()I"⟩ prog_9_method_74_code 1 (Option.some .int) ∈ cb_ws := cb_wt (cb_t5 _ (List.mem_of_getElem? (i := 179) rfl)) rfl
theorem wd_1219 : Cond.code ⟨"CabbageCradlesModel", "wasOf", "(II)I"⟩ prog_9_method_75_code 6 (Option.some .int) ∈ cb_ws := cb_wt (cb_t5 _ (List.mem_of_getElem? (i := 195) rfl)) rfl
theorem wd_1216 : Cond.methodLink "CabbageCradlesModel" 256 ⟨"CabbageCradlesModel", "wasOf", "(II)I"⟩ ∈ cb_ws := cb_wt (cb_t5 _ (List.mem_of_getElem? (i := 192) rfl)) rfl
theorem wd_1218 : Cond.instanceMethod ⟨"CabbageCradlesModel", "wasOf", "(II)I"⟩ ∈ cb_ws := cb_wt (cb_t5 _ (List.mem_of_getElem? (i := 194) rfl)) rfl
theorem wd_57 : Cond.selects "CabbageCradlesModel" ⟨"CabbageCradlesModel", "wasOf", "(II)I"⟩ ⟨"CabbageCradlesModel", "wasOf", "(II)I"⟩ ∈ cb_ws := cb_wt (List.mem_of_getElem? (i := 57) (by rfl)) rfl
theorem cv_X7_256 : cb_CV RX7 256 yX7_wasOf cX7_wasOf 6 (some .int) 2 := ⟨wd_1219, wd_1216, wd_1218, wd_57, wd_73, ⟨by decide +kernel, by decide +kernel, by decide +kernel⟩, by decide⟩
theorem wd_1215 : Cond.code ⟨"CabbageCradlesModel", "was", "(II)I"⟩ prog_9_method_76_code 3 (Option.some .int) ∈ cb_ws := cb_wt (cb_t5 _ (List.mem_of_getElem? (i := 191) rfl)) rfl
theorem wd_873 : Cond.fieldLink "CabbageCradlesModel" 70 "CabbageCradlesModel" "alike" "[I" ∈ cb_ws := cb_wt (cb_t4 _ (List.mem_of_getElem? (i := 89) rfl)) rfl
theorem fa_X7_70 : cb_FA RX7 70 7 29 := ⟨RX7, TX7, 31, rfl, by decide, wi_X7, wd_873⟩
theorem wd_1227 : Cond.code ⟨"CabbageCradlesModel", "askOf", "(I)I"⟩ prog_9_method_77_code 9 (Option.some .int) ∈ cb_ws := cb_wt (cb_t5 _ (List.mem_of_getElem? (i := 203) rfl)) rfl
theorem wd_1224 : Cond.methodLink "CabbageCradlesModel" 259 ⟨"CabbageCradlesModel", "askOf", "(I)I"⟩ ∈ cb_ws := cb_wt (cb_t5 _ (List.mem_of_getElem? (i := 200) rfl)) rfl
theorem wd_1226 : Cond.instanceMethod ⟨"CabbageCradlesModel", "askOf", "(I)I"⟩ ∈ cb_ws := cb_wt (cb_t5 _ (List.mem_of_getElem? (i := 202) rfl)) rfl
theorem wd_58 : Cond.selects "CabbageCradlesModel" ⟨"CabbageCradlesModel", "askOf", "(I)I"⟩ ⟨"CabbageCradlesModel", "askOf", "(I)I"⟩ ∈ cb_ws := cb_wt (List.mem_of_getElem? (i := 58) (by rfl)) rfl
theorem cv_X7_259 : cb_CV RX7 259 yX7_askOf cX7_askOf 9 (some .int) 1 := ⟨wd_1227, wd_1224, wd_1226, wd_58, wd_73, ⟨by decide +kernel, by decide +kernel, by decide +kernel⟩, by decide⟩
theorem wd_1223 : Cond.code ⟨"CabbageCradlesModel", "ask", "(I)I"⟩ prog_9_method_78_code 2 (Option.some .int) ∈ cb_ws := cb_wt (cb_t5 _ (List.mem_of_getElem? (i := 199) rfl)) rfl
theorem fp_X7_73 : cb_FP RX7 73 7 16 := ⟨RX7, TX7, 31, tyX7, rfl, by decide, wi_X7, wd_860, tyX7_ok, nmX7, rfl, by decide +kernel⟩
theorem wd_1238 : Cond.methodLink "CabbageCradlesModel" 262 ⟨"CabbageCradlesModel", "part", "(JJI)J"⟩ ∈ cb_ws := cb_wt (cb_t5 _ (List.mem_of_getElem? (i := 214) rfl)) rfl
theorem wd_1239 : Cond.static ⟨"CabbageCradlesModel", "part", "(JJI)J"⟩ ∈ cb_ws := cb_wt (cb_t5 _ (List.mem_of_getElem? (i := 215) rfl)) rfl
theorem cs_X7_262 : cb_CS RX7 262 yX7_part cX7_part 11 (some .long) 3 := ⟨wd_1240, wd_1238, wd_1239, wd_73, ⟨by decide +kernel, by decide +kernel, by decide +kernel⟩, by decide⟩
theorem wd_1237 : Cond.code ⟨"CabbageCradlesModel", "chillOf", "(IIII)J"⟩ prog_9_method_79_code 11 (Option.some .long) ∈ cb_ws := cb_wt (cb_t5 _ (List.mem_of_getElem? (i := 213) rfl)) rfl
theorem wd_1232 : Cond.constantLong "CabbageCradlesModel" 266 16 ∈ cb_ws := cb_wt (cb_t5 _ (List.mem_of_getElem? (i := 208) rfl)) rfl
theorem wd_1233 : Cond.constantLong "CabbageCradlesModel" 268 9 ∈ cb_ws := cb_wt (cb_t5 _ (List.mem_of_getElem? (i := 209) rfl)) rfl
theorem wd_1234 : Cond.methodLink "CabbageCradlesModel" 270 ⟨"CabbageCradlesModel", "chillOf", "(IIII)J"⟩ ∈ cb_ws := cb_wt (cb_t5 _ (List.mem_of_getElem? (i := 210) rfl)) rfl
theorem wd_1236 : Cond.instanceMethod ⟨"CabbageCradlesModel", "chillOf", "(IIII)J"⟩ ∈ cb_ws := cb_wt (cb_t5 _ (List.mem_of_getElem? (i := 212) rfl)) rfl
theorem wd_59 : Cond.selects "CabbageCradlesModel" ⟨"CabbageCradlesModel", "chillOf", "(IIII)J"⟩ ⟨"CabbageCradlesModel", "chillOf", "(IIII)J"⟩ ∈ cb_ws := cb_wt (List.mem_of_getElem? (i := 59) (by rfl)) rfl
theorem cv_X7_270 : cb_CV RX7 270 yX7_chillOf cX7_chillOf 11 (some .long) 4 := ⟨wd_1237, wd_1234, wd_1236, wd_59, wd_73, ⟨by decide +kernel, by decide +kernel, by decide +kernel⟩, by decide⟩
theorem wd_1241 : Cond.methodLink "CabbageCradlesModel" 274 ⟨"CabbageCradlesModel", "no", "(I)J"⟩ ∈ cb_ws := cb_wt (cb_t5 _ (List.mem_of_getElem? (i := 217) rfl)) rfl
theorem wd_1242 : Cond.static ⟨"CabbageCradlesModel", "no", "(I)J"⟩ ∈ cb_ws := cb_wt (cb_t5 _ (List.mem_of_getElem? (i := 218) rfl)) rfl
theorem cs_X7_274 : cb_CS RX7 274 yX7_no cX7_no 1 (some .long) 1 := ⟨wd_1243, wd_1241, wd_1242, wd_73, ⟨by decide +kernel, by decide +kernel, by decide +kernel⟩, by decide⟩
theorem wd_1231 : Cond.code ⟨"CabbageCradlesModel", "chill", "(IIII)J"⟩ prog_9_method_80_code 5 (Option.some .long) ∈ cb_ws := cb_wt (cb_t5 _ (List.mem_of_getElem? (i := 207) rfl)) rfl
theorem wd_1257 : Cond.constant "CabbageCradlesModel" 278 1103515245 ∈ cb_ws := cb_wt (cb_t5 _ (List.mem_of_getElem? (i := 233) rfl)) rfl
theorem wd_874 : Cond.fieldLink "CabbageCradlesModel" 279 "CabbageCradlesModel" "drawn" "I" ∈ cb_ws := cb_wt (cb_t4 _ (List.mem_of_getElem? (i := 90) rfl)) rfl
theorem fa_X7_279 : cb_FA RX7 279 7 30 := ⟨RX7, TX7, 31, rfl, by decide, wi_X7, wd_874⟩
theorem fp_X7_279 : cb_FP RX7 279 7 30 := ⟨RX7, TX7, 31, tyX7, rfl, by decide, wi_X7, wd_874, tyX7_ok, nmX7, rfl, by decide +kernel⟩
theorem wd_1256 : Cond.code ⟨"CabbageCradlesModel", "lot", "(I)I"⟩ prog_9_method_81_code 2 (Option.some .int) ∈ cb_ws := cb_wt (cb_t5 _ (List.mem_of_getElem? (i := 232) rfl)) rfl
theorem wd_1253 : Cond.methodLink "CabbageCradlesModel" 282 ⟨"CabbageCradlesModel", "lot", "(I)I"⟩ ∈ cb_ws := cb_wt (cb_t5 _ (List.mem_of_getElem? (i := 229) rfl)) rfl
theorem wd_1255 : Cond.instanceMethod ⟨"CabbageCradlesModel", "lot", "(I)I"⟩ ∈ cb_ws := cb_wt (cb_t5 _ (List.mem_of_getElem? (i := 231) rfl)) rfl
theorem wd_61 : Cond.selects "CabbageCradlesModel" ⟨"CabbageCradlesModel", "lot", "(I)I"⟩ ⟨"CabbageCradlesModel", "lot", "(I)I"⟩ ∈ cb_ws := cb_wt (List.mem_of_getElem? (i := 61) (by rfl)) rfl
theorem cv_X7_282 : cb_CV RX7 282 yX7_lot cX7_lot 2 (some .int) 1 := ⟨wd_1256, wd_1253, wd_1255, wd_61, wd_73, ⟨by decide +kernel, by decide +kernel, by decide +kernel⟩, by decide⟩
theorem wd_1252 : Cond.code ⟨"CabbageCradlesModel", "yearOf", "(II)I"⟩ prog_9_method_82_code 4 (Option.some .int) ∈ cb_ws := cb_wt (cb_t5 _ (List.mem_of_getElem? (i := 228) rfl)) rfl
theorem wd_1249 : Cond.methodLink "CabbageCradlesModel" 285 ⟨"CabbageCradlesModel", "yearOf", "(II)I"⟩ ∈ cb_ws := cb_wt (cb_t5 _ (List.mem_of_getElem? (i := 225) rfl)) rfl
theorem wd_1251 : Cond.instanceMethod ⟨"CabbageCradlesModel", "yearOf", "(II)I"⟩ ∈ cb_ws := cb_wt (cb_t5 _ (List.mem_of_getElem? (i := 227) rfl)) rfl
theorem wd_60 : Cond.selects "CabbageCradlesModel" ⟨"CabbageCradlesModel", "yearOf", "(II)I"⟩ ⟨"CabbageCradlesModel", "yearOf", "(II)I"⟩ ∈ cb_ws := cb_wt (List.mem_of_getElem? (i := 60) (by rfl)) rfl
theorem cv_X7_285 : cb_CV RX7 285 yX7_yearOf cX7_yearOf 4 (some .int) 2 := ⟨wd_1252, wd_1249, wd_1251, wd_60, wd_73, ⟨by decide +kernel, by decide +kernel, by decide +kernel⟩, by decide⟩
theorem wd_1248 : Cond.code ⟨"CabbageCradlesModel", "year", "(II)I"⟩ prog_9_method_83_code 3 (Option.some .int) ∈ cb_ws := cb_wt (cb_t5 _ (List.mem_of_getElem? (i := 224) rfl)) rfl
theorem wd_1262 : Cond.methodLink "CabbageCradlesModel" 288 ⟨"CabbageCradlesModel", "lesser", "(II)I"⟩ ∈ cb_ws := cb_wt (cb_t5 _ (List.mem_of_getElem? (i := 238) rfl)) rfl
theorem wd_1263 : Cond.static ⟨"CabbageCradlesModel", "lesser", "(II)I"⟩ ∈ cb_ws := cb_wt (cb_t5 _ (List.mem_of_getElem? (i := 239) rfl)) rfl
theorem cs_X7_288 : cb_CS RX7 288 yX7_lesser cX7_lesser 2 (some .int) 2 := ⟨wd_1264, wd_1262, wd_1263, wd_73, ⟨by decide +kernel, by decide +kernel, by decide +kernel⟩, by decide⟩
theorem wd_1261 : Cond.code ⟨"CabbageCradlesModel", "write", "(II)I"⟩ prog_9_method_84_code 5 (Option.some .int) ∈ cb_ws := cb_wt (cb_t5 _ (List.mem_of_getElem? (i := 237) rfl)) rfl
theorem fa_X7_83 : cb_FA RX7 83 7 4 := ⟨RX7, TX7, 31, rfl, by decide, wi_X7, wd_848⟩
theorem wd_1268 : Cond.code ⟨"CabbageCradlesModel", "count", "(I)I"⟩ prog_9_method_85_code 2 (Option.some .int) ∈ cb_ws := cb_wt (cb_t6 _ (List.mem_of_getElem? (i := 4) rfl)) rfl
theorem wd_1274 : Cond.constantLong "CabbageCradlesModel" 291 31 ∈ cb_ws := cb_wt (cb_t6 _ (List.mem_of_getElem? (i := 10) rfl)) rfl
theorem wd_1279 : Cond.code ⟨"CabbageCradlesModel", "tellsHead", "(JI)J"⟩ prog_9_method_86_code 7 (Option.some .long) ∈ cb_ws := cb_wt (cb_t6 _ (List.mem_of_getElem? (i := 15) rfl)) rfl
theorem wd_1283 : Cond.code ⟨"CabbageCradlesModel", "tellsCouple", "(JI)J"⟩ prog_9_method_87_code 7 (Option.some .long) ∈ cb_ws := cb_wt (cb_t6 _ (List.mem_of_getElem? (i := 19) rfl)) rfl
theorem wd_1273 : Cond.constantLong "CabbageCradlesModel" 293 17 ∈ cb_ws := cb_wt (cb_t6 _ (List.mem_of_getElem? (i := 9) rfl)) rfl
theorem wd_1275 : Cond.methodLink "CabbageCradlesModel" 295 ⟨"CabbageCradlesModel", "count", "(I)I"⟩ ∈ cb_ws := cb_wt (cb_t6 _ (List.mem_of_getElem? (i := 11) rfl)) rfl
theorem wd_1266 : Cond.instanceMethod ⟨"CabbageCradlesModel", "count", "(I)I"⟩ ∈ cb_ws := cb_wt (cb_t6 _ (List.mem_of_getElem? (i := 2) rfl)) rfl
theorem wd_1267 : Cond.selects "CabbageCradlesModel" ⟨"CabbageCradlesModel", "count", "(I)I"⟩ ⟨"CabbageCradlesModel", "count", "(I)I"⟩ ∈ cb_ws := cb_wt (cb_t6 _ (List.mem_of_getElem? (i := 3) rfl)) rfl
theorem cv_X7_295 : cb_CV RX7 295 yX7_count cX7_count 2 (some .int) 1 := ⟨wd_1268, wd_1275, wd_1266, wd_1267, wd_73, ⟨by decide +kernel, by decide +kernel, by decide +kernel⟩, by decide⟩
theorem wd_1276 : Cond.methodLink "CabbageCradlesModel" 298 ⟨"CabbageCradlesModel", "tellsHead", "(JI)J"⟩ ∈ cb_ws := cb_wt (cb_t6 _ (List.mem_of_getElem? (i := 12) rfl)) rfl
theorem wd_1278 : Cond.instanceMethod ⟨"CabbageCradlesModel", "tellsHead", "(JI)J"⟩ ∈ cb_ws := cb_wt (cb_t6 _ (List.mem_of_getElem? (i := 14) rfl)) rfl
theorem wd_62 : Cond.selects "CabbageCradlesModel" ⟨"CabbageCradlesModel", "tellsHead", "(JI)J"⟩ ⟨"CabbageCradlesModel", "tellsHead", "(JI)J"⟩ ∈ cb_ws := cb_wt (List.mem_of_getElem? (i := 62) (by rfl)) rfl
theorem cv_X7_298 : cb_CV RX7 298 yX7_tellsHead cX7_tellsHead 7 (some .long) 2 := ⟨wd_1279, wd_1276, wd_1278, wd_62, wd_73, ⟨by decide +kernel, by decide +kernel, by decide +kernel⟩, by decide⟩
theorem wd_1280 : Cond.methodLink "CabbageCradlesModel" 302 ⟨"CabbageCradlesModel", "tellsCouple", "(JI)J"⟩ ∈ cb_ws := cb_wt (cb_t6 _ (List.mem_of_getElem? (i := 16) rfl)) rfl
theorem wd_1282 : Cond.instanceMethod ⟨"CabbageCradlesModel", "tellsCouple", "(JI)J"⟩ ∈ cb_ws := cb_wt (cb_t6 _ (List.mem_of_getElem? (i := 18) rfl)) rfl
theorem wd_63 : Cond.selects "CabbageCradlesModel" ⟨"CabbageCradlesModel", "tellsCouple", "(JI)J"⟩ ⟨"CabbageCradlesModel", "tellsCouple", "(JI)J"⟩ ∈ cb_ws := cb_wt (List.mem_of_getElem? (i := 63) (by rfl)) rfl
theorem cv_X7_302 : cb_CV RX7 302 yX7_tellsCouple cX7_tellsCouple 7 (some .long) 2 := ⟨wd_1283, wd_1280, wd_1282, wd_63, wd_73, ⟨by decide +kernel, by decide +kernel, by decide +kernel⟩, by decide⟩
theorem wd_1272 : Cond.code ⟨"CabbageCradlesModel", "digest", "()J"⟩ prog_9_method_88_code 4 (Option.some .long) ∈ cb_ws := cb_wt (cb_t6 _ (List.mem_of_getElem? (i := 8) rfl)) rfl
theorem wd_168 : Cond.fieldLink "CabbageCradles$Sheet" 19 "CabbageCradles$Sheet" "size" "I" ∈ cb_ws := cb_wt (cb_t1 _ (List.mem_of_getElem? (i := 104) rfl)) rfl
theorem wi_X3 : ∀ x ∈ u_ws RX3 TX3 3, x ∈ cb_ws := fun x h => List.mem_filter.mpr ⟨(show ∀ x ∈ u_ws RX3 TX3 3, x ∈ lw_tbl by decide +kernel) x h, (show ∀ x ∈ u_ws RX3 TX3 3, goodWord x = true by decide +kernel) x h⟩
theorem fa_X3_19 : cb_FA RX3 19 3 2 := ⟨RX3, TX3, 3, rfl, by decide, wi_X3, wd_168⟩
theorem wd_506 : Cond.code ⟨"CabbageCradles$Sheet", "isLost", "()Z"⟩ prog_5_method_2_code 1 (Option.some .boolean) ∈ cb_ws := cb_wt (cb_t2 _ (List.mem_of_getElem? (i := 202) rfl)) rfl
theorem wd_164 : Cond.fieldLink "CabbageCradles$Sheet" 9 "CabbageCradles$Sheet" "items" "[I" ∈ cb_ws := cb_wt (cb_t1 _ (List.mem_of_getElem? (i := 100) rfl)) rfl
theorem fa_X3_9 : cb_FA RX3 9 3 0 := ⟨RX3, TX3, 3, rfl, by decide, wi_X3, wd_164⟩
theorem wd_80 : Cond.initialized "java/util/Arrays" ∈ cb_ws := cb_wt (cb_t1 _ (List.mem_of_getElem? (i := 16) rfl)) rfl
theorem wd_767 : Cond.methodLink "CabbageCradles$Sheet" 22 ⟨"java/util/Arrays", "fill", "([II)V"⟩ ∈ cb_ws := cb_wt (cb_t3 _ (List.mem_of_getElem? (i := 223) rfl)) rfl
theorem wd_550 : Cond.static ⟨"java/util/Arrays", "fill", "([II)V"⟩ ∈ cb_ws := cb_wt (cb_t3 _ (List.mem_of_getElem? (i := 6) rfl)) rfl
theorem cs_X3_22 : cb_CS RX3 22 yJ7_fill_53178 cJ7_fill_53178 4 none 2 := ⟨wd_551, wd_767, wd_550, wd_80, ⟨by decide +kernel, by decide +kernel, by decide +kernel⟩, by decide⟩
theorem wd_166 : Cond.fieldLink "CabbageCradles$Sheet" 15 "CabbageCradles$Sheet" "form" "I" ∈ cb_ws := cb_wt (cb_t1 _ (List.mem_of_getElem? (i := 102) rfl)) rfl
theorem fp_X3_15 : cb_FP RX3 15 3 1 := ⟨RX3, TX3, 3, tyX3, rfl, by decide, wi_X3, wd_166, tyX3_ok, nmX3, rfl, by decide +kernel⟩
theorem fp_X3_19 : cb_FP RX3 19 3 2 := ⟨RX3, TX3, 3, tyX3, rfl, by decide, wi_X3, wd_168, tyX3_ok, nmX3, rfl, by decide +kernel⟩
theorem wd_766 : Cond.code ⟨"CabbageCradles$Sheet", "renew", "(II)V"⟩ prog_5_method_3_code 3 (Option.none) ∈ cb_ws := cb_wt (cb_t3 _ (List.mem_of_getElem? (i := 222) rfl)) rfl
theorem wn_515 : Cond.methodLinkNest "CabbageCradles$Sheet" 28 ⟨"CabbageCradles", "isOff", "(II)Z"⟩ "CabbageCradles" ∈ cb_nest := List.mem_filter.mpr ⟨cb_t2 _ (List.mem_of_getElem? (i := 211) rfl), rfl⟩
theorem cn_X3_28 : cb_CN RX3 28 yX6_isOff cX6_isOff 2 (some .boolean) 2 "CabbageCradles" := ⟨wd_323, wn_515, wd_322, wd_65, ⟨by decide +kernel, by decide +kernel, by decide +kernel⟩, by decide⟩
theorem wd_514 : Cond.code ⟨"CabbageCradles$Sheet", "itemAt", "(I)I"⟩ prog_5_method_4_code 2 (Option.some .int) ∈ cb_ws := cb_wt (cb_t2 _ (List.mem_of_getElem? (i := 210) rfl)) rfl
theorem fa_X3_15 : cb_FA RX3 15 3 1 := ⟨RX3, TX3, 3, rfl, by decide, wi_X3, wd_166⟩
theorem wd_782 : Cond.code ⟨"CabbageCradles$Sheet", "put", "(II)V"⟩ prog_5_method_5_code 3 (Option.none) ∈ cb_ws := cb_wt (cb_t3 _ (List.mem_of_getElem? (i := 238) rfl)) rfl
theorem wd_795 : Cond.code ⟨"CabbageCradles$Sheet", "hasRun", "(II)Z"⟩ prog_5_method_6_code 3 (Option.some .boolean) ∈ cb_ws := cb_wt (cb_t4 _ (List.mem_of_getElem? (i := 11) rfl)) rfl
theorem wd_275 : Cond.fieldLink "CabbageCradles$Chances" 16 "CabbageCradles$Chances" "lastDay" "I" ∈ cb_ws := cb_wt (cb_t1 _ (List.mem_of_getElem? (i := 211) rfl)) rfl
theorem wi_X0 : ∀ x ∈ u_ws RX0 TX0 2, x ∈ cb_ws := fun x h => List.mem_filter.mpr ⟨(show ∀ x ∈ u_ws RX0 TX0 2, x ∈ lw_tbl by decide +kernel) x h, (show ∀ x ∈ u_ws RX0 TX0 2, goodWord x = true by decide +kernel) x h⟩
theorem fp_X0_16 : cb_FP RX0 16 0 1 := ⟨RX0, TX0, 2, tyX0, rfl, by decide, wi_X0, wd_275, tyX0_ok, nmX0, rfl, by decide +kernel⟩
theorem wd_327 : Cond.code ⟨"CabbageCradles$Chances", "forgetAll", "()V"⟩ prog_2_method_2_code 1 (Option.none) ∈ cb_ws := cb_wt (cb_t2 _ (List.mem_of_getElem? (i := 23) rfl)) rfl
theorem wd_274 : Cond.fieldLink "CabbageCradles$Chances" 11 "CabbageCradles$Chances" "cases" "[[I" ∈ cb_ws := cb_wt (cb_t1 _ (List.mem_of_getElem? (i := 210) rfl)) rfl
theorem fa_X0_11 : cb_FA RX0 11 0 0 := ⟨RX0, TX0, 2, rfl, by decide, wi_X0, wd_274⟩
theorem wd_745 : Cond.methodLink "CabbageCradles$Chances" 20 ⟨"java/util/Arrays", "fill", "([II)V"⟩ ∈ cb_ws := cb_wt (cb_t3 _ (List.mem_of_getElem? (i := 201) rfl)) rfl
theorem cs_X0_20 : cb_CS RX0 20 yJ7_fill_53178 cJ7_fill_53178 4 none 2 := ⟨wd_551, wd_745, wd_550, wd_80, ⟨by decide +kernel, by decide +kernel, by decide +kernel⟩, by decide⟩
theorem wd_744 : Cond.code ⟨"CabbageCradles$Chances", "startFor", "(I)V"⟩ prog_2_method_3_code 3 (Option.none) ∈ cb_ws := cb_wt (cb_t3 _ (List.mem_of_getElem? (i := 200) rfl)) rfl
theorem wd_749 : Cond.code ⟨"CabbageCradles$Chances", "addCase", "(II)V"⟩ prog_2_method_4_code 4 (Option.none) ∈ cb_ws := cb_wt (cb_t3 _ (List.mem_of_getElem? (i := 205) rfl)) rfl
theorem fa_X0_16 : cb_FA RX0 16 0 1 := ⟨RX0, TX0, 2, rfl, by decide, wi_X0, wd_275⟩
theorem wd_753 : Cond.code ⟨"CabbageCradles$Chances", "weightOf", "(II)J"⟩ prog_2_method_5_code 9 (Option.some .long) ∈ cb_ws := cb_wt (cb_t3 _ (List.mem_of_getElem? (i := 209) rfl)) rfl
theorem wd_133 : Cond.fieldLink "CabbageCradles$Field" 30 "CabbageCradles$Text" "parts" "I" ∈ cb_ws := cb_wt (cb_t1 _ (List.mem_of_getElem? (i := 69) rfl)) rfl
theorem wi_X4 : ∀ x ∈ u_ws RX4 TX4 8, x ∈ cb_ws := fun x h => List.mem_filter.mpr ⟨(show ∀ x ∈ u_ws RX4 TX4 8, x ∈ lw_tbl by decide +kernel) x h, (show ∀ x ∈ u_ws RX4 TX4 8, goodWord x = true by decide +kernel) x h⟩
theorem fa_X1_30 : cb_FA RX1 30 4 6 := ⟨RX4, TX4, 8, rfl, by decide, wi_X4, wd_133⟩
theorem wd_197 : Cond.fieldLink "CabbageCradles$Field" 36 "CabbageCradles$Field" "heads" "I" ∈ cb_ws := cb_wt (cb_t1 _ (List.mem_of_getElem? (i := 133) rfl)) rfl
theorem wi_X1 : ∀ x ∈ u_ws RX1 TX1 9, x ∈ cb_ws := fun x h => List.mem_filter.mpr ⟨(show ∀ x ∈ u_ws RX1 TX1 9, x ∈ lw_tbl by decide +kernel) x h, (show ∀ x ∈ u_ws RX1 TX1 9, goodWord x = true by decide +kernel) x h⟩
theorem fp_X1_36 : cb_FP RX1 36 1 6 := ⟨RX1, TX1, 9, tyX1, rfl, by decide, wi_X1, wd_197, tyX1_ok, nmX1, rfl, by decide +kernel⟩
theorem wd_124 : Cond.fieldLink "CabbageCradles$Field" 39 "CabbageCradles$Text" "kinds" "[I" ∈ cb_ws := cb_wt (cb_t1 _ (List.mem_of_getElem? (i := 60) rfl)) rfl
theorem fa_X1_39 : cb_FA RX1 39 4 3 := ⟨RX4, TX4, 8, rfl, by decide, wi_X4, wd_124⟩
theorem wd_183 : Cond.fieldLink "CabbageCradles$Field" 9 "CabbageCradles$Field" "sorts" "[I" ∈ cb_ws := cb_wt (cb_t1 _ (List.mem_of_getElem? (i := 119) rfl)) rfl
theorem fa_X1_9 : cb_FA RX1 9 1 0 := ⟨RX1, TX1, 9, rfl, by decide, wi_X1, wd_183⟩
theorem wd_533 : Cond.methodLink "CabbageCradles$Field" 42 ⟨"java/lang/System", "arraycopy", "(Ljava/lang/Object;ILjava/lang/Object;II)V"⟩ ∈ cb_ws := cb_wt (cb_t2 _ (List.mem_of_getElem? (i := 229) rfl)) rfl
theorem wd_535 : Cond.native ⟨"java/lang/System", "arraycopy", "(Ljava/lang/Object;ILjava/lang/Object;II)V"⟩ ∈ cb_ws := cb_wt (cb_t2 _ (List.mem_of_getElem? (i := 231) rfl)) rfl
theorem wd_534 : Cond.static ⟨"java/lang/System", "arraycopy", "(Ljava/lang/Object;ILjava/lang/Object;II)V"⟩ ∈ cb_ws := cb_wt (cb_t2 _ (List.mem_of_getElem? (i := 230) rfl)) rfl
theorem wd_79 : Cond.initialized "java/lang/System" ∈ cb_ws := cb_wt (cb_t1 _ (List.mem_of_getElem? (i := 15) rfl)) rfl
theorem wd_127 : Cond.fieldLink "CabbageCradles$Field" 48 "CabbageCradles$Text" "days" "[I" ∈ cb_ws := cb_wt (cb_t1 _ (List.mem_of_getElem? (i := 63) rfl)) rfl
theorem fa_X1_48 : cb_FA RX1 48 4 4 := ⟨RX4, TX4, 8, rfl, by decide, wi_X4, wd_127⟩
theorem wd_186 : Cond.fieldLink "CabbageCradles$Field" 15 "CabbageCradles$Field" "dues" "[I" ∈ cb_ws := cb_wt (cb_t1 _ (List.mem_of_getElem? (i := 122) rfl)) rfl
theorem fa_X1_15 : cb_FA RX1 15 1 1 := ⟨RX1, TX1, 9, rfl, by decide, wi_X1, wd_186⟩
theorem wd_532 : Cond.code ⟨"CabbageCradles$Field", "plant", "(LCabbageCradles$Text;)V"⟩ prog_3_method_2_code 2 (Option.none) ∈ cb_ws := cb_wt (cb_t2 _ (List.mem_of_getElem? (i := 228) rfl)) rfl
theorem wd_201 : Cond.fieldLink "CabbageCradles$Field" 51 "CabbageCradles$Field" "couples" "I" ∈ cb_ws := cb_wt (cb_t1 _ (List.mem_of_getElem? (i := 137) rfl)) rfl
theorem fp_X1_51 : cb_FP RX1 51 1 7 := ⟨RX1, TX1, 9, tyX1, rfl, by decide, wi_X1, wd_201, tyX1_ok, nmX1, rfl, by decide +kernel⟩
theorem wd_188 : Cond.fieldLink "CabbageCradles$Field" 18 "CabbageCradles$Field" "wants" "[I" ∈ cb_ws := cb_wt (cb_t1 _ (List.mem_of_getElem? (i := 124) rfl)) rfl
theorem fa_X1_18 : cb_FA RX1 18 1 2 := ⟨RX1, TX1, 9, rfl, by decide, wi_X1, wd_188⟩
theorem wd_190 : Cond.fieldLink "CabbageCradles$Field" 21 "CabbageCradles$Field" "froms" "[I" ∈ cb_ws := cb_wt (cb_t1 _ (List.mem_of_getElem? (i := 126) rfl)) rfl
theorem fa_X1_21 : cb_FA RX1 21 1 3 := ⟨RX1, TX1, 9, rfl, by decide, wi_X1, wd_190⟩
theorem wd_130 : Cond.fieldLink "CabbageCradles$Field" 54 "CabbageCradles$Text" "lengths" "[I" ∈ cb_ws := cb_wt (cb_t1 _ (List.mem_of_getElem? (i := 66) rfl)) rfl
theorem fa_X1_54 : cb_FA RX1 54 4 5 := ⟨RX4, TX4, 8, rfl, by decide, wi_X4, wd_130⟩
theorem wd_193 : Cond.fieldLink "CabbageCradles$Field" 24 "CabbageCradles$Field" "stays" "[I" ∈ cb_ws := cb_wt (cb_t1 _ (List.mem_of_getElem? (i := 129) rfl)) rfl
theorem fa_X1_24 : cb_FA RX1 24 1 4 := ⟨RX1, TX1, 9, rfl, by decide, wi_X1, wd_193⟩
theorem wd_539 : Cond.code ⟨"CabbageCradles$Field", "invite", "(LCabbageCradles$Text;)V"⟩ prog_3_method_3_code 2 (Option.none) ∈ cb_ws := cb_wt (cb_t2 _ (List.mem_of_getElem? (i := 235) rfl)) rfl
theorem wd_203 : Cond.fieldLink "CabbageCradles$Field" 57 "CabbageCradles$Field" "frosts" "I" ∈ cb_ws := cb_wt (cb_t1 _ (List.mem_of_getElem? (i := 139) rfl)) rfl
theorem fp_X1_57 : cb_FP RX1 57 1 8 := ⟨RX1, TX1, 9, tyX1, rfl, by decide, wi_X1, wd_203, tyX1_ok, nmX1, rfl, by decide +kernel⟩
theorem wd_109 : Cond.fieldLink "CabbageCradles$Field" 60 "CabbageCradles$Row" "size" "I" ∈ cb_ws := cb_wt (cb_t1 _ (List.mem_of_getElem? (i := 45) rfl)) rfl
theorem fa_X1_60 : cb_FA RX1 60 2 1 := ⟨RX2, TX2, 2, rfl, by decide, wi_X2, wd_109⟩
theorem fa_X1_57 : cb_FA RX1 57 1 8 := ⟨RX1, TX1, 9, rfl, by decide, wi_X1, wd_203⟩
theorem wd_67 : Cond.initialized "CabbageCradles$Row" ∈ cb_ws := cb_wt (cb_t1 _ (List.mem_of_getElem? (i := 3) rfl)) rfl
theorem wd_544 : Cond.methodLink "CabbageCradles$Field" 65 ⟨"CabbageCradles$Row", "at", "(I)I"⟩ ∈ cb_ws := cb_wt (cb_t3 _ (List.mem_of_getElem? (i := 0) rfl)) rfl
theorem wd_345 : Cond.instanceMethod ⟨"CabbageCradles$Row", "at", "(I)I"⟩ ∈ cb_ws := cb_wt (cb_t2 _ (List.mem_of_getElem? (i := 41) rfl)) rfl
theorem wd_346 : Cond.selects "CabbageCradles$Row" ⟨"CabbageCradles$Row", "at", "(I)I"⟩ ⟨"CabbageCradles$Row", "at", "(I)I"⟩ ∈ cb_ws := cb_wt (cb_t2 _ (List.mem_of_getElem? (i := 42) rfl)) rfl
theorem cv_X1_65 : cb_CV RX1 65 yX2_at cX2_at 2 (some .int) 1 := ⟨wd_347, wd_544, wd_345, wd_346, wd_67, ⟨by decide +kernel, by decide +kernel, by decide +kernel⟩, by decide⟩
theorem wd_543 : Cond.code ⟨"CabbageCradles$Field", "freeze", "(LCabbageCradles$Row;)V"⟩ prog_3_method_4_code 3 (Option.none) ∈ cb_ws := cb_wt (cb_t2 _ (List.mem_of_getElem? (i := 239) rfl)) rfl
theorem wd_195 : Cond.fieldLink "CabbageCradles$Field" 27 "CabbageCradles$Field" "rabbitDays" "[I" ∈ cb_ws := cb_wt (cb_t1 _ (List.mem_of_getElem? (i := 131) rfl)) rfl
theorem fa_X1_27 : cb_FA RX1 27 1 5 := ⟨RX1, TX1, 9, rfl, by decide, wi_X1, wd_195⟩
theorem wd_549 : Cond.methodLink "CabbageCradles$Field" 69 ⟨"java/util/Arrays", "fill", "([II)V"⟩ ∈ cb_ws := cb_wt (cb_t3 _ (List.mem_of_getElem? (i := 5) rfl)) rfl
theorem cs_X1_69 : cb_CS RX1 69 yJ7_fill_53178 cJ7_fill_53178 4 none 2 := ⟨wd_551, wd_549, wd_550, wd_80, ⟨by decide +kernel, by decide +kernel, by decide +kernel⟩, by decide⟩
theorem wn_552 : Cond.methodLinkNest "CabbageCradles$Field" 75 ⟨"CabbageCradles", "isOff", "(II)Z"⟩ "CabbageCradles" ∈ cb_nest := List.mem_filter.mpr ⟨cb_t3 _ (List.mem_of_getElem? (i := 8) rfl), rfl⟩
theorem cn_X1_75 : cb_CN RX1 75 yX6_isOff cX6_isOff 2 (some .boolean) 2 "CabbageCradles" := ⟨wd_323, wn_552, wd_322, wd_65, ⟨by decide +kernel, by decide +kernel, by decide +kernel⟩, by decide⟩
theorem wd_553 : Cond.methodLink "CabbageCradles$Field" 79 ⟨"java/lang/Math", "min", "(II)I"⟩ ∈ cb_ws := cb_wt (cb_t3 _ (List.mem_of_getElem? (i := 9) rfl)) rfl
theorem wd_383 : Cond.static ⟨"java/lang/Math", "min", "(II)I"⟩ ∈ cb_ws := cb_wt (cb_t2 _ (List.mem_of_getElem? (i := 79) rfl)) rfl
theorem wd_68 : Cond.initialized "java/lang/Math" ∈ cb_ws := cb_wt (cb_t1 _ (List.mem_of_getElem? (i := 4) rfl)) rfl
theorem wd_384 : Cond.code ⟨"java/lang/Math", "min", "(II)I"⟩ prog_12_method_69_code 2 (Option.some .int) ∈ cb_ws := cb_wt (cb_t2 _ (List.mem_of_getElem? (i := 80) rfl)) rfl
theorem wd_548 : Cond.code ⟨"CabbageCradles$Field", "letRabbitsIn", "(LCabbageCradles$Row;I)V"⟩ prog_3_method_5_code 5 (Option.none) ∈ cb_ws := cb_wt (cb_t3 _ (List.mem_of_getElem? (i := 4) rfl)) rfl
theorem wd_639 : Cond.code ⟨"CabbageCradles$Field", "comesOn", "(II)Z"⟩ prog_3_method_6_code 3 (Option.some .boolean) ∈ cb_ws := cb_wt (cb_t3 _ (List.mem_of_getElem? (i := 95) rfl)) rfl
theorem wd_643 : Cond.code ⟨"CabbageCradles$Field", "isWantedBy", "(II)Z"⟩ prog_3_method_7_code 3 (Option.some .boolean) ∈ cb_ws := cb_wt (cb_t3 _ (List.mem_of_getElem? (i := 99) rfl)) rfl
theorem wd_571 : Cond.code ⟨"CabbageCradles$Field", "firstRipe", "(I)I"⟩ prog_3_method_8_code 4 (Option.some .int) ∈ cb_ws := cb_wt (cb_t3 _ (List.mem_of_getElem? (i := 27) rfl)) rfl
theorem wd_597 : Cond.code ⟨"CabbageCradles$Field", "firstFrost", "()I"⟩ prog_3_method_9_code 2 (Option.some .int) ∈ cb_ws := cb_wt (cb_t3 _ (List.mem_of_getElem? (i := 53) rfl)) rfl
theorem wd_230 : Cond.fieldLink "CabbageCradles$Walk" 9 "CabbageCradles$Walk" "ripe" "[I" ∈ cb_ws := cb_wt (cb_t1 _ (List.mem_of_getElem? (i := 166) rfl)) rfl
theorem wi_X5 : ∀ x ∈ u_ws RX5 TX5 10, x ∈ cb_ws := fun x h => List.mem_filter.mpr ⟨(show ∀ x ∈ u_ws RX5 TX5 10, x ∈ lw_tbl by decide +kernel) x h, (show ∀ x ∈ u_ws RX5 TX5 10, goodWord x = true by decide +kernel) x h⟩
theorem fa_X5_9 : cb_FA RX5 9 5 0 := ⟨RX5, TX5, 10, rfl, by decide, wi_X5, wd_230⟩
theorem wd_562 : Cond.methodLink "CabbageCradles$Walk" 64 ⟨"java/util/Arrays", "fill", "([II)V"⟩ ∈ cb_ws := cb_wt (cb_t3 _ (List.mem_of_getElem? (i := 18) rfl)) rfl
theorem cs_X5_64 : cb_CS RX5 64 yJ7_fill_53178 cJ7_fill_53178 4 none 2 := ⟨wd_551, wd_562, wd_550, wd_80, ⟨by decide +kernel, by decide +kernel, by decide +kernel⟩, by decide⟩
theorem wd_232 : Cond.fieldLink "CabbageCradles$Walk" 15 "CabbageCradles$Walk" "bolted" "[I" ∈ cb_ws := cb_wt (cb_t1 _ (List.mem_of_getElem? (i := 168) rfl)) rfl
theorem fa_X5_15 : cb_FA RX5 15 5 1 := ⟨RX5, TX5, 10, rfl, by decide, wi_X5, wd_232⟩
theorem wd_233 : Cond.fieldLink "CabbageCradles$Walk" 18 "CabbageCradles$Walk" "headGot" "[I" ∈ cb_ws := cb_wt (cb_t1 _ (List.mem_of_getElem? (i := 169) rfl)) rfl
theorem fa_X5_18 : cb_FA RX5 18 5 2 := ⟨RX5, TX5, 10, rfl, by decide, wi_X5, wd_233⟩
theorem wd_235 : Cond.fieldLink "CabbageCradles$Walk" 21 "CabbageCradles$Walk" "dayGot" "[I" ∈ cb_ws := cb_wt (cb_t1 _ (List.mem_of_getElem? (i := 171) rfl)) rfl
theorem fa_X5_21 : cb_FA RX5 21 5 3 := ⟨RX5, TX5, 10, rfl, by decide, wi_X5, wd_235⟩
theorem wd_237 : Cond.fieldLink "CabbageCradles$Walk" 24 "CabbageCradles$Walk" "goodFor" "[I" ∈ cb_ws := cb_wt (cb_t1 _ (List.mem_of_getElem? (i := 173) rfl)) rfl
theorem fa_X5_24 : cb_FA RX5 24 5 4 := ⟨RX5, TX5, 10, rfl, by decide, wi_X5, wd_237⟩
theorem wd_239 : Cond.fieldLink "CabbageCradles$Walk" 27 "CabbageCradles$Walk" "ripeOn" "[I" ∈ cb_ws := cb_wt (cb_t1 _ (List.mem_of_getElem? (i := 175) rfl)) rfl
theorem fa_X5_27 : cb_FA RX5 27 5 5 := ⟨RX5, TX5, 10, rfl, by decide, wi_X5, wd_239⟩
theorem wd_240 : Cond.fieldLink "CabbageCradles$Walk" 30 "CabbageCradles$Walk" "comingOn" "[I" ∈ cb_ws := cb_wt (cb_t1 _ (List.mem_of_getElem? (i := 176) rfl)) rfl
theorem fa_X5_30 : cb_FA RX5 30 5 6 := ⟨RX5, TX5, 10, rfl, by decide, wi_X5, wd_240⟩
theorem wd_241 : Cond.fieldLink "CabbageCradles$Walk" 33 "CabbageCradles$Walk" "ofSort" "[I" ∈ cb_ws := cb_wt (cb_t1 _ (List.mem_of_getElem? (i := 177) rfl)) rfl
theorem fa_X5_33 : cb_FA RX5 33 5 7 := ⟨RX5, TX5, 10, rfl, by decide, wi_X5, wd_241⟩
theorem wd_242 : Cond.fieldLink "CabbageCradles$Walk" 55 "CabbageCradles$Walk" "taken" "I" ∈ cb_ws := cb_wt (cb_t1 _ (List.mem_of_getElem? (i := 178) rfl)) rfl
theorem fp_X5_55 : cb_FP RX5 55 5 8 := ⟨RX5, TX5, 10, tyX5, rfl, by decide, wi_X5, wd_242, tyX5_ok, nmX5, rfl, by decide +kernel⟩
theorem wd_243 : Cond.fieldLink "CabbageCradles$Walk" 58 "CabbageCradles$Walk" "served" "I" ∈ cb_ws := cb_wt (cb_t1 _ (List.mem_of_getElem? (i := 179) rfl)) rfl
theorem fp_X5_58 : cb_FP RX5 58 5 9 := ⟨RX5, TX5, 10, tyX5, rfl, by decide, wi_X5, wd_243, tyX5_ok, nmX5, rfl, by decide +kernel⟩
theorem wd_561 : Cond.code ⟨"CabbageCradles$Walk", "clear", "()V"⟩ prog_7_method_3_code 1 (Option.none) ∈ cb_ws := cb_wt (cb_t3 _ (List.mem_of_getElem? (i := 17) rfl)) rfl
theorem wd_184 : Cond.fieldLink "CabbageCradles$Walk" 70 "CabbageCradles$Field" "sorts" "[I" ∈ cb_ws := cb_wt (cb_t1 _ (List.mem_of_getElem? (i := 120) rfl)) rfl
theorem fa_X5_70 : cb_FA RX5 70 1 0 := ⟨RX1, TX1, 9, rfl, by decide, wi_X1, wd_184⟩
theorem wn_567 : Cond.methodLinkNest "CabbageCradles$Walk" 73 ⟨"CabbageCradles", "isOff", "(II)Z"⟩ "CabbageCradles" ∈ cb_nest := List.mem_filter.mpr ⟨cb_t3 _ (List.mem_of_getElem? (i := 23) rfl), rfl⟩
theorem cn_X5_73 : cb_CN RX5 73 yX6_isOff cX6_isOff 2 (some .boolean) 2 "CabbageCradles" := ⟨wd_323, wn_567, wd_322, wd_65, ⟨by decide +kernel, by decide +kernel, by decide +kernel⟩, by decide⟩
theorem wd_70 : Cond.initialized "CabbageCradles$Field" ∈ cb_ws := cb_wt (cb_t1 _ (List.mem_of_getElem? (i := 6) rfl)) rfl
theorem wd_568 : Cond.methodLink "CabbageCradles$Walk" 77 ⟨"CabbageCradles$Field", "firstRipe", "(I)I"⟩ ∈ cb_ws := cb_wt (cb_t3 _ (List.mem_of_getElem? (i := 24) rfl)) rfl
theorem wd_569 : Cond.instanceMethod ⟨"CabbageCradles$Field", "firstRipe", "(I)I"⟩ ∈ cb_ws := cb_wt (cb_t3 _ (List.mem_of_getElem? (i := 25) rfl)) rfl
theorem wd_570 : Cond.selects "CabbageCradles$Field" ⟨"CabbageCradles$Field", "firstRipe", "(I)I"⟩ ⟨"CabbageCradles$Field", "firstRipe", "(I)I"⟩ ∈ cb_ws := cb_wt (cb_t3 _ (List.mem_of_getElem? (i := 26) rfl)) rfl
theorem cv_X5_77 : cb_CV RX5 77 yX1_firstRipe cX1_firstRipe 4 (some .int) 1 := ⟨wd_571, wd_568, wd_569, wd_570, wd_70, ⟨by decide +kernel, by decide +kernel, by decide +kernel⟩, by decide⟩
theorem wn_572 : Cond.fieldLinkNest "CabbageCradles$Walk" 81 "CabbageCradles" "RIPE_DAYS" "[I" "CabbageCradles" ∈ cb_nest := List.mem_filter.mpr ⟨cb_t3 _ (List.mem_of_getElem? (i := 28) rfl), rfl⟩
theorem wd_196 : Cond.fieldLink "CabbageCradles$Walk" 84 "CabbageCradles$Field" "rabbitDays" "[I" ∈ cb_ws := cb_wt (cb_t1 _ (List.mem_of_getElem? (i := 132) rfl)) rfl
theorem fa_X5_84 : cb_FA RX5 84 1 5 := ⟨RX1, TX1, 9, rfl, by decide, wi_X1, wd_196⟩
theorem wd_574 : Cond.methodLink "CabbageCradles$Walk" 87 ⟨"java/lang/Math", "min", "(II)I"⟩ ∈ cb_ws := cb_wt (cb_t3 _ (List.mem_of_getElem? (i := 30) rfl)) rfl
theorem wd_566 : Cond.code ⟨"CabbageCradles$Walk", "bringHead", "(LCabbageCradles$Field;I)V"⟩ prog_7_method_4_code 6 (Option.none) ∈ cb_ws := cb_wt (cb_t3 _ (List.mem_of_getElem? (i := 22) rfl)) rfl
theorem wd_189 : Cond.fieldLink "CabbageCradles$Walk" 93 "CabbageCradles$Field" "wants" "[I" ∈ cb_ws := cb_wt (cb_t1 _ (List.mem_of_getElem? (i := 125) rfl)) rfl
theorem fa_X5_93 : cb_FA RX5 93 1 2 := ⟨RX1, TX1, 9, rfl, by decide, wi_X1, wd_189⟩
theorem wd_191 : Cond.fieldLink "CabbageCradles$Walk" 96 "CabbageCradles$Field" "froms" "[I" ∈ cb_ws := cb_wt (cb_t1 _ (List.mem_of_getElem? (i := 127) rfl)) rfl
theorem fa_X5_96 : cb_FA RX5 96 1 3 := ⟨RX1, TX1, 9, rfl, by decide, wi_X1, wd_191⟩
theorem wd_194 : Cond.fieldLink "CabbageCradles$Walk" 99 "CabbageCradles$Field" "stays" "[I" ∈ cb_ws := cb_wt (cb_t1 _ (List.mem_of_getElem? (i := 130) rfl)) rfl
theorem fa_X5_99 : cb_FA RX5 99 1 4 := ⟨RX1, TX1, 9, rfl, by decide, wi_X1, wd_194⟩
theorem wd_578 : Cond.code ⟨"CabbageCradles$Walk", "bringCouple", "(LCabbageCradles$Field;I)V"⟩ prog_7_method_5_code 6 (Option.none) ∈ cb_ws := cb_wt (cb_t3 _ (List.mem_of_getElem? (i := 34) rfl)) rfl
theorem wd_200 : Cond.fieldLink "CabbageCradles$Walk" 49 "CabbageCradles$Field" "couples" "I" ∈ cb_ws := cb_wt (cb_t1 _ (List.mem_of_getElem? (i := 136) rfl)) rfl
theorem fa_X5_49 : cb_FA RX5 49 1 7 := ⟨RX1, TX1, 9, rfl, by decide, wi_X1, wd_200⟩
theorem fa_X5_58 : cb_FA RX5 58 5 9 := ⟨RX5, TX5, 10, rfl, by decide, wi_X5, wd_243⟩
theorem fa_X5_55 : cb_FA RX5 55 5 8 := ⟨RX5, TX5, 10, rfl, by decide, wi_X5, wd_242⟩
theorem wn_583 : Cond.methodLinkNest "CabbageCradles$Walk" 102 ⟨"CabbageCradles", "leastBit", "(I)I"⟩ "CabbageCradles" ∈ cb_nest := List.mem_filter.mpr ⟨cb_t3 _ (List.mem_of_getElem? (i := 39) rfl), rfl⟩
theorem wd_584 : Cond.static ⟨"CabbageCradles", "leastBit", "(I)I"⟩ ∈ cb_ws := cb_wt (cb_t3 _ (List.mem_of_getElem? (i := 40) rfl)) rfl
theorem cn_X5_102 : cb_CN RX5 102 yX6_leastBit cX6_leastBit 2 (some .int) 1 "CabbageCradles" := ⟨wd_585, wn_583, wd_584, wd_65, ⟨by decide +kernel, by decide +kernel, by decide +kernel⟩, by decide⟩
theorem wd_582 : Cond.code ⟨"CabbageCradles$Walk", "dawn", "(LCabbageCradles$Field;I)V"⟩ prog_7_method_6_code 5 (Option.none) ∈ cb_ws := cb_wt (cb_t3 _ (List.mem_of_getElem? (i := 38) rfl)) rfl
theorem wd_71 : Cond.initialized "CabbageCradles$Walk" ∈ cb_ws := cb_wt (cb_t1 _ (List.mem_of_getElem? (i := 7) rfl)) rfl
theorem wd_558 : Cond.methodLink "CabbageCradles$Walk" 36 ⟨"CabbageCradles$Walk", "clear", "()V"⟩ ∈ cb_ws := cb_wt (cb_t3 _ (List.mem_of_getElem? (i := 14) rfl)) rfl
theorem wd_560 : Cond.instanceMethod ⟨"CabbageCradles$Walk", "clear", "()V"⟩ ∈ cb_ws := cb_wt (cb_t3 _ (List.mem_of_getElem? (i := 16) rfl)) rfl
theorem wd_9 : Cond.selects "CabbageCradles$Walk" ⟨"CabbageCradles$Walk", "clear", "()V"⟩ ⟨"CabbageCradles$Walk", "clear", "()V"⟩ ∈ cb_ws := cb_wt (List.mem_of_getElem? (i := 9) (by rfl)) rfl
theorem cv_X5_36 : cb_CV RX5 36 yX5_clear cX5_clear 1 none 0 := ⟨wd_561, wd_558, wd_560, wd_9, wd_71, ⟨by decide +kernel, by decide +kernel, by decide +kernel⟩, by decide⟩
theorem wd_198 : Cond.fieldLink "CabbageCradles$Walk" 39 "CabbageCradles$Field" "heads" "I" ∈ cb_ws := cb_wt (cb_t1 _ (List.mem_of_getElem? (i := 134) rfl)) rfl
theorem fa_X5_39 : cb_FA RX5 39 1 6 := ⟨RX1, TX1, 9, rfl, by decide, wi_X1, wd_198⟩
theorem wd_563 : Cond.methodLink "CabbageCradles$Walk" 45 ⟨"CabbageCradles$Walk", "bringHead", "(LCabbageCradles$Field;I)V"⟩ ∈ cb_ws := cb_wt (cb_t3 _ (List.mem_of_getElem? (i := 19) rfl)) rfl
theorem wd_565 : Cond.instanceMethod ⟨"CabbageCradles$Walk", "bringHead", "(LCabbageCradles$Field;I)V"⟩ ∈ cb_ws := cb_wt (cb_t3 _ (List.mem_of_getElem? (i := 21) rfl)) rfl
theorem wd_10 : Cond.selects "CabbageCradles$Walk" ⟨"CabbageCradles$Walk", "bringHead", "(LCabbageCradles$Field;I)V"⟩ ⟨"CabbageCradles$Walk", "bringHead", "(LCabbageCradles$Field;I)V"⟩ ∈ cb_ws := cb_wt (List.mem_of_getElem? (i := 10) (by rfl)) rfl
theorem cv_X5_45 : cb_CV RX5 45 yX5_bringHead cX5_bringHead 6 none 2 := ⟨wd_566, wd_563, wd_565, wd_10, wd_71, ⟨by decide +kernel, by decide +kernel, by decide +kernel⟩, by decide⟩
theorem wd_575 : Cond.methodLink "CabbageCradles$Walk" 52 ⟨"CabbageCradles$Walk", "bringCouple", "(LCabbageCradles$Field;I)V"⟩ ∈ cb_ws := cb_wt (cb_t3 _ (List.mem_of_getElem? (i := 31) rfl)) rfl
theorem wd_577 : Cond.instanceMethod ⟨"CabbageCradles$Walk", "bringCouple", "(LCabbageCradles$Field;I)V"⟩ ∈ cb_ws := cb_wt (cb_t3 _ (List.mem_of_getElem? (i := 33) rfl)) rfl
theorem wd_11 : Cond.selects "CabbageCradles$Walk" ⟨"CabbageCradles$Walk", "bringCouple", "(LCabbageCradles$Field;I)V"⟩ ⟨"CabbageCradles$Walk", "bringCouple", "(LCabbageCradles$Field;I)V"⟩ ∈ cb_ws := cb_wt (List.mem_of_getElem? (i := 11) (by rfl)) rfl
theorem cv_X5_52 : cb_CV RX5 52 yX5_bringCouple cX5_bringCouple 6 none 2 := ⟨wd_578, wd_575, wd_577, wd_11, wd_71, ⟨by decide +kernel, by decide +kernel, by decide +kernel⟩, by decide⟩
theorem wd_579 : Cond.methodLink "CabbageCradles$Walk" 61 ⟨"CabbageCradles$Walk", "dawn", "(LCabbageCradles$Field;I)V"⟩ ∈ cb_ws := cb_wt (cb_t3 _ (List.mem_of_getElem? (i := 35) rfl)) rfl
theorem wd_581 : Cond.instanceMethod ⟨"CabbageCradles$Walk", "dawn", "(LCabbageCradles$Field;I)V"⟩ ∈ cb_ws := cb_wt (cb_t3 _ (List.mem_of_getElem? (i := 37) rfl)) rfl
theorem wd_12 : Cond.selects "CabbageCradles$Walk" ⟨"CabbageCradles$Walk", "dawn", "(LCabbageCradles$Field;I)V"⟩ ⟨"CabbageCradles$Walk", "dawn", "(LCabbageCradles$Field;I)V"⟩ ∈ cb_ws := cb_wt (List.mem_of_getElem? (i := 12) (by rfl)) rfl
theorem cv_X5_61 : cb_CV RX5 61 yX5_dawn cX5_dawn 5 none 2 := ⟨wd_582, wd_579, wd_581, wd_12, wd_71, ⟨by decide +kernel, by decide +kernel, by decide +kernel⟩, by decide⟩
theorem wd_557 : Cond.code ⟨"CabbageCradles$Walk", "go", "(LCabbageCradles$Field;)V"⟩ prog_7_method_2_code 3 (Option.none) ∈ cb_ws := cb_wt (cb_t3 _ (List.mem_of_getElem? (i := 13) rfl)) rfl
theorem wd_593 : Cond.code ⟨"CabbageCradles$Walk", "lifterOf", "(I)I"⟩ prog_7_method_7_code 3 (Option.some .int) ∈ cb_ws := cb_wt (cb_t3 _ (List.mem_of_getElem? (i := 49) rfl)) rfl
theorem wd_590 : Cond.methodLink "CabbageCradles$Walk" 105 ⟨"CabbageCradles$Walk", "lifterOf", "(I)I"⟩ ∈ cb_ws := cb_wt (cb_t3 _ (List.mem_of_getElem? (i := 46) rfl)) rfl
theorem wd_591 : Cond.instanceMethod ⟨"CabbageCradles$Walk", "lifterOf", "(I)I"⟩ ∈ cb_ws := cb_wt (cb_t3 _ (List.mem_of_getElem? (i := 47) rfl)) rfl
theorem wd_592 : Cond.selects "CabbageCradles$Walk" ⟨"CabbageCradles$Walk", "lifterOf", "(I)I"⟩ ⟨"CabbageCradles$Walk", "lifterOf", "(I)I"⟩ ∈ cb_ws := cb_wt (cb_t3 _ (List.mem_of_getElem? (i := 48) rfl)) rfl
theorem cv_X5_105 : cb_CV RX5 105 yX5_lifterOf cX5_lifterOf 3 (some .int) 1 := ⟨wd_593, wd_590, wd_591, wd_592, wd_71, ⟨by decide +kernel, by decide +kernel, by decide +kernel⟩, by decide⟩
theorem wd_594 : Cond.methodLink "CabbageCradles$Walk" 108 ⟨"CabbageCradles$Field", "firstFrost", "()I"⟩ ∈ cb_ws := cb_wt (cb_t3 _ (List.mem_of_getElem? (i := 50) rfl)) rfl
theorem wd_595 : Cond.instanceMethod ⟨"CabbageCradles$Field", "firstFrost", "()I"⟩ ∈ cb_ws := cb_wt (cb_t3 _ (List.mem_of_getElem? (i := 51) rfl)) rfl
theorem wd_596 : Cond.selects "CabbageCradles$Field" ⟨"CabbageCradles$Field", "firstFrost", "()I"⟩ ⟨"CabbageCradles$Field", "firstFrost", "()I"⟩ ∈ cb_ws := cb_wt (cb_t3 _ (List.mem_of_getElem? (i := 52) rfl)) rfl
theorem cv_X5_108 : cb_CV RX5 108 yX1_firstFrost cX1_firstFrost 2 (some .int) 0 := ⟨wd_597, wd_594, wd_595, wd_596, wd_70, ⟨by decide +kernel, by decide +kernel, by decide +kernel⟩, by decide⟩
theorem wd_589 : Cond.code ⟨"CabbageCradles$Walk", "stateOf", "(LCabbageCradles$Field;II)I"⟩ prog_7_method_8_code 5 (Option.some .int) ∈ cb_ws := cb_wt (cb_t3 _ (List.mem_of_getElem? (i := 45) rfl)) rfl
theorem wd_647 : Cond.code ⟨"CabbageCradles$Walk", "isStillWithout", "(II)Z"⟩ prog_7_method_11_code 3 (Option.some .boolean) ∈ cb_ws := cb_wt (cb_t3 _ (List.mem_of_getElem? (i := 103) rfl)) rfl
theorem wd_636 : Cond.methodLink "CabbageCradles$Walk" 116 ⟨"CabbageCradles$Field", "comesOn", "(II)Z"⟩ ∈ cb_ws := cb_wt (cb_t3 _ (List.mem_of_getElem? (i := 92) rfl)) rfl
theorem wd_637 : Cond.instanceMethod ⟨"CabbageCradles$Field", "comesOn", "(II)Z"⟩ ∈ cb_ws := cb_wt (cb_t3 _ (List.mem_of_getElem? (i := 93) rfl)) rfl
theorem wd_638 : Cond.selects "CabbageCradles$Field" ⟨"CabbageCradles$Field", "comesOn", "(II)Z"⟩ ⟨"CabbageCradles$Field", "comesOn", "(II)Z"⟩ ∈ cb_ws := cb_wt (cb_t3 _ (List.mem_of_getElem? (i := 94) rfl)) rfl
theorem cv_X5_116 : cb_CV RX5 116 yX1_comesOn cX1_comesOn 3 (some .boolean) 2 := ⟨wd_639, wd_636, wd_637, wd_638, wd_70, ⟨by decide +kernel, by decide +kernel, by decide +kernel⟩, by decide⟩
theorem wd_640 : Cond.methodLink "CabbageCradles$Walk" 119 ⟨"CabbageCradles$Field", "isWantedBy", "(II)Z"⟩ ∈ cb_ws := cb_wt (cb_t3 _ (List.mem_of_getElem? (i := 96) rfl)) rfl
theorem wd_641 : Cond.instanceMethod ⟨"CabbageCradles$Field", "isWantedBy", "(II)Z"⟩ ∈ cb_ws := cb_wt (cb_t3 _ (List.mem_of_getElem? (i := 97) rfl)) rfl
theorem wd_642 : Cond.selects "CabbageCradles$Field" ⟨"CabbageCradles$Field", "isWantedBy", "(II)Z"⟩ ⟨"CabbageCradles$Field", "isWantedBy", "(II)Z"⟩ ∈ cb_ws := cb_wt (cb_t3 _ (List.mem_of_getElem? (i := 98) rfl)) rfl
theorem cv_X5_119 : cb_CV RX5 119 yX1_isWantedBy cX1_isWantedBy 3 (some .boolean) 2 := ⟨wd_643, wd_640, wd_641, wd_642, wd_70, ⟨by decide +kernel, by decide +kernel, by decide +kernel⟩, by decide⟩
theorem wd_644 : Cond.methodLink "CabbageCradles$Walk" 122 ⟨"CabbageCradles$Walk", "isStillWithout", "(II)Z"⟩ ∈ cb_ws := cb_wt (cb_t3 _ (List.mem_of_getElem? (i := 100) rfl)) rfl
theorem wd_646 : Cond.instanceMethod ⟨"CabbageCradles$Walk", "isStillWithout", "(II)Z"⟩ ∈ cb_ws := cb_wt (cb_t3 _ (List.mem_of_getElem? (i := 102) rfl)) rfl
theorem wd_16 : Cond.selects "CabbageCradles$Walk" ⟨"CabbageCradles$Walk", "isStillWithout", "(II)Z"⟩ ⟨"CabbageCradles$Walk", "isStillWithout", "(II)Z"⟩ ∈ cb_ws := cb_wt (List.mem_of_getElem? (i := 16) (by rfl)) rfl
theorem cv_X5_122 : cb_CV RX5 122 yX5_isStillWithout cX5_isStillWithout 3 (some .boolean) 2 := ⟨wd_647, wd_644, wd_646, wd_16, wd_71, ⟨by decide +kernel, by decide +kernel, by decide +kernel⟩, by decide⟩
theorem wd_635 : Cond.code ⟨"CabbageCradles$Walk", "isOutOfTurn", "(LCabbageCradles$Field;I)Z"⟩ prog_7_method_10_code 5 (Option.some .boolean) ∈ cb_ws := cb_wt (cb_t3 _ (List.mem_of_getElem? (i := 91) rfl)) rfl
theorem wd_632 : Cond.methodLink "CabbageCradles$Walk" 112 ⟨"CabbageCradles$Walk", "isOutOfTurn", "(LCabbageCradles$Field;I)Z"⟩ ∈ cb_ws := cb_wt (cb_t3 _ (List.mem_of_getElem? (i := 88) rfl)) rfl
theorem wd_634 : Cond.instanceMethod ⟨"CabbageCradles$Walk", "isOutOfTurn", "(LCabbageCradles$Field;I)Z"⟩ ∈ cb_ws := cb_wt (cb_t3 _ (List.mem_of_getElem? (i := 90) rfl)) rfl
theorem wd_15 : Cond.selects "CabbageCradles$Walk" ⟨"CabbageCradles$Walk", "isOutOfTurn", "(LCabbageCradles$Field;I)Z"⟩ ⟨"CabbageCradles$Walk", "isOutOfTurn", "(LCabbageCradles$Field;I)Z"⟩ ∈ cb_ws := cb_wt (List.mem_of_getElem? (i := 15) (by rfl)) rfl
theorem cv_X5_112 : cb_CV RX5 112 yX5_isOutOfTurn cX5_isOutOfTurn 5 (some .boolean) 2 := ⟨wd_635, wd_632, wd_634, wd_15, wd_71, ⟨by decide +kernel, by decide +kernel, by decide +kernel⟩, by decide⟩
theorem wd_631 : Cond.code ⟨"CabbageCradles$Walk", "firstOutOfTurn", "(LCabbageCradles$Field;)I"⟩ prog_7_method_9_code 4 (Option.some .int) ∈ cb_ws := cb_wt (cb_t3 _ (List.mem_of_getElem? (i := 87) rfl)) rfl
