theorem wd_323 : Cond.code ⟨"CabbageCradles", "isOff", "(II)Z"⟩ prog_1_method_39_code 2 (Option.some .boolean) ∈ cb_ws := cb_wt (cb_t2 _ (List.mem_of_getElem? (i := 19) rfl)) rfl
theorem wd_108 : Cond.fieldLink "CabbageCradles$Row" 21 "CabbageCradles$Row" "size" "I" ∈ cb_ws := cb_wt (cb_t1 _ (List.mem_of_getElem? (i := 44) rfl)) rfl
theorem wi_X2 : ∀ x ∈ u_ws RX2 TX2 2, x ∈ cb_ws := fun x h => List.mem_filter.mpr ⟨(show ∀ x ∈ u_ws RX2 TX2 2, x ∈ lw_tbl by decide +kernel) x h, (show ∀ x ∈ u_ws RX2 TX2 2, goodWord x = true by decide +kernel) x h⟩
theorem fa_X2_21 : cb_FA RX2 21 2 1 := ⟨RX2, TX2, 2, rfl, by decide, wi_X2, wd_108⟩
theorem wd_65 : Cond.initialized "CabbageCradles" ∈ cb_ws := cb_wt (cb_t1 _ (List.mem_of_getElem? (i := 1) rfl)) rfl
theorem wn_348 : Cond.methodLinkNest "CabbageCradles$Row" 25 ⟨"CabbageCradles", "isOff", "(II)Z"⟩ "CabbageCradles" ∈ cb_nest := List.mem_filter.mpr ⟨cb_t2 _ (List.mem_of_getElem? (i := 44) rfl), rfl⟩
theorem wd_322 : Cond.static ⟨"CabbageCradles", "isOff", "(II)Z"⟩ ∈ cb_ws := cb_wt (cb_t2 _ (List.mem_of_getElem? (i := 18) rfl)) rfl
theorem cn_X2_25 : cb_CN RX2 25 yX6_isOff cX6_isOff 2 (some .boolean) 2 "CabbageCradles" := ⟨wd_323, wn_348, wd_322, wd_65, ⟨by decide +kernel, by decide +kernel, by decide +kernel⟩, by decide⟩
theorem wd_107 : Cond.fieldLink "CabbageCradles$Row" 15 "CabbageCradles$Row" "items" "[I" ∈ cb_ws := cb_wt (cb_t1 _ (List.mem_of_getElem? (i := 43) rfl)) rfl
theorem fa_X2_15 : cb_FA RX2 15 2 0 := ⟨RX2, TX2, 2, rfl, by decide, wi_X2, wd_107⟩
theorem wd_347 : Cond.code ⟨"CabbageCradles$Row", "at", "(I)I"⟩ prog_4_method_2_code 2 (Option.some .int) ∈ cb_ws := cb_wt (cb_t2 _ (List.mem_of_getElem? (i := 43) rfl)) rfl
theorem fp_X2_21 : cb_FP RX2 21 2 1 := ⟨RX2, TX2, 2, tyX2, rfl, by decide, wi_X2, wd_108, tyX2_ok, nmX2, rfl, by decide +kernel⟩
theorem wd_335 : Cond.code ⟨"CabbageCradles$Row", "add", "(I)I"⟩ prog_4_method_3_code 2 (Option.some .int) ∈ cb_ws := cb_wt (cb_t2 _ (List.mem_of_getElem? (i := 31) rfl)) rfl
theorem wd_464 : Cond.code ⟨"CabbageCradles$Row", "dropLast", "()I"⟩ prog_4_method_4_code 1 (Option.some .int) ∈ cb_ws := cb_wt (cb_t2 _ (List.mem_of_getElem? (i := 160) rfl)) rfl
theorem wd_452 : Cond.code ⟨"CabbageCradles$Row", "clear", "()I"⟩ prog_4_method_5_code 2 (Option.some .int) ∈ cb_ws := cb_wt (cb_t2 _ (List.mem_of_getElem? (i := 148) rfl)) rfl
theorem wd_585 : Cond.code ⟨"CabbageCradles", "leastBit", "(I)I"⟩ prog_1_method_45_code 2 (Option.some .int) ∈ cb_ws := cb_wt (cb_t3 _ (List.mem_of_getElem? (i := 41) rfl)) rfl
theorem wd_655 : Cond.constant "java/lang/Integer" 265 1431655765 ∈ cb_ws := cb_wt (cb_t3 _ (List.mem_of_getElem? (i := 111) rfl)) rfl
theorem wd_656 : Cond.constant "java/lang/Integer" 266 858993459 ∈ cb_ws := cb_wt (cb_t3 _ (List.mem_of_getElem? (i := 112) rfl)) rfl
theorem wd_657 : Cond.constant "java/lang/Integer" 267 252645135 ∈ cb_ws := cb_wt (cb_t3 _ (List.mem_of_getElem? (i := 113) rfl)) rfl
theorem wd_654 : Cond.code ⟨"java/lang/Integer", "bitCount", "(I)I"⟩ prog_11_method_49_code 1 (Option.some .int) ∈ cb_ws := cb_wt (cb_t3 _ (List.mem_of_getElem? (i := 110) rfl)) rfl
theorem wd_551 : Cond.code ⟨"java/util/Arrays", "fill", "([II)V"⟩ prog_17_method_103_code 4 (Option.none) ∈ cb_ws := cb_wt (cb_t3 _ (List.mem_of_getElem? (i := 7) rfl)) rfl
theorem wd_948 : Cond.code ⟨"CabbageCradlesModel", "in", "(JJJ)Z"⟩ prog_9_method_3_code 6 (Option.some .boolean) ∈ cb_ws := cb_wt (cb_t4 _ (List.mem_of_getElem? (i := 164) rfl)) rfl
theorem wd_1244 : Cond.constantLong "CabbageCradlesModel" 77 (-9223372036854775808) ∈ cb_ws := cb_wt (cb_t5 _ (List.mem_of_getElem? (i := 220) rfl)) rfl
theorem wd_1243 : Cond.code ⟨"CabbageCradlesModel", "no", "(I)J"⟩ prog_9_method_4_code 1 (Option.some .long) ∈ cb_ws := cb_wt (cb_t5 _ (List.mem_of_getElem? (i := 219) rfl)) rfl
theorem wd_73 : Cond.initialized "CabbageCradlesModel" ∈ cb_ws := cb_wt (cb_t1 _ (List.mem_of_getElem? (i := 9) rfl)) rfl
theorem wd_946 : Cond.methodLink "CabbageCradlesModel" 79 ⟨"CabbageCradlesModel", "in", "(JJJ)Z"⟩ ∈ cb_ws := cb_wt (cb_t4 _ (List.mem_of_getElem? (i := 162) rfl)) rfl
theorem wd_947 : Cond.static ⟨"CabbageCradlesModel", "in", "(JJJ)Z"⟩ ∈ cb_ws := cb_wt (cb_t4 _ (List.mem_of_getElem? (i := 163) rfl)) rfl
theorem cs_X7_79 : cb_CS RX7 79 yX7_in cX7_in 6 (some .boolean) 3 := ⟨wd_948, wd_946, wd_947, wd_73, ⟨by decide +kernel, by decide +kernel, by decide +kernel⟩, by decide⟩
theorem wd_984 : Cond.code ⟨"CabbageCradlesModel", "isTwo", "(I)Z"⟩ prog_9_method_5_code 1 (Option.some .boolean) ∈ cb_ws := cb_wt (cb_t4 _ (List.mem_of_getElem? (i := 200) rfl)) rfl
theorem wd_1076 : Cond.code ⟨"CabbageCradlesModel", "isIn", "(II)Z"⟩ prog_9_method_6_code 2 (Option.some .boolean) ∈ cb_ws := cb_wt (cb_t5 _ (List.mem_of_getElem? (i := 52) rfl)) rfl
theorem wd_1182 : Cond.code ⟨"CabbageCradlesModel", "ones", "(I)I"⟩ prog_9_method_7_code 3 (Option.some .int) ∈ cb_ws := cb_wt (cb_t5 _ (List.mem_of_getElem? (i := 158) rfl)) rfl
theorem wd_1264 : Cond.code ⟨"CabbageCradlesModel", "lesser", "(II)I"⟩ prog_9_method_8_code 2 (Option.some .int) ∈ cb_ws := cb_wt (cb_t6 _ (List.mem_of_getElem? (i := 0) rfl)) rfl
theorem wd_1158 : Cond.code ⟨"CabbageCradlesModel", "greater", "(II)I"⟩ prog_9_method_9_code 2 (Option.some .int) ∈ cb_ws := cb_wt (cb_t5 _ (List.mem_of_getElem? (i := 134) rfl)) rfl
theorem wd_1240 : Cond.code ⟨"CabbageCradlesModel", "part", "(JJI)J"⟩ prog_9_method_10_code 11 (Option.some .long) ∈ cb_ws := cb_wt (cb_t5 _ (List.mem_of_getElem? (i := 216) rfl)) rfl
theorem wd_848 : Cond.fieldLink "CabbageCradlesModel" 83 "CabbageCradlesModel" "latest" "I" ∈ cb_ws := cb_wt (cb_t4 _ (List.mem_of_getElem? (i := 64) rfl)) rfl
theorem wi_X7 : ∀ x ∈ u_ws RX7 TX7 31, x ∈ cb_ws := fun x h => List.mem_filter.mpr ⟨(show ∀ x ∈ u_ws RX7 TX7 31, x ∈ lw_tbl by decide +kernel) x h, (show ∀ x ∈ u_ws RX7 TX7 31, goodWord x = true by decide +kernel) x h⟩
theorem fp_X7_83 : cb_FP RX7 83 7 4 := ⟨RX7, TX7, 31, tyX7, rfl, by decide, wi_X7, wd_848, tyX7_ok, nmX7, rfl, by decide +kernel⟩
theorem wd_953 : Cond.code ⟨"CabbageCradlesModel", "finds", "(I)I"⟩ prog_9_method_11_code 2 (Option.some .int) ∈ cb_ws := cb_wt (cb_t4 _ (List.mem_of_getElem? (i := 169) rfl)) rfl
theorem wd_945 : Cond.constantLong "CabbageCradlesModel" 86 3 ∈ cb_ws := cb_wt (cb_t4 _ (List.mem_of_getElem? (i := 161) rfl)) rfl
theorem wd_944 : Cond.code ⟨"CabbageCradlesModel", "isSheet", "(I)Z"⟩ prog_9_method_12_code 1 (Option.some .boolean) ∈ cb_ws := cb_wt (cb_t4 _ (List.mem_of_getElem? (i := 160) rfl)) rfl
theorem wd_942 : Cond.methodLink "CabbageCradlesModel" 88 ⟨"CabbageCradlesModel", "isSheet", "(I)Z"⟩ ∈ cb_ws := cb_wt (cb_t4 _ (List.mem_of_getElem? (i := 158) rfl)) rfl
theorem wd_943 : Cond.static ⟨"CabbageCradlesModel", "isSheet", "(I)Z"⟩ ∈ cb_ws := cb_wt (cb_t4 _ (List.mem_of_getElem? (i := 159) rfl)) rfl
theorem cs_X7_88 : cb_CS RX7 88 yX7_isSheet cX7_isSheet 1 (some .boolean) 1 := ⟨wd_944, wd_942, wd_943, wd_73, ⟨by decide +kernel, by decide +kernel, by decide +kernel⟩, by decide⟩
theorem wd_949 : Cond.constantLong "CabbageCradlesModel" 92 2 ∈ cb_ws := cb_wt (cb_t4 _ (List.mem_of_getElem? (i := 165) rfl)) rfl
theorem wd_844 : Cond.fieldLink "CabbageCradlesModel" 7 "CabbageCradlesModel" "forms" "[I" ∈ cb_ws := cb_wt (cb_t4 _ (List.mem_of_getElem? (i := 60) rfl)) rfl
theorem fa_X7_7 : cb_FA RX7 7 7 0 := ⟨RX7, TX7, 31, rfl, by decide, wi_X7, wd_844⟩
theorem wd_845 : Cond.fieldLink "CabbageCradlesModel" 13 "CabbageCradlesModel" "sizes" "[I" ∈ cb_ws := cb_wt (cb_t4 _ (List.mem_of_getElem? (i := 61) rfl)) rfl
theorem fa_X7_13 : cb_FA RX7 13 7 1 := ⟨RX7, TX7, 31, rfl, by decide, wi_X7, wd_845⟩
theorem wd_846 : Cond.fieldLink "CabbageCradlesModel" 16 "CabbageCradlesModel" "items" "[I" ∈ cb_ws := cb_wt (cb_t4 _ (List.mem_of_getElem? (i := 62) rfl)) rfl
theorem fa_X7_16 : cb_FA RX7 16 7 2 := ⟨RX7, TX7, 31, rfl, by decide, wi_X7, wd_846⟩
theorem wd_950 : Cond.methodLink "CabbageCradlesModel" 94 ⟨"CabbageCradlesModel", "finds", "(I)I"⟩ ∈ cb_ws := cb_wt (cb_t4 _ (List.mem_of_getElem? (i := 166) rfl)) rfl
theorem wd_952 : Cond.instanceMethod ⟨"CabbageCradlesModel", "finds", "(I)I"⟩ ∈ cb_ws := cb_wt (cb_t4 _ (List.mem_of_getElem? (i := 168) rfl)) rfl
theorem wd_28 : Cond.selects "CabbageCradlesModel" ⟨"CabbageCradlesModel", "finds", "(I)I"⟩ ⟨"CabbageCradlesModel", "finds", "(I)I"⟩ ∈ cb_ws := cb_wt (List.mem_of_getElem? (i := 28) (by rfl)) rfl
theorem cv_X7_94 : cb_CV RX7 94 yX7_finds cX7_finds 2 (some .int) 1 := ⟨wd_953, wd_950, wd_952, wd_28, wd_73, ⟨by decide +kernel, by decide +kernel, by decide +kernel⟩, by decide⟩
theorem wd_941 : Cond.code ⟨"CabbageCradlesModel", "sheet", "(III)I"⟩ prog_9_method_13_code 5 (Option.some .int) ∈ cb_ws := cb_wt (cb_t4 _ (List.mem_of_getElem? (i := 157) rfl)) rfl
theorem wd_957 : Cond.code ⟨"CabbageCradlesModel", "lose", "(I)I"⟩ prog_9_method_14_code 2 (Option.some .int) ∈ cb_ws := cb_wt (cb_t4 _ (List.mem_of_getElem? (i := 173) rfl)) rfl
theorem wd_965 : Cond.code ⟨"CabbageCradlesModel", "lacks", "(III)I"⟩ prog_9_method_15_code 4 (Option.some .int) ∈ cb_ws := cb_wt (cb_t4 _ (List.mem_of_getElem? (i := 181) rfl)) rfl
theorem wd_968 : Cond.code ⟨"CabbageCradlesModel", "cut", "(II)I"⟩ prog_9_method_16_code 2 (Option.some .int) ∈ cb_ws := cb_wt (cb_t4 _ (List.mem_of_getElem? (i := 184) rfl)) rfl
theorem wd_962 : Cond.methodLink "CabbageCradlesModel" 98 ⟨"CabbageCradlesModel", "lacks", "(III)I"⟩ ∈ cb_ws := cb_wt (cb_t4 _ (List.mem_of_getElem? (i := 178) rfl)) rfl
theorem wd_964 : Cond.instanceMethod ⟨"CabbageCradlesModel", "lacks", "(III)I"⟩ ∈ cb_ws := cb_wt (cb_t4 _ (List.mem_of_getElem? (i := 180) rfl)) rfl
theorem wd_29 : Cond.selects "CabbageCradlesModel" ⟨"CabbageCradlesModel", "lacks", "(III)I"⟩ ⟨"CabbageCradlesModel", "lacks", "(III)I"⟩ ∈ cb_ws := cb_wt (List.mem_of_getElem? (i := 29) (by rfl)) rfl
theorem cv_X7_98 : cb_CV RX7 98 yX7_lacks cX7_lacks 4 (some .int) 3 := ⟨wd_965, wd_962, wd_964, wd_29, wd_73, ⟨by decide +kernel, by decide +kernel, by decide +kernel⟩, by decide⟩
theorem wd_966 : Cond.methodLink "CabbageCradlesModel" 102 ⟨"CabbageCradlesModel", "cut", "(II)I"⟩ ∈ cb_ws := cb_wt (cb_t4 _ (List.mem_of_getElem? (i := 182) rfl)) rfl
theorem wd_967 : Cond.static ⟨"CabbageCradlesModel", "cut", "(II)I"⟩ ∈ cb_ws := cb_wt (cb_t4 _ (List.mem_of_getElem? (i := 183) rfl)) rfl
theorem cs_X7_102 : cb_CS RX7 102 yX7_cut cX7_cut 2 (some .int) 2 := ⟨wd_968, wd_966, wd_967, wd_73, ⟨by decide +kernel, by decide +kernel, by decide +kernel⟩, by decide⟩
theorem wd_961 : Cond.code ⟨"CabbageCradlesModel", "lay", "(IIII)I"⟩ prog_9_method_17_code 6 (Option.some .int) ∈ cb_ws := cb_wt (cb_t4 _ (List.mem_of_getElem? (i := 177) rfl)) rfl
theorem wd_973 : Cond.constant "CabbageCradlesModel" 106 (-2147483648) ∈ cb_ws := cb_wt (cb_t4 _ (List.mem_of_getElem? (i := 189) rfl)) rfl
theorem wd_972 : Cond.code ⟨"CabbageCradlesModel", "get", "(III)I"⟩ prog_9_method_18_code 4 (Option.some .int) ∈ cb_ws := cb_wt (cb_t4 _ (List.mem_of_getElem? (i := 188) rfl)) rfl
theorem wd_847 : Cond.fieldLink "CabbageCradlesModel" 19 "CabbageCradlesModel" "moved" "[I" ∈ cb_ws := cb_wt (cb_t4 _ (List.mem_of_getElem? (i := 63) rfl)) rfl
theorem fa_X7_19 : cb_FA RX7 19 7 3 := ⟨RX7, TX7, 31, rfl, by decide, wi_X7, wd_847⟩
theorem wd_977 : Cond.code ⟨"CabbageCradlesModel", "copy", "(IIIII)I"⟩ prog_9_method_19_code 7 (Option.some .int) ∈ cb_ws := cb_wt (cb_t4 _ (List.mem_of_getElem? (i := 193) rfl)) rfl
theorem wd_982 : Cond.methodLink "CabbageCradlesModel" 107 ⟨"CabbageCradlesModel", "isTwo", "(I)Z"⟩ ∈ cb_ws := cb_wt (cb_t4 _ (List.mem_of_getElem? (i := 198) rfl)) rfl
theorem wd_983 : Cond.static ⟨"CabbageCradlesModel", "isTwo", "(I)Z"⟩ ∈ cb_ws := cb_wt (cb_t4 _ (List.mem_of_getElem? (i := 199) rfl)) rfl
theorem cs_X7_107 : cb_CS RX7 107 yX7_isTwo cX7_isTwo 1 (some .boolean) 1 := ⟨wd_984, wd_982, wd_983, wd_73, ⟨by decide +kernel, by decide +kernel, by decide +kernel⟩, by decide⟩
theorem wd_985 : Cond.constantLong "CabbageCradlesModel" 110 255 ∈ cb_ws := cb_wt (cb_t4 _ (List.mem_of_getElem? (i := 201) rfl)) rfl
theorem wd_850 : Cond.fieldLink "CabbageCradlesModel" 25 "CabbageCradlesModel" "typed" "[I" ∈ cb_ws := cb_wt (cb_t4 _ (List.mem_of_getElem? (i := 66) rfl)) rfl
theorem fa_X7_25 : cb_FA RX7 25 7 6 := ⟨RX7, TX7, 31, rfl, by decide, wi_X7, wd_850⟩
theorem wd_849 : Cond.fieldLink "CabbageCradlesModel" 22 "CabbageCradlesModel" "bytes" "[I" ∈ cb_ws := cb_wt (cb_t4 _ (List.mem_of_getElem? (i := 65) rfl)) rfl
theorem fa_X7_22 : cb_FA RX7 22 7 5 := ⟨RX7, TX7, 31, rfl, by decide, wi_X7, wd_849⟩
theorem wd_981 : Cond.code ⟨"CabbageCradlesModel", "type", "(II)I"⟩ prog_9_method_20_code 3 (Option.some .int) ∈ cb_ws := cb_wt (cb_t4 _ (List.mem_of_getElem? (i := 197) rfl)) rfl
theorem wd_989 : Cond.code ⟨"CabbageCradlesModel", "wipe", "(I)I"⟩ prog_9_method_21_code 3 (Option.some .int) ∈ cb_ws := cb_wt (cb_t4 _ (List.mem_of_getElem? (i := 205) rfl)) rfl
theorem wd_993 : Cond.code ⟨"CabbageCradlesModel", "undo", "(I)I"⟩ prog_9_method_22_code 2 (Option.some .int) ∈ cb_ws := cb_wt (cb_t4 _ (List.mem_of_getElem? (i := 209) rfl)) rfl
theorem wd_1007 : Cond.code ⟨"CabbageCradlesModel", "sortOf", "(I)I"⟩ prog_9_method_23_code 1 (Option.some .int) ∈ cb_ws := cb_wt (cb_t4 _ (List.mem_of_getElem? (i := 223) rfl)) rfl
theorem wd_1010 : Cond.code ⟨"CabbageCradlesModel", "figureOf", "(III)I"⟩ prog_9_method_24_code 3 (Option.some .int) ∈ cb_ws := cb_wt (cb_t4 _ (List.mem_of_getElem? (i := 226) rfl)) rfl
theorem wd_1008 : Cond.methodLink "CabbageCradlesModel" 115 ⟨"CabbageCradlesModel", "figureOf", "(III)I"⟩ ∈ cb_ws := cb_wt (cb_t4 _ (List.mem_of_getElem? (i := 224) rfl)) rfl
theorem wd_1009 : Cond.static ⟨"CabbageCradlesModel", "figureOf", "(III)I"⟩ ∈ cb_ws := cb_wt (cb_t4 _ (List.mem_of_getElem? (i := 225) rfl)) rfl
theorem cs_X7_115 : cb_CS RX7 115 yX7_figureOf cX7_figureOf 3 (some .int) 3 := ⟨wd_1010, wd_1008, wd_1009, wd_73, ⟨by decide +kernel, by decide +kernel, by decide +kernel⟩, by decide⟩
theorem wd_1005 : Cond.methodLink "CabbageCradlesModel" 112 ⟨"CabbageCradlesModel", "sortOf", "(I)I"⟩ ∈ cb_ws := cb_wt (cb_t4 _ (List.mem_of_getElem? (i := 221) rfl)) rfl
theorem wd_1006 : Cond.static ⟨"CabbageCradlesModel", "sortOf", "(I)I"⟩ ∈ cb_ws := cb_wt (cb_t4 _ (List.mem_of_getElem? (i := 222) rfl)) rfl
theorem cs_X7_112 : cb_CS RX7 112 yX7_sortOf cX7_sortOf 1 (some .int) 1 := ⟨wd_1007, wd_1005, wd_1006, wd_73, ⟨by decide +kernel, by decide +kernel, by decide +kernel⟩, by decide⟩
theorem wd_1004 : Cond.code ⟨"CabbageCradlesModel", "tellsOf", "(III)I"⟩ prog_9_method_25_code 3 (Option.some .int) ∈ cb_ws := cb_wt (cb_t4 _ (List.mem_of_getElem? (i := 220) rfl)) rfl
theorem wd_851 : Cond.fieldLink "CabbageCradlesModel" 118 "CabbageCradlesModel" "heads" "I" ∈ cb_ws := cb_wt (cb_t4 _ (List.mem_of_getElem? (i := 67) rfl)) rfl
theorem fp_X7_118 : cb_FP RX7 118 7 7 := ⟨RX7, TX7, 31, tyX7, rfl, by decide, wi_X7, wd_851, tyX7_ok, nmX7, rfl, by decide +kernel⟩
theorem wd_1002 : Cond.methodLink "CabbageCradlesModel" 121 ⟨"CabbageCradlesModel", "tellsOf", "(III)I"⟩ ∈ cb_ws := cb_wt (cb_t4 _ (List.mem_of_getElem? (i := 218) rfl)) rfl
theorem wd_1003 : Cond.static ⟨"CabbageCradlesModel", "tellsOf", "(III)I"⟩ ∈ cb_ws := cb_wt (cb_t4 _ (List.mem_of_getElem? (i := 219) rfl)) rfl
theorem cs_X7_121 : cb_CS RX7 121 yX7_tellsOf cX7_tellsOf 3 (some .int) 3 := ⟨wd_1004, wd_1002, wd_1003, wd_73, ⟨by decide +kernel, by decide +kernel, by decide +kernel⟩, by decide⟩
theorem wd_852 : Cond.fieldLink "CabbageCradlesModel" 28 "CabbageCradlesModel" "head" "[I" ∈ cb_ws := cb_wt (cb_t4 _ (List.mem_of_getElem? (i := 68) rfl)) rfl
theorem fa_X7_28 : cb_FA RX7 28 7 8 := ⟨RX7, TX7, 31, rfl, by decide, wi_X7, wd_852⟩
theorem fa_X7_118 : cb_FA RX7 118 7 7 := ⟨RX7, TX7, 31, rfl, by decide, wi_X7, wd_851⟩
theorem wd_1001 : Cond.code ⟨"CabbageCradlesModel", "readsHeads", "()I"⟩ prog_9_method_26_code 6 (Option.some .int) ∈ cb_ws := cb_wt (cb_t4 _ (List.mem_of_getElem? (i := 217) rfl)) rfl
theorem wd_853 : Cond.fieldLink "CabbageCradlesModel" 124 "CabbageCradlesModel" "couples" "I" ∈ cb_ws := cb_wt (cb_t4 _ (List.mem_of_getElem? (i := 69) rfl)) rfl
theorem fp_X7_124 : cb_FP RX7 124 7 9 := ⟨RX7, TX7, 31, tyX7, rfl, by decide, wi_X7, wd_853, tyX7_ok, nmX7, rfl, by decide +kernel⟩
theorem wd_854 : Cond.fieldLink "CabbageCradlesModel" 31 "CabbageCradlesModel" "couple" "[I" ∈ cb_ws := cb_wt (cb_t4 _ (List.mem_of_getElem? (i := 70) rfl)) rfl
theorem fa_X7_31 : cb_FA RX7 31 7 10 := ⟨RX7, TX7, 31, rfl, by decide, wi_X7, wd_854⟩
theorem fa_X7_124 : cb_FA RX7 124 7 9 := ⟨RX7, TX7, 31, rfl, by decide, wi_X7, wd_853⟩
theorem wd_1014 : Cond.code ⟨"CabbageCradlesModel", "readsCouples", "()I"⟩ prog_9_method_27_code 6 (Option.some .int) ∈ cb_ws := cb_wt (cb_t4 _ (List.mem_of_getElem? (i := 230) rfl)) rfl
theorem wd_1011 : Cond.methodLink "CabbageCradlesModel" 131 ⟨"CabbageCradlesModel", "readsCouples", "()I"⟩ ∈ cb_ws := cb_wt (cb_t4 _ (List.mem_of_getElem? (i := 227) rfl)) rfl
theorem wd_1013 : Cond.instanceMethod ⟨"CabbageCradlesModel", "readsCouples", "()I"⟩ ∈ cb_ws := cb_wt (cb_t4 _ (List.mem_of_getElem? (i := 229) rfl)) rfl
theorem wd_31 : Cond.selects "CabbageCradlesModel" ⟨"CabbageCradlesModel", "readsCouples", "()I"⟩ ⟨"CabbageCradlesModel", "readsCouples", "()I"⟩ ∈ cb_ws := cb_wt (List.mem_of_getElem? (i := 31) (by rfl)) rfl
theorem cv_X7_131 : cb_CV RX7 131 yX7_readsCouples cX7_readsCouples 6 (some .int) 0 := ⟨wd_1014, wd_1011, wd_1013, wd_31, wd_73, ⟨by decide +kernel, by decide +kernel, by decide +kernel⟩, by decide⟩
theorem wd_998 : Cond.methodLink "CabbageCradlesModel" 127 ⟨"CabbageCradlesModel", "readsHeads", "()I"⟩ ∈ cb_ws := cb_wt (cb_t4 _ (List.mem_of_getElem? (i := 214) rfl)) rfl
theorem wd_1000 : Cond.instanceMethod ⟨"CabbageCradlesModel", "readsHeads", "()I"⟩ ∈ cb_ws := cb_wt (cb_t4 _ (List.mem_of_getElem? (i := 216) rfl)) rfl
theorem wd_30 : Cond.selects "CabbageCradlesModel" ⟨"CabbageCradlesModel", "readsHeads", "()I"⟩ ⟨"CabbageCradlesModel", "readsHeads", "()I"⟩ ∈ cb_ws := cb_wt (List.mem_of_getElem? (i := 30) (by rfl)) rfl
theorem cv_X7_127 : cb_CV RX7 127 yX7_readsHeads cX7_readsHeads 6 (some .int) 0 := ⟨wd_1001, wd_998, wd_1000, wd_30, wd_73, ⟨by decide +kernel, by decide +kernel, by decide +kernel⟩, by decide⟩
theorem wd_997 : Cond.code ⟨"CabbageCradlesModel", "fault", "(I)I"⟩ prog_9_method_28_code 2 (Option.some .int) ∈ cb_ws := cb_wt (cb_t4 _ (List.mem_of_getElem? (i := 213) rfl)) rfl
theorem wd_1022 : Cond.code ⟨"CabbageCradlesModel", "isHead", "(I)Z"⟩ prog_9_method_29_code 2 (Option.some .boolean) ∈ cb_ws := cb_wt (cb_t4 _ (List.mem_of_getElem? (i := 238) rfl)) rfl
theorem wd_1030 : Cond.code ⟨"CabbageCradlesModel", "isCouple", "(I)Z"⟩ prog_9_method_30_code 2 (Option.some .boolean) ∈ cb_ws := cb_wt (cb_t5 _ (List.mem_of_getElem? (i := 6) rfl)) rfl
theorem wd_1036 : Cond.constantLong "CabbageCradlesModel" 134 39 ∈ cb_ws := cb_wt (cb_t5 _ (List.mem_of_getElem? (i := 12) rfl)) rfl
theorem wd_1043 : Cond.code ⟨"CabbageCradlesModel", "isDay", "(I)Z"⟩ prog_9_method_31_code 1 (Option.some .boolean) ∈ cb_ws := cb_wt (cb_t5 _ (List.mem_of_getElem? (i := 19) rfl)) rfl
