theorem wd_317 : Cond.methodLink "CabbageCradlesLaw" 13 ⟨"CabbageCradles", "type", "(II)I"⟩ ∈ cb_ws := cb_wt (cb_t2 _ (List.mem_of_getElem? (i := 13) rfl)) rfl
theorem wd_318 : Cond.instanceMethod ⟨"CabbageCradles", "type", "(II)I"⟩ ∈ cb_ws := cb_wt (cb_t2 _ (List.mem_of_getElem? (i := 14) rfl)) rfl
theorem wd_319 : Cond.selects "CabbageCradles" ⟨"CabbageCradles", "type", "(II)I"⟩ ⟨"CabbageCradles", "type", "(II)I"⟩ ∈ cb_ws := cb_wt (cb_t2 _ (List.mem_of_getElem? (i := 15) rfl)) rfl
theorem cv_L_13 : cb_CV RL 13 yX6_type cX6_type 3 (some .int) 2 := ⟨wd_320, wd_317, wd_318, wd_319, wd_65, ⟨by decide +kernel, by decide +kernel, by decide +kernel⟩, by decide⟩
theorem wd_977 : Cond.methodLink "CabbageCradlesLaw" 17 ⟨"CabbageCradlesModel", "type", "(II)I"⟩ ∈ cb_ws := cb_wt (cb_t4 _ (List.mem_of_getElem? (i := 193) rfl)) rfl
theorem wd_978 : Cond.instanceMethod ⟨"CabbageCradlesModel", "type", "(II)I"⟩ ∈ cb_ws := cb_wt (cb_t4 _ (List.mem_of_getElem? (i := 194) rfl)) rfl
theorem wd_979 : Cond.selects "CabbageCradlesModel" ⟨"CabbageCradlesModel", "type", "(II)I"⟩ ⟨"CabbageCradlesModel", "type", "(II)I"⟩ ∈ cb_ws := cb_wt (cb_t4 _ (List.mem_of_getElem? (i := 195) rfl)) rfl
theorem cv_L_17 : cb_CV RL 17 yX7_type cX7_type 3 (some .int) 2 := ⟨wd_980, wd_977, wd_978, wd_979, wd_73, ⟨by decide +kernel, by decide +kernel, by decide +kernel⟩, by decide⟩
theorem wd_440 : Cond.methodLink "CabbageCradlesLaw" 18 ⟨"CabbageCradles", "wipe", "(I)I"⟩ ∈ cb_ws := cb_wt (cb_t2 _ (List.mem_of_getElem? (i := 136) rfl)) rfl
theorem wd_441 : Cond.instanceMethod ⟨"CabbageCradles", "wipe", "(I)I"⟩ ∈ cb_ws := cb_wt (cb_t2 _ (List.mem_of_getElem? (i := 137) rfl)) rfl
theorem wd_442 : Cond.selects "CabbageCradles" ⟨"CabbageCradles", "wipe", "(I)I"⟩ ⟨"CabbageCradles", "wipe", "(I)I"⟩ ∈ cb_ws := cb_wt (cb_t2 _ (List.mem_of_getElem? (i := 138) rfl)) rfl
theorem cv_L_18 : cb_CV RL 18 yX6_wipe cX6_wipe 2 (some .int) 1 := ⟨wd_443, wd_440, wd_441, wd_442, wd_65, ⟨by decide +kernel, by decide +kernel, by decide +kernel⟩, by decide⟩
theorem wd_985 : Cond.methodLink "CabbageCradlesLaw" 22 ⟨"CabbageCradlesModel", "wipe", "(I)I"⟩ ∈ cb_ws := cb_wt (cb_t4 _ (List.mem_of_getElem? (i := 201) rfl)) rfl
theorem wd_986 : Cond.instanceMethod ⟨"CabbageCradlesModel", "wipe", "(I)I"⟩ ∈ cb_ws := cb_wt (cb_t4 _ (List.mem_of_getElem? (i := 202) rfl)) rfl
theorem wd_987 : Cond.selects "CabbageCradlesModel" ⟨"CabbageCradlesModel", "wipe", "(I)I"⟩ ⟨"CabbageCradlesModel", "wipe", "(I)I"⟩ ∈ cb_ws := cb_wt (cb_t4 _ (List.mem_of_getElem? (i := 203) rfl)) rfl
theorem cv_L_22 : cb_CV RL 22 yX7_wipe cX7_wipe 3 (some .int) 1 := ⟨wd_988, wd_985, wd_986, wd_987, wd_73, ⟨by decide +kernel, by decide +kernel, by decide +kernel⟩, by decide⟩
theorem wd_452 : Cond.methodLink "CabbageCradlesLaw" 23 ⟨"CabbageCradles", "undo", "(I)I"⟩ ∈ cb_ws := cb_wt (cb_t2 _ (List.mem_of_getElem? (i := 148) rfl)) rfl
theorem wd_453 : Cond.instanceMethod ⟨"CabbageCradles", "undo", "(I)I"⟩ ∈ cb_ws := cb_wt (cb_t2 _ (List.mem_of_getElem? (i := 149) rfl)) rfl
theorem wd_454 : Cond.selects "CabbageCradles" ⟨"CabbageCradles", "undo", "(I)I"⟩ ⟨"CabbageCradles", "undo", "(I)I"⟩ ∈ cb_ws := cb_wt (cb_t2 _ (List.mem_of_getElem? (i := 150) rfl)) rfl
theorem cv_L_23 : cb_CV RL 23 yX6_undo cX6_undo 2 (some .int) 1 := ⟨wd_455, wd_452, wd_453, wd_454, wd_65, ⟨by decide +kernel, by decide +kernel, by decide +kernel⟩, by decide⟩
theorem wd_989 : Cond.methodLink "CabbageCradlesLaw" 26 ⟨"CabbageCradlesModel", "undo", "(I)I"⟩ ∈ cb_ws := cb_wt (cb_t4 _ (List.mem_of_getElem? (i := 205) rfl)) rfl
theorem wd_990 : Cond.instanceMethod ⟨"CabbageCradlesModel", "undo", "(I)I"⟩ ∈ cb_ws := cb_wt (cb_t4 _ (List.mem_of_getElem? (i := 206) rfl)) rfl
theorem wd_991 : Cond.selects "CabbageCradlesModel" ⟨"CabbageCradlesModel", "undo", "(I)I"⟩ ⟨"CabbageCradlesModel", "undo", "(I)I"⟩ ∈ cb_ws := cb_wt (cb_t4 _ (List.mem_of_getElem? (i := 207) rfl)) rfl
theorem cv_L_26 : cb_CV RL 26 yX7_undo cX7_undo 2 (some .int) 1 := ⟨wd_992, wd_989, wd_990, wd_991, wd_73, ⟨by decide +kernel, by decide +kernel, by decide +kernel⟩, by decide⟩
theorem wd_464 : Cond.methodLink "CabbageCradlesLaw" 27 ⟨"CabbageCradles", "fault", "(I)I"⟩ ∈ cb_ws := cb_wt (cb_t2 _ (List.mem_of_getElem? (i := 160) rfl)) rfl
theorem cv_L_27 : cb_CV RL 27 yX6_fault cX6_fault 2 (some .int) 1 := ⟨wd_467, wd_464, wd_465, wd_466, wd_65, ⟨by decide +kernel, by decide +kernel, by decide +kernel⟩, by decide⟩
theorem wd_993 : Cond.methodLink "CabbageCradlesLaw" 30 ⟨"CabbageCradlesModel", "fault", "(I)I"⟩ ∈ cb_ws := cb_wt (cb_t4 _ (List.mem_of_getElem? (i := 209) rfl)) rfl
theorem wd_994 : Cond.instanceMethod ⟨"CabbageCradlesModel", "fault", "(I)I"⟩ ∈ cb_ws := cb_wt (cb_t4 _ (List.mem_of_getElem? (i := 210) rfl)) rfl
theorem wd_995 : Cond.selects "CabbageCradlesModel" ⟨"CabbageCradlesModel", "fault", "(I)I"⟩ ⟨"CabbageCradlesModel", "fault", "(I)I"⟩ ∈ cb_ws := cb_wt (cb_t4 _ (List.mem_of_getElem? (i := 211) rfl)) rfl
theorem cv_L_30 : cb_CV RL 30 yX7_fault cX7_fault 2 (some .int) 1 := ⟨wd_996, wd_993, wd_994, wd_995, wd_73, ⟨by decide +kernel, by decide +kernel, by decide +kernel⟩, by decide⟩
theorem wd_468 : Cond.methodLink "CabbageCradlesLaw" 31 ⟨"CabbageCradles", "head", "(II)I"⟩ ∈ cb_ws := cb_wt (cb_t2 _ (List.mem_of_getElem? (i := 164) rfl)) rfl
theorem cv_L_31 : cb_CV RL 31 yX6_head cX6_head 3 (some .int) 2 := ⟨wd_471, wd_468, wd_469, wd_470, wd_65, ⟨by decide +kernel, by decide +kernel, by decide +kernel⟩, by decide⟩
theorem wd_1014 : Cond.methodLink "CabbageCradlesLaw" 34 ⟨"CabbageCradlesModel", "head", "(II)I"⟩ ∈ cb_ws := cb_wt (cb_t4 _ (List.mem_of_getElem? (i := 230) rfl)) rfl
theorem wd_1015 : Cond.instanceMethod ⟨"CabbageCradlesModel", "head", "(II)I"⟩ ∈ cb_ws := cb_wt (cb_t4 _ (List.mem_of_getElem? (i := 231) rfl)) rfl
theorem wd_1016 : Cond.selects "CabbageCradlesModel" ⟨"CabbageCradlesModel", "head", "(II)I"⟩ ⟨"CabbageCradlesModel", "head", "(II)I"⟩ ∈ cb_ws := cb_wt (cb_t4 _ (List.mem_of_getElem? (i := 232) rfl)) rfl
theorem cv_L_34 : cb_CV RL 34 yX7_head cX7_head 3 (some .int) 2 := ⟨wd_1017, wd_1014, wd_1015, wd_1016, wd_73, ⟨by decide +kernel, by decide +kernel, by decide +kernel⟩, by decide⟩
theorem wd_476 : Cond.methodLink "CabbageCradlesLaw" 35 ⟨"CabbageCradles", "couple", "(II)I"⟩ ∈ cb_ws := cb_wt (cb_t2 _ (List.mem_of_getElem? (i := 172) rfl)) rfl
theorem cv_L_35 : cb_CV RL 35 yX6_couple cX6_couple 3 (some .int) 2 := ⟨wd_479, wd_476, wd_477, wd_478, wd_65, ⟨by decide +kernel, by decide +kernel, by decide +kernel⟩, by decide⟩
theorem wd_1022 : Cond.methodLink "CabbageCradlesLaw" 38 ⟨"CabbageCradlesModel", "couple", "(II)I"⟩ ∈ cb_ws := cb_wt (cb_t4 _ (List.mem_of_getElem? (i := 238) rfl)) rfl
theorem wd_1023 : Cond.instanceMethod ⟨"CabbageCradlesModel", "couple", "(II)I"⟩ ∈ cb_ws := cb_wt (cb_t4 _ (List.mem_of_getElem? (i := 239) rfl)) rfl
theorem wd_1024 : Cond.selects "CabbageCradlesModel" ⟨"CabbageCradlesModel", "couple", "(II)I"⟩ ⟨"CabbageCradlesModel", "couple", "(II)I"⟩ ∈ cb_ws := cb_wt (cb_t5 _ (List.mem_of_getElem? (i := 0) rfl)) rfl
theorem cv_L_38 : cb_CV RL 38 yX7_couple cX7_couple 3 (some .int) 2 := ⟨wd_1025, wd_1022, wd_1023, wd_1024, wd_73, ⟨by decide +kernel, by decide +kernel, by decide +kernel⟩, by decide⟩
theorem wd_484 : Cond.methodLink "CabbageCradlesLaw" 39 ⟨"CabbageCradles", "weather", "(II)I"⟩ ∈ cb_ws := cb_wt (cb_t2 _ (List.mem_of_getElem? (i := 180) rfl)) rfl
theorem wd_485 : Cond.instanceMethod ⟨"CabbageCradles", "weather", "(II)I"⟩ ∈ cb_ws := cb_wt (cb_t2 _ (List.mem_of_getElem? (i := 181) rfl)) rfl
theorem wd_486 : Cond.selects "CabbageCradles" ⟨"CabbageCradles", "weather", "(II)I"⟩ ⟨"CabbageCradles", "weather", "(II)I"⟩ ∈ cb_ws := cb_wt (cb_t2 _ (List.mem_of_getElem? (i := 182) rfl)) rfl
theorem cv_L_39 : cb_CV RL 39 yX6_weather cX6_weather 3 (some .int) 2 := ⟨wd_487, wd_484, wd_485, wd_486, wd_65, ⟨by decide +kernel, by decide +kernel, by decide +kernel⟩, by decide⟩
theorem wd_1030 : Cond.methodLink "CabbageCradlesLaw" 42 ⟨"CabbageCradlesModel", "weather", "(II)I"⟩ ∈ cb_ws := cb_wt (cb_t5 _ (List.mem_of_getElem? (i := 6) rfl)) rfl
theorem wd_1031 : Cond.instanceMethod ⟨"CabbageCradlesModel", "weather", "(II)I"⟩ ∈ cb_ws := cb_wt (cb_t5 _ (List.mem_of_getElem? (i := 7) rfl)) rfl
theorem wd_1032 : Cond.selects "CabbageCradlesModel" ⟨"CabbageCradlesModel", "weather", "(II)I"⟩ ⟨"CabbageCradlesModel", "weather", "(II)I"⟩ ∈ cb_ws := cb_wt (cb_t5 _ (List.mem_of_getElem? (i := 8) rfl)) rfl
theorem cv_L_42 : cb_CV RL 42 yX7_weather cX7_weather 3 (some .int) 2 := ⟨wd_1033, wd_1030, wd_1031, wd_1032, wd_73, ⟨by decide +kernel, by decide +kernel, by decide +kernel⟩, by decide⟩
theorem wd_489 : Cond.methodLink "CabbageCradlesLaw" 43 ⟨"CabbageCradles", "rabbit", "(II)I"⟩ ∈ cb_ws := cb_wt (cb_t2 _ (List.mem_of_getElem? (i := 185) rfl)) rfl
theorem cv_L_43 : cb_CV RL 43 yX6_rabbit cX6_rabbit 3 (some .int) 2 := ⟨wd_492, wd_489, wd_490, wd_491, wd_65, ⟨by decide +kernel, by decide +kernel, by decide +kernel⟩, by decide⟩
theorem wd_1036 : Cond.methodLink "CabbageCradlesLaw" 46 ⟨"CabbageCradlesModel", "rabbit", "(II)I"⟩ ∈ cb_ws := cb_wt (cb_t5 _ (List.mem_of_getElem? (i := 12) rfl)) rfl
theorem cv_L_46 : cb_CV RL 46 yX7_rabbit cX7_rabbit 3 (some .int) 2 := ⟨wd_1039, wd_1036, wd_1037, wd_1038, wd_73, ⟨by decide +kernel, by decide +kernel, by decide +kernel⟩, by decide⟩
theorem wd_493 : Cond.methodLink "CabbageCradlesLaw" 47 ⟨"CabbageCradles", "back", "(I)I"⟩ ∈ cb_ws := cb_wt (cb_t2 _ (List.mem_of_getElem? (i := 189) rfl)) rfl
theorem wd_494 : Cond.instanceMethod ⟨"CabbageCradles", "back", "(I)I"⟩ ∈ cb_ws := cb_wt (cb_t2 _ (List.mem_of_getElem? (i := 190) rfl)) rfl
theorem wd_495 : Cond.selects "CabbageCradles" ⟨"CabbageCradles", "back", "(I)I"⟩ ⟨"CabbageCradles", "back", "(I)I"⟩ ∈ cb_ws := cb_wt (cb_t2 _ (List.mem_of_getElem? (i := 191) rfl)) rfl
theorem cv_L_47 : cb_CV RL 47 yX6_back cX6_back 2 (some .int) 1 := ⟨wd_496, wd_493, wd_494, wd_495, wd_65, ⟨by decide +kernel, by decide +kernel, by decide +kernel⟩, by decide⟩
theorem wd_1044 : Cond.methodLink "CabbageCradlesLaw" 50 ⟨"CabbageCradlesModel", "back", "(I)I"⟩ ∈ cb_ws := cb_wt (cb_t5 _ (List.mem_of_getElem? (i := 20) rfl)) rfl
theorem wd_1045 : Cond.instanceMethod ⟨"CabbageCradlesModel", "back", "(I)I"⟩ ∈ cb_ws := cb_wt (cb_t5 _ (List.mem_of_getElem? (i := 21) rfl)) rfl
theorem wd_1046 : Cond.selects "CabbageCradlesModel" ⟨"CabbageCradlesModel", "back", "(I)I"⟩ ⟨"CabbageCradlesModel", "back", "(I)I"⟩ ∈ cb_ws := cb_wt (cb_t5 _ (List.mem_of_getElem? (i := 22) rfl)) rfl
theorem cv_L_50 : cb_CV RL 50 yX7_back cX7_back 3 (some .int) 1 := ⟨wd_1047, wd_1044, wd_1045, wd_1046, wd_73, ⟨by decide +kernel, by decide +kernel, by decide +kernel⟩, by decide⟩
theorem wd_498 : Cond.methodLink "CabbageCradlesLaw" 51 ⟨"CabbageCradles", "read", "(I)I"⟩ ∈ cb_ws := cb_wt (cb_t2 _ (List.mem_of_getElem? (i := 194) rfl)) rfl
theorem wd_499 : Cond.instanceMethod ⟨"CabbageCradles", "read", "(I)I"⟩ ∈ cb_ws := cb_wt (cb_t2 _ (List.mem_of_getElem? (i := 195) rfl)) rfl
theorem wd_500 : Cond.selects "CabbageCradles" ⟨"CabbageCradles", "read", "(I)I"⟩ ⟨"CabbageCradles", "read", "(I)I"⟩ ∈ cb_ws := cb_wt (cb_t2 _ (List.mem_of_getElem? (i := 196) rfl)) rfl
theorem cv_L_51 : cb_CV RL 51 yX6_read cX6_read 5 (some .int) 1 := ⟨wd_501, wd_498, wd_499, wd_500, wd_65, ⟨by decide +kernel, by decide +kernel, by decide +kernel⟩, by decide⟩
theorem wd_1048 : Cond.methodLink "CabbageCradlesLaw" 54 ⟨"CabbageCradlesModel", "read", "(I)I"⟩ ∈ cb_ws := cb_wt (cb_t5 _ (List.mem_of_getElem? (i := 24) rfl)) rfl
theorem wd_1049 : Cond.instanceMethod ⟨"CabbageCradlesModel", "read", "(I)I"⟩ ∈ cb_ws := cb_wt (cb_t5 _ (List.mem_of_getElem? (i := 25) rfl)) rfl
theorem wd_1050 : Cond.selects "CabbageCradlesModel" ⟨"CabbageCradlesModel", "read", "(I)I"⟩ ⟨"CabbageCradlesModel", "read", "(I)I"⟩ ∈ cb_ws := cb_wt (cb_t5 _ (List.mem_of_getElem? (i := 26) rfl)) rfl
theorem cv_L_54 : cb_CV RL 54 yX7_read cX7_read 4 (some .int) 1 := ⟨wd_1051, wd_1048, wd_1049, wd_1050, wd_73, ⟨by decide +kernel, by decide +kernel, by decide +kernel⟩, by decide⟩
theorem wd_516 : Cond.methodLink "CabbageCradlesLaw" 55 ⟨"CabbageCradles", "state", "(II)I"⟩ ∈ cb_ws := cb_wt (cb_t2 _ (List.mem_of_getElem? (i := 212) rfl)) rfl
theorem cv_L_55 : cb_CV RL 55 yX6_state cX6_state 3 (some .int) 2 := ⟨wd_519, wd_516, wd_517, wd_518, wd_65, ⟨by decide +kernel, by decide +kernel, by decide +kernel⟩, by decide⟩
theorem wd_1053 : Cond.methodLink "CabbageCradlesLaw" 58 ⟨"CabbageCradlesModel", "state", "(II)I"⟩ ∈ cb_ws := cb_wt (cb_t5 _ (List.mem_of_getElem? (i := 29) rfl)) rfl
theorem wd_1054 : Cond.instanceMethod ⟨"CabbageCradlesModel", "state", "(II)I"⟩ ∈ cb_ws := cb_wt (cb_t5 _ (List.mem_of_getElem? (i := 30) rfl)) rfl
theorem wd_1055 : Cond.selects "CabbageCradlesModel" ⟨"CabbageCradlesModel", "state", "(II)I"⟩ ⟨"CabbageCradlesModel", "state", "(II)I"⟩ ∈ cb_ws := cb_wt (cb_t5 _ (List.mem_of_getElem? (i := 31) rfl)) rfl
theorem cv_L_58 : cb_CV RL 58 yX7_state cX7_state 3 (some .int) 2 := ⟨wd_1056, wd_1053, wd_1054, wd_1055, wd_73, ⟨by decide +kernel, by decide +kernel, by decide +kernel⟩, by decide⟩
theorem wd_597 : Cond.methodLink "CabbageCradlesLaw" 59 ⟨"CabbageCradles", "lifted", "(II)I"⟩ ∈ cb_ws := cb_wt (cb_t3 _ (List.mem_of_getElem? (i := 53) rfl)) rfl
theorem cv_L_59 : cb_CV RL 59 yX6_lifted cX6_lifted 4 (some .int) 2 := ⟨wd_600, wd_597, wd_598, wd_599, wd_65, ⟨by decide +kernel, by decide +kernel, by decide +kernel⟩, by decide⟩
theorem wd_1107 : Cond.methodLink "CabbageCradlesLaw" 62 ⟨"CabbageCradlesModel", "lifted", "(II)I"⟩ ∈ cb_ws := cb_wt (cb_t5 _ (List.mem_of_getElem? (i := 83) rfl)) rfl
theorem wd_1108 : Cond.instanceMethod ⟨"CabbageCradlesModel", "lifted", "(II)I"⟩ ∈ cb_ws := cb_wt (cb_t5 _ (List.mem_of_getElem? (i := 84) rfl)) rfl
theorem wd_1109 : Cond.selects "CabbageCradlesModel" ⟨"CabbageCradlesModel", "lifted", "(II)I"⟩ ⟨"CabbageCradlesModel", "lifted", "(II)I"⟩ ∈ cb_ws := cb_wt (cb_t5 _ (List.mem_of_getElem? (i := 85) rfl)) rfl
theorem cv_L_62 : cb_CV RL 62 yX7_lifted cX7_lifted 3 (some .int) 2 := ⟨wd_1110, wd_1107, wd_1108, wd_1109, wd_73, ⟨by decide +kernel, by decide +kernel, by decide +kernel⟩, by decide⟩
theorem wd_602 : Cond.methodLink "CabbageCradlesLaw" 63 ⟨"CabbageCradles", "gets", "(II)I"⟩ ∈ cb_ws := cb_wt (cb_t3 _ (List.mem_of_getElem? (i := 58) rfl)) rfl
theorem cv_L_63 : cb_CV RL 63 yX6_gets cX6_gets 3 (some .int) 2 := ⟨wd_605, wd_602, wd_603, wd_604, wd_65, ⟨by decide +kernel, by decide +kernel, by decide +kernel⟩, by decide⟩
theorem wd_1115 : Cond.methodLink "CabbageCradlesLaw" 66 ⟨"CabbageCradlesModel", "gets", "(II)I"⟩ ∈ cb_ws := cb_wt (cb_t5 _ (List.mem_of_getElem? (i := 91) rfl)) rfl
theorem wd_1116 : Cond.instanceMethod ⟨"CabbageCradlesModel", "gets", "(II)I"⟩ ∈ cb_ws := cb_wt (cb_t5 _ (List.mem_of_getElem? (i := 92) rfl)) rfl
theorem wd_1117 : Cond.selects "CabbageCradlesModel" ⟨"CabbageCradlesModel", "gets", "(II)I"⟩ ⟨"CabbageCradlesModel", "gets", "(II)I"⟩ ∈ cb_ws := cb_wt (cb_t5 _ (List.mem_of_getElem? (i := 93) rfl)) rfl
theorem cv_L_66 : cb_CV RL 66 yX7_gets cX7_gets 3 (some .int) 2 := ⟨wd_1118, wd_1115, wd_1116, wd_1117, wd_73, ⟨by decide +kernel, by decide +kernel, by decide +kernel⟩, by decide⟩
theorem wd_611 : Cond.methodLink "CabbageCradlesLaw" 67 ⟨"CabbageCradles", "children", "(I)I"⟩ ∈ cb_ws := cb_wt (cb_t3 _ (List.mem_of_getElem? (i := 67) rfl)) rfl
theorem cv_L_67 : cb_CV RL 67 yX6_children cX6_children 2 (some .int) 1 := ⟨wd_614, wd_611, wd_612, wd_613, wd_65, ⟨by decide +kernel, by decide +kernel, by decide +kernel⟩, by decide⟩
theorem wd_1123 : Cond.methodLink "CabbageCradlesLaw" 70 ⟨"CabbageCradlesModel", "children", "(I)I"⟩ ∈ cb_ws := cb_wt (cb_t5 _ (List.mem_of_getElem? (i := 99) rfl)) rfl
theorem wd_1124 : Cond.instanceMethod ⟨"CabbageCradlesModel", "children", "(I)I"⟩ ∈ cb_ws := cb_wt (cb_t5 _ (List.mem_of_getElem? (i := 100) rfl)) rfl
theorem wd_1125 : Cond.selects "CabbageCradlesModel" ⟨"CabbageCradlesModel", "children", "(I)I"⟩ ⟨"CabbageCradlesModel", "children", "(I)I"⟩ ∈ cb_ws := cb_wt (cb_t5 _ (List.mem_of_getElem? (i := 101) rfl)) rfl
theorem cv_L_70 : cb_CV RL 70 yX7_children cX7_children 2 (some .int) 1 := ⟨wd_1126, wd_1123, wd_1124, wd_1125, wd_73, ⟨by decide +kernel, by decide +kernel, by decide +kernel⟩, by decide⟩
theorem wd_619 : Cond.methodLink "CabbageCradlesLaw" 71 ⟨"CabbageCradles", "without", "()I"⟩ ∈ cb_ws := cb_wt (cb_t3 _ (List.mem_of_getElem? (i := 75) rfl)) rfl
theorem cv_L_71 : cb_CV RL 71 yX6_without cX6_without 1 (some .int) 0 := ⟨wd_622, wd_619, wd_620, wd_621, wd_65, ⟨by decide +kernel, by decide +kernel, by decide +kernel⟩, by decide⟩
theorem wd_1131 : Cond.methodLink "CabbageCradlesLaw" 75 ⟨"CabbageCradlesModel", "without", "()I"⟩ ∈ cb_ws := cb_wt (cb_t5 _ (List.mem_of_getElem? (i := 107) rfl)) rfl
theorem wd_1132 : Cond.instanceMethod ⟨"CabbageCradlesModel", "without", "()I"⟩ ∈ cb_ws := cb_wt (cb_t5 _ (List.mem_of_getElem? (i := 108) rfl)) rfl
theorem wd_1133 : Cond.selects "CabbageCradlesModel" ⟨"CabbageCradlesModel", "without", "()I"⟩ ⟨"CabbageCradlesModel", "without", "()I"⟩ ∈ cb_ws := cb_wt (cb_t5 _ (List.mem_of_getElem? (i := 109) rfl)) rfl
theorem cv_L_75 : cb_CV RL 75 yX7_without cX7_without 1 (some .int) 0 := ⟨wd_1134, wd_1131, wd_1132, wd_1133, wd_73, ⟨by decide +kernel, by decide +kernel, by decide +kernel⟩, by decide⟩
theorem wd_623 : Cond.methodLink "CabbageCradlesLaw" 76 ⟨"CabbageCradles", "turn", "(I)I"⟩ ∈ cb_ws := cb_wt (cb_t3 _ (List.mem_of_getElem? (i := 79) rfl)) rfl
theorem cv_L_76 : cb_CV RL 76 yX6_turn cX6_turn 3 (some .int) 1 := ⟨wd_626, wd_623, wd_624, wd_625, wd_65, ⟨by decide +kernel, by decide +kernel, by decide +kernel⟩, by decide⟩
theorem wd_1139 : Cond.methodLink "CabbageCradlesLaw" 79 ⟨"CabbageCradlesModel", "turn", "(I)I"⟩ ∈ cb_ws := cb_wt (cb_t5 _ (List.mem_of_getElem? (i := 115) rfl)) rfl
theorem wd_1140 : Cond.instanceMethod ⟨"CabbageCradlesModel", "turn", "(I)I"⟩ ∈ cb_ws := cb_wt (cb_t5 _ (List.mem_of_getElem? (i := 116) rfl)) rfl
theorem wd_1141 : Cond.selects "CabbageCradlesModel" ⟨"CabbageCradlesModel", "turn", "(I)I"⟩ ⟨"CabbageCradlesModel", "turn", "(I)I"⟩ ∈ cb_ws := cb_wt (cb_t5 _ (List.mem_of_getElem? (i := 117) rfl)) rfl
theorem cv_L_79 : cb_CV RL 79 yX7_turn cX7_turn 2 (some .int) 1 := ⟨wd_1142, wd_1139, wd_1140, wd_1141, wd_73, ⟨by decide +kernel, by decide +kernel, by decide +kernel⟩, by decide⟩
theorem wd_647 : Cond.methodLink "CabbageCradlesLaw" 80 ⟨"CabbageCradles", "met", "()I"⟩ ∈ cb_ws := cb_wt (cb_t3 _ (List.mem_of_getElem? (i := 103) rfl)) rfl
theorem cv_L_80 : cb_CV RL 80 yX6_met cX6_met 4 (some .int) 0 := ⟨wd_650, wd_647, wd_648, wd_649, wd_65, ⟨by decide +kernel, by decide +kernel, by decide +kernel⟩, by decide⟩
theorem wd_1143 : Cond.methodLink "CabbageCradlesLaw" 83 ⟨"CabbageCradlesModel", "met", "()I"⟩ ∈ cb_ws := cb_wt (cb_t5 _ (List.mem_of_getElem? (i := 119) rfl)) rfl
theorem wd_1144 : Cond.instanceMethod ⟨"CabbageCradlesModel", "met", "()I"⟩ ∈ cb_ws := cb_wt (cb_t5 _ (List.mem_of_getElem? (i := 120) rfl)) rfl
theorem wd_1145 : Cond.selects "CabbageCradlesModel" ⟨"CabbageCradlesModel", "met", "()I"⟩ ⟨"CabbageCradlesModel", "met", "()I"⟩ ∈ cb_ws := cb_wt (cb_t5 _ (List.mem_of_getElem? (i := 121) rfl)) rfl
theorem cv_L_83 : cb_CV RL 83 yX7_met cX7_met 1 (some .int) 0 := ⟨wd_1146, wd_1143, wd_1144, wd_1145, wd_73, ⟨by decide +kernel, by decide +kernel, by decide +kernel⟩, by decide⟩
theorem wd_662 : Cond.methodLink "CabbageCradlesLaw" 84 ⟨"CabbageCradles", "keep", "(II)I"⟩ ∈ cb_ws := cb_wt (cb_t3 _ (List.mem_of_getElem? (i := 118) rfl)) rfl
theorem cv_L_84 : cb_CV RL 84 yX6_keep cX6_keep 4 (some .int) 2 := ⟨wd_665, wd_662, wd_663, wd_664, wd_65, ⟨by decide +kernel, by decide +kernel, by decide +kernel⟩, by decide⟩
theorem wd_1158 : Cond.methodLink "CabbageCradlesLaw" 87 ⟨"CabbageCradlesModel", "keep", "(II)I"⟩ ∈ cb_ws := cb_wt (cb_t5 _ (List.mem_of_getElem? (i := 134) rfl)) rfl
theorem wd_1159 : Cond.instanceMethod ⟨"CabbageCradlesModel", "keep", "(II)I"⟩ ∈ cb_ws := cb_wt (cb_t5 _ (List.mem_of_getElem? (i := 135) rfl)) rfl
theorem wd_1160 : Cond.selects "CabbageCradlesModel" ⟨"CabbageCradlesModel", "keep", "(II)I"⟩ ⟨"CabbageCradlesModel", "keep", "(II)I"⟩ ∈ cb_ws := cb_wt (cb_t5 _ (List.mem_of_getElem? (i := 136) rfl)) rfl
theorem cv_L_87 : cb_CV RL 87 yX7_keep cX7_keep 3 (some .int) 2 := ⟨wd_1161, wd_1158, wd_1159, wd_1160, wd_73, ⟨by decide +kernel, by decide +kernel, by decide +kernel⟩, by decide⟩
theorem wd_673 : Cond.methodLink "CabbageCradlesLaw" 88 ⟨"CabbageCradles", "sow", "(II)I"⟩ ∈ cb_ws := cb_wt (cb_t3 _ (List.mem_of_getElem? (i := 129) rfl)) rfl
theorem cv_L_88 : cb_CV RL 88 yX6_sow cX6_sow 6 (some .int) 2 := ⟨wd_676, wd_673, wd_674, wd_675, wd_65, ⟨by decide +kernel, by decide +kernel, by decide +kernel⟩, by decide⟩
theorem wd_1171 : Cond.methodLink "CabbageCradlesLaw" 91 ⟨"CabbageCradlesModel", "sow", "(II)I"⟩ ∈ cb_ws := cb_wt (cb_t5 _ (List.mem_of_getElem? (i := 147) rfl)) rfl
theorem wd_1172 : Cond.instanceMethod ⟨"CabbageCradlesModel", "sow", "(II)I"⟩ ∈ cb_ws := cb_wt (cb_t5 _ (List.mem_of_getElem? (i := 148) rfl)) rfl
theorem wd_1173 : Cond.selects "CabbageCradlesModel" ⟨"CabbageCradlesModel", "sow", "(II)I"⟩ ⟨"CabbageCradlesModel", "sow", "(II)I"⟩ ∈ cb_ws := cb_wt (cb_t5 _ (List.mem_of_getElem? (i := 149) rfl)) rfl
theorem cv_L_91 : cb_CV RL 91 yX7_sow cX7_sow 3 (some .int) 2 := ⟨wd_1174, wd_1171, wd_1172, wd_1173, wd_73, ⟨by decide +kernel, by decide +kernel, by decide +kernel⟩, by decide⟩
theorem wd_681 : Cond.methodLink "CabbageCradlesLaw" 92 ⟨"CabbageCradles", "come", "(II)I"⟩ ∈ cb_ws := cb_wt (cb_t3 _ (List.mem_of_getElem? (i := 137) rfl)) rfl
theorem cv_L_92 : cb_CV RL 92 yX6_come cX6_come 7 (some .int) 2 := ⟨wd_684, wd_681, wd_682, wd_683, wd_65, ⟨by decide +kernel, by decide +kernel, by decide +kernel⟩, by decide⟩
theorem wd_1182 : Cond.methodLink "CabbageCradlesLaw" 95 ⟨"CabbageCradlesModel", "come", "(II)I"⟩ ∈ cb_ws := cb_wt (cb_t5 _ (List.mem_of_getElem? (i := 158) rfl)) rfl
theorem wd_1183 : Cond.instanceMethod ⟨"CabbageCradlesModel", "come", "(II)I"⟩ ∈ cb_ws := cb_wt (cb_t5 _ (List.mem_of_getElem? (i := 159) rfl)) rfl
theorem wd_1184 : Cond.selects "CabbageCradlesModel" ⟨"CabbageCradlesModel", "come", "(II)I"⟩ ⟨"CabbageCradlesModel", "come", "(II)I"⟩ ∈ cb_ws := cb_wt (cb_t5 _ (List.mem_of_getElem? (i := 160) rfl)) rfl
theorem cv_L_95 : cb_CV RL 95 yX7_come cX7_come 3 (some .int) 2 := ⟨wd_1185, wd_1182, wd_1183, wd_1184, wd_73, ⟨by decide +kernel, by decide +kernel, by decide +kernel⟩, by decide⟩
theorem wd_685 : Cond.methodLink "CabbageCradlesLaw" 96 ⟨"CabbageCradles", "seen", "(II)I"⟩ ∈ cb_ws := cb_wt (cb_t3 _ (List.mem_of_getElem? (i := 141) rfl)) rfl
theorem wd_686 : Cond.instanceMethod ⟨"CabbageCradles", "seen", "(II)I"⟩ ∈ cb_ws := cb_wt (cb_t3 _ (List.mem_of_getElem? (i := 142) rfl)) rfl
theorem wd_687 : Cond.selects "CabbageCradles" ⟨"CabbageCradles", "seen", "(II)I"⟩ ⟨"CabbageCradles", "seen", "(II)I"⟩ ∈ cb_ws := cb_wt (cb_t3 _ (List.mem_of_getElem? (i := 143) rfl)) rfl
theorem cv_L_96 : cb_CV RL 96 yX6_seen cX6_seen 3 (some .int) 2 := ⟨wd_688, wd_685, wd_686, wd_687, wd_65, ⟨by decide +kernel, by decide +kernel, by decide +kernel⟩, by decide⟩
theorem wd_1190 : Cond.methodLink "CabbageCradlesLaw" 99 ⟨"CabbageCradlesModel", "seen", "(II)I"⟩ ∈ cb_ws := cb_wt (cb_t5 _ (List.mem_of_getElem? (i := 166) rfl)) rfl
theorem wd_1191 : Cond.instanceMethod ⟨"CabbageCradlesModel", "seen", "(II)I"⟩ ∈ cb_ws := cb_wt (cb_t5 _ (List.mem_of_getElem? (i := 167) rfl)) rfl
theorem wd_1192 : Cond.selects "CabbageCradlesModel" ⟨"CabbageCradlesModel", "seen", "(II)I"⟩ ⟨"CabbageCradlesModel", "seen", "(II)I"⟩ ∈ cb_ws := cb_wt (cb_t5 _ (List.mem_of_getElem? (i := 168) rfl)) rfl
theorem cv_L_99 : cb_CV RL 99 yX7_seen cX7_seen 3 (some .int) 2 := ⟨wd_1193, wd_1190, wd_1191, wd_1192, wd_73, ⟨by decide +kernel, by decide +kernel, by decide +kernel⟩, by decide⟩
theorem wd_689 : Cond.methodLink "CabbageCradlesLaw" 100 ⟨"CabbageCradles", "forget", "()I"⟩ ∈ cb_ws := cb_wt (cb_t3 _ (List.mem_of_getElem? (i := 145) rfl)) rfl
theorem wd_690 : Cond.instanceMethod ⟨"CabbageCradles", "forget", "()I"⟩ ∈ cb_ws := cb_wt (cb_t3 _ (List.mem_of_getElem? (i := 146) rfl)) rfl
theorem wd_691 : Cond.selects "CabbageCradles" ⟨"CabbageCradles", "forget", "()I"⟩ ⟨"CabbageCradles", "forget", "()I"⟩ ∈ cb_ws := cb_wt (cb_t3 _ (List.mem_of_getElem? (i := 147) rfl)) rfl
theorem cv_L_100 : cb_CV RL 100 yX6_forget cX6_forget 1 (some .int) 0 := ⟨wd_692, wd_689, wd_690, wd_691, wd_65, ⟨by decide +kernel, by decide +kernel, by decide +kernel⟩, by decide⟩
theorem wd_1195 : Cond.methodLink "CabbageCradlesLaw" 103 ⟨"CabbageCradlesModel", "forget", "()I"⟩ ∈ cb_ws := cb_wt (cb_t5 _ (List.mem_of_getElem? (i := 171) rfl)) rfl
theorem wd_1196 : Cond.instanceMethod ⟨"CabbageCradlesModel", "forget", "()I"⟩ ∈ cb_ws := cb_wt (cb_t5 _ (List.mem_of_getElem? (i := 172) rfl)) rfl
theorem wd_1197 : Cond.selects "CabbageCradlesModel" ⟨"CabbageCradlesModel", "forget", "()I"⟩ ⟨"CabbageCradlesModel", "forget", "()I"⟩ ∈ cb_ws := cb_wt (cb_t5 _ (List.mem_of_getElem? (i := 173) rfl)) rfl
theorem cv_L_103 : cb_CV RL 103 yX7_forget cX7_forget 2 (some .int) 0 := ⟨wd_1198, wd_1195, wd_1196, wd_1197, wd_73, ⟨by decide +kernel, by decide +kernel, by decide +kernel⟩, by decide⟩
theorem wd_694 : Cond.methodLink "CabbageCradlesLaw" 104 ⟨"CabbageCradles", "never", "()I"⟩ ∈ cb_ws := cb_wt (cb_t3 _ (List.mem_of_getElem? (i := 150) rfl)) rfl
theorem cv_L_104 : cb_CV RL 104 yX6_never cX6_never 3 (some .int) 0 := ⟨wd_697, wd_694, wd_695, wd_696, wd_65, ⟨by decide +kernel, by decide +kernel, by decide +kernel⟩, by decide⟩
theorem wd_1199 : Cond.methodLink "CabbageCradlesLaw" 107 ⟨"CabbageCradlesModel", "never", "()I"⟩ ∈ cb_ws := cb_wt (cb_t5 _ (List.mem_of_getElem? (i := 175) rfl)) rfl
theorem wd_1200 : Cond.instanceMethod ⟨"CabbageCradlesModel", "never", "()I"⟩ ∈ cb_ws := cb_wt (cb_t5 _ (List.mem_of_getElem? (i := 176) rfl)) rfl
theorem wd_1201 : Cond.selects "CabbageCradlesModel" ⟨"CabbageCradlesModel", "never", "()I"⟩ ⟨"CabbageCradlesModel", "never", "()I"⟩ ∈ cb_ws := cb_wt (cb_t5 _ (List.mem_of_getElem? (i := 177) rfl)) rfl
theorem cv_L_107 : cb_CV RL 107 yX7_never cX7_never 1 (some .int) 0 := ⟨wd_1202, wd_1199, wd_1200, wd_1201, wd_73, ⟨by decide +kernel, by decide +kernel, by decide +kernel⟩, by decide⟩
theorem wd_702 : Cond.methodLink "CabbageCradlesLaw" 108 ⟨"CabbageCradles", "was", "(II)I"⟩ ∈ cb_ws := cb_wt (cb_t3 _ (List.mem_of_getElem? (i := 158) rfl)) rfl
theorem cv_L_108 : cb_CV RL 108 yX6_was cX6_was 3 (some .int) 2 := ⟨wd_705, wd_702, wd_703, wd_704, wd_65, ⟨by decide +kernel, by decide +kernel, by decide +kernel⟩, by decide⟩
theorem wd_1211 : Cond.methodLink "CabbageCradlesLaw" 111 ⟨"CabbageCradlesModel", "was", "(II)I"⟩ ∈ cb_ws := cb_wt (cb_t5 _ (List.mem_of_getElem? (i := 187) rfl)) rfl
theorem wd_1212 : Cond.instanceMethod ⟨"CabbageCradlesModel", "was", "(II)I"⟩ ∈ cb_ws := cb_wt (cb_t5 _ (List.mem_of_getElem? (i := 188) rfl)) rfl
theorem wd_1213 : Cond.selects "CabbageCradlesModel" ⟨"CabbageCradlesModel", "was", "(II)I"⟩ ⟨"CabbageCradlesModel", "was", "(II)I"⟩ ∈ cb_ws := cb_wt (cb_t5 _ (List.mem_of_getElem? (i := 189) rfl)) rfl
theorem cv_L_111 : cb_CV RL 111 yX7_was cX7_was 3 (some .int) 2 := ⟨wd_1214, wd_1211, wd_1212, wd_1213, wd_73, ⟨by decide +kernel, by decide +kernel, by decide +kernel⟩, by decide⟩
theorem wd_714 : Cond.methodLink "CabbageCradlesLaw" 112 ⟨"CabbageCradles", "ask", "(I)I"⟩ ∈ cb_ws := cb_wt (cb_t3 _ (List.mem_of_getElem? (i := 170) rfl)) rfl
theorem cv_L_112 : cb_CV RL 112 yX6_ask cX6_ask 3 (some .int) 1 := ⟨wd_717, wd_714, wd_715, wd_716, wd_65, ⟨by decide +kernel, by decide +kernel, by decide +kernel⟩, by decide⟩
theorem wd_1219 : Cond.methodLink "CabbageCradlesLaw" 115 ⟨"CabbageCradlesModel", "ask", "(I)I"⟩ ∈ cb_ws := cb_wt (cb_t5 _ (List.mem_of_getElem? (i := 195) rfl)) rfl
theorem wd_1220 : Cond.instanceMethod ⟨"CabbageCradlesModel", "ask", "(I)I"⟩ ∈ cb_ws := cb_wt (cb_t5 _ (List.mem_of_getElem? (i := 196) rfl)) rfl
theorem wd_1221 : Cond.selects "CabbageCradlesModel" ⟨"CabbageCradlesModel", "ask", "(I)I"⟩ ⟨"CabbageCradlesModel", "ask", "(I)I"⟩ ∈ cb_ws := cb_wt (cb_t5 _ (List.mem_of_getElem? (i := 197) rfl)) rfl
theorem cv_L_115 : cb_CV RL 115 yX7_ask cX7_ask 2 (some .int) 1 := ⟨wd_1222, wd_1219, wd_1220, wd_1221, wd_73, ⟨by decide +kernel, by decide +kernel, by decide +kernel⟩, by decide⟩
theorem wd_728 : Cond.methodLink "CabbageCradlesLaw" 116 ⟨"CabbageCradles", "chill", "(IIII)J"⟩ ∈ cb_ws := cb_wt (cb_t3 _ (List.mem_of_getElem? (i := 184) rfl)) rfl
theorem cv_L_116 : cb_CV RL 116 yX6_chill cX6_chill 10 (some .long) 4 := ⟨wd_731, wd_728, wd_729, wd_730, wd_65, ⟨by decide +kernel, by decide +kernel, by decide +kernel⟩, by decide⟩
theorem wd_1227 : Cond.methodLink "CabbageCradlesLaw" 120 ⟨"CabbageCradlesModel", "chill", "(IIII)J"⟩ ∈ cb_ws := cb_wt (cb_t5 _ (List.mem_of_getElem? (i := 203) rfl)) rfl
theorem wd_1228 : Cond.instanceMethod ⟨"CabbageCradlesModel", "chill", "(IIII)J"⟩ ∈ cb_ws := cb_wt (cb_t5 _ (List.mem_of_getElem? (i := 204) rfl)) rfl
theorem wd_1229 : Cond.selects "CabbageCradlesModel" ⟨"CabbageCradlesModel", "chill", "(IIII)J"⟩ ⟨"CabbageCradlesModel", "chill", "(IIII)J"⟩ ∈ cb_ws := cb_wt (cb_t5 _ (List.mem_of_getElem? (i := 205) rfl)) rfl
theorem cv_L_120 : cb_CV RL 120 yX7_chill cX7_chill 5 (some .long) 4 := ⟨wd_1230, wd_1227, wd_1228, wd_1229, wd_73, ⟨by decide +kernel, by decide +kernel, by decide +kernel⟩, by decide⟩
theorem wd_753 : Cond.methodLink "CabbageCradlesLaw" 121 ⟨"CabbageCradles", "year", "(II)I"⟩ ∈ cb_ws := cb_wt (cb_t3 _ (List.mem_of_getElem? (i := 209) rfl)) rfl
theorem cv_L_121 : cb_CV RL 121 yX6_year cX6_year 5 (some .int) 2 := ⟨wd_756, wd_753, wd_754, wd_755, wd_65, ⟨by decide +kernel, by decide +kernel, by decide +kernel⟩, by decide⟩
theorem wd_1244 : Cond.methodLink "CabbageCradlesLaw" 124 ⟨"CabbageCradlesModel", "year", "(II)I"⟩ ∈ cb_ws := cb_wt (cb_t5 _ (List.mem_of_getElem? (i := 220) rfl)) rfl
theorem wd_1245 : Cond.instanceMethod ⟨"CabbageCradlesModel", "year", "(II)I"⟩ ∈ cb_ws := cb_wt (cb_t5 _ (List.mem_of_getElem? (i := 221) rfl)) rfl
theorem wd_1246 : Cond.selects "CabbageCradlesModel" ⟨"CabbageCradlesModel", "year", "(II)I"⟩ ⟨"CabbageCradlesModel", "year", "(II)I"⟩ ∈ cb_ws := cb_wt (cb_t5 _ (List.mem_of_getElem? (i := 222) rfl)) rfl
theorem cv_L_124 : cb_CV RL 124 yX7_year cX7_year 3 (some .int) 2 := ⟨wd_1247, wd_1244, wd_1245, wd_1246, wd_73, ⟨by decide +kernel, by decide +kernel, by decide +kernel⟩, by decide⟩
theorem wd_758 : Cond.methodLink "CabbageCradlesLaw" 125 ⟨"CabbageCradles", "sheet", "(III)I"⟩ ∈ cb_ws := cb_wt (cb_t3 _ (List.mem_of_getElem? (i := 214) rfl)) rfl
theorem wd_759 : Cond.instanceMethod ⟨"CabbageCradles", "sheet", "(III)I"⟩ ∈ cb_ws := cb_wt (cb_t3 _ (List.mem_of_getElem? (i := 215) rfl)) rfl
theorem wd_760 : Cond.selects "CabbageCradles" ⟨"CabbageCradles", "sheet", "(III)I"⟩ ⟨"CabbageCradles", "sheet", "(III)I"⟩ ∈ cb_ws := cb_wt (cb_t3 _ (List.mem_of_getElem? (i := 216) rfl)) rfl
theorem cv_L_125 : cb_CV RL 125 yX6_sheet cX6_sheet 4 (some .int) 3 := ⟨wd_761, wd_758, wd_759, wd_760, wd_65, ⟨by decide +kernel, by decide +kernel, by decide +kernel⟩, by decide⟩
theorem wd_937 : Cond.methodLink "CabbageCradlesLaw" 129 ⟨"CabbageCradlesModel", "sheet", "(III)I"⟩ ∈ cb_ws := cb_wt (cb_t4 _ (List.mem_of_getElem? (i := 153) rfl)) rfl
theorem wd_938 : Cond.instanceMethod ⟨"CabbageCradlesModel", "sheet", "(III)I"⟩ ∈ cb_ws := cb_wt (cb_t4 _ (List.mem_of_getElem? (i := 154) rfl)) rfl
theorem wd_939 : Cond.selects "CabbageCradlesModel" ⟨"CabbageCradlesModel", "sheet", "(III)I"⟩ ⟨"CabbageCradlesModel", "sheet", "(III)I"⟩ ∈ cb_ws := cb_wt (cb_t4 _ (List.mem_of_getElem? (i := 155) rfl)) rfl
theorem cv_L_129 : cb_CV RL 129 yX7_sheet cX7_sheet 5 (some .int) 3 := ⟨wd_940, wd_937, wd_938, wd_939, wd_73, ⟨by decide +kernel, by decide +kernel, by decide +kernel⟩, by decide⟩
theorem wd_767 : Cond.methodLink "CabbageCradlesLaw" 130 ⟨"CabbageCradles", "lose", "(I)I"⟩ ∈ cb_ws := cb_wt (cb_t3 _ (List.mem_of_getElem? (i := 223) rfl)) rfl
theorem wd_768 : Cond.instanceMethod ⟨"CabbageCradles", "lose", "(I)I"⟩ ∈ cb_ws := cb_wt (cb_t3 _ (List.mem_of_getElem? (i := 224) rfl)) rfl
theorem wd_769 : Cond.selects "CabbageCradles" ⟨"CabbageCradles", "lose", "(I)I"⟩ ⟨"CabbageCradles", "lose", "(I)I"⟩ ∈ cb_ws := cb_wt (cb_t3 _ (List.mem_of_getElem? (i := 225) rfl)) rfl
theorem cv_L_130 : cb_CV RL 130 yX6_lose cX6_lose 4 (some .int) 1 := ⟨wd_770, wd_767, wd_768, wd_769, wd_65, ⟨by decide +kernel, by decide +kernel, by decide +kernel⟩, by decide⟩
theorem wd_953 : Cond.methodLink "CabbageCradlesLaw" 133 ⟨"CabbageCradlesModel", "lose", "(I)I"⟩ ∈ cb_ws := cb_wt (cb_t4 _ (List.mem_of_getElem? (i := 169) rfl)) rfl
theorem wd_954 : Cond.instanceMethod ⟨"CabbageCradlesModel", "lose", "(I)I"⟩ ∈ cb_ws := cb_wt (cb_t4 _ (List.mem_of_getElem? (i := 170) rfl)) rfl
theorem wd_955 : Cond.selects "CabbageCradlesModel" ⟨"CabbageCradlesModel", "lose", "(I)I"⟩ ⟨"CabbageCradlesModel", "lose", "(I)I"⟩ ∈ cb_ws := cb_wt (cb_t4 _ (List.mem_of_getElem? (i := 171) rfl)) rfl
theorem cv_L_133 : cb_CV RL 133 yX7_lose cX7_lose 2 (some .int) 1 := ⟨wd_956, wd_953, wd_954, wd_955, wd_73, ⟨by decide +kernel, by decide +kernel, by decide +kernel⟩, by decide⟩
theorem wd_771 : Cond.methodLink "CabbageCradlesLaw" 134 ⟨"CabbageCradles", "lay", "(IIII)I"⟩ ∈ cb_ws := cb_wt (cb_t3 _ (List.mem_of_getElem? (i := 227) rfl)) rfl
theorem wd_772 : Cond.instanceMethod ⟨"CabbageCradles", "lay", "(IIII)I"⟩ ∈ cb_ws := cb_wt (cb_t3 _ (List.mem_of_getElem? (i := 228) rfl)) rfl
theorem wd_773 : Cond.selects "CabbageCradles" ⟨"CabbageCradles", "lay", "(IIII)I"⟩ ⟨"CabbageCradles", "lay", "(IIII)I"⟩ ∈ cb_ws := cb_wt (cb_t3 _ (List.mem_of_getElem? (i := 229) rfl)) rfl
theorem cv_L_134 : cb_CV RL 134 yX6_lay cX6_lay 6 (some .int) 4 := ⟨wd_774, wd_771, wd_772, wd_773, wd_65, ⟨by decide +kernel, by decide +kernel, by decide +kernel⟩, by decide⟩
theorem wd_957 : Cond.methodLink "CabbageCradlesLaw" 138 ⟨"CabbageCradlesModel", "lay", "(IIII)I"⟩ ∈ cb_ws := cb_wt (cb_t4 _ (List.mem_of_getElem? (i := 173) rfl)) rfl
theorem wd_958 : Cond.instanceMethod ⟨"CabbageCradlesModel", "lay", "(IIII)I"⟩ ∈ cb_ws := cb_wt (cb_t4 _ (List.mem_of_getElem? (i := 174) rfl)) rfl
theorem wd_959 : Cond.selects "CabbageCradlesModel" ⟨"CabbageCradlesModel", "lay", "(IIII)I"⟩ ⟨"CabbageCradlesModel", "lay", "(IIII)I"⟩ ∈ cb_ws := cb_wt (cb_t4 _ (List.mem_of_getElem? (i := 175) rfl)) rfl
theorem cv_L_138 : cb_CV RL 138 yX7_lay cX7_lay 6 (some .int) 4 := ⟨wd_960, wd_957, wd_958, wd_959, wd_73, ⟨by decide +kernel, by decide +kernel, by decide +kernel⟩, by decide⟩
theorem wd_782 : Cond.methodLink "CabbageCradlesLaw" 139 ⟨"CabbageCradles", "get", "(III)I"⟩ ∈ cb_ws := cb_wt (cb_t3 _ (List.mem_of_getElem? (i := 238) rfl)) rfl
theorem wd_783 : Cond.instanceMethod ⟨"CabbageCradles", "get", "(III)I"⟩ ∈ cb_ws := cb_wt (cb_t3 _ (List.mem_of_getElem? (i := 239) rfl)) rfl
theorem wd_784 : Cond.selects "CabbageCradles" ⟨"CabbageCradles", "get", "(III)I"⟩ ⟨"CabbageCradles", "get", "(III)I"⟩ ∈ cb_ws := cb_wt (cb_t4 _ (List.mem_of_getElem? (i := 0) rfl)) rfl
theorem cv_L_139 : cb_CV RL 139 yX6_get cX6_get 5 (some .int) 3 := ⟨wd_785, wd_782, wd_783, wd_784, wd_65, ⟨by decide +kernel, by decide +kernel, by decide +kernel⟩, by decide⟩
theorem wd_968 : Cond.methodLink "CabbageCradlesLaw" 142 ⟨"CabbageCradlesModel", "get", "(III)I"⟩ ∈ cb_ws := cb_wt (cb_t4 _ (List.mem_of_getElem? (i := 184) rfl)) rfl
theorem wd_969 : Cond.instanceMethod ⟨"CabbageCradlesModel", "get", "(III)I"⟩ ∈ cb_ws := cb_wt (cb_t4 _ (List.mem_of_getElem? (i := 185) rfl)) rfl
theorem wd_970 : Cond.selects "CabbageCradlesModel" ⟨"CabbageCradlesModel", "get", "(III)I"⟩ ⟨"CabbageCradlesModel", "get", "(III)I"⟩ ∈ cb_ws := cb_wt (cb_t4 _ (List.mem_of_getElem? (i := 186) rfl)) rfl
theorem cv_L_142 : cb_CV RL 142 yX7_get cX7_get 4 (some .int) 3 := ⟨wd_971, wd_968, wd_969, wd_970, wd_73, ⟨by decide +kernel, by decide +kernel, by decide +kernel⟩, by decide⟩
theorem wd_787 : Cond.methodLink "CabbageCradlesLaw" 143 ⟨"CabbageCradles", "copy", "(IIIII)I"⟩ ∈ cb_ws := cb_wt (cb_t4 _ (List.mem_of_getElem? (i := 3) rfl)) rfl
theorem wd_788 : Cond.instanceMethod ⟨"CabbageCradles", "copy", "(IIIII)I"⟩ ∈ cb_ws := cb_wt (cb_t4 _ (List.mem_of_getElem? (i := 4) rfl)) rfl
theorem wd_789 : Cond.selects "CabbageCradles" ⟨"CabbageCradles", "copy", "(IIIII)I"⟩ ⟨"CabbageCradles", "copy", "(IIIII)I"⟩ ∈ cb_ws := cb_wt (cb_t4 _ (List.mem_of_getElem? (i := 5) rfl)) rfl
theorem cv_L_143 : cb_CV RL 143 yX6_copy cX6_copy 8 (some .int) 5 := ⟨wd_790, wd_787, wd_788, wd_789, wd_65, ⟨by decide +kernel, by decide +kernel, by decide +kernel⟩, by decide⟩
theorem wd_973 : Cond.methodLink "CabbageCradlesLaw" 147 ⟨"CabbageCradlesModel", "copy", "(IIIII)I"⟩ ∈ cb_ws := cb_wt (cb_t4 _ (List.mem_of_getElem? (i := 189) rfl)) rfl
theorem wd_974 : Cond.instanceMethod ⟨"CabbageCradlesModel", "copy", "(IIIII)I"⟩ ∈ cb_ws := cb_wt (cb_t4 _ (List.mem_of_getElem? (i := 190) rfl)) rfl
theorem wd_975 : Cond.selects "CabbageCradlesModel" ⟨"CabbageCradlesModel", "copy", "(IIIII)I"⟩ ⟨"CabbageCradlesModel", "copy", "(IIIII)I"⟩ ∈ cb_ws := cb_wt (cb_t4 _ (List.mem_of_getElem? (i := 191) rfl)) rfl
theorem cv_L_147 : cb_CV RL 147 yX7_copy cX7_copy 7 (some .int) 5 := ⟨wd_976, wd_973, wd_974, wd_975, wd_73, ⟨by decide +kernel, by decide +kernel, by decide +kernel⟩, by decide⟩
theorem wd_796 : Cond.methodLink "CabbageCradlesLaw" 148 ⟨"CabbageCradles", "write", "(II)I"⟩ ∈ cb_ws := cb_wt (cb_t4 _ (List.mem_of_getElem? (i := 12) rfl)) rfl
theorem wd_797 : Cond.instanceMethod ⟨"CabbageCradles", "write", "(II)I"⟩ ∈ cb_ws := cb_wt (cb_t4 _ (List.mem_of_getElem? (i := 13) rfl)) rfl
theorem wd_798 : Cond.selects "CabbageCradles" ⟨"CabbageCradles", "write", "(II)I"⟩ ⟨"CabbageCradles", "write", "(II)I"⟩ ∈ cb_ws := cb_wt (cb_t4 _ (List.mem_of_getElem? (i := 14) rfl)) rfl
theorem cv_L_148 : cb_CV RL 148 yX6_write cX6_write 6 (some .int) 2 := ⟨wd_799, wd_796, wd_797, wd_798, wd_65, ⟨by decide +kernel, by decide +kernel, by decide +kernel⟩, by decide⟩
theorem wd_1257 : Cond.methodLink "CabbageCradlesLaw" 151 ⟨"CabbageCradlesModel", "write", "(II)I"⟩ ∈ cb_ws := cb_wt (cb_t5 _ (List.mem_of_getElem? (i := 233) rfl)) rfl
theorem wd_1258 : Cond.instanceMethod ⟨"CabbageCradlesModel", "write", "(II)I"⟩ ∈ cb_ws := cb_wt (cb_t5 _ (List.mem_of_getElem? (i := 234) rfl)) rfl
theorem wd_1259 : Cond.selects "CabbageCradlesModel" ⟨"CabbageCradlesModel", "write", "(II)I"⟩ ⟨"CabbageCradlesModel", "write", "(II)I"⟩ ∈ cb_ws := cb_wt (cb_t5 _ (List.mem_of_getElem? (i := 235) rfl)) rfl
theorem cv_L_151 : cb_CV RL 151 yX7_write cX7_write 5 (some .int) 2 := ⟨wd_1260, wd_1257, wd_1258, wd_1259, wd_73, ⟨by decide +kernel, by decide +kernel, by decide +kernel⟩, by decide⟩
theorem wd_800 : Cond.methodLink "CabbageCradlesLaw" 152 ⟨"CabbageCradles", "count", "(I)I"⟩ ∈ cb_ws := cb_wt (cb_t4 _ (List.mem_of_getElem? (i := 16) rfl)) rfl
theorem cv_L_152 : cb_CV RL 152 yX6_count cX6_count 2 (some .int) 1 := ⟨wd_803, wd_800, wd_801, wd_802, wd_65, ⟨by decide +kernel, by decide +kernel, by decide +kernel⟩, by decide⟩
theorem wd_1264 : Cond.methodLink "CabbageCradlesLaw" 155 ⟨"CabbageCradlesModel", "count", "(I)I"⟩ ∈ cb_ws := cb_wt (cb_t6 _ (List.mem_of_getElem? (i := 0) rfl)) rfl
theorem cv_L_155 : cb_CV RL 155 yX7_count cX7_count 2 (some .int) 1 := ⟨wd_1267, wd_1264, wd_1265, wd_1266, wd_73, ⟨by decide +kernel, by decide +kernel, by decide +kernel⟩, by decide⟩
theorem wd_805 : Cond.methodLink "CabbageCradlesLaw" 156 ⟨"CabbageCradles", "digest", "()J"⟩ ∈ cb_ws := cb_wt (cb_t4 _ (List.mem_of_getElem? (i := 21) rfl)) rfl
theorem wd_806 : Cond.instanceMethod ⟨"CabbageCradles", "digest", "()J"⟩ ∈ cb_ws := cb_wt (cb_t4 _ (List.mem_of_getElem? (i := 22) rfl)) rfl
theorem wd_807 : Cond.selects "CabbageCradles" ⟨"CabbageCradles", "digest", "()J"⟩ ⟨"CabbageCradles", "digest", "()J"⟩ ∈ cb_ws := cb_wt (cb_t4 _ (List.mem_of_getElem? (i := 23) rfl)) rfl
theorem cv_L_156 : cb_CV RL 156 yX6_digest cX6_digest 6 (some .long) 0 := ⟨wd_808, wd_805, wd_806, wd_807, wd_65, ⟨by decide +kernel, by decide +kernel, by decide +kernel⟩, by decide⟩
theorem wd_1268 : Cond.methodLink "CabbageCradlesLaw" 160 ⟨"CabbageCradlesModel", "digest", "()J"⟩ ∈ cb_ws := cb_wt (cb_t6 _ (List.mem_of_getElem? (i := 4) rfl)) rfl
theorem wd_1269 : Cond.instanceMethod ⟨"CabbageCradlesModel", "digest", "()J"⟩ ∈ cb_ws := cb_wt (cb_t6 _ (List.mem_of_getElem? (i := 5) rfl)) rfl
theorem wd_1270 : Cond.selects "CabbageCradlesModel" ⟨"CabbageCradlesModel", "digest", "()J"⟩ ⟨"CabbageCradlesModel", "digest", "()J"⟩ ∈ cb_ws := cb_wt (cb_t6 _ (List.mem_of_getElem? (i := 6) rfl)) rfl
theorem cv_L_160 : cb_CV RL 160 yX7_digest cX7_digest 4 (some .long) 0 := ⟨wd_1271, wd_1268, wd_1269, wd_1270, wd_73, ⟨by decide +kernel, by decide +kernel, by decide +kernel⟩, by decide⟩
