theorem wd_103 : Cond.methodLink "CabbageCradles$Row" 3 ⟨"java/lang/Object", "<init>", "()V"⟩ ∈ cb_ws := cb_wt (cb_t1 _ (List.mem_of_getElem? (i := 39) rfl)) rfl
theorem wd_88 : Cond.instanceMethod ⟨"java/lang/Object", "<init>", "()V"⟩ ∈ cb_ws := cb_wt (cb_t1 _ (List.mem_of_getElem? (i := 24) rfl)) rfl
theorem wd_89 : Cond.code ⟨"java/lang/Object", "<init>", "()V"⟩ object_method_1_code 1 (Option.none) ∈ cb_ws := cb_wt (cb_t1 _ (List.mem_of_getElem? (i := 25) rfl)) rfl
theorem wd_104 : Cond.methodLink "CabbageCradles$Row" 9 ⟨"java/lang/Math", "max", "(II)I"⟩ ∈ cb_ws := cb_wt (cb_t1 _ (List.mem_of_getElem? (i := 40) rfl)) rfl
theorem wd_118 : Cond.arrayClass .int ∈ cb_ws := cb_wt (cb_t1 _ (List.mem_of_getElem? (i := 54) rfl)) rfl
theorem wd_97 : Cond.methodLink "CabbageCradles$Text" 3 ⟨"java/lang/Object", "<init>", "()V"⟩ ∈ cb_ws := cb_wt (cb_t1 _ (List.mem_of_getElem? (i := 33) rfl)) rfl
theorem wd_98 : Cond.classLink "CabbageCradles$Text" 35 "CabbageCradles$Row" ∈ cb_ws := cb_wt (cb_t1 _ (List.mem_of_getElem? (i := 34) rfl)) rfl
theorem wd_99 : Cond.instantiable "CabbageCradles$Row" 2 ∈ cb_ws := cb_wt (cb_t1 _ (List.mem_of_getElem? (i := 35) rfl)) rfl
theorem wd_102 : Cond.code ⟨"CabbageCradles$Row", "<init>", "(I)V"⟩ prog_4_method_1_code 2 (Option.none) ∈ cb_ws := cb_wt (cb_t1 _ (List.mem_of_getElem? (i := 38) rfl)) rfl
theorem wd_101 : Cond.instanceMethod ⟨"CabbageCradles$Row", "<init>", "(I)V"⟩ ∈ cb_ws := cb_wt (cb_t1 _ (List.mem_of_getElem? (i := 37) rfl)) rfl
theorem wd_100 : Cond.methodLink "CabbageCradles$Text" 37 ⟨"CabbageCradles$Row", "<init>", "(I)V"⟩ ∈ cb_ws := cb_wt (cb_t1 _ (List.mem_of_getElem? (i := 36) rfl)) rfl
theorem wd_163 : Cond.methodLink "CabbageCradles$Sheet" 3 ⟨"java/lang/Object", "<init>", "()V"⟩ ∈ cb_ws := cb_wt (cb_t1 _ (List.mem_of_getElem? (i := 99) rfl)) rfl
theorem wd_182 : Cond.methodLink "CabbageCradles$Field" 3 ⟨"java/lang/Object", "<init>", "()V"⟩ ∈ cb_ws := cb_wt (cb_t1 _ (List.mem_of_getElem? (i := 118) rfl)) rfl
theorem wd_229 : Cond.methodLink "CabbageCradles$Walk" 3 ⟨"java/lang/Object", "<init>", "()V"⟩ ∈ cb_ws := cb_wt (cb_t1 _ (List.mem_of_getElem? (i := 165) rfl)) rfl
theorem wd_271 : Cond.methodLink "CabbageCradles$Chances" 3 ⟨"java/lang/Object", "<init>", "()V"⟩ ∈ cb_ws := cb_wt (cb_t1 _ (List.mem_of_getElem? (i := 207) rfl)) rfl
theorem wd_272 : Cond.classLink "CabbageCradles$Chances" 9 "[[I" ∈ cb_ws := cb_wt (cb_t1 _ (List.mem_of_getElem? (i := 208) rfl)) rfl
theorem wd_842 : Cond.methodLink "CabbageCradlesModel" 1 ⟨"java/lang/Object", "<init>", "()V"⟩ ∈ cb_ws := cb_wt (cb_t4 _ (List.mem_of_getElem? (i := 58) rfl)) rfl
theorem wd_87 : Cond.methodLink "CabbageCradles" 1 ⟨"java/lang/Object", "<init>", "()V"⟩ ∈ cb_ws := cb_wt (cb_t1 _ (List.mem_of_getElem? (i := 23) rfl)) rfl
theorem wd_90 : Cond.classLink "CabbageCradles" 7 "CabbageCradles$Text" ∈ cb_ws := cb_wt (cb_t1 _ (List.mem_of_getElem? (i := 26) rfl)) rfl
theorem wd_92 : Cond.instantiable "CabbageCradles$Text" 8 ∈ cb_ws := cb_wt (cb_t1 _ (List.mem_of_getElem? (i := 28) rfl)) rfl
theorem wd_96 : Cond.code ⟨"CabbageCradles$Text", "<init>", "(Ljava/lang/String;I)V"⟩ prog_6_method_1_code 3 (Option.none) ∈ cb_ws := cb_wt (cb_t1 _ (List.mem_of_getElem? (i := 32) rfl)) rfl
theorem wd_95 : Cond.instanceMethod ⟨"CabbageCradles$Text", "<init>", "(Ljava/lang/String;I)V"⟩ ∈ cb_ws := cb_wt (cb_t1 _ (List.mem_of_getElem? (i := 31) rfl)) rfl
theorem wd_94 : Cond.methodLink "CabbageCradles" 11 ⟨"CabbageCradles$Text", "<init>", "(Ljava/lang/String;I)V"⟩ ∈ cb_ws := cb_wt (cb_t1 _ (List.mem_of_getElem? (i := 30) rfl)) rfl
theorem wd_155 : Cond.classLink "CabbageCradles" 22 "CabbageCradles$Row" ∈ cb_ws := cb_wt (cb_t1 _ (List.mem_of_getElem? (i := 91) rfl)) rfl
theorem wd_156 : Cond.methodLink "CabbageCradles" 24 ⟨"CabbageCradles$Row", "<init>", "(I)V"⟩ ∈ cb_ws := cb_wt (cb_t1 _ (List.mem_of_getElem? (i := 92) rfl)) rfl
theorem wd_157 : Cond.classLink "CabbageCradles" 40 "CabbageCradles$Sheet" ∈ cb_ws := cb_wt (cb_t1 _ (List.mem_of_getElem? (i := 93) rfl)) rfl
theorem wd_159 : Cond.instantiable "CabbageCradles$Sheet" 3 ∈ cb_ws := cb_wt (cb_t1 _ (List.mem_of_getElem? (i := 95) rfl)) rfl
theorem wd_162 : Cond.code ⟨"CabbageCradles$Sheet", "<init>", "()V"⟩ prog_5_method_1_code 1 (Option.none) ∈ cb_ws := cb_wt (cb_t1 _ (List.mem_of_getElem? (i := 98) rfl)) rfl
theorem wd_161 : Cond.instanceMethod ⟨"CabbageCradles$Sheet", "<init>", "()V"⟩ ∈ cb_ws := cb_wt (cb_t1 _ (List.mem_of_getElem? (i := 97) rfl)) rfl
theorem wn_160 : Cond.methodLinkNest "CabbageCradles" 42 ⟨"CabbageCradles$Sheet", "<init>", "()V"⟩ "CabbageCradles" ∈ cb_nest := List.mem_filter.mpr ⟨cb_t1 _ (List.mem_of_getElem? (i := 96) rfl), rfl⟩
theorem wd_177 : Cond.classLink "CabbageCradles" 47 "CabbageCradles$Field" ∈ cb_ws := cb_wt (cb_t1 _ (List.mem_of_getElem? (i := 113) rfl)) rfl
theorem wd_178 : Cond.instantiable "CabbageCradles$Field" 9 ∈ cb_ws := cb_wt (cb_t1 _ (List.mem_of_getElem? (i := 114) rfl)) rfl
theorem wd_181 : Cond.code ⟨"CabbageCradles$Field", "<init>", "()V"⟩ prog_3_method_1_code 1 (Option.none) ∈ cb_ws := cb_wt (cb_t1 _ (List.mem_of_getElem? (i := 117) rfl)) rfl
theorem wd_180 : Cond.instanceMethod ⟨"CabbageCradles$Field", "<init>", "()V"⟩ ∈ cb_ws := cb_wt (cb_t1 _ (List.mem_of_getElem? (i := 116) rfl)) rfl
theorem wn_179 : Cond.methodLinkNest "CabbageCradles" 49 ⟨"CabbageCradles$Field", "<init>", "()V"⟩ "CabbageCradles" ∈ cb_nest := List.mem_filter.mpr ⟨cb_t1 _ (List.mem_of_getElem? (i := 115) rfl), rfl⟩
theorem wd_224 : Cond.classLink "CabbageCradles" 54 "CabbageCradles$Walk" ∈ cb_ws := cb_wt (cb_t1 _ (List.mem_of_getElem? (i := 160) rfl)) rfl
theorem wd_225 : Cond.instantiable "CabbageCradles$Walk" 10 ∈ cb_ws := cb_wt (cb_t1 _ (List.mem_of_getElem? (i := 161) rfl)) rfl
theorem wd_228 : Cond.code ⟨"CabbageCradles$Walk", "<init>", "()V"⟩ prog_7_method_1_code 1 (Option.none) ∈ cb_ws := cb_wt (cb_t1 _ (List.mem_of_getElem? (i := 164) rfl)) rfl
theorem wd_227 : Cond.instanceMethod ⟨"CabbageCradles$Walk", "<init>", "()V"⟩ ∈ cb_ws := cb_wt (cb_t1 _ (List.mem_of_getElem? (i := 163) rfl)) rfl
theorem wn_226 : Cond.methodLinkNest "CabbageCradles" 56 ⟨"CabbageCradles$Walk", "<init>", "()V"⟩ "CabbageCradles" ∈ cb_nest := List.mem_filter.mpr ⟨cb_t1 _ (List.mem_of_getElem? (i := 162) rfl), rfl⟩
theorem wd_266 : Cond.classLink "CabbageCradles" 61 "CabbageCradles$Chances" ∈ cb_ws := cb_wt (cb_t1 _ (List.mem_of_getElem? (i := 202) rfl)) rfl
theorem wd_267 : Cond.instantiable "CabbageCradles$Chances" 2 ∈ cb_ws := cb_wt (cb_t1 _ (List.mem_of_getElem? (i := 203) rfl)) rfl
theorem wd_270 : Cond.code ⟨"CabbageCradles$Chances", "<init>", "()V"⟩ prog_2_method_1_code 1 (Option.none) ∈ cb_ws := cb_wt (cb_t1 _ (List.mem_of_getElem? (i := 206) rfl)) rfl
theorem wd_269 : Cond.instanceMethod ⟨"CabbageCradles$Chances", "<init>", "()V"⟩ ∈ cb_ws := cb_wt (cb_t1 _ (List.mem_of_getElem? (i := 205) rfl)) rfl
theorem wn_268 : Cond.methodLinkNest "CabbageCradles" 63 ⟨"CabbageCradles$Chances", "<init>", "()V"⟩ "CabbageCradles" ∈ cb_nest := List.mem_filter.mpr ⟨cb_t1 _ (List.mem_of_getElem? (i := 204) rfl), rfl⟩
theorem wd_282 : Cond.classLink "CabbageCradles" 68 "[[I" ∈ cb_ws := cb_wt (cb_t1 _ (List.mem_of_getElem? (i := 218) rfl)) rfl
