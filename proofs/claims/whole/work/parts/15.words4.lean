theorem wd_83 : Cond.instantiable "CabbageCradles" 11 ∈ cb_ws := cb_wt (cb_t1 _ (List.mem_of_getElem? (i := 19) rfl)) rfl
theorem wd_838 : Cond.instantiable "CabbageCradlesModel" 31 ∈ cb_ws := cb_wt (cb_t4 _ (List.mem_of_getElem? (i := 54) rfl)) rfl
theorem wd_82 : Cond.classLink "CabbageCradlesLaw" 7 "CabbageCradles" ∈ cb_ws := cb_wt (cb_t1 _ (List.mem_of_getElem? (i := 18) rfl)) rfl
theorem wd_86 : Cond.code ⟨"CabbageCradles", "<init>", "()V"⟩ prog_1_method_1_code 1 (Option.none) ∈ cb_ws := cb_wt (cb_t1 _ (List.mem_of_getElem? (i := 22) rfl)) rfl
theorem wd_84 : Cond.methodLink "CabbageCradlesLaw" 9 ⟨"CabbageCradles", "<init>", "()V"⟩ ∈ cb_ws := cb_wt (cb_t1 _ (List.mem_of_getElem? (i := 20) rfl)) rfl
theorem wd_85 : Cond.instanceMethod ⟨"CabbageCradles", "<init>", "()V"⟩ ∈ cb_ws := cb_wt (cb_t1 _ (List.mem_of_getElem? (i := 21) rfl)) rfl
theorem wd_837 : Cond.classLink "CabbageCradlesLaw" 10 "CabbageCradlesModel" ∈ cb_ws := cb_wt (cb_t4 _ (List.mem_of_getElem? (i := 53) rfl)) rfl
theorem wd_841 : Cond.code ⟨"CabbageCradlesModel", "<init>", "()V"⟩ prog_9_method_1_code 2 (Option.none) ∈ cb_ws := cb_wt (cb_t4 _ (List.mem_of_getElem? (i := 57) rfl)) rfl
theorem wd_839 : Cond.methodLink "CabbageCradlesLaw" 12 ⟨"CabbageCradlesModel", "<init>", "()V"⟩ ∈ cb_ws := cb_wt (cb_t4 _ (List.mem_of_getElem? (i := 55) rfl)) rfl
theorem wd_840 : Cond.instanceMethod ⟨"CabbageCradlesModel", "<init>", "()V"⟩ ∈ cb_ws := cb_wt (cb_t4 _ (List.mem_of_getElem? (i := 56) rfl)) rfl
