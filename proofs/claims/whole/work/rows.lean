section
-- ===== PART A: goes FIRST, ahead of the names: the tables' words, and 'selects' of the private methods out of them =====
/-- a private method of a class that the tables say can be made, by its rows of tables_1 -/
def lw_okq (q : MethodName × Nat) : Prop := (q.1.cls ≠ "java/lang/invoke/MethodHandle" ∧ q.1.cls ≠ "java/lang/invoke/VarHandle") ∧ Cond.instantiable q.1.cls q.2 ∈ tables_1 ∧ Cond.privateMethod q.1 ∈ tables_1 ∧ Cond.instanceMethod q.1 ∈ tables_1
theorem lw_p0 : lw_okq (⟨"CabbageCradles$Text", "parse", "()V"⟩, 8) := ⟨⟨by decide +kernel, by decide +kernel⟩, List.mem_of_getElem? (i := 28) (by decide +kernel), List.mem_of_getElem? (i := 273) (by decide +kernel), List.mem_of_getElem? (i := 274) (by decide +kernel)⟩
theorem lw_p1 : lw_okq (⟨"CabbageCradles$Text", "firstFault", "()I"⟩, 8) := ⟨⟨by decide +kernel, by decide +kernel⟩, List.mem_of_getElem? (i := 28) (by decide +kernel), List.mem_of_getElem? (i := 277) (by decide +kernel), List.mem_of_getElem? (i := 278) (by decide +kernel)⟩
theorem lw_p2 : lw_okq (⟨"CabbageCradles$Text", "fits", "(II)Z"⟩, 8) := ⟨⟨by decide +kernel, by decide +kernel⟩, List.mem_of_getElem? (i := 28) (by decide +kernel), List.mem_of_getElem? (i := 286) (by decide +kernel), List.mem_of_getElem? (i := 287) (by decide +kernel)⟩
theorem lw_p3 : lw_okq (⟨"CabbageCradles$Text", "figureAt", "(I)I"⟩, 8) := ⟨⟨by decide +kernel, by decide +kernel⟩, List.mem_of_getElem? (i := 28) (by decide +kernel), List.mem_of_getElem? (i := 374) (by decide +kernel), List.mem_of_getElem? (i := 375) (by decide +kernel)⟩
theorem lw_p4 : lw_okq (⟨"CabbageCradles", "isNoHead", "(I)Z"⟩, 11) := ⟨⟨by decide +kernel, by decide +kernel⟩, List.mem_of_getElem? (i := 19) (by decide +kernel), List.mem_of_getElem? (i := 410) (by decide +kernel), List.mem_of_getElem? (i := 411) (by decide +kernel)⟩
theorem lw_p5 : lw_okq (⟨"CabbageCradles", "isNoCouple", "(I)Z"⟩, 11) := ⟨⟨by decide +kernel, by decide +kernel⟩, List.mem_of_getElem? (i := 19) (by decide +kernel), List.mem_of_getElem? (i := 418) (by decide +kernel), List.mem_of_getElem? (i := 419) (by decide +kernel)⟩
theorem lw_p6 : lw_okq (⟨"CabbageCradles", "found", "(I)I"⟩, 11) := ⟨⟨by decide +kernel, by decide +kernel⟩, List.mem_of_getElem? (i := 19) (by decide +kernel), List.mem_of_getElem? (i := 444) (by decide +kernel), List.mem_of_getElem? (i := 445) (by decide +kernel)⟩
theorem lw_p7 : lw_okq (⟨"CabbageCradles", "walkAsItIs", "()V"⟩, 11) := ⟨⟨by decide +kernel, by decide +kernel⟩, List.mem_of_getElem? (i := 19) (by decide +kernel), List.mem_of_getElem? (i := 458) (by decide +kernel), List.mem_of_getElem? (i := 459) (by decide +kernel)⟩
theorem lw_p8 : lw_okq (⟨"CabbageCradles", "layOut", "()V"⟩, 11) := ⟨⟨by decide +kernel, by decide +kernel⟩, List.mem_of_getElem? (i := 19) (by decide +kernel), List.mem_of_getElem? (i := 462) (by decide +kernel), List.mem_of_getElem? (i := 463) (by decide +kernel)⟩
theorem lw_p9 : lw_okq (⟨"CabbageCradles$Walk", "clear", "()V"⟩, 10) := ⟨⟨by decide +kernel, by decide +kernel⟩, List.mem_of_getElem? (i := 161) (by decide +kernel), List.mem_of_getElem? (i := 495) (by decide +kernel), List.mem_of_getElem? (i := 496) (by decide +kernel)⟩
theorem lw_p10 : lw_okq (⟨"CabbageCradles$Walk", "bringHead", "(LCabbageCradles$Field;I)V"⟩, 10) := ⟨⟨by decide +kernel, by decide +kernel⟩, List.mem_of_getElem? (i := 161) (by decide +kernel), List.mem_of_getElem? (i := 500) (by decide +kernel), List.mem_of_getElem? (i := 501) (by decide +kernel)⟩
theorem lw_p11 : lw_okq (⟨"CabbageCradles$Walk", "bringCouple", "(LCabbageCradles$Field;I)V"⟩, 10) := ⟨⟨by decide +kernel, by decide +kernel⟩, List.mem_of_getElem? (i := 161) (by decide +kernel), List.mem_of_getElem? (i := 512) (by decide +kernel), List.mem_of_getElem? (i := 513) (by decide +kernel)⟩
theorem lw_p12 : lw_okq (⟨"CabbageCradles$Walk", "dawn", "(LCabbageCradles$Field;I)V"⟩, 10) := ⟨⟨by decide +kernel, by decide +kernel⟩, List.mem_of_getElem? (i := 161) (by decide +kernel), List.mem_of_getElem? (i := 516) (by decide +kernel), List.mem_of_getElem? (i := 517) (by decide +kernel)⟩
theorem lw_p13 : lw_okq (⟨"CabbageCradles", "childrenOf", "(I)I"⟩, 11) := ⟨⟨by decide +kernel, by decide +kernel⟩, List.mem_of_getElem? (i := 19) (by decide +kernel), List.mem_of_getElem? (i := 544) (by decide +kernel), List.mem_of_getElem? (i := 545) (by decide +kernel)⟩
theorem lw_p14 : lw_okq (⟨"CabbageCradles", "childrenBehind", "(I)I"⟩, 11) := ⟨⟨by decide +kernel, by decide +kernel⟩, List.mem_of_getElem? (i := 19) (by decide +kernel), List.mem_of_getElem? (i := 553) (by decide +kernel), List.mem_of_getElem? (i := 554) (by decide +kernel)⟩
theorem lw_p15 : lw_okq (⟨"CabbageCradles$Walk", "isOutOfTurn", "(LCabbageCradles$Field;I)Z"⟩, 10) := ⟨⟨by decide +kernel, by decide +kernel⟩, List.mem_of_getElem? (i := 161) (by decide +kernel), List.mem_of_getElem? (i := 569) (by decide +kernel), List.mem_of_getElem? (i := 570) (by decide +kernel)⟩
def lw_privs_1 : List (MethodName × Nat) := [(⟨"CabbageCradles$Text", "parse", "()V"⟩, 8), (⟨"CabbageCradles$Text", "firstFault", "()I"⟩, 8), (⟨"CabbageCradles$Text", "fits", "(II)Z"⟩, 8), (⟨"CabbageCradles$Text", "figureAt", "(I)I"⟩, 8), (⟨"CabbageCradles", "isNoHead", "(I)Z"⟩, 11), (⟨"CabbageCradles", "isNoCouple", "(I)Z"⟩, 11), (⟨"CabbageCradles", "found", "(I)I"⟩, 11), (⟨"CabbageCradles", "walkAsItIs", "()V"⟩, 11), (⟨"CabbageCradles", "layOut", "()V"⟩, 11), (⟨"CabbageCradles$Walk", "clear", "()V"⟩, 10), (⟨"CabbageCradles$Walk", "bringHead", "(LCabbageCradles$Field;I)V"⟩, 10), (⟨"CabbageCradles$Walk", "bringCouple", "(LCabbageCradles$Field;I)V"⟩, 10), (⟨"CabbageCradles$Walk", "dawn", "(LCabbageCradles$Field;I)V"⟩, 10), (⟨"CabbageCradles", "childrenOf", "(I)I"⟩, 11), (⟨"CabbageCradles", "childrenBehind", "(I)I"⟩, 11), (⟨"CabbageCradles$Walk", "isOutOfTurn", "(LCabbageCradles$Field;I)Z"⟩, 10)]
theorem lw_r1 : ∀ q ∈ lw_privs_1, lw_okq q := List.forall_mem_cons.mpr ⟨lw_p0, List.forall_mem_cons.mpr ⟨lw_p1, List.forall_mem_cons.mpr ⟨lw_p2, List.forall_mem_cons.mpr ⟨lw_p3, List.forall_mem_cons.mpr ⟨lw_p4, List.forall_mem_cons.mpr ⟨lw_p5, List.forall_mem_cons.mpr ⟨lw_p6, List.forall_mem_cons.mpr ⟨lw_p7, List.forall_mem_cons.mpr ⟨lw_p8, List.forall_mem_cons.mpr ⟨lw_p9, List.forall_mem_cons.mpr ⟨lw_p10, List.forall_mem_cons.mpr ⟨lw_p11, List.forall_mem_cons.mpr ⟨lw_p12, List.forall_mem_cons.mpr ⟨lw_p13, List.forall_mem_cons.mpr ⟨lw_p14, List.forall_mem_cons.mpr ⟨lw_p15, fun _ h => absurd h List.not_mem_nil⟩⟩⟩⟩⟩⟩⟩⟩⟩⟩⟩⟩⟩⟩⟩⟩
theorem lw_p16 : lw_okq (⟨"CabbageCradles$Walk", "isStillWithout", "(II)Z"⟩, 10) := ⟨⟨by decide +kernel, by decide +kernel⟩, List.mem_of_getElem? (i := 161) (by decide +kernel), List.mem_of_getElem? (i := 581) (by decide +kernel), List.mem_of_getElem? (i := 582) (by decide +kernel)⟩
theorem lw_p17 : lw_okq (⟨"CabbageCradles", "headsFor", "(I)I"⟩, 11) := ⟨⟨by decide +kernel, by decide +kernel⟩, List.mem_of_getElem? (i := 19) (by decide +kernel), List.mem_of_getElem? (i := 595) (by decide +kernel), List.mem_of_getElem? (i := 596) (by decide +kernel)⟩
theorem lw_p18 : lw_okq (⟨"CabbageCradles", "fewestKeptOff", "(I)I"⟩, 11) := ⟨⟨by decide +kernel, by decide +kernel⟩, List.mem_of_getElem? (i := 19) (by decide +kernel), List.mem_of_getElem? (i := 604) (by decide +kernel), List.mem_of_getElem? (i := 605) (by decide +kernel)⟩
theorem lw_p19 : lw_okq (⟨"CabbageCradles", "numberWithout", "()I"⟩, 11) := ⟨⟨by decide +kernel, by decide +kernel⟩, List.mem_of_getElem? (i := 19) (by decide +kernel), List.mem_of_getElem? (i := 615) (by decide +kernel), List.mem_of_getElem? (i := 616) (by decide +kernel)⟩
theorem lw_p20 : lw_okq (⟨"CabbageCradles", "isAsSeen", "()Z"⟩, 11) := ⟨⟨by decide +kernel, by decide +kernel⟩, List.mem_of_getElem? (i := 19) (by decide +kernel), List.mem_of_getElem? (i := 636) (by decide +kernel), List.mem_of_getElem? (i := 637) (by decide +kernel)⟩
theorem lw_p21 : lw_okq (⟨"CabbageCradles", "sortsAsSeen", "(I)I"⟩, 11) := ⟨⟨by decide +kernel, by decide +kernel⟩, List.mem_of_getElem? (i := 19) (by decide +kernel), List.mem_of_getElem? (i := 644) (by decide +kernel), List.mem_of_getElem? (i := 645) (by decide +kernel)⟩
theorem lw_p22 : lw_okq (⟨"CabbageCradles", "duesAsSeen", "(I)I"⟩, 11) := ⟨⟨by decide +kernel, by decide +kernel⟩, List.mem_of_getElem? (i := 19) (by decide +kernel), List.mem_of_getElem? (i := 648) (by decide +kernel), List.mem_of_getElem? (i := 649) (by decide +kernel)⟩
theorem lw_p23 : lw_okq (⟨"CabbageCradles", "tallyWhoGotWhat", "()V"⟩, 11) := ⟨⟨by decide +kernel, by decide +kernel⟩, List.mem_of_getElem? (i := 19) (by decide +kernel), List.mem_of_getElem? (i := 657) (by decide +kernel), List.mem_of_getElem? (i := 658) (by decide +kernel)⟩
theorem lw_p24 : lw_okq (⟨"CabbageCradles", "leastTallied", "()I"⟩, 11) := ⟨⟨by decide +kernel, by decide +kernel⟩, List.mem_of_getElem? (i := 19) (by decide +kernel), List.mem_of_getElem? (i := 661) (by decide +kernel), List.mem_of_getElem? (i := 662) (by decide +kernel)⟩
theorem lw_p25 : lw_okq (⟨"CabbageCradles", "countChances", "(I)V"⟩, 11) := ⟨⟨by decide +kernel, by decide +kernel⟩, List.mem_of_getElem? (i := 19) (by decide +kernel), List.mem_of_getElem? (i := 674) (by decide +kernel), List.mem_of_getElem? (i := 675) (by decide +kernel)⟩
theorem lw_p26 : lw_okq (⟨"CabbageCradles", "digestHead", "(JI)J"⟩, 11) := ⟨⟨by decide +kernel, by decide +kernel⟩, List.mem_of_getElem? (i := 19) (by decide +kernel), List.mem_of_getElem? (i := 751) (by decide +kernel), List.mem_of_getElem? (i := 752) (by decide +kernel)⟩
theorem lw_p27 : lw_okq (⟨"CabbageCradles", "digestCouple", "(JI)J"⟩, 11) := ⟨⟨by decide +kernel, by decide +kernel⟩, List.mem_of_getElem? (i := 19) (by decide +kernel), List.mem_of_getElem? (i := 761) (by decide +kernel), List.mem_of_getElem? (i := 762) (by decide +kernel)⟩
theorem lw_p28 : lw_okq (⟨"CabbageCradlesModel", "finds", "(I)I"⟩, 31) := ⟨⟨by decide +kernel, by decide +kernel⟩, List.mem_of_getElem? (i := 775) (by decide +kernel), List.mem_of_getElem? (i := 887) (by decide +kernel), List.mem_of_getElem? (i := 888) (by decide +kernel)⟩
theorem lw_p29 : lw_okq (⟨"CabbageCradlesModel", "lacks", "(III)I"⟩, 31) := ⟨⟨by decide +kernel, by decide +kernel⟩, List.mem_of_getElem? (i := 775) (by decide +kernel), List.mem_of_getElem? (i := 899) (by decide +kernel), List.mem_of_getElem? (i := 900) (by decide +kernel)⟩
theorem lw_p30 : lw_okq (⟨"CabbageCradlesModel", "readsHeads", "()I"⟩, 31) := ⟨⟨by decide +kernel, by decide +kernel⟩, List.mem_of_getElem? (i := 775) (by decide +kernel), List.mem_of_getElem? (i := 935) (by decide +kernel), List.mem_of_getElem? (i := 936) (by decide +kernel)⟩
theorem lw_p31 : lw_okq (⟨"CabbageCradlesModel", "readsCouples", "()I"⟩, 31) := ⟨⟨by decide +kernel, by decide +kernel⟩, List.mem_of_getElem? (i := 775) (by decide +kernel), List.mem_of_getElem? (i := 948) (by decide +kernel), List.mem_of_getElem? (i := 949) (by decide +kernel)⟩
def lw_privs_2 : List (MethodName × Nat) := [(⟨"CabbageCradles$Walk", "isStillWithout", "(II)Z"⟩, 10), (⟨"CabbageCradles", "headsFor", "(I)I"⟩, 11), (⟨"CabbageCradles", "fewestKeptOff", "(I)I"⟩, 11), (⟨"CabbageCradles", "numberWithout", "()I"⟩, 11), (⟨"CabbageCradles", "isAsSeen", "()Z"⟩, 11), (⟨"CabbageCradles", "sortsAsSeen", "(I)I"⟩, 11), (⟨"CabbageCradles", "duesAsSeen", "(I)I"⟩, 11), (⟨"CabbageCradles", "tallyWhoGotWhat", "()V"⟩, 11), (⟨"CabbageCradles", "leastTallied", "()I"⟩, 11), (⟨"CabbageCradles", "countChances", "(I)V"⟩, 11), (⟨"CabbageCradles", "digestHead", "(JI)J"⟩, 11), (⟨"CabbageCradles", "digestCouple", "(JI)J"⟩, 11), (⟨"CabbageCradlesModel", "finds", "(I)I"⟩, 31), (⟨"CabbageCradlesModel", "lacks", "(III)I"⟩, 31), (⟨"CabbageCradlesModel", "readsHeads", "()I"⟩, 31), (⟨"CabbageCradlesModel", "readsCouples", "()I"⟩, 31)]
theorem lw_r2 : ∀ q ∈ lw_privs_2, lw_okq q := List.forall_mem_cons.mpr ⟨lw_p16, List.forall_mem_cons.mpr ⟨lw_p17, List.forall_mem_cons.mpr ⟨lw_p18, List.forall_mem_cons.mpr ⟨lw_p19, List.forall_mem_cons.mpr ⟨lw_p20, List.forall_mem_cons.mpr ⟨lw_p21, List.forall_mem_cons.mpr ⟨lw_p22, List.forall_mem_cons.mpr ⟨lw_p23, List.forall_mem_cons.mpr ⟨lw_p24, List.forall_mem_cons.mpr ⟨lw_p25, List.forall_mem_cons.mpr ⟨lw_p26, List.forall_mem_cons.mpr ⟨lw_p27, List.forall_mem_cons.mpr ⟨lw_p28, List.forall_mem_cons.mpr ⟨lw_p29, List.forall_mem_cons.mpr ⟨lw_p30, List.forall_mem_cons.mpr ⟨lw_p31, fun _ h => absurd h List.not_mem_nil⟩⟩⟩⟩⟩⟩⟩⟩⟩⟩⟩⟩⟩⟩⟩⟩
theorem lw_p32 : lw_okq (⟨"CabbageCradlesModel", "isHead", "(I)Z"⟩, 31) := ⟨⟨by decide +kernel, by decide +kernel⟩, List.mem_of_getElem? (i := 775) (by decide +kernel), List.mem_of_getElem? (i := 956) (by decide +kernel), List.mem_of_getElem? (i := 957) (by decide +kernel)⟩
theorem lw_p33 : lw_okq (⟨"CabbageCradlesModel", "isCouple", "(I)Z"⟩, 31) := ⟨⟨by decide +kernel, by decide +kernel⟩, List.mem_of_getElem? (i := 775) (by decide +kernel), List.mem_of_getElem? (i := 964) (by decide +kernel), List.mem_of_getElem? (i := 965) (by decide +kernel)⟩
theorem lw_p34 : lw_okq (⟨"CabbageCradlesModel", "find", "()V"⟩, 31) := ⟨⟨by decide +kernel, by decide +kernel⟩, List.mem_of_getElem? (i := 775) (by decide +kernel), List.mem_of_getElem? (i := 995) (by decide +kernel), List.mem_of_getElem? (i := 996) (by decide +kernel)⟩
theorem lw_p35 : lw_okq (⟨"CabbageCradlesModel", "lives", "()V"⟩, 31) := ⟨⟨by decide +kernel, by decide +kernel⟩, List.mem_of_getElem? (i := 775) (by decide +kernel), List.mem_of_getElem? (i := 999) (by decide +kernel), List.mem_of_getElem? (i := 1000) (by decide +kernel)⟩
theorem lw_p36 : lw_okq (⟨"CabbageCradlesModel", "ripens", "(I)V"⟩, 31) := ⟨⟨by decide +kernel, by decide +kernel⟩, List.mem_of_getElem? (i := 775) (by decide +kernel), List.mem_of_getElem? (i := 1003) (by decide +kernel), List.mem_of_getElem? (i := 1004) (by decide +kernel)⟩
theorem lw_p37 : lw_okq (⟨"CabbageCradlesModel", "isSo", "(II)Z"⟩, 31) := ⟨⟨by decide +kernel, by decide +kernel⟩, List.mem_of_getElem? (i := 775) (by decide +kernel), List.mem_of_getElem? (i := 1007) (by decide +kernel), List.mem_of_getElem? (i := 1008) (by decide +kernel)⟩
theorem lw_p38 : lw_okq (⟨"CabbageCradlesModel", "comes", "(II)Z"⟩, 31) := ⟨⟨by decide +kernel, by decide +kernel⟩, List.mem_of_getElem? (i := 775) (by decide +kernel), List.mem_of_getElem? (i := 1014) (by decide +kernel), List.mem_of_getElem? (i := 1015) (by decide +kernel)⟩
theorem lw_p39 : lw_okq (⟨"CabbageCradlesModel", "dawn", "(II)V"⟩, 31) := ⟨⟨by decide +kernel, by decide +kernel⟩, List.mem_of_getElem? (i := 775) (by decide +kernel), List.mem_of_getElem? (i := 1018) (by decide +kernel), List.mem_of_getElem? (i := 1019) (by decide +kernel)⟩
theorem lw_p40 : lw_okq (⟨"CabbageCradlesModel", "wants", "(II)Z"⟩, 31) := ⟨⟨by decide +kernel, by decide +kernel⟩, List.mem_of_getElem? (i := 775) (by decide +kernel), List.mem_of_getElem? (i := 1022) (by decide +kernel), List.mem_of_getElem? (i := 1023) (by decide +kernel)⟩
theorem lw_p41 : lw_okq (⟨"CabbageCradlesModel", "isRipe", "(II)Z"⟩, 31) := ⟨⟨by decide +kernel, by decide +kernel⟩, List.mem_of_getElem? (i := 775) (by decide +kernel), List.mem_of_getElem? (i := 1026) (by decide +kernel), List.mem_of_getElem? (i := 1027) (by decide +kernel)⟩
theorem lw_p42 : lw_okq (⟨"CabbageCradlesModel", "lifts", "(III)V"⟩, 31) := ⟨⟨by decide +kernel, by decide +kernel⟩, List.mem_of_getElem? (i := 775) (by decide +kernel), List.mem_of_getElem? (i := 1033) (by decide +kernel), List.mem_of_getElem? (i := 1034) (by decide +kernel)⟩
theorem lw_p43 : lw_okq (⟨"CabbageCradlesModel", "stateOf", "(II)I"⟩, 31) := ⟨⟨by decide +kernel, by decide +kernel⟩, List.mem_of_getElem? (i := 775) (by decide +kernel), List.mem_of_getElem? (i := 1037) (by decide +kernel), List.mem_of_getElem? (i := 1038) (by decide +kernel)⟩
theorem lw_p44 : lw_okq (⟨"CabbageCradlesModel", "dueBy", "(II)I"⟩, 31) := ⟨⟨by decide +kernel, by decide +kernel⟩, List.mem_of_getElem? (i := 775) (by decide +kernel), List.mem_of_getElem? (i := 1041) (by decide +kernel), List.mem_of_getElem? (i := 1042) (by decide +kernel)⟩
theorem lw_p45 : lw_okq (⟨"CabbageCradlesModel", "liftedBy", "(II)I"⟩, 31) := ⟨⟨by decide +kernel, by decide +kernel⟩, List.mem_of_getElem? (i := 775) (by decide +kernel), List.mem_of_getElem? (i := 1049) (by decide +kernel), List.mem_of_getElem? (i := 1050) (by decide +kernel)⟩
theorem lw_p46 : lw_okq (⟨"CabbageCradlesModel", "getsBy", "(II)I"⟩, 31) := ⟨⟨by decide +kernel, by decide +kernel⟩, List.mem_of_getElem? (i := 775) (by decide +kernel), List.mem_of_getElem? (i := 1057) (by decide +kernel), List.mem_of_getElem? (i := 1058) (by decide +kernel)⟩
theorem lw_p47 : lw_okq (⟨"CabbageCradlesModel", "childrenBy", "(I)I"⟩, 31) := ⟨⟨by decide +kernel, by decide +kernel⟩, List.mem_of_getElem? (i := 775) (by decide +kernel), List.mem_of_getElem? (i := 1065) (by decide +kernel), List.mem_of_getElem? (i := 1066) (by decide +kernel)⟩
def lw_privs_3 : List (MethodName × Nat) := [(⟨"CabbageCradlesModel", "isHead", "(I)Z"⟩, 31), (⟨"CabbageCradlesModel", "isCouple", "(I)Z"⟩, 31), (⟨"CabbageCradlesModel", "find", "()V"⟩, 31), (⟨"CabbageCradlesModel", "lives", "()V"⟩, 31), (⟨"CabbageCradlesModel", "ripens", "(I)V"⟩, 31), (⟨"CabbageCradlesModel", "isSo", "(II)Z"⟩, 31), (⟨"CabbageCradlesModel", "comes", "(II)Z"⟩, 31), (⟨"CabbageCradlesModel", "dawn", "(II)V"⟩, 31), (⟨"CabbageCradlesModel", "wants", "(II)Z"⟩, 31), (⟨"CabbageCradlesModel", "isRipe", "(II)Z"⟩, 31), (⟨"CabbageCradlesModel", "lifts", "(III)V"⟩, 31), (⟨"CabbageCradlesModel", "stateOf", "(II)I"⟩, 31), (⟨"CabbageCradlesModel", "dueBy", "(II)I"⟩, 31), (⟨"CabbageCradlesModel", "liftedBy", "(II)I"⟩, 31), (⟨"CabbageCradlesModel", "getsBy", "(II)I"⟩, 31), (⟨"CabbageCradlesModel", "childrenBy", "(I)I"⟩, 31)]
theorem lw_r3 : ∀ q ∈ lw_privs_3, lw_okq q := List.forall_mem_cons.mpr ⟨lw_p32, List.forall_mem_cons.mpr ⟨lw_p33, List.forall_mem_cons.mpr ⟨lw_p34, List.forall_mem_cons.mpr ⟨lw_p35, List.forall_mem_cons.mpr ⟨lw_p36, List.forall_mem_cons.mpr ⟨lw_p37, List.forall_mem_cons.mpr ⟨lw_p38, List.forall_mem_cons.mpr ⟨lw_p39, List.forall_mem_cons.mpr ⟨lw_p40, List.forall_mem_cons.mpr ⟨lw_p41, List.forall_mem_cons.mpr ⟨lw_p42, List.forall_mem_cons.mpr ⟨lw_p43, List.forall_mem_cons.mpr ⟨lw_p44, List.forall_mem_cons.mpr ⟨lw_p45, List.forall_mem_cons.mpr ⟨lw_p46, List.forall_mem_cons.mpr ⟨lw_p47, fun _ h => absurd h List.not_mem_nil⟩⟩⟩⟩⟩⟩⟩⟩⟩⟩⟩⟩⟩⟩⟩⟩
theorem lw_p48 : lw_okq (⟨"CabbageCradlesModel", "withoutNow", "()I"⟩, 31) := ⟨⟨by decide +kernel, by decide +kernel⟩, List.mem_of_getElem? (i := 775) (by decide +kernel), List.mem_of_getElem? (i := 1073) (by decide +kernel), List.mem_of_getElem? (i := 1074) (by decide +kernel)⟩
theorem lw_p49 : lw_okq (⟨"CabbageCradlesModel", "metNow", "()I"⟩, 31) := ⟨⟨by decide +kernel, by decide +kernel⟩, List.mem_of_getElem? (i := 775) (by decide +kernel), List.mem_of_getElem? (i := 1085) (by decide +kernel), List.mem_of_getElem? (i := 1086) (by decide +kernel)⟩
theorem lw_p50 : lw_okq (⟨"CabbageCradlesModel", "mightMeet", "(II)Z"⟩, 31) := ⟨⟨by decide +kernel, by decide +kernel⟩, List.mem_of_getElem? (i := 775) (by decide +kernel), List.mem_of_getElem? (i := 1089) (by decide +kernel), List.mem_of_getElem? (i := 1090) (by decide +kernel)⟩
theorem lw_p51 : lw_okq (⟨"CabbageCradlesModel", "keepOf", "(II)I"⟩, 31) := ⟨⟨by decide +kernel, by decide +kernel⟩, List.mem_of_getElem? (i := 775) (by decide +kernel), List.mem_of_getElem? (i := 1101) (by decide +kernel), List.mem_of_getElem? (i := 1102) (by decide +kernel)⟩
theorem lw_p52 : lw_okq (⟨"CabbageCradlesModel", "isMet", "(II)Z"⟩, 31) := ⟨⟨by decide +kernel, by decide +kernel⟩, List.mem_of_getElem? (i := 775) (by decide +kernel), List.mem_of_getElem? (i := 1105) (by decide +kernel), List.mem_of_getElem? (i := 1106) (by decide +kernel)⟩
theorem lw_p53 : lw_okq (⟨"CabbageCradlesModel", "sowOf", "(II)I"⟩, 31) := ⟨⟨by decide +kernel, by decide +kernel⟩, List.mem_of_getElem? (i := 775) (by decide +kernel), List.mem_of_getElem? (i := 1113) (by decide +kernel), List.mem_of_getElem? (i := 1114) (by decide +kernel)⟩
theorem lw_p54 : lw_okq (⟨"CabbageCradlesModel", "comeOf", "(II)I"⟩, 31) := ⟨⟨by decide +kernel, by decide +kernel⟩, List.mem_of_getElem? (i := 775) (by decide +kernel), List.mem_of_getElem? (i := 1124) (by decide +kernel), List.mem_of_getElem? (i := 1125) (by decide +kernel)⟩
theorem lw_p55 : lw_okq (⟨"CabbageCradlesModel", "neverNow", "()I"⟩, 31) := ⟨⟨by decide +kernel, by decide +kernel⟩, List.mem_of_getElem? (i := 775) (by decide +kernel), List.mem_of_getElem? (i := 1141) (by decide +kernel), List.mem_of_getElem? (i := 1142) (by decide +kernel)⟩
theorem lw_p56 : lw_okq (⟨"CabbageCradlesModel", "isSeen", "()Z"⟩, 31) := ⟨⟨by decide +kernel, by decide +kernel⟩, List.mem_of_getElem? (i := 775) (by decide +kernel), List.mem_of_getElem? (i := 1145) (by decide +kernel), List.mem_of_getElem? (i := 1146) (by decide +kernel)⟩
theorem lw_p57 : lw_okq (⟨"CabbageCradlesModel", "wasOf", "(II)I"⟩, 31) := ⟨⟨by decide +kernel, by decide +kernel⟩, List.mem_of_getElem? (i := 775) (by decide +kernel), List.mem_of_getElem? (i := 1153) (by decide +kernel), List.mem_of_getElem? (i := 1154) (by decide +kernel)⟩
theorem lw_p58 : lw_okq (⟨"CabbageCradlesModel", "askOf", "(I)I"⟩, 31) := ⟨⟨by decide +kernel, by decide +kernel⟩, List.mem_of_getElem? (i := 775) (by decide +kernel), List.mem_of_getElem? (i := 1161) (by decide +kernel), List.mem_of_getElem? (i := 1162) (by decide +kernel)⟩
theorem lw_p59 : lw_okq (⟨"CabbageCradlesModel", "chillOf", "(IIII)J"⟩, 31) := ⟨⟨by decide +kernel, by decide +kernel⟩, List.mem_of_getElem? (i := 775) (by decide +kernel), List.mem_of_getElem? (i := 1171) (by decide +kernel), List.mem_of_getElem? (i := 1172) (by decide +kernel)⟩
theorem lw_p60 : lw_okq (⟨"CabbageCradlesModel", "yearOf", "(II)I"⟩, 31) := ⟨⟨by decide +kernel, by decide +kernel⟩, List.mem_of_getElem? (i := 775) (by decide +kernel), List.mem_of_getElem? (i := 1186) (by decide +kernel), List.mem_of_getElem? (i := 1187) (by decide +kernel)⟩
theorem lw_p61 : lw_okq (⟨"CabbageCradlesModel", "lot", "(I)I"⟩, 31) := ⟨⟨by decide +kernel, by decide +kernel⟩, List.mem_of_getElem? (i := 775) (by decide +kernel), List.mem_of_getElem? (i := 1190) (by decide +kernel), List.mem_of_getElem? (i := 1191) (by decide +kernel)⟩
theorem lw_p62 : lw_okq (⟨"CabbageCradlesModel", "tellsHead", "(JI)J"⟩, 31) := ⟨⟨by decide +kernel, by decide +kernel⟩, List.mem_of_getElem? (i := 775) (by decide +kernel), List.mem_of_getElem? (i := 1213) (by decide +kernel), List.mem_of_getElem? (i := 1214) (by decide +kernel)⟩
theorem lw_p63 : lw_okq (⟨"CabbageCradlesModel", "tellsCouple", "(JI)J"⟩, 31) := ⟨⟨by decide +kernel, by decide +kernel⟩, List.mem_of_getElem? (i := 775) (by decide +kernel), List.mem_of_getElem? (i := 1217) (by decide +kernel), List.mem_of_getElem? (i := 1218) (by decide +kernel)⟩
def lw_privs_4 : List (MethodName × Nat) := [(⟨"CabbageCradlesModel", "withoutNow", "()I"⟩, 31), (⟨"CabbageCradlesModel", "metNow", "()I"⟩, 31), (⟨"CabbageCradlesModel", "mightMeet", "(II)Z"⟩, 31), (⟨"CabbageCradlesModel", "keepOf", "(II)I"⟩, 31), (⟨"CabbageCradlesModel", "isMet", "(II)Z"⟩, 31), (⟨"CabbageCradlesModel", "sowOf", "(II)I"⟩, 31), (⟨"CabbageCradlesModel", "comeOf", "(II)I"⟩, 31), (⟨"CabbageCradlesModel", "neverNow", "()I"⟩, 31), (⟨"CabbageCradlesModel", "isSeen", "()Z"⟩, 31), (⟨"CabbageCradlesModel", "wasOf", "(II)I"⟩, 31), (⟨"CabbageCradlesModel", "askOf", "(I)I"⟩, 31), (⟨"CabbageCradlesModel", "chillOf", "(IIII)J"⟩, 31), (⟨"CabbageCradlesModel", "yearOf", "(II)I"⟩, 31), (⟨"CabbageCradlesModel", "lot", "(I)I"⟩, 31), (⟨"CabbageCradlesModel", "tellsHead", "(JI)J"⟩, 31), (⟨"CabbageCradlesModel", "tellsCouple", "(JI)J"⟩, 31)]
theorem lw_r4 : ∀ q ∈ lw_privs_4, lw_okq q := List.forall_mem_cons.mpr ⟨lw_p48, List.forall_mem_cons.mpr ⟨lw_p49, List.forall_mem_cons.mpr ⟨lw_p50, List.forall_mem_cons.mpr ⟨lw_p51, List.forall_mem_cons.mpr ⟨lw_p52, List.forall_mem_cons.mpr ⟨lw_p53, List.forall_mem_cons.mpr ⟨lw_p54, List.forall_mem_cons.mpr ⟨lw_p55, List.forall_mem_cons.mpr ⟨lw_p56, List.forall_mem_cons.mpr ⟨lw_p57, List.forall_mem_cons.mpr ⟨lw_p58, List.forall_mem_cons.mpr ⟨lw_p59, List.forall_mem_cons.mpr ⟨lw_p60, List.forall_mem_cons.mpr ⟨lw_p61, List.forall_mem_cons.mpr ⟨lw_p62, List.forall_mem_cons.mpr ⟨lw_p63, fun _ h => absurd h List.not_mem_nil⟩⟩⟩⟩⟩⟩⟩⟩⟩⟩⟩⟩⟩⟩⟩⟩
def lw_privs : List (MethodName × Nat) := lw_privs_1 ++ (lw_privs_2 ++ (lw_privs_3 ++ (lw_privs_4)))
def lw_tbl : List Cond := k2_sels lw_privs ++ tables_1
theorem lw_privs_ok : ∀ q ∈ lw_privs, lw_okq q := by
  show ∀ q ∈ lw_privs_1 ++ (lw_privs_2 ++ (lw_privs_3 ++ (lw_privs_4))), lw_okq q
  exact List.forall_mem_append.mpr ⟨lw_r1, List.forall_mem_append.mpr ⟨lw_r2, List.forall_mem_append.mpr ⟨lw_r3, lw_r4⟩⟩⟩
end
section
def RX0 : String := "CabbageCradles$Chances"
def TX0 : u_T := fun k => match k with
  | 0 => ("CabbageCradles$Chances", "cases", "[[I", true)
  | _ => ("CabbageCradles$Chances", "lastDay", "I", false)
def tyX0 : Nat → FieldType := fun k => match k with
  | 0 => .array (.array .int)
  | _ => .int
abbrev wsX00 : List Cond := u_ws RX0 TX0 2
theorem nmX0 : ∀ a, a < 2 → ∀ b, b < 2 → a ≠ b → (TX0 a).2.1 ≠ (TX0 b).2.1 := by decide +kernel
theorem tyX0_ok : ∀ k, k < 2 → parseFieldDescriptor (TX0 k).2.2.1 = some (tyX0 k) := by decide +kernel
abbrev cX0_init : ByteArray := prog_2_method_1_code
def yX0_init : MethodName := ⟨RX0, "<init>", "()V"⟩
abbrev cX0_forgetAll : ByteArray := prog_2_method_2_code
def yX0_forgetAll : MethodName := ⟨RX0, "forgetAll", "()V"⟩
abbrev cX0_startFor : ByteArray := prog_2_method_3_code
def yX0_startFor : MethodName := ⟨RX0, "startFor", "(I)V"⟩
abbrev cX0_addCase : ByteArray := prog_2_method_4_code
def yX0_addCase : MethodName := ⟨RX0, "addCase", "(II)V"⟩
abbrev cX0_weightOf : ByteArray := prog_2_method_5_code
def yX0_weightOf : MethodName := ⟨RX0, "weightOf", "(II)J"⟩
def RX1 : String := "CabbageCradles$Field"
def TX1 : u_T := fun k => match k with
  | 0 => ("CabbageCradles$Field", "sorts", "[I", true)
  | 1 => ("CabbageCradles$Field", "dues", "[I", true)
  | 2 => ("CabbageCradles$Field", "wants", "[I", true)
  | 3 => ("CabbageCradles$Field", "froms", "[I", true)
  | 4 => ("CabbageCradles$Field", "stays", "[I", true)
  | 5 => ("CabbageCradles$Field", "rabbitDays", "[I", true)
  | 6 => ("CabbageCradles$Field", "heads", "I", false)
  | 7 => ("CabbageCradles$Field", "couples", "I", false)
  | _ => ("CabbageCradles$Field", "frosts", "I", false)
def tyX1 : Nat → FieldType := fun k => match k with
  | 0 => .array .int
  | 1 => .array .int
  | 2 => .array .int
  | 3 => .array .int
  | 4 => .array .int
  | 5 => .array .int
  | 6 => .int
  | 7 => .int
  | _ => .int
abbrev wsX10 : List Cond := u_ws RX1 TX1 9
theorem nmX1 : ∀ a, a < 9 → ∀ b, b < 9 → a ≠ b → (TX1 a).2.1 ≠ (TX1 b).2.1 := by decide +kernel
theorem tyX1_ok : ∀ k, k < 9 → parseFieldDescriptor (TX1 k).2.2.1 = some (tyX1 k) := by decide +kernel
abbrev cX1_init : ByteArray := prog_3_method_1_code
def yX1_init : MethodName := ⟨RX1, "<init>", "()V"⟩
abbrev cX1_plant : ByteArray := prog_3_method_2_code
def yX1_plant : MethodName := ⟨RX1, "plant", "(LCabbageCradles$Text;)V"⟩
abbrev cX1_invite : ByteArray := prog_3_method_3_code
def yX1_invite : MethodName := ⟨RX1, "invite", "(LCabbageCradles$Text;)V"⟩
abbrev cX1_freeze : ByteArray := prog_3_method_4_code
def yX1_freeze : MethodName := ⟨RX1, "freeze", "(LCabbageCradles$Row;)V"⟩
abbrev cX1_letRabbitsIn : ByteArray := prog_3_method_5_code
def yX1_letRabbitsIn : MethodName := ⟨RX1, "letRabbitsIn", "(LCabbageCradles$Row;I)V"⟩
abbrev cX1_comesOn : ByteArray := prog_3_method_6_code
def yX1_comesOn : MethodName := ⟨RX1, "comesOn", "(II)Z"⟩
abbrev cX1_isWantedBy : ByteArray := prog_3_method_7_code
def yX1_isWantedBy : MethodName := ⟨RX1, "isWantedBy", "(II)Z"⟩
abbrev cX1_firstRipe : ByteArray := prog_3_method_8_code
def yX1_firstRipe : MethodName := ⟨RX1, "firstRipe", "(I)I"⟩
abbrev cX1_firstFrost : ByteArray := prog_3_method_9_code
def yX1_firstFrost : MethodName := ⟨RX1, "firstFrost", "()I"⟩
def RX2 : String := "CabbageCradles$Row"
def TX2 : u_T := fun k => match k with
  | 0 => ("CabbageCradles$Row", "items", "[I", true)
  | _ => ("CabbageCradles$Row", "size", "I", false)
def tyX2 : Nat → FieldType := fun k => match k with
  | 0 => .array .int
  | _ => .int
abbrev wsX20 : List Cond := u_ws RX2 TX2 2
theorem nmX2 : ∀ a, a < 2 → ∀ b, b < 2 → a ≠ b → (TX2 a).2.1 ≠ (TX2 b).2.1 := by decide +kernel
theorem tyX2_ok : ∀ k, k < 2 → parseFieldDescriptor (TX2 k).2.2.1 = some (tyX2 k) := by decide +kernel
abbrev cX2_init : ByteArray := prog_4_method_1_code
def yX2_init : MethodName := ⟨RX2, "<init>", "(I)V"⟩
abbrev cX2_at : ByteArray := prog_4_method_2_code
def yX2_at : MethodName := ⟨RX2, "at", "(I)I"⟩
abbrev cX2_add : ByteArray := prog_4_method_3_code
def yX2_add : MethodName := ⟨RX2, "add", "(I)I"⟩
abbrev cX2_dropLast : ByteArray := prog_4_method_4_code
def yX2_dropLast : MethodName := ⟨RX2, "dropLast", "()I"⟩
abbrev cX2_clear : ByteArray := prog_4_method_5_code
def yX2_clear : MethodName := ⟨RX2, "clear", "()I"⟩
def RX3 : String := "CabbageCradles$Sheet"
def TX3 : u_T := fun k => match k with
  | 0 => ("CabbageCradles$Sheet", "items", "[I", true)
  | 1 => ("CabbageCradles$Sheet", "form", "I", false)
  | _ => ("CabbageCradles$Sheet", "size", "I", false)
def tyX3 : Nat → FieldType := fun k => match k with
  | 0 => .array .int
  | 1 => .int
  | _ => .int
abbrev wsX30 : List Cond := u_ws RX3 TX3 3
theorem nmX3 : ∀ a, a < 3 → ∀ b, b < 3 → a ≠ b → (TX3 a).2.1 ≠ (TX3 b).2.1 := by decide +kernel
theorem tyX3_ok : ∀ k, k < 3 → parseFieldDescriptor (TX3 k).2.2.1 = some (tyX3 k) := by decide +kernel
abbrev cX3_init : ByteArray := prog_5_method_1_code
def yX3_init : MethodName := ⟨RX3, "<init>", "()V"⟩
abbrev cX3_isLost : ByteArray := prog_5_method_2_code
def yX3_isLost : MethodName := ⟨RX3, "isLost", "()Z"⟩
abbrev cX3_renew : ByteArray := prog_5_method_3_code
def yX3_renew : MethodName := ⟨RX3, "renew", "(II)V"⟩
abbrev cX3_itemAt : ByteArray := prog_5_method_4_code
def yX3_itemAt : MethodName := ⟨RX3, "itemAt", "(I)I"⟩
abbrev cX3_put : ByteArray := prog_5_method_5_code
def yX3_put : MethodName := ⟨RX3, "put", "(II)V"⟩
abbrev cX3_hasRun : ByteArray := prog_5_method_6_code
def yX3_hasRun : MethodName := ⟨RX3, "hasRun", "(II)Z"⟩
def RX4 : String := "CabbageCradles$Text"
def TX4 : u_T := fun k => match k with
  | 0 => ("CabbageCradles$Text", "bytes", "LCabbageCradles$Row;", true)
  | 1 => ("CabbageCradles$Text", "letters", "Ljava/lang/String;", true)
  | 2 => ("CabbageCradles$Text", "figures", "I", true)
  | 3 => ("CabbageCradles$Text", "kinds", "[I", true)
  | 4 => ("CabbageCradles$Text", "days", "[I", true)
  | 5 => ("CabbageCradles$Text", "lengths", "[I", true)
  | 6 => ("CabbageCradles$Text", "parts", "I", false)
  | _ => ("CabbageCradles$Text", "fault", "I", false)
def tyX4 : Nat → FieldType := fun k => match k with
  | 0 => .object "CabbageCradles$Row"
  | 1 => .object "java/lang/String"
  | 2 => .int
  | 3 => .array .int
  | 4 => .array .int
  | 5 => .array .int
  | 6 => .int
  | _ => .int
abbrev wsX40 : List Cond := u_ws RX4 TX4 8
theorem nmX4 : ∀ a, a < 8 → ∀ b, b < 8 → a ≠ b → (TX4 a).2.1 ≠ (TX4 b).2.1 := by decide +kernel
theorem tyX4_ok : ∀ k, k < 8 → parseFieldDescriptor (TX4 k).2.2.1 = some (tyX4 k) := by decide +kernel
abbrev cX4_init : ByteArray := prog_6_method_1_code
def yX4_init : MethodName := ⟨RX4, "<init>", "(Ljava/lang/String;I)V"⟩
abbrev cX4_append : ByteArray := prog_6_method_2_code
def yX4_append : MethodName := ⟨RX4, "append", "(I)I"⟩
abbrev cX4_dropLast : ByteArray := prog_6_method_3_code
def yX4_dropLast : MethodName := ⟨RX4, "dropLast", "()I"⟩
abbrev cX4_empty : ByteArray := prog_6_method_4_code
def yX4_empty : MethodName := ⟨RX4, "empty", "()I"⟩
abbrev cX4_parse : ByteArray := prog_6_method_5_code
def yX4_parse : MethodName := ⟨RX4, "parse", "()V"⟩
abbrev cX4_firstFault : ByteArray := prog_6_method_6_code
def yX4_firstFault : MethodName := ⟨RX4, "firstFault", "()I"⟩
abbrev cX4_fits : ByteArray := prog_6_method_7_code
def yX4_fits : MethodName := ⟨RX4, "fits", "(II)Z"⟩
abbrev cX4_figureAt : ByteArray := prog_6_method_8_code
def yX4_figureAt : MethodName := ⟨RX4, "figureAt", "(I)I"⟩
def RX5 : String := "CabbageCradles$Walk"
def TX5 : u_T := fun k => match k with
  | 0 => ("CabbageCradles$Walk", "ripe", "[I", true)
  | 1 => ("CabbageCradles$Walk", "bolted", "[I", true)
  | 2 => ("CabbageCradles$Walk", "headGot", "[I", true)
  | 3 => ("CabbageCradles$Walk", "dayGot", "[I", true)
  | 4 => ("CabbageCradles$Walk", "goodFor", "[I", true)
  | 5 => ("CabbageCradles$Walk", "ripeOn", "[I", true)
  | 6 => ("CabbageCradles$Walk", "comingOn", "[I", true)
  | 7 => ("CabbageCradles$Walk", "ofSort", "[I", true)
  | 8 => ("CabbageCradles$Walk", "taken", "I", false)
  | _ => ("CabbageCradles$Walk", "served", "I", false)
def tyX5 : Nat → FieldType := fun k => match k with
  | 0 => .array .int
  | 1 => .array .int
  | 2 => .array .int
  | 3 => .array .int
  | 4 => .array .int
  | 5 => .array .int
  | 6 => .array .int
  | 7 => .array .int
  | 8 => .int
  | _ => .int
abbrev wsX50 : List Cond := u_ws RX5 TX5 10
theorem nmX5 : ∀ a, a < 10 → ∀ b, b < 10 → a ≠ b → (TX5 a).2.1 ≠ (TX5 b).2.1 := by decide +kernel
theorem tyX5_ok : ∀ k, k < 10 → parseFieldDescriptor (TX5 k).2.2.1 = some (tyX5 k) := by decide +kernel
abbrev cX5_init : ByteArray := prog_7_method_1_code
def yX5_init : MethodName := ⟨RX5, "<init>", "()V"⟩
abbrev cX5_go : ByteArray := prog_7_method_2_code
def yX5_go : MethodName := ⟨RX5, "go", "(LCabbageCradles$Field;)V"⟩
abbrev cX5_clear : ByteArray := prog_7_method_3_code
def yX5_clear : MethodName := ⟨RX5, "clear", "()V"⟩
abbrev cX5_bringHead : ByteArray := prog_7_method_4_code
def yX5_bringHead : MethodName := ⟨RX5, "bringHead", "(LCabbageCradles$Field;I)V"⟩
abbrev cX5_bringCouple : ByteArray := prog_7_method_5_code
def yX5_bringCouple : MethodName := ⟨RX5, "bringCouple", "(LCabbageCradles$Field;I)V"⟩
abbrev cX5_dawn : ByteArray := prog_7_method_6_code
def yX5_dawn : MethodName := ⟨RX5, "dawn", "(LCabbageCradles$Field;I)V"⟩
abbrev cX5_lifterOf : ByteArray := prog_7_method_7_code
def yX5_lifterOf : MethodName := ⟨RX5, "lifterOf", "(I)I"⟩
abbrev cX5_stateOf : ByteArray := prog_7_method_8_code
def yX5_stateOf : MethodName := ⟨RX5, "stateOf", "(LCabbageCradles$Field;II)I"⟩
abbrev cX5_firstOutOfTurn : ByteArray := prog_7_method_9_code
def yX5_firstOutOfTurn : MethodName := ⟨RX5, "firstOutOfTurn", "(LCabbageCradles$Field;)I"⟩
abbrev cX5_isOutOfTurn : ByteArray := prog_7_method_10_code
def yX5_isOutOfTurn : MethodName := ⟨RX5, "isOutOfTurn", "(LCabbageCradles$Field;I)Z"⟩
abbrev cX5_isStillWithout : ByteArray := prog_7_method_11_code
def yX5_isStillWithout : MethodName := ⟨RX5, "isStillWithout", "(II)Z"⟩
def RX6 : String := "CabbageCradles"
def TX6 : u_T := fun k => match k with
  | 0 => ("CabbageCradles", "texts", "[LCabbageCradles$Text;", true)
  | 1 => ("CabbageCradles", "frosts", "LCabbageCradles$Row;", true)
  | 2 => ("CabbageCradles", "wets", "LCabbageCradles$Row;", true)
  | 3 => ("CabbageCradles", "rabbits", "LCabbageCradles$Row;", true)
  | 4 => ("CabbageCradles", "sights", "LCabbageCradles$Row;", true)
  | 5 => ("CabbageCradles", "sheets", "[LCabbageCradles$Sheet;", true)
  | 6 => ("CabbageCradles", "field", "LCabbageCradles$Field;", true)
  | 7 => ("CabbageCradles", "walk", "LCabbageCradles$Walk;", true)
  | 8 => ("CabbageCradles", "chances", "LCabbageCradles$Chances;", true)
  | 9 => ("CabbageCradles", "tallies", "[[I", true)
  | _ => ("CabbageCradles", "finding", "I", false)
def tyX6 : Nat → FieldType := fun k => match k with
  | 0 => .array (.object "CabbageCradles$Text")
  | 1 => .object "CabbageCradles$Row"
  | 2 => .object "CabbageCradles$Row"
  | 3 => .object "CabbageCradles$Row"
  | 4 => .object "CabbageCradles$Row"
  | 5 => .array (.object "CabbageCradles$Sheet")
  | 6 => .object "CabbageCradles$Field"
  | 7 => .object "CabbageCradles$Walk"
  | 8 => .object "CabbageCradles$Chances"
  | 9 => .array (.array .int)
  | _ => .int
abbrev wsX60 : List Cond := u_ws RX6 TX6 11
theorem nmX6 : ∀ a, a < 11 → ∀ b, b < 11 → a ≠ b → (TX6 a).2.1 ≠ (TX6 b).2.1 := by decide +kernel
theorem tyX6_ok : ∀ k, k < 11 → parseFieldDescriptor (TX6 k).2.2.1 = some (tyX6 k) := by decide +kernel
abbrev cX6_init : ByteArray := prog_1_method_1_code
def yX6_init : MethodName := ⟨RX6, "<init>", "()V"⟩
abbrev cX6_type : ByteArray := prog_1_method_2_code
def yX6_type : MethodName := ⟨RX6, "type", "(II)I"⟩
abbrev cX6_wipe : ByteArray := prog_1_method_3_code
def yX6_wipe : MethodName := ⟨RX6, "wipe", "(I)I"⟩
abbrev cX6_undo : ByteArray := prog_1_method_4_code
def yX6_undo : MethodName := ⟨RX6, "undo", "(I)I"⟩
abbrev cX6_fault : ByteArray := prog_1_method_5_code
def yX6_fault : MethodName := ⟨RX6, "fault", "(I)I"⟩
abbrev cX6_head : ByteArray := prog_1_method_6_code
def yX6_head : MethodName := ⟨RX6, "head", "(II)I"⟩
abbrev cX6_couple : ByteArray := prog_1_method_7_code
def yX6_couple : MethodName := ⟨RX6, "couple", "(II)I"⟩
abbrev cX6_weather : ByteArray := prog_1_method_8_code
def yX6_weather : MethodName := ⟨RX6, "weather", "(II)I"⟩
abbrev cX6_rabbit : ByteArray := prog_1_method_9_code
def yX6_rabbit : MethodName := ⟨RX6, "rabbit", "(II)I"⟩
abbrev cX6_back : ByteArray := prog_1_method_10_code
def yX6_back : MethodName := ⟨RX6, "back", "(I)I"⟩
abbrev cX6_read : ByteArray := prog_1_method_11_code
def yX6_read : MethodName := ⟨RX6, "read", "(I)I"⟩
abbrev cX6_state : ByteArray := prog_1_method_12_code
def yX6_state : MethodName := ⟨RX6, "state", "(II)I"⟩
abbrev cX6_lifted : ByteArray := prog_1_method_13_code
def yX6_lifted : MethodName := ⟨RX6, "lifted", "(II)I"⟩
abbrev cX6_gets : ByteArray := prog_1_method_14_code
def yX6_gets : MethodName := ⟨RX6, "gets", "(II)I"⟩
abbrev cX6_children : ByteArray := prog_1_method_15_code
def yX6_children : MethodName := ⟨RX6, "children", "(I)I"⟩
abbrev cX6_without : ByteArray := prog_1_method_16_code
def yX6_without : MethodName := ⟨RX6, "without", "()I"⟩
abbrev cX6_turn : ByteArray := prog_1_method_17_code
def yX6_turn : MethodName := ⟨RX6, "turn", "(I)I"⟩
abbrev cX6_met : ByteArray := prog_1_method_18_code
def yX6_met : MethodName := ⟨RX6, "met", "()I"⟩
abbrev cX6_keep : ByteArray := prog_1_method_19_code
def yX6_keep : MethodName := ⟨RX6, "keep", "(II)I"⟩
abbrev cX6_sow : ByteArray := prog_1_method_20_code
def yX6_sow : MethodName := ⟨RX6, "sow", "(II)I"⟩
abbrev cX6_come : ByteArray := prog_1_method_21_code
def yX6_come : MethodName := ⟨RX6, "come", "(II)I"⟩
abbrev cX6_seen : ByteArray := prog_1_method_22_code
def yX6_seen : MethodName := ⟨RX6, "seen", "(II)I"⟩
abbrev cX6_forget : ByteArray := prog_1_method_23_code
def yX6_forget : MethodName := ⟨RX6, "forget", "()I"⟩
abbrev cX6_never : ByteArray := prog_1_method_24_code
def yX6_never : MethodName := ⟨RX6, "never", "()I"⟩
abbrev cX6_was : ByteArray := prog_1_method_25_code
def yX6_was : MethodName := ⟨RX6, "was", "(II)I"⟩
abbrev cX6_ask : ByteArray := prog_1_method_26_code
def yX6_ask : MethodName := ⟨RX6, "ask", "(I)I"⟩
abbrev cX6_chill : ByteArray := prog_1_method_27_code
def yX6_chill : MethodName := ⟨RX6, "chill", "(IIII)J"⟩
abbrev cX6_year : ByteArray := prog_1_method_28_code
def yX6_year : MethodName := ⟨RX6, "year", "(II)I"⟩
abbrev cX6_sheet : ByteArray := prog_1_method_29_code
def yX6_sheet : MethodName := ⟨RX6, "sheet", "(III)I"⟩
abbrev cX6_lose : ByteArray := prog_1_method_30_code
def yX6_lose : MethodName := ⟨RX6, "lose", "(I)I"⟩
abbrev cX6_lay : ByteArray := prog_1_method_31_code
def yX6_lay : MethodName := ⟨RX6, "lay", "(IIII)I"⟩
abbrev cX6_get : ByteArray := prog_1_method_32_code
def yX6_get : MethodName := ⟨RX6, "get", "(III)I"⟩
abbrev cX6_copy : ByteArray := prog_1_method_33_code
def yX6_copy : MethodName := ⟨RX6, "copy", "(IIIII)I"⟩
abbrev cX6_write : ByteArray := prog_1_method_34_code
def yX6_write : MethodName := ⟨RX6, "write", "(II)I"⟩
abbrev cX6_count : ByteArray := prog_1_method_35_code
def yX6_count : MethodName := ⟨RX6, "count", "(I)I"⟩
abbrev cX6_digest : ByteArray := prog_1_method_36_code
def yX6_digest : MethodName := ⟨RX6, "digest", "()J"⟩
abbrev cX6_digestHead : ByteArray := prog_1_method_37_code
def yX6_digestHead : MethodName := ⟨RX6, "digestHead", "(JI)J"⟩
abbrev cX6_digestCouple : ByteArray := prog_1_method_38_code
def yX6_digestCouple : MethodName := ⟨RX6, "digestCouple", "(JI)J"⟩
abbrev cX6_isOff : ByteArray := prog_1_method_39_code
def yX6_isOff : MethodName := ⟨RX6, "isOff", "(II)Z"⟩
abbrev cX6_isNoHead : ByteArray := prog_1_method_40_code
def yX6_isNoHead : MethodName := ⟨RX6, "isNoHead", "(I)Z"⟩
abbrev cX6_isNoCouple : ByteArray := prog_1_method_41_code
def yX6_isNoCouple : MethodName := ⟨RX6, "isNoCouple", "(I)Z"⟩
abbrev cX6_asLong : ByteArray := prog_1_method_42_code
def yX6_asLong : MethodName := ⟨RX6, "asLong", "(I)J"⟩
abbrev cX6_found : ByteArray := prog_1_method_43_code
def yX6_found : MethodName := ⟨RX6, "found", "(I)I"⟩
abbrev cX6_whatIsWrong : ByteArray := prog_1_method_44_code
def yX6_whatIsWrong : MethodName := ⟨RX6, "whatIsWrong", "(LCabbageCradles$Sheet;II)I"⟩
abbrev cX6_leastBit : ByteArray := prog_1_method_45_code
def yX6_leastBit : MethodName := ⟨RX6, "leastBit", "(I)I"⟩
abbrev cX6_layOut : ByteArray := prog_1_method_46_code
def yX6_layOut : MethodName := ⟨RX6, "layOut", "()V"⟩
abbrev cX6_walkAsItIs : ByteArray := prog_1_method_47_code
def yX6_walkAsItIs : MethodName := ⟨RX6, "walkAsItIs", "()V"⟩
abbrev cX6_childrenOf : ByteArray := prog_1_method_48_code
def yX6_childrenOf : MethodName := ⟨RX6, "childrenOf", "(I)I"⟩
abbrev cX6_childrenBehind : ByteArray := prog_1_method_49_code
def yX6_childrenBehind : MethodName := ⟨RX6, "childrenBehind", "(I)I"⟩
abbrev cX6_numberWithout : ByteArray := prog_1_method_50_code
def yX6_numberWithout : MethodName := ⟨RX6, "numberWithout", "()I"⟩
abbrev cX6_headsFor : ByteArray := prog_1_method_51_code
def yX6_headsFor : MethodName := ⟨RX6, "headsFor", "(I)I"⟩
abbrev cX6_fewestKeptOff : ByteArray := prog_1_method_52_code
def yX6_fewestKeptOff : MethodName := ⟨RX6, "fewestKeptOff", "(I)I"⟩
abbrev cX6_isAsSeen : ByteArray := prog_1_method_53_code
def yX6_isAsSeen : MethodName := ⟨RX6, "isAsSeen", "()Z"⟩
abbrev cX6_sortsAsSeen : ByteArray := prog_1_method_54_code
def yX6_sortsAsSeen : MethodName := ⟨RX6, "sortsAsSeen", "(I)I"⟩
abbrev cX6_duesAsSeen : ByteArray := prog_1_method_55_code
def yX6_duesAsSeen : MethodName := ⟨RX6, "duesAsSeen", "(I)I"⟩
abbrev cX6_tallyWhoGotWhat : ByteArray := prog_1_method_56_code
def yX6_tallyWhoGotWhat : MethodName := ⟨RX6, "tallyWhoGotWhat", "()V"⟩
abbrev cX6_leastTallied : ByteArray := prog_1_method_57_code
def yX6_leastTallied : MethodName := ⟨RX6, "leastTallied", "()I"⟩
abbrev cX6_countChances : ByteArray := prog_1_method_58_code
def yX6_countChances : MethodName := ⟨RX6, "countChances", "(I)V"⟩
def RX7 : String := "CabbageCradlesModel"
def TX7 : u_T := fun k => match k with
  | 0 => ("CabbageCradlesModel", "forms", "[I", true)
  | 1 => ("CabbageCradlesModel", "sizes", "[I", true)
  | 2 => ("CabbageCradlesModel", "items", "[I", true)
  | 3 => ("CabbageCradlesModel", "moved", "[I", true)
  | 4 => ("CabbageCradlesModel", "latest", "I", false)
  | 5 => ("CabbageCradlesModel", "bytes", "[I", true)
  | 6 => ("CabbageCradlesModel", "typed", "[I", true)
  | 7 => ("CabbageCradlesModel", "heads", "I", false)
  | 8 => ("CabbageCradlesModel", "head", "[I", true)
  | 9 => ("CabbageCradlesModel", "couples", "I", false)
  | 10 => ("CabbageCradlesModel", "couple", "[I", true)
  | 11 => ("CabbageCradlesModel", "weathers", "[I", true)
  | 12 => ("CabbageCradlesModel", "weather", "[I", true)
  | 13 => ("CabbageCradlesModel", "rabbits", "I", false)
  | 14 => ("CabbageCradlesModel", "rabbit", "[I", true)
  | 15 => ("CabbageCradlesModel", "gone", "I", false)
  | 16 => ("CabbageCradlesModel", "chills", "I", false)
  | 17 => ("CabbageCradlesModel", "due", "[I", true)
  | 18 => ("CabbageCradlesModel", "lost", "[I", true)
  | 19 => ("CabbageCradlesModel", "by", "[I", true)
  | 20 => ("CabbageCradlesModel", "when", "[I", true)
  | 21 => ("CabbageCradlesModel", "got", "[I", true)
  | 22 => ("CabbageCradlesModel", "gotOn", "[I", true)
  | 23 => ("CabbageCradlesModel", "births", "[I", true)
  | 24 => ("CabbageCradlesModel", "turnWho", "I", false)
  | 25 => ("CabbageCradlesModel", "turnOn", "I", false)
  | 26 => ("CabbageCradlesModel", "most", "[I", true)
  | 27 => ("CabbageCradlesModel", "sights", "I", false)
  | 28 => ("CabbageCradlesModel", "sight", "[I", true)
  | 29 => ("CabbageCradlesModel", "alike", "[I", true)
  | _ => ("CabbageCradlesModel", "drawn", "I", false)
def tyX7 : Nat → FieldType := fun k => match k with
  | 0 => .array .int
  | 1 => .array .int
  | 2 => .array .int
  | 3 => .array .int
  | 4 => .int
  | 5 => .array .int
  | 6 => .array .int
  | 7 => .int
  | 8 => .array .int
  | 9 => .int
  | 10 => .array .int
  | 11 => .array .int
  | 12 => .array .int
  | 13 => .int
  | 14 => .array .int
  | 15 => .int
  | 16 => .int
  | 17 => .array .int
  | 18 => .array .int
  | 19 => .array .int
  | 20 => .array .int
  | 21 => .array .int
  | 22 => .array .int
  | 23 => .array .int
  | 24 => .int
  | 25 => .int
  | 26 => .array .int
  | 27 => .int
  | 28 => .array .int
  | 29 => .array .int
  | _ => .int
abbrev wsX70 : List Cond := u_ws RX7 TX7 31
theorem nmX7 : ∀ a, a < 31 → ∀ b, b < 31 → a ≠ b → (TX7 a).2.1 ≠ (TX7 b).2.1 := by decide +kernel
theorem tyX7_ok : ∀ k, k < 31 → parseFieldDescriptor (TX7 k).2.2.1 = some (tyX7 k) := by decide +kernel
abbrev cX7_init : ByteArray := prog_9_method_1_code
def yX7_init : MethodName := ⟨RX7, "<init>", "()V"⟩
abbrev cX7_in : ByteArray := prog_9_method_3_code
def yX7_in : MethodName := ⟨RX7, "in", "(JJJ)Z"⟩
abbrev cX7_no : ByteArray := prog_9_method_4_code
def yX7_no : MethodName := ⟨RX7, "no", "(I)J"⟩
abbrev cX7_isTwo : ByteArray := prog_9_method_5_code
def yX7_isTwo : MethodName := ⟨RX7, "isTwo", "(I)Z"⟩
abbrev cX7_isIn : ByteArray := prog_9_method_6_code
def yX7_isIn : MethodName := ⟨RX7, "isIn", "(II)Z"⟩
abbrev cX7_ones : ByteArray := prog_9_method_7_code
def yX7_ones : MethodName := ⟨RX7, "ones", "(I)I"⟩
abbrev cX7_lesser : ByteArray := prog_9_method_8_code
def yX7_lesser : MethodName := ⟨RX7, "lesser", "(II)I"⟩
abbrev cX7_greater : ByteArray := prog_9_method_9_code
def yX7_greater : MethodName := ⟨RX7, "greater", "(II)I"⟩
abbrev cX7_part : ByteArray := prog_9_method_10_code
def yX7_part : MethodName := ⟨RX7, "part", "(JJI)J"⟩
abbrev cX7_finds : ByteArray := prog_9_method_11_code
def yX7_finds : MethodName := ⟨RX7, "finds", "(I)I"⟩
abbrev cX7_isSheet : ByteArray := prog_9_method_12_code
def yX7_isSheet : MethodName := ⟨RX7, "isSheet", "(I)Z"⟩
abbrev cX7_sheet : ByteArray := prog_9_method_13_code
def yX7_sheet : MethodName := ⟨RX7, "sheet", "(III)I"⟩
abbrev cX7_lose : ByteArray := prog_9_method_14_code
def yX7_lose : MethodName := ⟨RX7, "lose", "(I)I"⟩
abbrev cX7_lacks : ByteArray := prog_9_method_15_code
def yX7_lacks : MethodName := ⟨RX7, "lacks", "(III)I"⟩
abbrev cX7_cut : ByteArray := prog_9_method_16_code
def yX7_cut : MethodName := ⟨RX7, "cut", "(II)I"⟩
abbrev cX7_lay : ByteArray := prog_9_method_17_code
def yX7_lay : MethodName := ⟨RX7, "lay", "(IIII)I"⟩
abbrev cX7_get : ByteArray := prog_9_method_18_code
def yX7_get : MethodName := ⟨RX7, "get", "(III)I"⟩
abbrev cX7_copy : ByteArray := prog_9_method_19_code
def yX7_copy : MethodName := ⟨RX7, "copy", "(IIIII)I"⟩
abbrev cX7_type : ByteArray := prog_9_method_20_code
def yX7_type : MethodName := ⟨RX7, "type", "(II)I"⟩
abbrev cX7_wipe : ByteArray := prog_9_method_21_code
def yX7_wipe : MethodName := ⟨RX7, "wipe", "(I)I"⟩
abbrev cX7_undo : ByteArray := prog_9_method_22_code
def yX7_undo : MethodName := ⟨RX7, "undo", "(I)I"⟩
abbrev cX7_sortOf : ByteArray := prog_9_method_23_code
def yX7_sortOf : MethodName := ⟨RX7, "sortOf", "(I)I"⟩
abbrev cX7_figureOf : ByteArray := prog_9_method_24_code
def yX7_figureOf : MethodName := ⟨RX7, "figureOf", "(III)I"⟩
abbrev cX7_tellsOf : ByteArray := prog_9_method_25_code
def yX7_tellsOf : MethodName := ⟨RX7, "tellsOf", "(III)I"⟩
abbrev cX7_readsHeads : ByteArray := prog_9_method_26_code
def yX7_readsHeads : MethodName := ⟨RX7, "readsHeads", "()I"⟩
abbrev cX7_readsCouples : ByteArray := prog_9_method_27_code
def yX7_readsCouples : MethodName := ⟨RX7, "readsCouples", "()I"⟩
abbrev cX7_fault : ByteArray := prog_9_method_28_code
def yX7_fault : MethodName := ⟨RX7, "fault", "(I)I"⟩
abbrev cX7_isHead : ByteArray := prog_9_method_29_code
def yX7_isHead : MethodName := ⟨RX7, "isHead", "(I)Z"⟩
abbrev cX7_isCouple : ByteArray := prog_9_method_30_code
def yX7_isCouple : MethodName := ⟨RX7, "isCouple", "(I)Z"⟩
abbrev cX7_isDay : ByteArray := prog_9_method_31_code
def yX7_isDay : MethodName := ⟨RX7, "isDay", "(I)Z"⟩
abbrev cX7_head : ByteArray := prog_9_method_32_code
def yX7_head : MethodName := ⟨RX7, "head", "(II)I"⟩
abbrev cX7_couple : ByteArray := prog_9_method_33_code
def yX7_couple : MethodName := ⟨RX7, "couple", "(II)I"⟩
abbrev cX7_weather : ByteArray := prog_9_method_34_code
def yX7_weather : MethodName := ⟨RX7, "weather", "(II)I"⟩
abbrev cX7_rabbit : ByteArray := prog_9_method_35_code
def yX7_rabbit : MethodName := ⟨RX7, "rabbit", "(II)I"⟩
abbrev cX7_back : ByteArray := prog_9_method_36_code
def yX7_back : MethodName := ⟨RX7, "back", "(I)I"⟩
abbrev cX7_read : ByteArray := prog_9_method_37_code
def yX7_read : MethodName := ⟨RX7, "read", "(I)I"⟩
abbrev cX7_isSo : ByteArray := prog_9_method_38_code
def yX7_isSo : MethodName := ⟨RX7, "isSo", "(II)Z"⟩
abbrev cX7_ripens : ByteArray := prog_9_method_39_code
def yX7_ripens : MethodName := ⟨RX7, "ripens", "(I)V"⟩
abbrev cX7_span : ByteArray := prog_9_method_40_code
def yX7_span : MethodName := ⟨RX7, "span", "(I)I"⟩
abbrev cX7_isRipe : ByteArray := prog_9_method_41_code
def yX7_isRipe : MethodName := ⟨RX7, "isRipe", "(II)Z"⟩
abbrev cX7_wants : ByteArray := prog_9_method_42_code
def yX7_wants : MethodName := ⟨RX7, "wants", "(II)Z"⟩
abbrev cX7_comes : ByteArray := prog_9_method_43_code
def yX7_comes : MethodName := ⟨RX7, "comes", "(II)Z"⟩
abbrev cX7_lifts : ByteArray := prog_9_method_44_code
def yX7_lifts : MethodName := ⟨RX7, "lifts", "(III)V"⟩
abbrev cX7_dawn : ByteArray := prog_9_method_45_code
def yX7_dawn : MethodName := ⟨RX7, "dawn", "(II)V"⟩
abbrev cX7_lives : ByteArray := prog_9_method_46_code
def yX7_lives : MethodName := ⟨RX7, "lives", "()V"⟩
abbrev cX7_find : ByteArray := prog_9_method_47_code
def yX7_find : MethodName := ⟨RX7, "find", "()V"⟩
abbrev cX7_dueBy : ByteArray := prog_9_method_48_code
def yX7_dueBy : MethodName := ⟨RX7, "dueBy", "(II)I"⟩
abbrev cX7_stateOf : ByteArray := prog_9_method_49_code
def yX7_stateOf : MethodName := ⟨RX7, "stateOf", "(II)I"⟩
abbrev cX7_state : ByteArray := prog_9_method_50_code
def yX7_state : MethodName := ⟨RX7, "state", "(II)I"⟩
abbrev cX7_liftedBy : ByteArray := prog_9_method_51_code
def yX7_liftedBy : MethodName := ⟨RX7, "liftedBy", "(II)I"⟩
abbrev cX7_lifted : ByteArray := prog_9_method_52_code
def yX7_lifted : MethodName := ⟨RX7, "lifted", "(II)I"⟩
abbrev cX7_getsBy : ByteArray := prog_9_method_53_code
def yX7_getsBy : MethodName := ⟨RX7, "getsBy", "(II)I"⟩
abbrev cX7_gets : ByteArray := prog_9_method_54_code
def yX7_gets : MethodName := ⟨RX7, "gets", "(II)I"⟩
abbrev cX7_childrenBy : ByteArray := prog_9_method_55_code
def yX7_childrenBy : MethodName := ⟨RX7, "childrenBy", "(I)I"⟩
abbrev cX7_children : ByteArray := prog_9_method_56_code
def yX7_children : MethodName := ⟨RX7, "children", "(I)I"⟩
abbrev cX7_withoutNow : ByteArray := prog_9_method_57_code
def yX7_withoutNow : MethodName := ⟨RX7, "withoutNow", "()I"⟩
abbrev cX7_without : ByteArray := prog_9_method_58_code
def yX7_without : MethodName := ⟨RX7, "without", "()I"⟩
abbrev cX7_turn : ByteArray := prog_9_method_59_code
def yX7_turn : MethodName := ⟨RX7, "turn", "(I)I"⟩
abbrev cX7_mightMeet : ByteArray := prog_9_method_60_code
def yX7_mightMeet : MethodName := ⟨RX7, "mightMeet", "(II)Z"⟩
abbrev cX7_metNow : ByteArray := prog_9_method_61_code
def yX7_metNow : MethodName := ⟨RX7, "metNow", "()I"⟩
abbrev cX7_met : ByteArray := prog_9_method_62_code
def yX7_met : MethodName := ⟨RX7, "met", "()I"⟩
abbrev cX7_isMet : ByteArray := prog_9_method_63_code
def yX7_isMet : MethodName := ⟨RX7, "isMet", "(II)Z"⟩
abbrev cX7_keepOf : ByteArray := prog_9_method_64_code
def yX7_keepOf : MethodName := ⟨RX7, "keepOf", "(II)I"⟩
abbrev cX7_keep : ByteArray := prog_9_method_65_code
def yX7_keep : MethodName := ⟨RX7, "keep", "(II)I"⟩
abbrev cX7_sowOf : ByteArray := prog_9_method_66_code
def yX7_sowOf : MethodName := ⟨RX7, "sowOf", "(II)I"⟩
abbrev cX7_sow : ByteArray := prog_9_method_67_code
def yX7_sow : MethodName := ⟨RX7, "sow", "(II)I"⟩
abbrev cX7_comeOf : ByteArray := prog_9_method_68_code
def yX7_comeOf : MethodName := ⟨RX7, "comeOf", "(II)I"⟩
abbrev cX7_come : ByteArray := prog_9_method_69_code
def yX7_come : MethodName := ⟨RX7, "come", "(II)I"⟩
abbrev cX7_seen : ByteArray := prog_9_method_70_code
def yX7_seen : MethodName := ⟨RX7, "seen", "(II)I"⟩
abbrev cX7_forget : ByteArray := prog_9_method_71_code
def yX7_forget : MethodName := ⟨RX7, "forget", "()I"⟩
abbrev cX7_isSeen : ByteArray := prog_9_method_72_code
def yX7_isSeen : MethodName := ⟨RX7, "isSeen", "()Z"⟩
abbrev cX7_neverNow : ByteArray := prog_9_method_73_code
def yX7_neverNow : MethodName := ⟨RX7, "neverNow", "()I"⟩
abbrev cX7_never : ByteArray := prog_9_method_74_code
def yX7_never : MethodName := ⟨RX7, "never", "()I"⟩
abbrev cX7_wasOf : ByteArray := prog_9_method_75_code
def yX7_wasOf : MethodName := ⟨RX7, "wasOf", "(II)I"⟩
abbrev cX7_was : ByteArray := prog_9_method_76_code
def yX7_was : MethodName := ⟨RX7, "was", "(II)I"⟩
abbrev cX7_askOf : ByteArray := prog_9_method_77_code
def yX7_askOf : MethodName := ⟨RX7, "askOf", "(I)I"⟩
abbrev cX7_ask : ByteArray := prog_9_method_78_code
def yX7_ask : MethodName := ⟨RX7, "ask", "(I)I"⟩
abbrev cX7_chillOf : ByteArray := prog_9_method_79_code
def yX7_chillOf : MethodName := ⟨RX7, "chillOf", "(IIII)J"⟩
abbrev cX7_chill : ByteArray := prog_9_method_80_code
def yX7_chill : MethodName := ⟨RX7, "chill", "(IIII)J"⟩
abbrev cX7_lot : ByteArray := prog_9_method_81_code
def yX7_lot : MethodName := ⟨RX7, "lot", "(I)I"⟩
abbrev cX7_yearOf : ByteArray := prog_9_method_82_code
def yX7_yearOf : MethodName := ⟨RX7, "yearOf", "(II)I"⟩
abbrev cX7_year : ByteArray := prog_9_method_83_code
def yX7_year : MethodName := ⟨RX7, "year", "(II)I"⟩
abbrev cX7_write : ByteArray := prog_9_method_84_code
def yX7_write : MethodName := ⟨RX7, "write", "(II)I"⟩
abbrev cX7_count : ByteArray := prog_9_method_85_code
def yX7_count : MethodName := ⟨RX7, "count", "(I)I"⟩
abbrev cX7_tellsHead : ByteArray := prog_9_method_86_code
def yX7_tellsHead : MethodName := ⟨RX7, "tellsHead", "(JI)J"⟩
abbrev cX7_tellsCouple : ByteArray := prog_9_method_87_code
def yX7_tellsCouple : MethodName := ⟨RX7, "tellsCouple", "(JI)J"⟩
abbrev cX7_digest : ByteArray := prog_9_method_88_code
def yX7_digest : MethodName := ⟨RX7, "digest", "()J"⟩
def RJx145de : String := "java/io/Serializable"
def TJx145de : u_T := fun k => match k with
  | _ => ("", "", "", false)
def tyJx145de : Nat → FieldType := fun k => match k with
  | _ => .int
abbrev wsJx145de0 : List Cond := u_ws RJx145de TJx145de 0
theorem nmJx145de : ∀ a, a < 0 → ∀ b, b < 0 → a ≠ b → (TJx145de a).2.1 ≠ (TJx145de b).2.1 := by decide +kernel
theorem tyJx145de_ok : ∀ k, k < 0 → parseFieldDescriptor (TJx145de k).2.2.1 = some (tyJx145de k) := by decide +kernel
def RJx9f9b0 : String := "java/lang/CharSequence"
def TJx9f9b0 : u_T := fun k => match k with
  | _ => ("", "", "", false)
def tyJx9f9b0 : Nat → FieldType := fun k => match k with
  | _ => .int
abbrev wsJx9f9b00 : List Cond := u_ws RJx9f9b0 TJx9f9b0 0
theorem nmJx9f9b0 : ∀ a, a < 0 → ∀ b, b < 0 → a ≠ b → (TJx9f9b0 a).2.1 ≠ (TJx9f9b0 b).2.1 := by decide +kernel
theorem tyJx9f9b0_ok : ∀ k, k < 0 → parseFieldDescriptor (TJx9f9b0 k).2.2.1 = some (tyJx9f9b0 k) := by decide +kernel
def RJ11 : String := "java/lang/Character"
def TJ11 : u_T := fun k => match k with
  | _ => ("", "", "", false)
def tyJ11 : Nat → FieldType := fun k => match k with
  | _ => .int
abbrev wsJ110 : List Cond := u_ws RJ11 TJ11 0
theorem nmJ11 : ∀ a, a < 0 → ∀ b, b < 0 → a ≠ b → (TJ11 a).2.1 ≠ (TJ11 b).2.1 := by decide +kernel
theorem tyJ11_ok : ∀ k, k < 0 → parseFieldDescriptor (TJ11 k).2.2.1 = some (tyJ11 k) := by decide +kernel
abbrev cJ11_isValidCodePoint_9a6ad : ByteArray := prog_10_method_11_code
def yJ11_isValidCodePoint_9a6ad : MethodName := ⟨RJ11, "isValidCodePoint", "(I)Z"⟩
abbrev cJ11_highSurrogate_5068e : ByteArray := prog_10_method_28_code
def yJ11_highSurrogate_5068e : MethodName := ⟨RJ11, "highSurrogate", "(I)C"⟩
abbrev cJ11_lowSurrogate_5068e : ByteArray := prog_10_method_29_code
def yJ11_lowSurrogate_5068e : MethodName := ⟨RJ11, "lowSurrogate", "(I)C"⟩
def RJxb160c : String := "java/lang/Comparable"
def TJxb160c : u_T := fun k => match k with
  | _ => ("", "", "", false)
def tyJxb160c : Nat → FieldType := fun k => match k with
  | _ => .int
abbrev wsJxb160c0 : List Cond := u_ws RJxb160c TJxb160c 0
theorem nmJxb160c : ∀ a, a < 0 → ∀ b, b < 0 → a ≠ b → (TJxb160c a).2.1 ≠ (TJxb160c b).2.1 := by decide +kernel
theorem tyJxb160c_ok : ∀ k, k < 0 → parseFieldDescriptor (TJxb160c k).2.2.1 = some (tyJxb160c k) := by decide +kernel
def RJ6 : String := "java/lang/Integer"
def TJ6 : u_T := fun k => match k with
  | _ => ("", "", "", false)
def tyJ6 : Nat → FieldType := fun k => match k with
  | _ => .int
abbrev wsJ60 : List Cond := u_ws RJ6 TJ6 0
theorem nmJ6 : ∀ a, a < 0 → ∀ b, b < 0 → a ≠ b → (TJ6 a).2.1 ≠ (TJ6 b).2.1 := by decide +kernel
theorem tyJ6_ok : ∀ k, k < 0 → parseFieldDescriptor (TJ6 k).2.2.1 = some (tyJ6 k) := by decide +kernel
abbrev cJ6_bitCount_0f7a4 : ByteArray := prog_11_method_49_code
def yJ6_bitCount_0f7a4 : MethodName := ⟨RJ6, "bitCount", "(I)I"⟩
def RJ9 : String := "java/lang/Math"
def TJ9 : u_T := fun k => match k with
  | _ => ("", "", "", false)
def tyJ9 : Nat → FieldType := fun k => match k with
  | _ => .int
abbrev wsJ90 : List Cond := u_ws RJ9 TJ9 0
theorem nmJ9 : ∀ a, a < 0 → ∀ b, b < 0 → a ≠ b → (TJ9 a).2.1 ≠ (TJ9 b).2.1 := by decide +kernel
theorem tyJ9_ok : ∀ k, k < 0 → parseFieldDescriptor (TJ9 k).2.2.1 = some (tyJ9 k) := by decide +kernel
abbrev cJ9_max_7cf53 : ByteArray := prog_12_method_65_code
def yJ9_max_7cf53 : MethodName := ⟨RJ9, "max", "(II)I"⟩
abbrev cJ9_min_7cf53 : ByteArray := prog_12_method_69_code
def yJ9_min_7cf53 : MethodName := ⟨RJ9, "min", "(II)I"⟩
def RJ0 : String := "java/lang/String"
def TJ0 : u_T := fun k => match k with
  | _ => ("", "", "", false)
def tyJ0 : Nat → FieldType := fun k => match k with
  | _ => .int
abbrev wsJ00 : List Cond := u_ws RJ0 TJ0 0
theorem nmJ0 : ∀ a, a < 0 → ∀ b, b < 0 → a ≠ b → (TJ0 a).2.1 ≠ (TJ0 b).2.1 := by decide +kernel
theorem tyJ0_ok : ∀ k, k < 0 → parseFieldDescriptor (TJ0 k).2.2.1 = some (tyJ0 k) := by decide +kernel
abbrev cJ0_length_8abf5 : ByteArray := prog_13_method_54_code
def yJ0_length_8abf5 : MethodName := ⟨RJ0, "length", "()I"⟩
abbrev cJ0_indexOf_0f7a4 : ByteArray := prog_13_method_79_code
def yJ0_indexOf_0f7a4 : MethodName := ⟨RJ0, "indexOf", "(I)I"⟩
abbrev cJ0_indexOf_7cf53 : ByteArray := prog_13_method_80_code
def yJ0_indexOf_7cf53 : MethodName := ⟨RJ0, "indexOf", "(II)I"⟩
abbrev cJ0_coder_7d493 : ByteArray := prog_13_method_152_code
def yJ0_coder_7d493 : MethodName := ⟨RJ0, "coder", "()B"⟩
abbrev cJ0_isLatin1_aae02 : ByteArray := prog_13_method_154_code
def yJ0_isLatin1_aae02 : MethodName := ⟨RJ0, "isLatin1", "()Z"⟩
abbrev cJ0_checkBoundsBeginEnd_23922 : ByteArray := prog_13_method_158_code
def yJ0_checkBoundsBeginEnd_23922 : MethodName := ⟨RJ0, "checkBoundsBeginEnd", "(III)V"⟩
def RJ1 : String := "java/lang/StringLatin1"
def TJ1 : u_T := fun k => match k with
  | _ => ("", "", "", false)
def tyJ1 : Nat → FieldType := fun k => match k with
  | _ => .int
abbrev wsJ10 : List Cond := u_ws RJ1 TJ1 0
theorem nmJ1 : ∀ a, a < 0 → ∀ b, b < 0 → a ≠ b → (TJ1 a).2.1 ≠ (TJ1 b).2.1 := by decide +kernel
theorem tyJ1_ok : ∀ k, k < 0 → parseFieldDescriptor (TJ1 k).2.2.1 = some (tyJ1 k) := by decide +kernel
abbrev cJ1_canEncode_9a6ad : ByteArray := prog_14_method_4_code
def yJ1_canEncode_9a6ad : MethodName := ⟨RJ1, "canEncode", "(I)Z"⟩
abbrev cJ1_indexOf_4cfef : ByteArray := prog_14_method_22_code
def yJ1_indexOf_4cfef : MethodName := ⟨RJ1, "indexOf", "([BIII)I"⟩
abbrev cJ1_indexOfChar_4cfef : ByteArray := prog_14_method_23_code
def yJ1_indexOfChar_4cfef : MethodName := ⟨RJ1, "indexOfChar", "([BIII)I"⟩
def RJ2 : String := "java/lang/StringUTF16"
def TJ2 : u_T := fun k => match k with
  | _ => ("", "", "", false)
def tyJ2 : Nat → FieldType := fun k => match k with
  | _ => .int
abbrev wsJ20 : List Cond := u_ws RJ2 TJ2 0
theorem nmJ2 : ∀ a, a < 0 → ∀ b, b < 0 → a ≠ b → (TJ2 a).2.1 ≠ (TJ2 b).2.1 := by decide +kernel
theorem tyJ2_ok : ∀ k, k < 0 → parseFieldDescriptor (TJ2 k).2.2.1 = some (tyJ2 k) := by decide +kernel
abbrev cJ2_getChar_3b067 : ByteArray := prog_15_method_5_code
def yJ2_getChar_3b067 : MethodName := ⟨RJ2, "getChar", "([BI)C"⟩
abbrev cJ2_length_9d52b : ByteArray := prog_15_method_6_code
def yJ2_length_9d52b : MethodName := ⟨RJ2, "length", "([B)I"⟩
abbrev cJ2_indexOf_4cfef : ByteArray := prog_15_method_40_code
def yJ2_indexOf_4cfef : MethodName := ⟨RJ2, "indexOf", "([BIII)I"⟩
abbrev cJ2_indexOfChar_4cfef : ByteArray := prog_15_method_47_code
def yJ2_indexOfChar_4cfef : MethodName := ⟨RJ2, "indexOfChar", "([BIII)I"⟩
abbrev cJ2_indexOfCharUnsafe_4cfef : ByteArray := prog_15_method_48_code
def yJ2_indexOfCharUnsafe_4cfef : MethodName := ⟨RJ2, "indexOfCharUnsafe", "([BIII)I"⟩
abbrev cJ2_indexOfSupplementary_4cfef : ByteArray := prog_15_method_49_code
def yJ2_indexOfSupplementary_4cfef : MethodName := ⟨RJ2, "indexOfSupplementary", "([BIII)I"⟩
abbrev cJ2_checkBoundsBeginEnd_d044e : ByteArray := prog_15_method_93_code
def yJ2_checkBoundsBeginEnd_d044e : MethodName := ⟨RJ2, "checkBoundsBeginEnd", "(II[B)V"⟩
def RJ10 : String := "java/lang/System"
def TJ10 : u_T := fun k => match k with
  | _ => ("", "", "", false)
def tyJ10 : Nat → FieldType := fun k => match k with
  | _ => .int
abbrev wsJ100 : List Cond := u_ws RJ10 TJ10 0
theorem nmJ10 : ∀ a, a < 0 → ∀ b, b < 0 → a ≠ b → (TJ10 a).2.1 ≠ (TJ10 b).2.1 := by decide +kernel
theorem tyJ10_ok : ∀ k, k < 0 → parseFieldDescriptor (TJ10 k).2.2.1 = some (tyJ10 k) := by decide +kernel
def RJxfd54e : String := "java/lang/constant/Constable"
def TJxfd54e : u_T := fun k => match k with
  | _ => ("", "", "", false)
def tyJxfd54e : Nat → FieldType := fun k => match k with
  | _ => .int
abbrev wsJxfd54e0 : List Cond := u_ws RJxfd54e TJxfd54e 0
theorem nmJxfd54e : ∀ a, a < 0 → ∀ b, b < 0 → a ≠ b → (TJxfd54e a).2.1 ≠ (TJxfd54e b).2.1 := by decide +kernel
theorem tyJxfd54e_ok : ∀ k, k < 0 → parseFieldDescriptor (TJxfd54e k).2.2.1 = some (tyJxfd54e k) := by decide +kernel
def RJx3cf43 : String := "java/lang/constant/ConstantDesc"
def TJx3cf43 : u_T := fun k => match k with
  | _ => ("", "", "", false)
def tyJx3cf43 : Nat → FieldType := fun k => match k with
  | _ => .int
abbrev wsJx3cf430 : List Cond := u_ws RJx3cf43 TJx3cf43 0
theorem nmJx3cf43 : ∀ a, a < 0 → ∀ b, b < 0 → a ≠ b → (TJx3cf43 a).2.1 ≠ (TJx3cf43 b).2.1 := by decide +kernel
theorem tyJx3cf43_ok : ∀ k, k < 0 → parseFieldDescriptor (TJx3cf43 k).2.2.1 = some (tyJx3cf43 k) := by decide +kernel
def RJ7 : String := "java/util/Arrays"
def TJ7 : u_T := fun k => match k with
  | _ => ("", "", "", false)
def tyJ7 : Nat → FieldType := fun k => match k with
  | _ => .int
abbrev wsJ70 : List Cond := u_ws RJ7 TJ7 0
theorem nmJ7 : ∀ a, a < 0 → ∀ b, b < 0 → a ≠ b → (TJ7 a).2.1 ≠ (TJ7 b).2.1 := by decide +kernel
theorem tyJ7_ok : ∀ k, k < 0 → parseFieldDescriptor (TJ7 k).2.2.1 = some (tyJ7 k) := by decide +kernel
abbrev cJ7_fill_53178 : ByteArray := prog_17_method_103_code
def yJ7_fill_53178 : MethodName := ⟨RJ7, "fill", "([II)V"⟩
def RJ3 : String := "jdk/internal/util/Preconditions"
def TJ3 : u_T := fun k => match k with
  | _ => ("", "", "", false)
def tyJ3 : Nat → FieldType := fun k => match k with
  | _ => .int
abbrev wsJ30 : List Cond := u_ws RJ3 TJ3 0
theorem nmJ3 : ∀ a, a < 0 → ∀ b, b < 0 → a ≠ b → (TJ3 a).2.1 ≠ (TJ3 b).2.1 := by decide +kernel
theorem tyJ3_ok : ∀ k, k < 0 → parseFieldDescriptor (TJ3 k).2.2.1 = some (tyJ3 k) := by decide +kernel
abbrev cJ3_checkFromToIndex_8c36e : ByteArray := prog_18_method_12_code
def yJ3_checkFromToIndex_8c36e : MethodName := ⟨RJ3, "checkFromToIndex", "(IIILjava/util/function/BiFunction;)I"⟩
def RL : String := "CabbageCradlesLaw"
abbrev cL_law : ByteArray := code
def yL_law : MethodName := ⟨RL, "law", "([I)Z"⟩
abbrev vwCl : List vw_C := [(RX0, TX0, 2), (RX1, TX1, 9), (RX2, TX2, 2), (RX3, TX3, 3), (RX4, TX4, 8), (RX5, TX5, 10), (RX6, TX6, 11), (RX7, TX7, 31)]
end
section
theorem dJ0_length_8abf5_0 : decode cJ0_length_8abf5 0 = .ok (.aload_n 0, 1) := by decide +kernel
theorem dJ0_length_8abf5_1 : decode cJ0_length_8abf5 1 = .ok (.getfield 9, 3) := by decide +kernel
theorem dJ0_length_8abf5_4 : decode cJ0_length_8abf5 4 = .ok (.arraylength, 1) := by decide +kernel
theorem dJ0_length_8abf5_5 : decode cJ0_length_8abf5 5 = .ok (.aload_n 0, 1) := by decide +kernel
theorem dJ0_length_8abf5_6 : decode cJ0_length_8abf5 6 = .ok (.invokevirtual 335, 3) := by decide +kernel
theorem dJ0_length_8abf5_9 : decode cJ0_length_8abf5 9 = .ok (.ishr, 1) := by decide +kernel
theorem dJ0_length_8abf5_10 : decode cJ0_length_8abf5 10 = .ok (.ireturn, 1) := by decide +kernel
theorem dJ0_indexOf_0f7a4_0 : decode cJ0_indexOf_0f7a4 0 = .ok (.aload_n 0, 1) := by decide +kernel
theorem dJ0_indexOf_0f7a4_1 : decode cJ0_indexOf_0f7a4 1 = .ok (.iload_n 1, 1) := by decide +kernel
theorem dJ0_indexOf_0f7a4_2 : decode cJ0_indexOf_0f7a4 2 = .ok (.iconst 0, 1) := by decide +kernel
theorem dJ0_indexOf_0f7a4_3 : decode cJ0_indexOf_0f7a4 3 = .ok (.invokevirtual 633, 3) := by decide +kernel
theorem dJ0_indexOf_0f7a4_6 : decode cJ0_indexOf_0f7a4 6 = .ok (.ireturn, 1) := by decide +kernel
theorem dJ0_indexOf_7cf53_0 : decode cJ0_indexOf_7cf53 0 = .ok (.aload_n 0, 1) := by decide +kernel
theorem dJ0_indexOf_7cf53_1 : decode cJ0_indexOf_7cf53 1 = .ok (.invokevirtual 492, 3) := by decide +kernel
theorem dJ0_indexOf_7cf53_4 : decode cJ0_indexOf_7cf53 4 = .ok (.ifCond .eq 19, 3) := by decide +kernel
theorem dJ0_indexOf_7cf53_7 : decode cJ0_indexOf_7cf53 7 = .ok (.aload_n 0, 1) := by decide +kernel
theorem dJ0_indexOf_7cf53_8 : decode cJ0_indexOf_7cf53 8 = .ok (.getfield 9, 3) := by decide +kernel
theorem dJ0_indexOf_7cf53_11 : decode cJ0_indexOf_7cf53 11 = .ok (.iload_n 1, 1) := by decide +kernel
theorem dJ0_indexOf_7cf53_12 : decode cJ0_indexOf_7cf53 12 = .ok (.iload_n 2, 1) := by decide +kernel
theorem dJ0_indexOf_7cf53_13 : decode cJ0_indexOf_7cf53 13 = .ok (.aload_n 0, 1) := by decide +kernel
theorem dJ0_indexOf_7cf53_14 : decode cJ0_indexOf_7cf53 14 = .ok (.invokevirtual 505, 3) := by decide +kernel
theorem dJ0_indexOf_7cf53_17 : decode cJ0_indexOf_7cf53 17 = .ok (.invokestatic 637, 3) := by decide +kernel
theorem dJ0_indexOf_7cf53_20 : decode cJ0_indexOf_7cf53 20 = .ok (.goto 16, 3) := by decide +kernel
theorem dJ0_indexOf_7cf53_23 : decode cJ0_indexOf_7cf53 23 = .ok (.aload_n 0, 1) := by decide +kernel
theorem dJ0_indexOf_7cf53_24 : decode cJ0_indexOf_7cf53 24 = .ok (.getfield 9, 3) := by decide +kernel
theorem dJ0_indexOf_7cf53_27 : decode cJ0_indexOf_7cf53 27 = .ok (.iload_n 1, 1) := by decide +kernel
theorem dJ0_indexOf_7cf53_28 : decode cJ0_indexOf_7cf53 28 = .ok (.iload_n 2, 1) := by decide +kernel
theorem dJ0_indexOf_7cf53_29 : decode cJ0_indexOf_7cf53 29 = .ok (.aload_n 0, 1) := by decide +kernel
theorem dJ0_indexOf_7cf53_30 : decode cJ0_indexOf_7cf53 30 = .ok (.invokevirtual 505, 3) := by decide +kernel
theorem dJ0_indexOf_7cf53_33 : decode cJ0_indexOf_7cf53 33 = .ok (.invokestatic 640, 3) := by decide +kernel
theorem dJ0_indexOf_7cf53_36 : decode cJ0_indexOf_7cf53 36 = .ok (.ireturn, 1) := by decide +kernel
theorem dJ0_coder_7d493_0 : decode cJ0_coder_7d493 0 = .ok (.getstatic 38, 3) := by decide +kernel
theorem dJ0_coder_7d493_3 : decode cJ0_coder_7d493 3 = .ok (.ifCond .eq 10, 3) := by decide +kernel
theorem dJ0_coder_7d493_6 : decode cJ0_coder_7d493 6 = .ok (.aload_n 0, 1) := by decide +kernel
theorem dJ0_coder_7d493_7 : decode cJ0_coder_7d493 7 = .ok (.getfield 15, 3) := by decide +kernel
theorem dJ0_coder_7d493_10 : decode cJ0_coder_7d493 10 = .ok (.goto 4, 3) := by decide +kernel
theorem dJ0_coder_7d493_13 : decode cJ0_coder_7d493 13 = .ok (.iconst 1, 1) := by decide +kernel
theorem dJ0_coder_7d493_14 : decode cJ0_coder_7d493 14 = .ok (.ireturn, 1) := by decide +kernel
theorem dJ0_isLatin1_aae02_0 : decode cJ0_isLatin1_aae02 0 = .ok (.getstatic 38, 3) := by decide +kernel
theorem dJ0_isLatin1_aae02_3 : decode cJ0_isLatin1_aae02 3 = .ok (.ifCond .eq 14, 3) := by decide +kernel
theorem dJ0_isLatin1_aae02_6 : decode cJ0_isLatin1_aae02 6 = .ok (.aload_n 0, 1) := by decide +kernel
theorem dJ0_isLatin1_aae02_7 : decode cJ0_isLatin1_aae02 7 = .ok (.getfield 15, 3) := by decide +kernel
theorem dJ0_isLatin1_aae02_10 : decode cJ0_isLatin1_aae02 10 = .ok (.ifCond .ne 7, 3) := by decide +kernel
theorem dJ0_isLatin1_aae02_13 : decode cJ0_isLatin1_aae02 13 = .ok (.iconst 1, 1) := by decide +kernel
theorem dJ0_isLatin1_aae02_14 : decode cJ0_isLatin1_aae02 14 = .ok (.goto 4, 3) := by decide +kernel
theorem dJ0_isLatin1_aae02_17 : decode cJ0_isLatin1_aae02 17 = .ok (.iconst 0, 1) := by decide +kernel
theorem dJ0_isLatin1_aae02_18 : decode cJ0_isLatin1_aae02 18 = .ok (.ireturn, 1) := by decide +kernel
theorem dJ0_checkBoundsBeginEnd_23922_0 : decode cJ0_checkBoundsBeginEnd_23922 0 = .ok (.iload_n 0, 1) := by decide +kernel
theorem dJ0_checkBoundsBeginEnd_23922_1 : decode cJ0_checkBoundsBeginEnd_23922 1 = .ok (.iload_n 1, 1) := by decide +kernel
theorem dJ0_checkBoundsBeginEnd_23922_2 : decode cJ0_checkBoundsBeginEnd_23922 2 = .ok (.iload_n 2, 1) := by decide +kernel
theorem dJ0_checkBoundsBeginEnd_23922_3 : decode cJ0_checkBoundsBeginEnd_23922 3 = .ok (.getstatic 1053, 3) := by decide +kernel
theorem dJ0_checkBoundsBeginEnd_23922_6 : decode cJ0_checkBoundsBeginEnd_23922 6 = .ok (.invokestatic 1062, 3) := by decide +kernel
theorem dJ0_checkBoundsBeginEnd_23922_9 : decode cJ0_checkBoundsBeginEnd_23922 9 = .ok (.pop, 1) := by decide +kernel
theorem dJ0_checkBoundsBeginEnd_23922_10 : decode cJ0_checkBoundsBeginEnd_23922 10 = .ok (.return_, 1) := by decide +kernel
theorem dJ1_canEncode_9a6ad_0 : decode cJ1_canEncode_9a6ad 0 = .ok (.iload_n 0, 1) := by decide +kernel
theorem dJ1_canEncode_9a6ad_1 : decode cJ1_canEncode_9a6ad 1 = .ok (.ifCond .lt 14, 3) := by decide +kernel
theorem dJ1_canEncode_9a6ad_4 : decode cJ1_canEncode_9a6ad 4 = .ok (.iload_n 0, 1) := by decide +kernel
theorem dJ1_canEncode_9a6ad_5 : decode cJ1_canEncode_9a6ad 5 = .ok (.sipush 255, 3) := by decide +kernel
theorem dJ1_canEncode_9a6ad_8 : decode cJ1_canEncode_9a6ad 8 = .ok (.if_icmp .gt 7, 3) := by decide +kernel
theorem dJ1_canEncode_9a6ad_11 : decode cJ1_canEncode_9a6ad 11 = .ok (.iconst 1, 1) := by decide +kernel
theorem dJ1_canEncode_9a6ad_12 : decode cJ1_canEncode_9a6ad 12 = .ok (.goto 4, 3) := by decide +kernel
theorem dJ1_canEncode_9a6ad_15 : decode cJ1_canEncode_9a6ad 15 = .ok (.iconst 0, 1) := by decide +kernel
theorem dJ1_canEncode_9a6ad_16 : decode cJ1_canEncode_9a6ad 16 = .ok (.ireturn, 1) := by decide +kernel
theorem dJ1_indexOf_4cfef_0 : decode cJ1_indexOf_4cfef 0 = .ok (.iload_n 1, 1) := by decide +kernel
theorem dJ1_indexOf_4cfef_1 : decode cJ1_indexOf_4cfef 1 = .ok (.invokestatic 88, 3) := by decide +kernel
theorem dJ1_indexOf_4cfef_4 : decode cJ1_indexOf_4cfef 4 = .ok (.ifCond .ne 5, 3) := by decide +kernel
theorem dJ1_indexOf_4cfef_7 : decode cJ1_indexOf_4cfef 7 = .ok (.iconst (-1), 1) := by decide +kernel
theorem dJ1_indexOf_4cfef_8 : decode cJ1_indexOf_4cfef 8 = .ok (.ireturn, 1) := by decide +kernel
theorem dJ1_indexOf_4cfef_9 : decode cJ1_indexOf_4cfef 9 = .ok (.iload_n 2, 1) := by decide +kernel
theorem dJ1_indexOf_4cfef_10 : decode cJ1_indexOf_4cfef 10 = .ok (.iconst 0, 1) := by decide +kernel
theorem dJ1_indexOf_4cfef_11 : decode cJ1_indexOf_4cfef 11 = .ok (.invokestatic 92, 3) := by decide +kernel
theorem dJ1_indexOf_4cfef_14 : decode cJ1_indexOf_4cfef 14 = .ok (.istore_n 2, 1) := by decide +kernel
theorem dJ1_indexOf_4cfef_15 : decode cJ1_indexOf_4cfef 15 = .ok (.iload_n 3, 1) := by decide +kernel
theorem dJ1_indexOf_4cfef_16 : decode cJ1_indexOf_4cfef 16 = .ok (.aload_n 0, 1) := by decide +kernel
theorem dJ1_indexOf_4cfef_17 : decode cJ1_indexOf_4cfef 17 = .ok (.arraylength, 1) := by decide +kernel
theorem dJ1_indexOf_4cfef_18 : decode cJ1_indexOf_4cfef 18 = .ok (.invokestatic 38, 3) := by decide +kernel
theorem dJ1_indexOf_4cfef_21 : decode cJ1_indexOf_4cfef 21 = .ok (.istore_n 3, 1) := by decide +kernel
theorem dJ1_indexOf_4cfef_22 : decode cJ1_indexOf_4cfef 22 = .ok (.iload_n 2, 1) := by decide +kernel
theorem dJ1_indexOf_4cfef_23 : decode cJ1_indexOf_4cfef 23 = .ok (.iload_n 3, 1) := by decide +kernel
theorem dJ1_indexOf_4cfef_24 : decode cJ1_indexOf_4cfef 24 = .ok (.if_icmp .lt 5, 3) := by decide +kernel
theorem dJ1_indexOf_4cfef_27 : decode cJ1_indexOf_4cfef 27 = .ok (.iconst (-1), 1) := by decide +kernel
theorem dJ1_indexOf_4cfef_28 : decode cJ1_indexOf_4cfef 28 = .ok (.ireturn, 1) := by decide +kernel
theorem dJ1_indexOf_4cfef_29 : decode cJ1_indexOf_4cfef 29 = .ok (.aload_n 0, 1) := by decide +kernel
theorem dJ1_indexOf_4cfef_30 : decode cJ1_indexOf_4cfef 30 = .ok (.iload_n 1, 1) := by decide +kernel
theorem dJ1_indexOf_4cfef_31 : decode cJ1_indexOf_4cfef 31 = .ok (.iload_n 2, 1) := by decide +kernel
theorem dJ1_indexOf_4cfef_32 : decode cJ1_indexOf_4cfef 32 = .ok (.iload_n 3, 1) := by decide +kernel
theorem dJ1_indexOf_4cfef_33 : decode cJ1_indexOf_4cfef 33 = .ok (.invokestatic 95, 3) := by decide +kernel
theorem dJ1_indexOf_4cfef_36 : decode cJ1_indexOf_4cfef 36 = .ok (.ireturn, 1) := by decide +kernel
theorem dJ1_indexOfChar_4cfef_0 : decode cJ1_indexOfChar_4cfef 0 = .ok (.iload_n 1, 1) := by decide +kernel
theorem dJ1_indexOfChar_4cfef_1 : decode cJ1_indexOfChar_4cfef 1 = .ok (.i2b, 1) := by decide +kernel
theorem dJ1_indexOfChar_4cfef_2 : decode cJ1_indexOfChar_4cfef 2 = .ok (.istore 4, 2) := by decide +kernel
theorem dJ1_indexOfChar_4cfef_4 : decode cJ1_indexOfChar_4cfef 4 = .ok (.iload_n 2, 1) := by decide +kernel
theorem dJ1_indexOfChar_4cfef_5 : decode cJ1_indexOfChar_4cfef 5 = .ok (.istore 5, 2) := by decide +kernel
theorem dJ1_indexOfChar_4cfef_7 : decode cJ1_indexOfChar_4cfef 7 = .ok (.iload 5, 2) := by decide +kernel
theorem dJ1_indexOfChar_4cfef_9 : decode cJ1_indexOfChar_4cfef 9 = .ok (.iload_n 3, 1) := by decide +kernel
theorem dJ1_indexOfChar_4cfef_10 : decode cJ1_indexOfChar_4cfef 10 = .ok (.if_icmp .ge 21, 3) := by decide +kernel
theorem dJ1_indexOfChar_4cfef_13 : decode cJ1_indexOfChar_4cfef 13 = .ok (.aload_n 0, 1) := by decide +kernel
theorem dJ1_indexOfChar_4cfef_14 : decode cJ1_indexOfChar_4cfef 14 = .ok (.iload 5, 2) := by decide +kernel
theorem dJ1_indexOfChar_4cfef_16 : decode cJ1_indexOfChar_4cfef 16 = .ok (.baload, 1) := by decide +kernel
theorem dJ1_indexOfChar_4cfef_17 : decode cJ1_indexOfChar_4cfef 17 = .ok (.iload 4, 2) := by decide +kernel
theorem dJ1_indexOfChar_4cfef_19 : decode cJ1_indexOfChar_4cfef 19 = .ok (.if_icmp .ne 6, 3) := by decide +kernel
theorem dJ1_indexOfChar_4cfef_22 : decode cJ1_indexOfChar_4cfef 22 = .ok (.iload 5, 2) := by decide +kernel
theorem dJ1_indexOfChar_4cfef_24 : decode cJ1_indexOfChar_4cfef 24 = .ok (.ireturn, 1) := by decide +kernel
theorem dJ1_indexOfChar_4cfef_25 : decode cJ1_indexOfChar_4cfef 25 = .ok (.iinc 5 1, 3) := by decide +kernel
theorem dJ1_indexOfChar_4cfef_28 : decode cJ1_indexOfChar_4cfef 28 = .ok (.goto (-21), 3) := by decide +kernel
theorem dJ1_indexOfChar_4cfef_31 : decode cJ1_indexOfChar_4cfef 31 = .ok (.iconst (-1), 1) := by decide +kernel
theorem dJ1_indexOfChar_4cfef_32 : decode cJ1_indexOfChar_4cfef 32 = .ok (.ireturn, 1) := by decide +kernel
theorem dJ11_isValidCodePoint_9a6ad_0 : decode cJ11_isValidCodePoint_9a6ad 0 = .ok (.iload_n 0, 1) := by decide +kernel
theorem dJ11_isValidCodePoint_9a6ad_1 : decode cJ11_isValidCodePoint_9a6ad 1 = .ok (.bipush 16, 2) := by decide +kernel
theorem dJ11_isValidCodePoint_9a6ad_3 : decode cJ11_isValidCodePoint_9a6ad 3 = .ok (.iushr, 1) := by decide +kernel
theorem dJ11_isValidCodePoint_9a6ad_4 : decode cJ11_isValidCodePoint_9a6ad 4 = .ok (.istore_n 1, 1) := by decide +kernel
theorem dJ11_isValidCodePoint_9a6ad_5 : decode cJ11_isValidCodePoint_9a6ad 5 = .ok (.iload_n 1, 1) := by decide +kernel
theorem dJ11_isValidCodePoint_9a6ad_6 : decode cJ11_isValidCodePoint_9a6ad 6 = .ok (.bipush 17, 2) := by decide +kernel
theorem dJ11_isValidCodePoint_9a6ad_8 : decode cJ11_isValidCodePoint_9a6ad 8 = .ok (.if_icmp .ge 7, 3) := by decide +kernel
theorem dJ11_isValidCodePoint_9a6ad_11 : decode cJ11_isValidCodePoint_9a6ad 11 = .ok (.iconst 1, 1) := by decide +kernel
theorem dJ11_isValidCodePoint_9a6ad_12 : decode cJ11_isValidCodePoint_9a6ad 12 = .ok (.goto 4, 3) := by decide +kernel
theorem dJ11_isValidCodePoint_9a6ad_15 : decode cJ11_isValidCodePoint_9a6ad 15 = .ok (.iconst 0, 1) := by decide +kernel
theorem dJ11_isValidCodePoint_9a6ad_16 : decode cJ11_isValidCodePoint_9a6ad 16 = .ok (.ireturn, 1) := by decide +kernel
theorem dJ11_highSurrogate_5068e_0 : decode cJ11_highSurrogate_5068e 0 = .ok (.iload_n 0, 1) := by decide +kernel
theorem dJ11_highSurrogate_5068e_1 : decode cJ11_highSurrogate_5068e 1 = .ok (.bipush 10, 2) := by decide +kernel
theorem dJ11_highSurrogate_5068e_3 : decode cJ11_highSurrogate_5068e 3 = .ok (.iushr, 1) := by decide +kernel
theorem dJ11_highSurrogate_5068e_4 : decode cJ11_highSurrogate_5068e 4 = .ok (.ldc 110, 2) := by decide +kernel
theorem dJ11_highSurrogate_5068e_6 : decode cJ11_highSurrogate_5068e 6 = .ok (.iadd, 1) := by decide +kernel
theorem dJ11_highSurrogate_5068e_7 : decode cJ11_highSurrogate_5068e 7 = .ok (.i2c, 1) := by decide +kernel
theorem dJ11_highSurrogate_5068e_8 : decode cJ11_highSurrogate_5068e 8 = .ok (.ireturn, 1) := by decide +kernel
theorem dJ11_lowSurrogate_5068e_0 : decode cJ11_lowSurrogate_5068e 0 = .ok (.iload_n 0, 1) := by decide +kernel
theorem dJ11_lowSurrogate_5068e_1 : decode cJ11_lowSurrogate_5068e 1 = .ok (.sipush 1023, 3) := by decide +kernel
theorem dJ11_lowSurrogate_5068e_4 : decode cJ11_lowSurrogate_5068e 4 = .ok (.iand, 1) := by decide +kernel
theorem dJ11_lowSurrogate_5068e_5 : decode cJ11_lowSurrogate_5068e 5 = .ok (.ldc 76, 2) := by decide +kernel
theorem dJ11_lowSurrogate_5068e_7 : decode cJ11_lowSurrogate_5068e 7 = .ok (.iadd, 1) := by decide +kernel
theorem dJ11_lowSurrogate_5068e_8 : decode cJ11_lowSurrogate_5068e 8 = .ok (.i2c, 1) := by decide +kernel
theorem dJ11_lowSurrogate_5068e_9 : decode cJ11_lowSurrogate_5068e 9 = .ok (.ireturn, 1) := by decide +kernel
theorem dJ2_getChar_3b067_0 : decode cJ2_getChar_3b067 0 = .ok (.getstatic 44, 3) := by decide +kernel
theorem dJ2_getChar_3b067_3 : decode cJ2_getChar_3b067 3 = .ok (.ifCond .ne 25, 3) := by decide +kernel
theorem dJ2_getChar_3b067_6 : decode cJ2_getChar_3b067 6 = .ok (.iload_n 1, 1) := by decide +kernel
theorem dJ2_getChar_3b067_7 : decode cJ2_getChar_3b067 7 = .ok (.ifCond .lt 11, 3) := by decide +kernel
theorem dJ2_getChar_3b067_10 : decode cJ2_getChar_3b067 10 = .ok (.iload_n 1, 1) := by decide +kernel
theorem dJ2_getChar_3b067_11 : decode cJ2_getChar_3b067 11 = .ok (.aload_n 0, 1) := by decide +kernel
theorem dJ2_getChar_3b067_12 : decode cJ2_getChar_3b067 12 = .ok (.invokestatic 48, 3) := by decide +kernel
theorem dJ2_getChar_3b067_15 : decode cJ2_getChar_3b067 15 = .ok (.if_icmp .lt 13, 3) := by decide +kernel
theorem dJ2_getChar_3b067_18 : decode cJ2_getChar_3b067 18 = .ok (.new 52, 3) := by decide +kernel
theorem dJ2_getChar_3b067_21 : decode cJ2_getChar_3b067 21 = .ok (.dup, 1) := by decide +kernel
theorem dJ2_getChar_3b067_22 : decode cJ2_getChar_3b067 22 = .ok (.ldc 54, 2) := by decide +kernel
theorem dJ2_getChar_3b067_24 : decode cJ2_getChar_3b067 24 = .ok (.invokespecial 56, 3) := by decide +kernel
theorem dJ2_getChar_3b067_27 : decode cJ2_getChar_3b067 27 = .ok (.athrow, 1) := by decide +kernel
theorem dJ2_getChar_3b067_28 : decode cJ2_getChar_3b067 28 = .ok (.iload_n 1, 1) := by decide +kernel
theorem dJ2_getChar_3b067_29 : decode cJ2_getChar_3b067 29 = .ok (.iconst 1, 1) := by decide +kernel
theorem dJ2_getChar_3b067_30 : decode cJ2_getChar_3b067 30 = .ok (.ishl, 1) := by decide +kernel
theorem dJ2_getChar_3b067_31 : decode cJ2_getChar_3b067 31 = .ok (.istore_n 1, 1) := by decide +kernel
theorem dJ2_getChar_3b067_32 : decode cJ2_getChar_3b067 32 = .ok (.aload_n 0, 1) := by decide +kernel
theorem dJ2_getChar_3b067_33 : decode cJ2_getChar_3b067 33 = .ok (.iload_n 1, 1) := by decide +kernel
theorem dJ2_getChar_3b067_34 : decode cJ2_getChar_3b067 34 = .ok (.iinc 1 1, 3) := by decide +kernel
theorem dJ2_getChar_3b067_37 : decode cJ2_getChar_3b067 37 = .ok (.baload, 1) := by decide +kernel
theorem dJ2_getChar_3b067_38 : decode cJ2_getChar_3b067 38 = .ok (.sipush 255, 3) := by decide +kernel
theorem dJ2_getChar_3b067_41 : decode cJ2_getChar_3b067 41 = .ok (.iand, 1) := by decide +kernel
theorem dJ2_getChar_3b067_42 : decode cJ2_getChar_3b067 42 = .ok (.getstatic 59, 3) := by decide +kernel
theorem dJ2_getChar_3b067_45 : decode cJ2_getChar_3b067 45 = .ok (.ishl, 1) := by decide +kernel
theorem dJ2_getChar_3b067_46 : decode cJ2_getChar_3b067 46 = .ok (.aload_n 0, 1) := by decide +kernel
theorem dJ2_getChar_3b067_47 : decode cJ2_getChar_3b067 47 = .ok (.iload_n 1, 1) := by decide +kernel
theorem dJ2_getChar_3b067_48 : decode cJ2_getChar_3b067 48 = .ok (.baload, 1) := by decide +kernel
theorem dJ2_getChar_3b067_49 : decode cJ2_getChar_3b067 49 = .ok (.sipush 255, 3) := by decide +kernel
theorem dJ2_getChar_3b067_52 : decode cJ2_getChar_3b067 52 = .ok (.iand, 1) := by decide +kernel
theorem dJ2_getChar_3b067_53 : decode cJ2_getChar_3b067 53 = .ok (.getstatic 63, 3) := by decide +kernel
theorem dJ2_getChar_3b067_56 : decode cJ2_getChar_3b067 56 = .ok (.ishl, 1) := by decide +kernel
theorem dJ2_getChar_3b067_57 : decode cJ2_getChar_3b067 57 = .ok (.ior, 1) := by decide +kernel
theorem dJ2_getChar_3b067_58 : decode cJ2_getChar_3b067 58 = .ok (.i2c, 1) := by decide +kernel
theorem dJ2_getChar_3b067_59 : decode cJ2_getChar_3b067 59 = .ok (.ireturn, 1) := by decide +kernel
theorem dJ2_length_9d52b_0 : decode cJ2_length_9d52b 0 = .ok (.aload_n 0, 1) := by decide +kernel
theorem dJ2_length_9d52b_1 : decode cJ2_length_9d52b 1 = .ok (.arraylength, 1) := by decide +kernel
theorem dJ2_length_9d52b_2 : decode cJ2_length_9d52b 2 = .ok (.iconst 1, 1) := by decide +kernel
theorem dJ2_length_9d52b_3 : decode cJ2_length_9d52b 3 = .ok (.ishr, 1) := by decide +kernel
theorem dJ2_length_9d52b_4 : decode cJ2_length_9d52b 4 = .ok (.ireturn, 1) := by decide +kernel
theorem dJ2_indexOf_4cfef_0 : decode cJ2_indexOf_4cfef 0 = .ok (.iload_n 2, 1) := by decide +kernel
theorem dJ2_indexOf_4cfef_1 : decode cJ2_indexOf_4cfef 1 = .ok (.iconst 0, 1) := by decide +kernel
theorem dJ2_indexOf_4cfef_2 : decode cJ2_indexOf_4cfef 2 = .ok (.invokestatic 224, 3) := by decide +kernel
theorem dJ2_indexOf_4cfef_5 : decode cJ2_indexOf_4cfef 5 = .ok (.istore_n 2, 1) := by decide +kernel
theorem dJ2_indexOf_4cfef_6 : decode cJ2_indexOf_4cfef 6 = .ok (.iload_n 3, 1) := by decide +kernel
theorem dJ2_indexOf_4cfef_7 : decode cJ2_indexOf_4cfef 7 = .ok (.aload_n 0, 1) := by decide +kernel
theorem dJ2_indexOf_4cfef_8 : decode cJ2_indexOf_4cfef 8 = .ok (.arraylength, 1) := by decide +kernel
theorem dJ2_indexOf_4cfef_9 : decode cJ2_indexOf_4cfef 9 = .ok (.iconst 1, 1) := by decide +kernel
theorem dJ2_indexOf_4cfef_10 : decode cJ2_indexOf_4cfef 10 = .ok (.ishr, 1) := by decide +kernel
theorem dJ2_indexOf_4cfef_11 : decode cJ2_indexOf_4cfef 11 = .ok (.invokestatic 183, 3) := by decide +kernel
theorem dJ2_indexOf_4cfef_14 : decode cJ2_indexOf_4cfef 14 = .ok (.istore_n 3, 1) := by decide +kernel
theorem dJ2_indexOf_4cfef_15 : decode cJ2_indexOf_4cfef 15 = .ok (.iload_n 2, 1) := by decide +kernel
theorem dJ2_indexOf_4cfef_16 : decode cJ2_indexOf_4cfef 16 = .ok (.iload_n 3, 1) := by decide +kernel
theorem dJ2_indexOf_4cfef_17 : decode cJ2_indexOf_4cfef 17 = .ok (.if_icmp .lt 5, 3) := by decide +kernel
theorem dJ2_indexOf_4cfef_20 : decode cJ2_indexOf_4cfef 20 = .ok (.iconst (-1), 1) := by decide +kernel
theorem dJ2_indexOf_4cfef_21 : decode cJ2_indexOf_4cfef 21 = .ok (.ireturn, 1) := by decide +kernel
theorem dJ2_indexOf_4cfef_22 : decode cJ2_indexOf_4cfef 22 = .ok (.iload_n 1, 1) := by decide +kernel
theorem dJ2_indexOf_4cfef_23 : decode cJ2_indexOf_4cfef 23 = .ok (.ldc 227, 2) := by decide +kernel
theorem dJ2_indexOf_4cfef_25 : decode cJ2_indexOf_4cfef 25 = .ok (.if_icmp .ge 11, 3) := by decide +kernel
theorem dJ2_indexOf_4cfef_28 : decode cJ2_indexOf_4cfef 28 = .ok (.aload_n 0, 1) := by decide +kernel
theorem dJ2_indexOf_4cfef_29 : decode cJ2_indexOf_4cfef 29 = .ok (.iload_n 1, 1) := by decide +kernel
theorem dJ2_indexOf_4cfef_30 : decode cJ2_indexOf_4cfef 30 = .ok (.iload_n 2, 1) := by decide +kernel
theorem dJ2_indexOf_4cfef_31 : decode cJ2_indexOf_4cfef 31 = .ok (.iload_n 3, 1) := by decide +kernel
theorem dJ2_indexOf_4cfef_32 : decode cJ2_indexOf_4cfef 32 = .ok (.invokestatic 228, 3) := by decide +kernel
theorem dJ2_indexOf_4cfef_35 : decode cJ2_indexOf_4cfef 35 = .ok (.ireturn, 1) := by decide +kernel
theorem dJ2_indexOf_4cfef_36 : decode cJ2_indexOf_4cfef 36 = .ok (.aload_n 0, 1) := by decide +kernel
theorem dJ2_indexOf_4cfef_37 : decode cJ2_indexOf_4cfef 37 = .ok (.iload_n 1, 1) := by decide +kernel
theorem dJ2_indexOf_4cfef_38 : decode cJ2_indexOf_4cfef 38 = .ok (.iload_n 2, 1) := by decide +kernel
theorem dJ2_indexOf_4cfef_39 : decode cJ2_indexOf_4cfef 39 = .ok (.iload_n 3, 1) := by decide +kernel
theorem dJ2_indexOf_4cfef_40 : decode cJ2_indexOf_4cfef 40 = .ok (.invokestatic 232, 3) := by decide +kernel
theorem dJ2_indexOf_4cfef_43 : decode cJ2_indexOf_4cfef 43 = .ok (.ireturn, 1) := by decide +kernel
theorem dJ2_indexOfChar_4cfef_0 : decode cJ2_indexOfChar_4cfef 0 = .ok (.iload_n 2, 1) := by decide +kernel
theorem dJ2_indexOfChar_4cfef_1 : decode cJ2_indexOfChar_4cfef 1 = .ok (.iload_n 3, 1) := by decide +kernel
theorem dJ2_indexOfChar_4cfef_2 : decode cJ2_indexOfChar_4cfef 2 = .ok (.aload_n 0, 1) := by decide +kernel
theorem dJ2_indexOfChar_4cfef_3 : decode cJ2_indexOfChar_4cfef 3 = .ok (.invokestatic 96, 3) := by decide +kernel
theorem dJ2_indexOfChar_4cfef_6 : decode cJ2_indexOfChar_4cfef 6 = .ok (.aload_n 0, 1) := by decide +kernel
theorem dJ2_indexOfChar_4cfef_7 : decode cJ2_indexOfChar_4cfef 7 = .ok (.iload_n 1, 1) := by decide +kernel
theorem dJ2_indexOfChar_4cfef_8 : decode cJ2_indexOfChar_4cfef 8 = .ok (.iload_n 2, 1) := by decide +kernel
theorem dJ2_indexOfChar_4cfef_9 : decode cJ2_indexOfChar_4cfef 9 = .ok (.iload_n 3, 1) := by decide +kernel
theorem dJ2_indexOfChar_4cfef_10 : decode cJ2_indexOfChar_4cfef 10 = .ok (.invokestatic 244, 3) := by decide +kernel
theorem dJ2_indexOfChar_4cfef_13 : decode cJ2_indexOfChar_4cfef 13 = .ok (.ireturn, 1) := by decide +kernel
theorem dJ2_indexOfCharUnsafe_4cfef_0 : decode cJ2_indexOfCharUnsafe_4cfef 0 = .ok (.iload_n 2, 1) := by decide +kernel
theorem dJ2_indexOfCharUnsafe_4cfef_1 : decode cJ2_indexOfCharUnsafe_4cfef 1 = .ok (.istore 4, 2) := by decide +kernel
theorem dJ2_indexOfCharUnsafe_4cfef_3 : decode cJ2_indexOfCharUnsafe_4cfef 3 = .ok (.iload 4, 2) := by decide +kernel
theorem dJ2_indexOfCharUnsafe_4cfef_5 : decode cJ2_indexOfCharUnsafe_4cfef 5 = .ok (.iload_n 3, 1) := by decide +kernel
theorem dJ2_indexOfCharUnsafe_4cfef_6 : decode cJ2_indexOfCharUnsafe_4cfef 6 = .ok (.if_icmp .ge 22, 3) := by decide +kernel
theorem dJ2_indexOfCharUnsafe_4cfef_9 : decode cJ2_indexOfCharUnsafe_4cfef 9 = .ok (.aload_n 0, 1) := by decide +kernel
theorem dJ2_indexOfCharUnsafe_4cfef_10 : decode cJ2_indexOfCharUnsafe_4cfef 10 = .ok (.iload 4, 2) := by decide +kernel
theorem dJ2_indexOfCharUnsafe_4cfef_12 : decode cJ2_indexOfCharUnsafe_4cfef 12 = .ok (.invokestatic 71, 3) := by decide +kernel
theorem dJ2_indexOfCharUnsafe_4cfef_15 : decode cJ2_indexOfCharUnsafe_4cfef 15 = .ok (.iload_n 1, 1) := by decide +kernel
theorem dJ2_indexOfCharUnsafe_4cfef_16 : decode cJ2_indexOfCharUnsafe_4cfef 16 = .ok (.if_icmp .ne 6, 3) := by decide +kernel
theorem dJ2_indexOfCharUnsafe_4cfef_19 : decode cJ2_indexOfCharUnsafe_4cfef 19 = .ok (.iload 4, 2) := by decide +kernel
theorem dJ2_indexOfCharUnsafe_4cfef_21 : decode cJ2_indexOfCharUnsafe_4cfef 21 = .ok (.ireturn, 1) := by decide +kernel
theorem dJ2_indexOfCharUnsafe_4cfef_22 : decode cJ2_indexOfCharUnsafe_4cfef 22 = .ok (.iinc 4 1, 3) := by decide +kernel
theorem dJ2_indexOfCharUnsafe_4cfef_25 : decode cJ2_indexOfCharUnsafe_4cfef 25 = .ok (.goto (-22), 3) := by decide +kernel
theorem dJ2_indexOfCharUnsafe_4cfef_28 : decode cJ2_indexOfCharUnsafe_4cfef 28 = .ok (.iconst (-1), 1) := by decide +kernel
theorem dJ2_indexOfCharUnsafe_4cfef_29 : decode cJ2_indexOfCharUnsafe_4cfef 29 = .ok (.ireturn, 1) := by decide +kernel
theorem dJ2_indexOfSupplementary_4cfef_0 : decode cJ2_indexOfSupplementary_4cfef 0 = .ok (.iload_n 1, 1) := by decide +kernel
theorem dJ2_indexOfSupplementary_4cfef_1 : decode cJ2_indexOfSupplementary_4cfef 1 = .ok (.invokestatic 164, 3) := by decide +kernel
theorem dJ2_indexOfSupplementary_4cfef_4 : decode cJ2_indexOfSupplementary_4cfef 4 = .ok (.ifCond .eq 65, 3) := by decide +kernel
theorem dJ2_indexOfSupplementary_4cfef_7 : decode cJ2_indexOfSupplementary_4cfef 7 = .ok (.iload_n 1, 1) := by decide +kernel
theorem dJ2_indexOfSupplementary_4cfef_8 : decode cJ2_indexOfSupplementary_4cfef 8 = .ok (.invokestatic 157, 3) := by decide +kernel
theorem dJ2_indexOfSupplementary_4cfef_11 : decode cJ2_indexOfSupplementary_4cfef 11 = .ok (.istore 4, 2) := by decide +kernel
theorem dJ2_indexOfSupplementary_4cfef_13 : decode cJ2_indexOfSupplementary_4cfef 13 = .ok (.iload_n 1, 1) := by decide +kernel
theorem dJ2_indexOfSupplementary_4cfef_14 : decode cJ2_indexOfSupplementary_4cfef 14 = .ok (.invokestatic 161, 3) := by decide +kernel
theorem dJ2_indexOfSupplementary_4cfef_17 : decode cJ2_indexOfSupplementary_4cfef 17 = .ok (.istore 5, 2) := by decide +kernel
theorem dJ2_indexOfSupplementary_4cfef_19 : decode cJ2_indexOfSupplementary_4cfef 19 = .ok (.iload_n 2, 1) := by decide +kernel
theorem dJ2_indexOfSupplementary_4cfef_20 : decode cJ2_indexOfSupplementary_4cfef 20 = .ok (.iload_n 3, 1) := by decide +kernel
theorem dJ2_indexOfSupplementary_4cfef_21 : decode cJ2_indexOfSupplementary_4cfef 21 = .ok (.aload_n 0, 1) := by decide +kernel
theorem dJ2_indexOfSupplementary_4cfef_22 : decode cJ2_indexOfSupplementary_4cfef 22 = .ok (.invokestatic 96, 3) := by decide +kernel
theorem dJ2_indexOfSupplementary_4cfef_25 : decode cJ2_indexOfSupplementary_4cfef 25 = .ok (.iload_n 2, 1) := by decide +kernel
theorem dJ2_indexOfSupplementary_4cfef_26 : decode cJ2_indexOfSupplementary_4cfef 26 = .ok (.istore 6, 2) := by decide +kernel
theorem dJ2_indexOfSupplementary_4cfef_28 : decode cJ2_indexOfSupplementary_4cfef 28 = .ok (.iload 6, 2) := by decide +kernel
theorem dJ2_indexOfSupplementary_4cfef_30 : decode cJ2_indexOfSupplementary_4cfef 30 = .ok (.iload_n 3, 1) := by decide +kernel
theorem dJ2_indexOfSupplementary_4cfef_31 : decode cJ2_indexOfSupplementary_4cfef 31 = .ok (.iconst 1, 1) := by decide +kernel
theorem dJ2_indexOfSupplementary_4cfef_32 : decode cJ2_indexOfSupplementary_4cfef 32 = .ok (.isub, 1) := by decide +kernel
theorem dJ2_indexOfSupplementary_4cfef_33 : decode cJ2_indexOfSupplementary_4cfef 33 = .ok (.if_icmp .ge 36, 3) := by decide +kernel
theorem dJ2_indexOfSupplementary_4cfef_36 : decode cJ2_indexOfSupplementary_4cfef 36 = .ok (.aload_n 0, 1) := by decide +kernel
theorem dJ2_indexOfSupplementary_4cfef_37 : decode cJ2_indexOfSupplementary_4cfef 37 = .ok (.iload 6, 2) := by decide +kernel
theorem dJ2_indexOfSupplementary_4cfef_39 : decode cJ2_indexOfSupplementary_4cfef 39 = .ok (.invokestatic 71, 3) := by decide +kernel
theorem dJ2_indexOfSupplementary_4cfef_42 : decode cJ2_indexOfSupplementary_4cfef 42 = .ok (.iload 4, 2) := by decide +kernel
theorem dJ2_indexOfSupplementary_4cfef_44 : decode cJ2_indexOfSupplementary_4cfef 44 = .ok (.if_icmp .ne 19, 3) := by decide +kernel
theorem dJ2_indexOfSupplementary_4cfef_47 : decode cJ2_indexOfSupplementary_4cfef 47 = .ok (.aload_n 0, 1) := by decide +kernel
theorem dJ2_indexOfSupplementary_4cfef_48 : decode cJ2_indexOfSupplementary_4cfef 48 = .ok (.iload 6, 2) := by decide +kernel
theorem dJ2_indexOfSupplementary_4cfef_50 : decode cJ2_indexOfSupplementary_4cfef 50 = .ok (.iconst 1, 1) := by decide +kernel
theorem dJ2_indexOfSupplementary_4cfef_51 : decode cJ2_indexOfSupplementary_4cfef 51 = .ok (.iadd, 1) := by decide +kernel
theorem dJ2_indexOfSupplementary_4cfef_52 : decode cJ2_indexOfSupplementary_4cfef 52 = .ok (.invokestatic 71, 3) := by decide +kernel
theorem dJ2_indexOfSupplementary_4cfef_55 : decode cJ2_indexOfSupplementary_4cfef 55 = .ok (.iload 5, 2) := by decide +kernel
theorem dJ2_indexOfSupplementary_4cfef_57 : decode cJ2_indexOfSupplementary_4cfef 57 = .ok (.if_icmp .ne 6, 3) := by decide +kernel
theorem dJ2_indexOfSupplementary_4cfef_60 : decode cJ2_indexOfSupplementary_4cfef 60 = .ok (.iload 6, 2) := by decide +kernel
theorem dJ2_indexOfSupplementary_4cfef_62 : decode cJ2_indexOfSupplementary_4cfef 62 = .ok (.ireturn, 1) := by decide +kernel
theorem dJ2_indexOfSupplementary_4cfef_63 : decode cJ2_indexOfSupplementary_4cfef 63 = .ok (.iinc 6 1, 3) := by decide +kernel
theorem dJ2_indexOfSupplementary_4cfef_66 : decode cJ2_indexOfSupplementary_4cfef 66 = .ok (.goto (-38), 3) := by decide +kernel
theorem dJ2_indexOfSupplementary_4cfef_69 : decode cJ2_indexOfSupplementary_4cfef 69 = .ok (.iconst (-1), 1) := by decide +kernel
theorem dJ2_indexOfSupplementary_4cfef_70 : decode cJ2_indexOfSupplementary_4cfef 70 = .ok (.ireturn, 1) := by decide +kernel
theorem dJ2_checkBoundsBeginEnd_d044e_0 : decode cJ2_checkBoundsBeginEnd_d044e 0 = .ok (.iload_n 0, 1) := by decide +kernel
theorem dJ2_checkBoundsBeginEnd_d044e_1 : decode cJ2_checkBoundsBeginEnd_d044e 1 = .ok (.iload_n 1, 1) := by decide +kernel
theorem dJ2_checkBoundsBeginEnd_d044e_2 : decode cJ2_checkBoundsBeginEnd_d044e 2 = .ok (.aload_n 2, 1) := by decide +kernel
theorem dJ2_checkBoundsBeginEnd_d044e_3 : decode cJ2_checkBoundsBeginEnd_d044e 3 = .ok (.invokestatic 48, 3) := by decide +kernel
theorem dJ2_checkBoundsBeginEnd_d044e_6 : decode cJ2_checkBoundsBeginEnd_d044e 6 = .ok (.invokestatic 241, 3) := by decide +kernel
theorem dJ2_checkBoundsBeginEnd_d044e_9 : decode cJ2_checkBoundsBeginEnd_d044e 9 = .ok (.return_, 1) := by decide +kernel
theorem dJ3_checkFromToIndex_8c36e_0 : decode cJ3_checkFromToIndex_8c36e 0 = .ok (.iload_n 0, 1) := by decide +kernel
theorem dJ3_checkFromToIndex_8c36e_1 : decode cJ3_checkFromToIndex_8c36e 1 = .ok (.ifCond .lt 13, 3) := by decide +kernel
theorem dJ3_checkFromToIndex_8c36e_4 : decode cJ3_checkFromToIndex_8c36e 4 = .ok (.iload_n 0, 1) := by decide +kernel
theorem dJ3_checkFromToIndex_8c36e_5 : decode cJ3_checkFromToIndex_8c36e 5 = .ok (.iload_n 1, 1) := by decide +kernel
theorem dJ3_checkFromToIndex_8c36e_6 : decode cJ3_checkFromToIndex_8c36e 6 = .ok (.if_icmp .gt 8, 3) := by decide +kernel
theorem dJ3_checkFromToIndex_8c36e_9 : decode cJ3_checkFromToIndex_8c36e 9 = .ok (.iload_n 1, 1) := by decide +kernel
theorem dJ3_checkFromToIndex_8c36e_10 : decode cJ3_checkFromToIndex_8c36e 10 = .ok (.iload_n 2, 1) := by decide +kernel
theorem dJ3_checkFromToIndex_8c36e_11 : decode cJ3_checkFromToIndex_8c36e 11 = .ok (.if_icmp .le 11, 3) := by decide +kernel
theorem dJ3_checkFromToIndex_8c36e_14 : decode cJ3_checkFromToIndex_8c36e 14 = .ok (.aload_n 3, 1) := by decide +kernel
theorem dJ3_checkFromToIndex_8c36e_15 : decode cJ3_checkFromToIndex_8c36e 15 = .ok (.iload_n 0, 1) := by decide +kernel
theorem dJ3_checkFromToIndex_8c36e_16 : decode cJ3_checkFromToIndex_8c36e 16 = .ok (.iload_n 1, 1) := by decide +kernel
theorem dJ3_checkFromToIndex_8c36e_17 : decode cJ3_checkFromToIndex_8c36e 17 = .ok (.iload_n 2, 1) := by decide +kernel
theorem dJ3_checkFromToIndex_8c36e_18 : decode cJ3_checkFromToIndex_8c36e 18 = .ok (.invokestatic 99, 3) := by decide +kernel
theorem dJ3_checkFromToIndex_8c36e_21 : decode cJ3_checkFromToIndex_8c36e 21 = .ok (.athrow, 1) := by decide +kernel
theorem dJ3_checkFromToIndex_8c36e_22 : decode cJ3_checkFromToIndex_8c36e 22 = .ok (.iload_n 0, 1) := by decide +kernel
theorem dJ3_checkFromToIndex_8c36e_23 : decode cJ3_checkFromToIndex_8c36e 23 = .ok (.ireturn, 1) := by decide +kernel
theorem dJ6_bitCount_0f7a4_0 : decode cJ6_bitCount_0f7a4 0 = .ok (.iload_n 0, 1) := by decide +kernel
theorem dJ6_bitCount_0f7a4_1 : decode cJ6_bitCount_0f7a4 1 = .ok (.iload_n 0, 1) := by decide +kernel
theorem dJ6_bitCount_0f7a4_2 : decode cJ6_bitCount_0f7a4 2 = .ok (.iconst 1, 1) := by decide +kernel
theorem dJ6_bitCount_0f7a4_3 : decode cJ6_bitCount_0f7a4 3 = .ok (.iushr, 1) := by decide +kernel
theorem dJ6_bitCount_0f7a4_4 : decode cJ6_bitCount_0f7a4 4 = .ok (.ldc_w 265, 3) := by decide +kernel
theorem dJ6_bitCount_0f7a4_7 : decode cJ6_bitCount_0f7a4 7 = .ok (.iand, 1) := by decide +kernel
theorem dJ6_bitCount_0f7a4_8 : decode cJ6_bitCount_0f7a4 8 = .ok (.isub, 1) := by decide +kernel
theorem dJ6_bitCount_0f7a4_9 : decode cJ6_bitCount_0f7a4 9 = .ok (.istore_n 0, 1) := by decide +kernel
theorem dJ6_bitCount_0f7a4_10 : decode cJ6_bitCount_0f7a4 10 = .ok (.iload_n 0, 1) := by decide +kernel
theorem dJ6_bitCount_0f7a4_11 : decode cJ6_bitCount_0f7a4 11 = .ok (.ldc_w 266, 3) := by decide +kernel
theorem dJ6_bitCount_0f7a4_14 : decode cJ6_bitCount_0f7a4 14 = .ok (.iand, 1) := by decide +kernel
theorem dJ6_bitCount_0f7a4_15 : decode cJ6_bitCount_0f7a4 15 = .ok (.iload_n 0, 1) := by decide +kernel
theorem dJ6_bitCount_0f7a4_16 : decode cJ6_bitCount_0f7a4 16 = .ok (.iconst 2, 1) := by decide +kernel
theorem dJ6_bitCount_0f7a4_17 : decode cJ6_bitCount_0f7a4 17 = .ok (.iushr, 1) := by decide +kernel
theorem dJ6_bitCount_0f7a4_18 : decode cJ6_bitCount_0f7a4 18 = .ok (.ldc_w 266, 3) := by decide +kernel
theorem dJ6_bitCount_0f7a4_21 : decode cJ6_bitCount_0f7a4 21 = .ok (.iand, 1) := by decide +kernel
theorem dJ6_bitCount_0f7a4_22 : decode cJ6_bitCount_0f7a4 22 = .ok (.iadd, 1) := by decide +kernel
theorem dJ6_bitCount_0f7a4_23 : decode cJ6_bitCount_0f7a4 23 = .ok (.istore_n 0, 1) := by decide +kernel
theorem dJ6_bitCount_0f7a4_24 : decode cJ6_bitCount_0f7a4 24 = .ok (.iload_n 0, 1) := by decide +kernel
theorem dJ6_bitCount_0f7a4_25 : decode cJ6_bitCount_0f7a4 25 = .ok (.iload_n 0, 1) := by decide +kernel
theorem dJ6_bitCount_0f7a4_26 : decode cJ6_bitCount_0f7a4 26 = .ok (.iconst 4, 1) := by decide +kernel
theorem dJ6_bitCount_0f7a4_27 : decode cJ6_bitCount_0f7a4 27 = .ok (.iushr, 1) := by decide +kernel
theorem dJ6_bitCount_0f7a4_28 : decode cJ6_bitCount_0f7a4 28 = .ok (.iadd, 1) := by decide +kernel
theorem dJ6_bitCount_0f7a4_29 : decode cJ6_bitCount_0f7a4 29 = .ok (.ldc_w 267, 3) := by decide +kernel
theorem dJ6_bitCount_0f7a4_32 : decode cJ6_bitCount_0f7a4 32 = .ok (.iand, 1) := by decide +kernel
theorem dJ6_bitCount_0f7a4_33 : decode cJ6_bitCount_0f7a4 33 = .ok (.istore_n 0, 1) := by decide +kernel
theorem dJ6_bitCount_0f7a4_34 : decode cJ6_bitCount_0f7a4 34 = .ok (.iload_n 0, 1) := by decide +kernel
theorem dJ6_bitCount_0f7a4_35 : decode cJ6_bitCount_0f7a4 35 = .ok (.iload_n 0, 1) := by decide +kernel
theorem dJ6_bitCount_0f7a4_36 : decode cJ6_bitCount_0f7a4 36 = .ok (.bipush 8, 2) := by decide +kernel
theorem dJ6_bitCount_0f7a4_38 : decode cJ6_bitCount_0f7a4 38 = .ok (.iushr, 1) := by decide +kernel
theorem dJ6_bitCount_0f7a4_39 : decode cJ6_bitCount_0f7a4 39 = .ok (.iadd, 1) := by decide +kernel
theorem dJ6_bitCount_0f7a4_40 : decode cJ6_bitCount_0f7a4 40 = .ok (.istore_n 0, 1) := by decide +kernel
theorem dJ6_bitCount_0f7a4_41 : decode cJ6_bitCount_0f7a4 41 = .ok (.iload_n 0, 1) := by decide +kernel
theorem dJ6_bitCount_0f7a4_42 : decode cJ6_bitCount_0f7a4 42 = .ok (.iload_n 0, 1) := by decide +kernel
theorem dJ6_bitCount_0f7a4_43 : decode cJ6_bitCount_0f7a4 43 = .ok (.bipush 16, 2) := by decide +kernel
theorem dJ6_bitCount_0f7a4_45 : decode cJ6_bitCount_0f7a4 45 = .ok (.iushr, 1) := by decide +kernel
theorem dJ6_bitCount_0f7a4_46 : decode cJ6_bitCount_0f7a4 46 = .ok (.iadd, 1) := by decide +kernel
theorem dJ6_bitCount_0f7a4_47 : decode cJ6_bitCount_0f7a4 47 = .ok (.istore_n 0, 1) := by decide +kernel
theorem dJ6_bitCount_0f7a4_48 : decode cJ6_bitCount_0f7a4 48 = .ok (.iload_n 0, 1) := by decide +kernel
theorem dJ6_bitCount_0f7a4_49 : decode cJ6_bitCount_0f7a4 49 = .ok (.bipush 63, 2) := by decide +kernel
theorem dJ6_bitCount_0f7a4_51 : decode cJ6_bitCount_0f7a4 51 = .ok (.iand, 1) := by decide +kernel
theorem dJ6_bitCount_0f7a4_52 : decode cJ6_bitCount_0f7a4 52 = .ok (.ireturn, 1) := by decide +kernel
theorem dJ7_fill_53178_0 : decode cJ7_fill_53178 0 = .ok (.iconst 0, 1) := by decide +kernel
theorem dJ7_fill_53178_1 : decode cJ7_fill_53178 1 = .ok (.istore_n 2, 1) := by decide +kernel
theorem dJ7_fill_53178_2 : decode cJ7_fill_53178 2 = .ok (.aload_n 0, 1) := by decide +kernel
theorem dJ7_fill_53178_3 : decode cJ7_fill_53178 3 = .ok (.arraylength, 1) := by decide +kernel
theorem dJ7_fill_53178_4 : decode cJ7_fill_53178 4 = .ok (.istore_n 3, 1) := by decide +kernel
theorem dJ7_fill_53178_5 : decode cJ7_fill_53178 5 = .ok (.iload_n 2, 1) := by decide +kernel
theorem dJ7_fill_53178_6 : decode cJ7_fill_53178 6 = .ok (.iload_n 3, 1) := by decide +kernel
theorem dJ7_fill_53178_7 : decode cJ7_fill_53178 7 = .ok (.if_icmp .ge 13, 3) := by decide +kernel
theorem dJ7_fill_53178_10 : decode cJ7_fill_53178 10 = .ok (.aload_n 0, 1) := by decide +kernel
theorem dJ7_fill_53178_11 : decode cJ7_fill_53178 11 = .ok (.iload_n 2, 1) := by decide +kernel
theorem dJ7_fill_53178_12 : decode cJ7_fill_53178 12 = .ok (.iload_n 1, 1) := by decide +kernel
theorem dJ7_fill_53178_13 : decode cJ7_fill_53178 13 = .ok (.iastore, 1) := by decide +kernel
theorem dJ7_fill_53178_14 : decode cJ7_fill_53178 14 = .ok (.iinc 2 1, 3) := by decide +kernel
theorem dJ7_fill_53178_17 : decode cJ7_fill_53178 17 = .ok (.goto (-12), 3) := by decide +kernel
theorem dJ7_fill_53178_20 : decode cJ7_fill_53178 20 = .ok (.return_, 1) := by decide +kernel
theorem dJ9_max_7cf53_0 : decode cJ9_max_7cf53 0 = .ok (.iload_n 0, 1) := by decide +kernel
theorem dJ9_max_7cf53_1 : decode cJ9_max_7cf53 1 = .ok (.iload_n 1, 1) := by decide +kernel
theorem dJ9_max_7cf53_2 : decode cJ9_max_7cf53 2 = .ok (.if_icmp .lt 7, 3) := by decide +kernel
theorem dJ9_max_7cf53_5 : decode cJ9_max_7cf53 5 = .ok (.iload_n 0, 1) := by decide +kernel
theorem dJ9_max_7cf53_6 : decode cJ9_max_7cf53 6 = .ok (.goto 4, 3) := by decide +kernel
theorem dJ9_max_7cf53_9 : decode cJ9_max_7cf53 9 = .ok (.iload_n 1, 1) := by decide +kernel
theorem dJ9_max_7cf53_10 : decode cJ9_max_7cf53 10 = .ok (.ireturn, 1) := by decide +kernel
theorem dJ9_min_7cf53_0 : decode cJ9_min_7cf53 0 = .ok (.iload_n 0, 1) := by decide +kernel
theorem dJ9_min_7cf53_1 : decode cJ9_min_7cf53 1 = .ok (.iload_n 1, 1) := by decide +kernel
theorem dJ9_min_7cf53_2 : decode cJ9_min_7cf53 2 = .ok (.if_icmp .gt 7, 3) := by decide +kernel
theorem dJ9_min_7cf53_5 : decode cJ9_min_7cf53 5 = .ok (.iload_n 0, 1) := by decide +kernel
theorem dJ9_min_7cf53_6 : decode cJ9_min_7cf53 6 = .ok (.goto 4, 3) := by decide +kernel
theorem dJ9_min_7cf53_9 : decode cJ9_min_7cf53 9 = .ok (.iload_n 1, 1) := by decide +kernel
theorem dJ9_min_7cf53_10 : decode cJ9_min_7cf53 10 = .ok (.ireturn, 1) := by decide +kernel
theorem dX0_init_0 : decode cX0_init 0 = .ok (.aload_n 0, 1) := by decide +kernel
theorem dX0_init_1 : decode cX0_init 1 = .ok (.invokespecial 3, 3) := by decide +kernel
theorem dX0_init_4 : decode cX0_init 4 = .ok (.aload_n 0, 1) := by decide +kernel
theorem dX0_init_5 : decode cX0_init 5 = .ok (.bipush 8, 2) := by decide +kernel
theorem dX0_init_7 : decode cX0_init 7 = .ok (.bipush 11, 2) := by decide +kernel
theorem dX0_init_9 : decode cX0_init 9 = .ok (.multianewarray 9 2, 4) := by decide +kernel
theorem dX0_init_13 : decode cX0_init 13 = .ok (.putfield 11, 3) := by decide +kernel
theorem dX0_init_16 : decode cX0_init 16 = .ok (.aload_n 0, 1) := by decide +kernel
theorem dX0_init_17 : decode cX0_init 17 = .ok (.iconst (-1), 1) := by decide +kernel
theorem dX0_init_18 : decode cX0_init 18 = .ok (.putfield 16, 3) := by decide +kernel
theorem dX0_init_21 : decode cX0_init 21 = .ok (.return_, 1) := by decide +kernel
theorem dX0_forgetAll_0 : decode cX0_forgetAll 0 = .ok (.aload_n 0, 1) := by decide +kernel
theorem dX0_forgetAll_1 : decode cX0_forgetAll 1 = .ok (.iconst (-1), 1) := by decide +kernel
theorem dX0_forgetAll_2 : decode cX0_forgetAll 2 = .ok (.putfield 16, 3) := by decide +kernel
theorem dX0_forgetAll_5 : decode cX0_forgetAll 5 = .ok (.return_, 1) := by decide +kernel
theorem dX0_startFor_0 : decode cX0_startFor 0 = .ok (.iconst 0, 1) := by decide +kernel
theorem dX0_startFor_1 : decode cX0_startFor 1 = .ok (.istore_n 2, 1) := by decide +kernel
theorem dX0_startFor_2 : decode cX0_startFor 2 = .ok (.iload_n 2, 1) := by decide +kernel
theorem dX0_startFor_3 : decode cX0_startFor 3 = .ok (.bipush 8, 2) := by decide +kernel
theorem dX0_startFor_5 : decode cX0_startFor 5 = .ok (.if_icmp .ge 19, 3) := by decide +kernel
theorem dX0_startFor_8 : decode cX0_startFor 8 = .ok (.aload_n 0, 1) := by decide +kernel
theorem dX0_startFor_9 : decode cX0_startFor 9 = .ok (.getfield 11, 3) := by decide +kernel
theorem dX0_startFor_12 : decode cX0_startFor 12 = .ok (.iload_n 2, 1) := by decide +kernel
theorem dX0_startFor_13 : decode cX0_startFor 13 = .ok (.aaload, 1) := by decide +kernel
theorem dX0_startFor_14 : decode cX0_startFor 14 = .ok (.iconst 0, 1) := by decide +kernel
theorem dX0_startFor_15 : decode cX0_startFor 15 = .ok (.invokestatic 20, 3) := by decide +kernel
theorem dX0_startFor_18 : decode cX0_startFor 18 = .ok (.iinc 2 1, 3) := by decide +kernel
theorem dX0_startFor_21 : decode cX0_startFor 21 = .ok (.goto (-19), 3) := by decide +kernel
theorem dX0_startFor_24 : decode cX0_startFor 24 = .ok (.aload_n 0, 1) := by decide +kernel
theorem dX0_startFor_25 : decode cX0_startFor 25 = .ok (.iload_n 1, 1) := by decide +kernel
theorem dX0_startFor_26 : decode cX0_startFor 26 = .ok (.putfield 16, 3) := by decide +kernel
theorem dX0_startFor_29 : decode cX0_startFor 29 = .ok (.return_, 1) := by decide +kernel
theorem dX0_addCase_0 : decode cX0_addCase 0 = .ok (.iconst 0, 1) := by decide +kernel
theorem dX0_addCase_1 : decode cX0_addCase 1 = .ok (.istore_n 3, 1) := by decide +kernel
theorem dX0_addCase_2 : decode cX0_addCase 2 = .ok (.iload_n 3, 1) := by decide +kernel
theorem dX0_addCase_3 : decode cX0_addCase 3 = .ok (.bipush 8, 2) := by decide +kernel
theorem dX0_addCase_5 : decode cX0_addCase 5 = .ok (.if_icmp .ge 29, 3) := by decide +kernel
theorem dX0_addCase_8 : decode cX0_addCase 8 = .ok (.iload_n 2, 1) := by decide +kernel
theorem dX0_addCase_9 : decode cX0_addCase 9 = .ok (.iload_n 3, 1) := by decide +kernel
theorem dX0_addCase_10 : decode cX0_addCase 10 = .ok (.ishr, 1) := by decide +kernel
theorem dX0_addCase_11 : decode cX0_addCase 11 = .ok (.iconst 1, 1) := by decide +kernel
theorem dX0_addCase_12 : decode cX0_addCase 12 = .ok (.iand, 1) := by decide +kernel
theorem dX0_addCase_13 : decode cX0_addCase 13 = .ok (.ifCond .eq 15, 3) := by decide +kernel
theorem dX0_addCase_16 : decode cX0_addCase 16 = .ok (.aload_n 0, 1) := by decide +kernel
theorem dX0_addCase_17 : decode cX0_addCase 17 = .ok (.getfield 11, 3) := by decide +kernel
theorem dX0_addCase_20 : decode cX0_addCase 20 = .ok (.iload_n 3, 1) := by decide +kernel
theorem dX0_addCase_21 : decode cX0_addCase 21 = .ok (.aaload, 1) := by decide +kernel
theorem dX0_addCase_22 : decode cX0_addCase 22 = .ok (.iload_n 1, 1) := by decide +kernel
theorem dX0_addCase_23 : decode cX0_addCase 23 = .ok (.dup2, 1) := by decide +kernel
theorem dX0_addCase_24 : decode cX0_addCase 24 = .ok (.iaload, 1) := by decide +kernel
theorem dX0_addCase_25 : decode cX0_addCase 25 = .ok (.iconst 1, 1) := by decide +kernel
theorem dX0_addCase_26 : decode cX0_addCase 26 = .ok (.iadd, 1) := by decide +kernel
theorem dX0_addCase_27 : decode cX0_addCase 27 = .ok (.iastore, 1) := by decide +kernel
theorem dX0_addCase_28 : decode cX0_addCase 28 = .ok (.iinc 3 1, 3) := by decide +kernel
theorem dX0_addCase_31 : decode cX0_addCase 31 = .ok (.goto (-29), 3) := by decide +kernel
theorem dX0_addCase_34 : decode cX0_addCase 34 = .ok (.return_, 1) := by decide +kernel
theorem dX0_weightOf_0 : decode cX0_weightOf 0 = .ok (.lconst 0, 1) := by decide +kernel
theorem dX0_weightOf_1 : decode cX0_weightOf 1 = .ok (.lstore_n 3, 1) := by decide +kernel
theorem dX0_weightOf_2 : decode cX0_weightOf 2 = .ok (.iconst 0, 1) := by decide +kernel
theorem dX0_weightOf_3 : decode cX0_weightOf 3 = .ok (.istore 5, 2) := by decide +kernel
theorem dX0_weightOf_5 : decode cX0_weightOf 5 = .ok (.iload 5, 2) := by decide +kernel
theorem dX0_weightOf_7 : decode cX0_weightOf 7 = .ok (.aload_n 0, 1) := by decide +kernel
theorem dX0_weightOf_8 : decode cX0_weightOf 8 = .ok (.getfield 16, 3) := by decide +kernel
theorem dX0_weightOf_11 : decode cX0_weightOf 11 = .ok (.iconst 1, 1) := by decide +kernel
theorem dX0_weightOf_12 : decode cX0_weightOf 12 = .ok (.iadd, 1) := by decide +kernel
theorem dX0_weightOf_13 : decode cX0_weightOf 13 = .ok (.if_icmp .gt 66, 3) := by decide +kernel
theorem dX0_weightOf_16 : decode cX0_weightOf 16 = .ok (.aload_n 0, 1) := by decide +kernel
theorem dX0_weightOf_17 : decode cX0_weightOf 17 = .ok (.getfield 11, 3) := by decide +kernel
theorem dX0_weightOf_20 : decode cX0_weightOf 20 = .ok (.iload_n 1, 1) := by decide +kernel
theorem dX0_weightOf_21 : decode cX0_weightOf 21 = .ok (.aaload, 1) := by decide +kernel
theorem dX0_weightOf_22 : decode cX0_weightOf 22 = .ok (.iload 5, 2) := by decide +kernel
theorem dX0_weightOf_24 : decode cX0_weightOf 24 = .ok (.iaload, 1) := by decide +kernel
theorem dX0_weightOf_25 : decode cX0_weightOf 25 = .ok (.i2l, 1) := by decide +kernel
theorem dX0_weightOf_26 : decode cX0_weightOf 26 = .ok (.lstore 6, 2) := by decide +kernel
theorem dX0_weightOf_28 : decode cX0_weightOf 28 = .ok (.iconst 0, 1) := by decide +kernel
theorem dX0_weightOf_29 : decode cX0_weightOf 29 = .ok (.istore 8, 2) := by decide +kernel
theorem dX0_weightOf_31 : decode cX0_weightOf 31 = .ok (.iload 8, 2) := by decide +kernel
theorem dX0_weightOf_33 : decode cX0_weightOf 33 = .ok (.aload_n 0, 1) := by decide +kernel
theorem dX0_weightOf_34 : decode cX0_weightOf 34 = .ok (.getfield 16, 3) := by decide +kernel
theorem dX0_weightOf_37 : decode cX0_weightOf 37 = .ok (.if_icmp .gt 31, 3) := by decide +kernel
theorem dX0_weightOf_40 : decode cX0_weightOf 40 = .ok (.lload 6, 2) := by decide +kernel
theorem dX0_weightOf_42 : decode cX0_weightOf 42 = .ok (.iload 8, 2) := by decide +kernel
theorem dX0_weightOf_44 : decode cX0_weightOf 44 = .ok (.iload 5, 2) := by decide +kernel
theorem dX0_weightOf_46 : decode cX0_weightOf 46 = .ok (.if_icmp .ge 8, 3) := by decide +kernel
theorem dX0_weightOf_49 : decode cX0_weightOf 49 = .ok (.iload_n 2, 1) := by decide +kernel
theorem dX0_weightOf_50 : decode cX0_weightOf 50 = .ok (.i2l, 1) := by decide +kernel
theorem dX0_weightOf_51 : decode cX0_weightOf 51 = .ok (.goto 8, 3) := by decide +kernel
theorem dX0_weightOf_54 : decode cX0_weightOf 54 = .ok (.bipush 16, 2) := by decide +kernel
theorem dX0_weightOf_56 : decode cX0_weightOf 56 = .ok (.iload_n 2, 1) := by decide +kernel
theorem dX0_weightOf_57 : decode cX0_weightOf 57 = .ok (.isub, 1) := by decide +kernel
theorem dX0_weightOf_58 : decode cX0_weightOf 58 = .ok (.i2l, 1) := by decide +kernel
theorem dX0_weightOf_59 : decode cX0_weightOf 59 = .ok (.lmul, 1) := by decide +kernel
theorem dX0_weightOf_60 : decode cX0_weightOf 60 = .ok (.lstore 6, 2) := by decide +kernel
theorem dX0_weightOf_62 : decode cX0_weightOf 62 = .ok (.iinc 8 1, 3) := by decide +kernel
theorem dX0_weightOf_65 : decode cX0_weightOf 65 = .ok (.goto (-34), 3) := by decide +kernel
theorem dX0_weightOf_68 : decode cX0_weightOf 68 = .ok (.lload_n 3, 1) := by decide +kernel
theorem dX0_weightOf_69 : decode cX0_weightOf 69 = .ok (.lload 6, 2) := by decide +kernel
theorem dX0_weightOf_71 : decode cX0_weightOf 71 = .ok (.ladd, 1) := by decide +kernel
theorem dX0_weightOf_72 : decode cX0_weightOf 72 = .ok (.lstore_n 3, 1) := by decide +kernel
theorem dX0_weightOf_73 : decode cX0_weightOf 73 = .ok (.iinc 5 1, 3) := by decide +kernel
theorem dX0_weightOf_76 : decode cX0_weightOf 76 = .ok (.goto (-71), 3) := by decide +kernel
theorem dX0_weightOf_79 : decode cX0_weightOf 79 = .ok (.lload_n 3, 1) := by decide +kernel
theorem dX0_weightOf_80 : decode cX0_weightOf 80 = .ok (.lreturn, 1) := by decide +kernel
theorem dX1_init_0 : decode cX1_init 0 = .ok (.aload_n 0, 1) := by decide +kernel
theorem dX1_init_1 : decode cX1_init 1 = .ok (.invokespecial 3, 3) := by decide +kernel
theorem dX1_init_4 : decode cX1_init 4 = .ok (.aload_n 0, 1) := by decide +kernel
theorem dX1_init_5 : decode cX1_init 5 = .ok (.bipush 8, 2) := by decide +kernel
theorem dX1_init_7 : decode cX1_init 7 = .ok (.newarray .int, 2) := by decide +kernel
theorem dX1_init_9 : decode cX1_init 9 = .ok (.putfield 9, 3) := by decide +kernel
theorem dX1_init_12 : decode cX1_init 12 = .ok (.aload_n 0, 1) := by decide +kernel
theorem dX1_init_13 : decode cX1_init 13 = .ok (.bipush 8, 2) := by decide +kernel
theorem dX1_init_15 : decode cX1_init 15 = .ok (.newarray .int, 2) := by decide +kernel
theorem dX1_init_17 : decode cX1_init 17 = .ok (.putfield 15, 3) := by decide +kernel
theorem dX1_init_20 : decode cX1_init 20 = .ok (.aload_n 0, 1) := by decide +kernel
theorem dX1_init_21 : decode cX1_init 21 = .ok (.bipush 8, 2) := by decide +kernel
theorem dX1_init_23 : decode cX1_init 23 = .ok (.newarray .int, 2) := by decide +kernel
theorem dX1_init_25 : decode cX1_init 25 = .ok (.putfield 18, 3) := by decide +kernel
theorem dX1_init_28 : decode cX1_init 28 = .ok (.aload_n 0, 1) := by decide +kernel
theorem dX1_init_29 : decode cX1_init 29 = .ok (.bipush 8, 2) := by decide +kernel
theorem dX1_init_31 : decode cX1_init 31 = .ok (.newarray .int, 2) := by decide +kernel
theorem dX1_init_33 : decode cX1_init 33 = .ok (.putfield 21, 3) := by decide +kernel
theorem dX1_init_36 : decode cX1_init 36 = .ok (.aload_n 0, 1) := by decide +kernel
theorem dX1_init_37 : decode cX1_init 37 = .ok (.bipush 8, 2) := by decide +kernel
theorem dX1_init_39 : decode cX1_init 39 = .ok (.newarray .int, 2) := by decide +kernel
theorem dX1_init_41 : decode cX1_init 41 = .ok (.putfield 24, 3) := by decide +kernel
theorem dX1_init_44 : decode cX1_init 44 = .ok (.aload_n 0, 1) := by decide +kernel
theorem dX1_init_45 : decode cX1_init 45 = .ok (.bipush 8, 2) := by decide +kernel
theorem dX1_init_47 : decode cX1_init 47 = .ok (.newarray .int, 2) := by decide +kernel
theorem dX1_init_49 : decode cX1_init 49 = .ok (.putfield 27, 3) := by decide +kernel
theorem dX1_init_52 : decode cX1_init 52 = .ok (.return_, 1) := by decide +kernel
theorem dX1_plant_0 : decode cX1_plant 0 = .ok (.aload_n 0, 1) := by decide +kernel
theorem dX1_plant_1 : decode cX1_plant 1 = .ok (.aload_n 1, 1) := by decide +kernel
theorem dX1_plant_2 : decode cX1_plant 2 = .ok (.getfield 30, 3) := by decide +kernel
theorem dX1_plant_5 : decode cX1_plant 5 = .ok (.putfield 36, 3) := by decide +kernel
theorem dX1_plant_8 : decode cX1_plant 8 = .ok (.aload_n 1, 1) := by decide +kernel
theorem dX1_plant_9 : decode cX1_plant 9 = .ok (.getfield 39, 3) := by decide +kernel
theorem dX1_plant_12 : decode cX1_plant 12 = .ok (.iconst 0, 1) := by decide +kernel
theorem dX1_plant_13 : decode cX1_plant 13 = .ok (.aload_n 0, 1) := by decide +kernel
theorem dX1_plant_14 : decode cX1_plant 14 = .ok (.getfield 9, 3) := by decide +kernel
theorem dX1_plant_17 : decode cX1_plant 17 = .ok (.iconst 0, 1) := by decide +kernel
theorem dX1_plant_18 : decode cX1_plant 18 = .ok (.bipush 8, 2) := by decide +kernel
theorem dX1_plant_20 : decode cX1_plant 20 = .ok (.invokestatic 42, 3) := by decide +kernel
theorem dX1_plant_23 : decode cX1_plant 23 = .ok (.aload_n 1, 1) := by decide +kernel
theorem dX1_plant_24 : decode cX1_plant 24 = .ok (.getfield 48, 3) := by decide +kernel
theorem dX1_plant_27 : decode cX1_plant 27 = .ok (.iconst 0, 1) := by decide +kernel
theorem dX1_plant_28 : decode cX1_plant 28 = .ok (.aload_n 0, 1) := by decide +kernel
theorem dX1_plant_29 : decode cX1_plant 29 = .ok (.getfield 15, 3) := by decide +kernel
theorem dX1_plant_32 : decode cX1_plant 32 = .ok (.iconst 0, 1) := by decide +kernel
theorem dX1_plant_33 : decode cX1_plant 33 = .ok (.bipush 8, 2) := by decide +kernel
theorem dX1_plant_35 : decode cX1_plant 35 = .ok (.invokestatic 42, 3) := by decide +kernel
theorem dX1_plant_38 : decode cX1_plant 38 = .ok (.return_, 1) := by decide +kernel
theorem dX1_invite_0 : decode cX1_invite 0 = .ok (.aload_n 0, 1) := by decide +kernel
theorem dX1_invite_1 : decode cX1_invite 1 = .ok (.aload_n 1, 1) := by decide +kernel
theorem dX1_invite_2 : decode cX1_invite 2 = .ok (.getfield 30, 3) := by decide +kernel
theorem dX1_invite_5 : decode cX1_invite 5 = .ok (.putfield 51, 3) := by decide +kernel
theorem dX1_invite_8 : decode cX1_invite 8 = .ok (.aload_n 1, 1) := by decide +kernel
theorem dX1_invite_9 : decode cX1_invite 9 = .ok (.getfield 39, 3) := by decide +kernel
theorem dX1_invite_12 : decode cX1_invite 12 = .ok (.iconst 0, 1) := by decide +kernel
theorem dX1_invite_13 : decode cX1_invite 13 = .ok (.aload_n 0, 1) := by decide +kernel
theorem dX1_invite_14 : decode cX1_invite 14 = .ok (.getfield 18, 3) := by decide +kernel
theorem dX1_invite_17 : decode cX1_invite 17 = .ok (.iconst 0, 1) := by decide +kernel
theorem dX1_invite_18 : decode cX1_invite 18 = .ok (.bipush 8, 2) := by decide +kernel
theorem dX1_invite_20 : decode cX1_invite 20 = .ok (.invokestatic 42, 3) := by decide +kernel
theorem dX1_invite_23 : decode cX1_invite 23 = .ok (.aload_n 1, 1) := by decide +kernel
theorem dX1_invite_24 : decode cX1_invite 24 = .ok (.getfield 48, 3) := by decide +kernel
theorem dX1_invite_27 : decode cX1_invite 27 = .ok (.iconst 0, 1) := by decide +kernel
theorem dX1_invite_28 : decode cX1_invite 28 = .ok (.aload_n 0, 1) := by decide +kernel
theorem dX1_invite_29 : decode cX1_invite 29 = .ok (.getfield 21, 3) := by decide +kernel
theorem dX1_invite_32 : decode cX1_invite 32 = .ok (.iconst 0, 1) := by decide +kernel
theorem dX1_invite_33 : decode cX1_invite 33 = .ok (.bipush 8, 2) := by decide +kernel
theorem dX1_invite_35 : decode cX1_invite 35 = .ok (.invokestatic 42, 3) := by decide +kernel
theorem dX1_invite_38 : decode cX1_invite 38 = .ok (.aload_n 1, 1) := by decide +kernel
theorem dX1_invite_39 : decode cX1_invite 39 = .ok (.getfield 54, 3) := by decide +kernel
theorem dX1_invite_42 : decode cX1_invite 42 = .ok (.iconst 0, 1) := by decide +kernel
theorem dX1_invite_43 : decode cX1_invite 43 = .ok (.aload_n 0, 1) := by decide +kernel
theorem dX1_invite_44 : decode cX1_invite 44 = .ok (.getfield 24, 3) := by decide +kernel
theorem dX1_invite_47 : decode cX1_invite 47 = .ok (.iconst 0, 1) := by decide +kernel
theorem dX1_invite_48 : decode cX1_invite 48 = .ok (.bipush 8, 2) := by decide +kernel
theorem dX1_invite_50 : decode cX1_invite 50 = .ok (.invokestatic 42, 3) := by decide +kernel
theorem dX1_invite_53 : decode cX1_invite 53 = .ok (.return_, 1) := by decide +kernel
theorem dX1_freeze_0 : decode cX1_freeze 0 = .ok (.aload_n 0, 1) := by decide +kernel
theorem dX1_freeze_1 : decode cX1_freeze 1 = .ok (.iconst 0, 1) := by decide +kernel
theorem dX1_freeze_2 : decode cX1_freeze 2 = .ok (.putfield 57, 3) := by decide +kernel
theorem dX1_freeze_5 : decode cX1_freeze 5 = .ok (.iconst 0, 1) := by decide +kernel
theorem dX1_freeze_6 : decode cX1_freeze 6 = .ok (.istore_n 2, 1) := by decide +kernel
theorem dX1_freeze_7 : decode cX1_freeze 7 = .ok (.iload_n 2, 1) := by decide +kernel
theorem dX1_freeze_8 : decode cX1_freeze 8 = .ok (.aload_n 1, 1) := by decide +kernel
theorem dX1_freeze_9 : decode cX1_freeze 9 = .ok (.getfield 60, 3) := by decide +kernel
theorem dX1_freeze_12 : decode cX1_freeze 12 = .ok (.if_icmp .ge 25, 3) := by decide +kernel
theorem dX1_freeze_15 : decode cX1_freeze 15 = .ok (.aload_n 0, 1) := by decide +kernel
theorem dX1_freeze_16 : decode cX1_freeze 16 = .ok (.dup, 1) := by decide +kernel
theorem dX1_freeze_17 : decode cX1_freeze 17 = .ok (.getfield 57, 3) := by decide +kernel
theorem dX1_freeze_20 : decode cX1_freeze 20 = .ok (.iconst 1, 1) := by decide +kernel
theorem dX1_freeze_21 : decode cX1_freeze 21 = .ok (.aload_n 1, 1) := by decide +kernel
theorem dX1_freeze_22 : decode cX1_freeze 22 = .ok (.iload_n 2, 1) := by decide +kernel
theorem dX1_freeze_23 : decode cX1_freeze 23 = .ok (.invokevirtual 65, 3) := by decide +kernel
theorem dX1_freeze_26 : decode cX1_freeze 26 = .ok (.ishl, 1) := by decide +kernel
theorem dX1_freeze_27 : decode cX1_freeze 27 = .ok (.ior, 1) := by decide +kernel
theorem dX1_freeze_28 : decode cX1_freeze 28 = .ok (.putfield 57, 3) := by decide +kernel
theorem dX1_freeze_31 : decode cX1_freeze 31 = .ok (.iinc 2 1, 3) := by decide +kernel
theorem dX1_freeze_34 : decode cX1_freeze 34 = .ok (.goto (-27), 3) := by decide +kernel
theorem dX1_freeze_37 : decode cX1_freeze 37 = .ok (.return_, 1) := by decide +kernel
theorem dX1_letRabbitsIn_0 : decode cX1_letRabbitsIn 0 = .ok (.aload_n 0, 1) := by decide +kernel
theorem dX1_letRabbitsIn_1 : decode cX1_letRabbitsIn 1 = .ok (.getfield 27, 3) := by decide +kernel
theorem dX1_letRabbitsIn_4 : decode cX1_letRabbitsIn 4 = .ok (.bipush 40, 2) := by decide +kernel
theorem dX1_letRabbitsIn_6 : decode cX1_letRabbitsIn 6 = .ok (.invokestatic 69, 3) := by decide +kernel
theorem dX1_letRabbitsIn_9 : decode cX1_letRabbitsIn 9 = .ok (.iconst 0, 1) := by decide +kernel
theorem dX1_letRabbitsIn_10 : decode cX1_letRabbitsIn 10 = .ok (.istore_n 3, 1) := by decide +kernel
theorem dX1_letRabbitsIn_11 : decode cX1_letRabbitsIn 11 = .ok (.iload_n 3, 1) := by decide +kernel
theorem dX1_letRabbitsIn_12 : decode cX1_letRabbitsIn 12 = .ok (.aload_n 1, 1) := by decide +kernel
theorem dX1_letRabbitsIn_13 : decode cX1_letRabbitsIn 13 = .ok (.getfield 60, 3) := by decide +kernel
theorem dX1_letRabbitsIn_16 : decode cX1_letRabbitsIn 16 = .ok (.if_icmp .ge 65, 3) := by decide +kernel
theorem dX1_letRabbitsIn_19 : decode cX1_letRabbitsIn 19 = .ok (.aload_n 1, 1) := by decide +kernel
theorem dX1_letRabbitsIn_20 : decode cX1_letRabbitsIn 20 = .ok (.iload_n 3, 1) := by decide +kernel
theorem dX1_letRabbitsIn_21 : decode cX1_letRabbitsIn 21 = .ok (.invokevirtual 65, 3) := by decide +kernel
theorem dX1_letRabbitsIn_24 : decode cX1_letRabbitsIn 24 = .ok (.bipush 8, 2) := by decide +kernel
theorem dX1_letRabbitsIn_26 : decode cX1_letRabbitsIn 26 = .ok (.irem, 1) := by decide +kernel
theorem dX1_letRabbitsIn_27 : decode cX1_letRabbitsIn 27 = .ok (.istore 4, 2) := by decide +kernel
theorem dX1_letRabbitsIn_29 : decode cX1_letRabbitsIn 29 = .ok (.iload_n 2, 1) := by decide +kernel
theorem dX1_letRabbitsIn_30 : decode cX1_letRabbitsIn 30 = .ok (.iload_n 3, 1) := by decide +kernel
theorem dX1_letRabbitsIn_31 : decode cX1_letRabbitsIn 31 = .ok (.ishr, 1) := by decide +kernel
theorem dX1_letRabbitsIn_32 : decode cX1_letRabbitsIn 32 = .ok (.iconst 1, 1) := by decide +kernel
theorem dX1_letRabbitsIn_33 : decode cX1_letRabbitsIn 33 = .ok (.iand, 1) := by decide +kernel
theorem dX1_letRabbitsIn_34 : decode cX1_letRabbitsIn 34 = .ok (.ifCond .ne 41, 3) := by decide +kernel
theorem dX1_letRabbitsIn_37 : decode cX1_letRabbitsIn 37 = .ok (.iload 4, 2) := by decide +kernel
theorem dX1_letRabbitsIn_39 : decode cX1_letRabbitsIn 39 = .ok (.bipush 8, 2) := by decide +kernel
theorem dX1_letRabbitsIn_41 : decode cX1_letRabbitsIn 41 = .ok (.invokestatic 75, 3) := by decide +kernel
theorem dX1_letRabbitsIn_44 : decode cX1_letRabbitsIn 44 = .ok (.ifCond .eq 6, 3) := by decide +kernel
theorem dX1_letRabbitsIn_47 : decode cX1_letRabbitsIn 47 = .ok (.goto 28, 3) := by decide +kernel
theorem dX1_letRabbitsIn_50 : decode cX1_letRabbitsIn 50 = .ok (.aload_n 0, 1) := by decide +kernel
theorem dX1_letRabbitsIn_51 : decode cX1_letRabbitsIn 51 = .ok (.getfield 27, 3) := by decide +kernel
theorem dX1_letRabbitsIn_54 : decode cX1_letRabbitsIn 54 = .ok (.iload 4, 2) := by decide +kernel
theorem dX1_letRabbitsIn_56 : decode cX1_letRabbitsIn 56 = .ok (.aload_n 0, 1) := by decide +kernel
theorem dX1_letRabbitsIn_57 : decode cX1_letRabbitsIn 57 = .ok (.getfield 27, 3) := by decide +kernel
theorem dX1_letRabbitsIn_60 : decode cX1_letRabbitsIn 60 = .ok (.iload 4, 2) := by decide +kernel
theorem dX1_letRabbitsIn_62 : decode cX1_letRabbitsIn 62 = .ok (.iaload, 1) := by decide +kernel
theorem dX1_letRabbitsIn_63 : decode cX1_letRabbitsIn 63 = .ok (.aload_n 1, 1) := by decide +kernel
theorem dX1_letRabbitsIn_64 : decode cX1_letRabbitsIn 64 = .ok (.iload_n 3, 1) := by decide +kernel
theorem dX1_letRabbitsIn_65 : decode cX1_letRabbitsIn 65 = .ok (.invokevirtual 65, 3) := by decide +kernel
theorem dX1_letRabbitsIn_68 : decode cX1_letRabbitsIn 68 = .ok (.bipush 8, 2) := by decide +kernel
theorem dX1_letRabbitsIn_70 : decode cX1_letRabbitsIn 70 = .ok (.idiv, 1) := by decide +kernel
theorem dX1_letRabbitsIn_71 : decode cX1_letRabbitsIn 71 = .ok (.invokestatic 79, 3) := by decide +kernel
theorem dX1_letRabbitsIn_74 : decode cX1_letRabbitsIn 74 = .ok (.iastore, 1) := by decide +kernel
theorem dX1_letRabbitsIn_75 : decode cX1_letRabbitsIn 75 = .ok (.iinc 3 1, 3) := by decide +kernel
theorem dX1_letRabbitsIn_78 : decode cX1_letRabbitsIn 78 = .ok (.goto (-67), 3) := by decide +kernel
theorem dX1_letRabbitsIn_81 : decode cX1_letRabbitsIn 81 = .ok (.return_, 1) := by decide +kernel
theorem dX1_comesOn_0 : decode cX1_comesOn 0 = .ok (.aload_n 0, 1) := by decide +kernel
theorem dX1_comesOn_1 : decode cX1_comesOn 1 = .ok (.getfield 21, 3) := by decide +kernel
theorem dX1_comesOn_4 : decode cX1_comesOn 4 = .ok (.iload_n 1, 1) := by decide +kernel
theorem dX1_comesOn_5 : decode cX1_comesOn 5 = .ok (.iaload, 1) := by decide +kernel
theorem dX1_comesOn_6 : decode cX1_comesOn 6 = .ok (.iload_n 2, 1) := by decide +kernel
theorem dX1_comesOn_7 : decode cX1_comesOn 7 = .ok (.if_icmp .gt 24, 3) := by decide +kernel
theorem dX1_comesOn_10 : decode cX1_comesOn 10 = .ok (.iload_n 2, 1) := by decide +kernel
theorem dX1_comesOn_11 : decode cX1_comesOn 11 = .ok (.aload_n 0, 1) := by decide +kernel
theorem dX1_comesOn_12 : decode cX1_comesOn 12 = .ok (.getfield 21, 3) := by decide +kernel
theorem dX1_comesOn_15 : decode cX1_comesOn 15 = .ok (.iload_n 1, 1) := by decide +kernel
theorem dX1_comesOn_16 : decode cX1_comesOn 16 = .ok (.iaload, 1) := by decide +kernel
theorem dX1_comesOn_17 : decode cX1_comesOn 17 = .ok (.aload_n 0, 1) := by decide +kernel
theorem dX1_comesOn_18 : decode cX1_comesOn 18 = .ok (.getfield 24, 3) := by decide +kernel
theorem dX1_comesOn_21 : decode cX1_comesOn 21 = .ok (.iload_n 1, 1) := by decide +kernel
theorem dX1_comesOn_22 : decode cX1_comesOn 22 = .ok (.iaload, 1) := by decide +kernel
theorem dX1_comesOn_23 : decode cX1_comesOn 23 = .ok (.iadd, 1) := by decide +kernel
theorem dX1_comesOn_24 : decode cX1_comesOn 24 = .ok (.if_icmp .ge 7, 3) := by decide +kernel
theorem dX1_comesOn_27 : decode cX1_comesOn 27 = .ok (.iconst 1, 1) := by decide +kernel
theorem dX1_comesOn_28 : decode cX1_comesOn 28 = .ok (.goto 4, 3) := by decide +kernel
theorem dX1_comesOn_31 : decode cX1_comesOn 31 = .ok (.iconst 0, 1) := by decide +kernel
theorem dX1_comesOn_32 : decode cX1_comesOn 32 = .ok (.ireturn, 1) := by decide +kernel
theorem dX1_isWantedBy_0 : decode cX1_isWantedBy 0 = .ok (.aload_n 0, 1) := by decide +kernel
theorem dX1_isWantedBy_1 : decode cX1_isWantedBy 1 = .ok (.getfield 18, 3) := by decide +kernel
theorem dX1_isWantedBy_4 : decode cX1_isWantedBy 4 = .ok (.iload_n 1, 1) := by decide +kernel
theorem dX1_isWantedBy_5 : decode cX1_isWantedBy 5 = .ok (.iaload, 1) := by decide +kernel
theorem dX1_isWantedBy_6 : decode cX1_isWantedBy 6 = .ok (.iconst 3, 1) := by decide +kernel
theorem dX1_isWantedBy_7 : decode cX1_isWantedBy 7 = .ok (.if_icmp .eq 13, 3) := by decide +kernel
theorem dX1_isWantedBy_10 : decode cX1_isWantedBy 10 = .ok (.aload_n 0, 1) := by decide +kernel
theorem dX1_isWantedBy_11 : decode cX1_isWantedBy 11 = .ok (.getfield 18, 3) := by decide +kernel
theorem dX1_isWantedBy_14 : decode cX1_isWantedBy 14 = .ok (.iload_n 1, 1) := by decide +kernel
theorem dX1_isWantedBy_15 : decode cX1_isWantedBy 15 = .ok (.iaload, 1) := by decide +kernel
theorem dX1_isWantedBy_16 : decode cX1_isWantedBy 16 = .ok (.iload_n 2, 1) := by decide +kernel
theorem dX1_isWantedBy_17 : decode cX1_isWantedBy 17 = .ok (.if_icmp .ne 7, 3) := by decide +kernel
theorem dX1_isWantedBy_20 : decode cX1_isWantedBy 20 = .ok (.iconst 1, 1) := by decide +kernel
theorem dX1_isWantedBy_21 : decode cX1_isWantedBy 21 = .ok (.goto 4, 3) := by decide +kernel
theorem dX1_isWantedBy_24 : decode cX1_isWantedBy 24 = .ok (.iconst 0, 1) := by decide +kernel
theorem dX1_isWantedBy_25 : decode cX1_isWantedBy 25 = .ok (.ireturn, 1) := by decide +kernel
theorem dX1_firstRipe_0 : decode cX1_firstRipe 0 = .ok (.aload_n 0, 1) := by decide +kernel
theorem dX1_firstRipe_1 : decode cX1_firstRipe 1 = .ok (.getfield 15, 3) := by decide +kernel
theorem dX1_firstRipe_4 : decode cX1_firstRipe 4 = .ok (.iload_n 1, 1) := by decide +kernel
theorem dX1_firstRipe_5 : decode cX1_firstRipe 5 = .ok (.iaload, 1) := by decide +kernel
theorem dX1_firstRipe_6 : decode cX1_firstRipe 6 = .ok (.istore_n 2, 1) := by decide +kernel
theorem dX1_firstRipe_7 : decode cX1_firstRipe 7 = .ok (.iconst 0, 1) := by decide +kernel
theorem dX1_firstRipe_8 : decode cX1_firstRipe 8 = .ok (.istore_n 3, 1) := by decide +kernel
theorem dX1_firstRipe_9 : decode cX1_firstRipe 9 = .ok (.iload_n 3, 1) := by decide +kernel
theorem dX1_firstRipe_10 : decode cX1_firstRipe 10 = .ok (.bipush 30, 2) := by decide +kernel
theorem dX1_firstRipe_12 : decode cX1_firstRipe 12 = .ok (.if_icmp .ge 61, 3) := by decide +kernel
theorem dX1_firstRipe_15 : decode cX1_firstRipe 15 = .ok (.iload_n 3, 1) := by decide +kernel
theorem dX1_firstRipe_16 : decode cX1_firstRipe 16 = .ok (.iload_n 2, 1) := by decide +kernel
theorem dX1_firstRipe_17 : decode cX1_firstRipe 17 = .ok (.if_icmp .ge 56, 3) := by decide +kernel
theorem dX1_firstRipe_20 : decode cX1_firstRipe 20 = .ok (.aload_n 0, 1) := by decide +kernel
theorem dX1_firstRipe_21 : decode cX1_firstRipe 21 = .ok (.getfield 57, 3) := by decide +kernel
theorem dX1_firstRipe_24 : decode cX1_firstRipe 24 = .ok (.iload_n 3, 1) := by decide +kernel
theorem dX1_firstRipe_25 : decode cX1_firstRipe 25 = .ok (.ishr, 1) := by decide +kernel
theorem dX1_firstRipe_26 : decode cX1_firstRipe 26 = .ok (.ifCond .eq 47, 3) := by decide +kernel
theorem dX1_firstRipe_29 : decode cX1_firstRipe 29 = .ok (.aload_n 0, 1) := by decide +kernel
theorem dX1_firstRipe_30 : decode cX1_firstRipe 30 = .ok (.getfield 57, 3) := by decide +kernel
theorem dX1_firstRipe_33 : decode cX1_firstRipe 33 = .ok (.iload_n 3, 1) := by decide +kernel
theorem dX1_firstRipe_34 : decode cX1_firstRipe 34 = .ok (.ishr, 1) := by decide +kernel
theorem dX1_firstRipe_35 : decode cX1_firstRipe 35 = .ok (.iconst 1, 1) := by decide +kernel
theorem dX1_firstRipe_36 : decode cX1_firstRipe 36 = .ok (.iand, 1) := by decide +kernel
theorem dX1_firstRipe_37 : decode cX1_firstRipe 37 = .ok (.ifCond .ne 6, 3) := by decide +kernel
theorem dX1_firstRipe_40 : decode cX1_firstRipe 40 = .ok (.goto 27, 3) := by decide +kernel
theorem dX1_firstRipe_43 : decode cX1_firstRipe 43 = .ok (.aload_n 0, 1) := by decide +kernel
theorem dX1_firstRipe_44 : decode cX1_firstRipe 44 = .ok (.getfield 9, 3) := by decide +kernel
theorem dX1_firstRipe_47 : decode cX1_firstRipe 47 = .ok (.iload_n 1, 1) := by decide +kernel
theorem dX1_firstRipe_48 : decode cX1_firstRipe 48 = .ok (.iaload, 1) := by decide +kernel
theorem dX1_firstRipe_49 : decode cX1_firstRipe 49 = .ok (.iconst 2, 1) := by decide +kernel
theorem dX1_firstRipe_50 : decode cX1_firstRipe 50 = .ok (.if_icmp .ne 5, 3) := by decide +kernel
theorem dX1_firstRipe_53 : decode cX1_firstRipe 53 = .ok (.iconst (-1), 1) := by decide +kernel
theorem dX1_firstRipe_54 : decode cX1_firstRipe 54 = .ok (.ireturn, 1) := by decide +kernel
theorem dX1_firstRipe_55 : decode cX1_firstRipe 55 = .ok (.aload_n 0, 1) := by decide +kernel
theorem dX1_firstRipe_56 : decode cX1_firstRipe 56 = .ok (.getfield 9, 3) := by decide +kernel
theorem dX1_firstRipe_59 : decode cX1_firstRipe 59 = .ok (.iload_n 1, 1) := by decide +kernel
theorem dX1_firstRipe_60 : decode cX1_firstRipe 60 = .ok (.iaload, 1) := by decide +kernel
theorem dX1_firstRipe_61 : decode cX1_firstRipe 61 = .ok (.ifCond .ne 6, 3) := by decide +kernel
theorem dX1_firstRipe_64 : decode cX1_firstRipe 64 = .ok (.iinc 2 1, 3) := by decide +kernel
theorem dX1_firstRipe_67 : decode cX1_firstRipe 67 = .ok (.iinc 3 1, 3) := by decide +kernel
theorem dX1_firstRipe_70 : decode cX1_firstRipe 70 = .ok (.goto (-61), 3) := by decide +kernel
theorem dX1_firstRipe_73 : decode cX1_firstRipe 73 = .ok (.iload_n 2, 1) := by decide +kernel
theorem dX1_firstRipe_74 : decode cX1_firstRipe 74 = .ok (.ireturn, 1) := by decide +kernel
theorem dX1_firstFrost_0 : decode cX1_firstFrost 0 = .ok (.iconst 0, 1) := by decide +kernel
theorem dX1_firstFrost_1 : decode cX1_firstFrost 1 = .ok (.istore_n 1, 1) := by decide +kernel
theorem dX1_firstFrost_2 : decode cX1_firstFrost 2 = .ok (.iload_n 1, 1) := by decide +kernel
theorem dX1_firstFrost_3 : decode cX1_firstFrost 3 = .ok (.bipush 30, 2) := by decide +kernel
theorem dX1_firstFrost_5 : decode cX1_firstFrost 5 = .ok (.if_icmp .ge 22, 3) := by decide +kernel
theorem dX1_firstFrost_8 : decode cX1_firstFrost 8 = .ok (.aload_n 0, 1) := by decide +kernel
theorem dX1_firstFrost_9 : decode cX1_firstFrost 9 = .ok (.getfield 57, 3) := by decide +kernel
theorem dX1_firstFrost_12 : decode cX1_firstFrost 12 = .ok (.iload_n 1, 1) := by decide +kernel
theorem dX1_firstFrost_13 : decode cX1_firstFrost 13 = .ok (.ishr, 1) := by decide +kernel
theorem dX1_firstFrost_14 : decode cX1_firstFrost 14 = .ok (.iconst 1, 1) := by decide +kernel
theorem dX1_firstFrost_15 : decode cX1_firstFrost 15 = .ok (.iand, 1) := by decide +kernel
theorem dX1_firstFrost_16 : decode cX1_firstFrost 16 = .ok (.ifCond .eq 5, 3) := by decide +kernel
theorem dX1_firstFrost_19 : decode cX1_firstFrost 19 = .ok (.iload_n 1, 1) := by decide +kernel
theorem dX1_firstFrost_20 : decode cX1_firstFrost 20 = .ok (.ireturn, 1) := by decide +kernel
theorem dX1_firstFrost_21 : decode cX1_firstFrost 21 = .ok (.iinc 1 1, 3) := by decide +kernel
theorem dX1_firstFrost_24 : decode cX1_firstFrost 24 = .ok (.goto (-22), 3) := by decide +kernel
theorem dX1_firstFrost_27 : decode cX1_firstFrost 27 = .ok (.bipush 40, 2) := by decide +kernel
theorem dX1_firstFrost_29 : decode cX1_firstFrost 29 = .ok (.ireturn, 1) := by decide +kernel
theorem dX2_init_0 : decode cX2_init 0 = .ok (.aload_n 0, 1) := by decide +kernel
theorem dX2_init_1 : decode cX2_init 1 = .ok (.invokespecial 3, 3) := by decide +kernel
theorem dX2_init_4 : decode cX2_init 4 = .ok (.aload_n 0, 1) := by decide +kernel
theorem dX2_init_5 : decode cX2_init 5 = .ok (.iload_n 1, 1) := by decide +kernel
theorem dX2_init_6 : decode cX2_init 6 = .ok (.iconst 0, 1) := by decide +kernel
theorem dX2_init_7 : decode cX2_init 7 = .ok (.invokestatic 9, 3) := by decide +kernel
theorem dX2_init_10 : decode cX2_init 10 = .ok (.newarray .int, 2) := by decide +kernel
theorem dX2_init_12 : decode cX2_init 12 = .ok (.putfield 15, 3) := by decide +kernel
theorem dX2_init_15 : decode cX2_init 15 = .ok (.aload_n 0, 1) := by decide +kernel
theorem dX2_init_16 : decode cX2_init 16 = .ok (.iconst 0, 1) := by decide +kernel
theorem dX2_init_17 : decode cX2_init 17 = .ok (.putfield 21, 3) := by decide +kernel
theorem dX2_init_20 : decode cX2_init 20 = .ok (.return_, 1) := by decide +kernel
theorem dX2_at_0 : decode cX2_at 0 = .ok (.iload_n 1, 1) := by decide +kernel
theorem dX2_at_1 : decode cX2_at 1 = .ok (.aload_n 0, 1) := by decide +kernel
theorem dX2_at_2 : decode cX2_at 2 = .ok (.getfield 21, 3) := by decide +kernel
theorem dX2_at_5 : decode cX2_at 5 = .ok (.invokestatic 25, 3) := by decide +kernel
theorem dX2_at_8 : decode cX2_at 8 = .ok (.ifCond .eq 7, 3) := by decide +kernel
theorem dX2_at_11 : decode cX2_at 11 = .ok (.iconst (-1), 1) := by decide +kernel
theorem dX2_at_12 : decode cX2_at 12 = .ok (.goto 9, 3) := by decide +kernel
theorem dX2_at_15 : decode cX2_at 15 = .ok (.aload_n 0, 1) := by decide +kernel
theorem dX2_at_16 : decode cX2_at 16 = .ok (.getfield 15, 3) := by decide +kernel
theorem dX2_at_19 : decode cX2_at 19 = .ok (.iload_n 1, 1) := by decide +kernel
theorem dX2_at_20 : decode cX2_at 20 = .ok (.iaload, 1) := by decide +kernel
theorem dX2_at_21 : decode cX2_at 21 = .ok (.ireturn, 1) := by decide +kernel
theorem dX2_add_0 : decode cX2_add 0 = .ok (.aload_n 0, 1) := by decide +kernel
theorem dX2_add_1 : decode cX2_add 1 = .ok (.getfield 21, 3) := by decide +kernel
theorem dX2_add_4 : decode cX2_add 4 = .ok (.aload_n 0, 1) := by decide +kernel
theorem dX2_add_5 : decode cX2_add 5 = .ok (.getfield 15, 3) := by decide +kernel
theorem dX2_add_8 : decode cX2_add 8 = .ok (.arraylength, 1) := by decide +kernel
theorem dX2_add_9 : decode cX2_add 9 = .ok (.if_icmp .lt 6, 3) := by decide +kernel
theorem dX2_add_12 : decode cX2_add 12 = .ok (.bipush (-4), 2) := by decide +kernel
theorem dX2_add_14 : decode cX2_add 14 = .ok (.ireturn, 1) := by decide +kernel
theorem dX2_add_15 : decode cX2_add 15 = .ok (.aload_n 0, 1) := by decide +kernel
theorem dX2_add_16 : decode cX2_add 16 = .ok (.getfield 15, 3) := by decide +kernel
theorem dX2_add_19 : decode cX2_add 19 = .ok (.aload_n 0, 1) := by decide +kernel
theorem dX2_add_20 : decode cX2_add 20 = .ok (.getfield 21, 3) := by decide +kernel
theorem dX2_add_23 : decode cX2_add 23 = .ok (.iload_n 1, 1) := by decide +kernel
theorem dX2_add_24 : decode cX2_add 24 = .ok (.iastore, 1) := by decide +kernel
theorem dX2_add_25 : decode cX2_add 25 = .ok (.aload_n 0, 1) := by decide +kernel
theorem dX2_add_26 : decode cX2_add 26 = .ok (.dup, 1) := by decide +kernel
theorem dX2_add_27 : decode cX2_add 27 = .ok (.getfield 21, 3) := by decide +kernel
theorem dX2_add_30 : decode cX2_add 30 = .ok (.iconst 1, 1) := by decide +kernel
theorem dX2_add_31 : decode cX2_add 31 = .ok (.iadd, 1) := by decide +kernel
theorem dX2_add_32 : decode cX2_add 32 = .ok (.putfield 21, 3) := by decide +kernel
theorem dX2_add_35 : decode cX2_add 35 = .ok (.aload_n 0, 1) := by decide +kernel
theorem dX2_add_36 : decode cX2_add 36 = .ok (.getfield 21, 3) := by decide +kernel
theorem dX2_add_39 : decode cX2_add 39 = .ok (.ireturn, 1) := by decide +kernel
theorem dX2_dropLast_0 : decode cX2_dropLast 0 = .ok (.aload_n 0, 1) := by decide +kernel
theorem dX2_dropLast_1 : decode cX2_dropLast 1 = .ok (.getfield 21, 3) := by decide +kernel
theorem dX2_dropLast_4 : decode cX2_dropLast 4 = .ok (.ifCond .ne 6, 3) := by decide +kernel
theorem dX2_dropLast_7 : decode cX2_dropLast 7 = .ok (.bipush (-3), 2) := by decide +kernel
theorem dX2_dropLast_9 : decode cX2_dropLast 9 = .ok (.ireturn, 1) := by decide +kernel
theorem dX2_dropLast_10 : decode cX2_dropLast 10 = .ok (.aload_n 0, 1) := by decide +kernel
theorem dX2_dropLast_11 : decode cX2_dropLast 11 = .ok (.dup, 1) := by decide +kernel
theorem dX2_dropLast_12 : decode cX2_dropLast 12 = .ok (.getfield 21, 3) := by decide +kernel
theorem dX2_dropLast_15 : decode cX2_dropLast 15 = .ok (.iconst 1, 1) := by decide +kernel
theorem dX2_dropLast_16 : decode cX2_dropLast 16 = .ok (.isub, 1) := by decide +kernel
theorem dX2_dropLast_17 : decode cX2_dropLast 17 = .ok (.putfield 21, 3) := by decide +kernel
theorem dX2_dropLast_20 : decode cX2_dropLast 20 = .ok (.aload_n 0, 1) := by decide +kernel
theorem dX2_dropLast_21 : decode cX2_dropLast 21 = .ok (.getfield 21, 3) := by decide +kernel
theorem dX2_dropLast_24 : decode cX2_dropLast 24 = .ok (.ireturn, 1) := by decide +kernel
theorem dX2_clear_0 : decode cX2_clear 0 = .ok (.aload_n 0, 1) := by decide +kernel
theorem dX2_clear_1 : decode cX2_clear 1 = .ok (.getfield 21, 3) := by decide +kernel
theorem dX2_clear_4 : decode cX2_clear 4 = .ok (.istore_n 1, 1) := by decide +kernel
theorem dX2_clear_5 : decode cX2_clear 5 = .ok (.aload_n 0, 1) := by decide +kernel
theorem dX2_clear_6 : decode cX2_clear 6 = .ok (.iconst 0, 1) := by decide +kernel
theorem dX2_clear_7 : decode cX2_clear 7 = .ok (.putfield 21, 3) := by decide +kernel
theorem dX2_clear_10 : decode cX2_clear 10 = .ok (.iload_n 1, 1) := by decide +kernel
theorem dX2_clear_11 : decode cX2_clear 11 = .ok (.ireturn, 1) := by decide +kernel
theorem dX3_init_0 : decode cX3_init 0 = .ok (.aload_n 0, 1) := by decide +kernel
theorem dX3_init_1 : decode cX3_init 1 = .ok (.invokespecial 3, 3) := by decide +kernel
theorem dX3_init_4 : decode cX3_init 4 = .ok (.aload_n 0, 1) := by decide +kernel
theorem dX3_init_5 : decode cX3_init 5 = .ok (.bipush 60, 2) := by decide +kernel
theorem dX3_init_7 : decode cX3_init 7 = .ok (.newarray .int, 2) := by decide +kernel
theorem dX3_init_9 : decode cX3_init 9 = .ok (.putfield 9, 3) := by decide +kernel
theorem dX3_init_12 : decode cX3_init 12 = .ok (.aload_n 0, 1) := by decide +kernel
theorem dX3_init_13 : decode cX3_init 13 = .ok (.iconst 0, 1) := by decide +kernel
theorem dX3_init_14 : decode cX3_init 14 = .ok (.putfield 15, 3) := by decide +kernel
theorem dX3_init_17 : decode cX3_init 17 = .ok (.aload_n 0, 1) := by decide +kernel
theorem dX3_init_18 : decode cX3_init 18 = .ok (.iconst (-1), 1) := by decide +kernel
theorem dX3_init_19 : decode cX3_init 19 = .ok (.putfield 19, 3) := by decide +kernel
theorem dX3_init_22 : decode cX3_init 22 = .ok (.return_, 1) := by decide +kernel
theorem dX3_isLost_0 : decode cX3_isLost 0 = .ok (.aload_n 0, 1) := by decide +kernel
theorem dX3_isLost_1 : decode cX3_isLost 1 = .ok (.getfield 19, 3) := by decide +kernel
theorem dX3_isLost_4 : decode cX3_isLost 4 = .ok (.ifCond .ge 7, 3) := by decide +kernel
theorem dX3_isLost_7 : decode cX3_isLost 7 = .ok (.iconst 1, 1) := by decide +kernel
theorem dX3_isLost_8 : decode cX3_isLost 8 = .ok (.goto 4, 3) := by decide +kernel
theorem dX3_isLost_11 : decode cX3_isLost 11 = .ok (.iconst 0, 1) := by decide +kernel
theorem dX3_isLost_12 : decode cX3_isLost 12 = .ok (.ireturn, 1) := by decide +kernel
theorem dX3_renew_0 : decode cX3_renew 0 = .ok (.aload_n 0, 1) := by decide +kernel
theorem dX3_renew_1 : decode cX3_renew 1 = .ok (.getfield 9, 3) := by decide +kernel
theorem dX3_renew_4 : decode cX3_renew 4 = .ok (.iconst 0, 1) := by decide +kernel
theorem dX3_renew_5 : decode cX3_renew 5 = .ok (.invokestatic 22, 3) := by decide +kernel
theorem dX3_renew_8 : decode cX3_renew 8 = .ok (.aload_n 0, 1) := by decide +kernel
theorem dX3_renew_9 : decode cX3_renew 9 = .ok (.iload_n 1, 1) := by decide +kernel
theorem dX3_renew_10 : decode cX3_renew 10 = .ok (.putfield 15, 3) := by decide +kernel
theorem dX3_renew_13 : decode cX3_renew 13 = .ok (.aload_n 0, 1) := by decide +kernel
theorem dX3_renew_14 : decode cX3_renew 14 = .ok (.iload_n 2, 1) := by decide +kernel
theorem dX3_renew_15 : decode cX3_renew 15 = .ok (.putfield 19, 3) := by decide +kernel
theorem dX3_renew_18 : decode cX3_renew 18 = .ok (.return_, 1) := by decide +kernel
theorem dX3_itemAt_0 : decode cX3_itemAt 0 = .ok (.iload_n 1, 1) := by decide +kernel
theorem dX3_itemAt_1 : decode cX3_itemAt 1 = .ok (.aload_n 0, 1) := by decide +kernel
theorem dX3_itemAt_2 : decode cX3_itemAt 2 = .ok (.getfield 19, 3) := by decide +kernel
theorem dX3_itemAt_5 : decode cX3_itemAt 5 = .ok (.invokestatic 28, 3) := by decide +kernel
theorem dX3_itemAt_8 : decode cX3_itemAt 8 = .ok (.ifCond .eq 7, 3) := by decide +kernel
theorem dX3_itemAt_11 : decode cX3_itemAt 11 = .ok (.iconst 0, 1) := by decide +kernel
theorem dX3_itemAt_12 : decode cX3_itemAt 12 = .ok (.goto 9, 3) := by decide +kernel
theorem dX3_itemAt_15 : decode cX3_itemAt 15 = .ok (.aload_n 0, 1) := by decide +kernel
theorem dX3_itemAt_16 : decode cX3_itemAt 16 = .ok (.getfield 9, 3) := by decide +kernel
theorem dX3_itemAt_19 : decode cX3_itemAt 19 = .ok (.iload_n 1, 1) := by decide +kernel
theorem dX3_itemAt_20 : decode cX3_itemAt 20 = .ok (.iaload, 1) := by decide +kernel
theorem dX3_itemAt_21 : decode cX3_itemAt 21 = .ok (.ireturn, 1) := by decide +kernel
theorem dX3_put_0 : decode cX3_put 0 = .ok (.iload_n 1, 1) := by decide +kernel
theorem dX3_put_1 : decode cX3_put 1 = .ok (.aload_n 0, 1) := by decide +kernel
theorem dX3_put_2 : decode cX3_put 2 = .ok (.getfield 19, 3) := by decide +kernel
theorem dX3_put_5 : decode cX3_put 5 = .ok (.invokestatic 28, 3) := by decide +kernel
theorem dX3_put_8 : decode cX3_put 8 = .ok (.ifCond .eq 4, 3) := by decide +kernel
theorem dX3_put_11 : decode cX3_put 11 = .ok (.return_, 1) := by decide +kernel
theorem dX3_put_12 : decode cX3_put 12 = .ok (.aload_n 0, 1) := by decide +kernel
theorem dX3_put_13 : decode cX3_put 13 = .ok (.getfield 9, 3) := by decide +kernel
theorem dX3_put_16 : decode cX3_put 16 = .ok (.iload_n 1, 1) := by decide +kernel
theorem dX3_put_17 : decode cX3_put 17 = .ok (.aload_n 0, 1) := by decide +kernel
theorem dX3_put_18 : decode cX3_put 18 = .ok (.getfield 15, 3) := by decide +kernel
theorem dX3_put_21 : decode cX3_put 21 = .ok (.ifCond .ne 8, 3) := by decide +kernel
theorem dX3_put_24 : decode cX3_put 24 = .ok (.iload_n 2, 1) := by decide +kernel
theorem dX3_put_25 : decode cX3_put 25 = .ok (.i2b, 1) := by decide +kernel
theorem dX3_put_26 : decode cX3_put 26 = .ok (.goto 17, 3) := by decide +kernel
theorem dX3_put_29 : decode cX3_put 29 = .ok (.aload_n 0, 1) := by decide +kernel
theorem dX3_put_30 : decode cX3_put 30 = .ok (.getfield 15, 3) := by decide +kernel
theorem dX3_put_33 : decode cX3_put 33 = .ok (.iconst 1, 1) := by decide +kernel
theorem dX3_put_34 : decode cX3_put 34 = .ok (.if_icmp .ne 8, 3) := by decide +kernel
theorem dX3_put_37 : decode cX3_put 37 = .ok (.iload_n 2, 1) := by decide +kernel
theorem dX3_put_38 : decode cX3_put 38 = .ok (.i2s, 1) := by decide +kernel
theorem dX3_put_39 : decode cX3_put 39 = .ok (.goto 4, 3) := by decide +kernel
theorem dX3_put_42 : decode cX3_put 42 = .ok (.iload_n 2, 1) := by decide +kernel
theorem dX3_put_43 : decode cX3_put 43 = .ok (.iastore, 1) := by decide +kernel
theorem dX3_put_44 : decode cX3_put 44 = .ok (.return_, 1) := by decide +kernel
theorem dX3_hasRun_0 : decode cX3_hasRun 0 = .ok (.iload_n 1, 1) := by decide +kernel
theorem dX3_hasRun_1 : decode cX3_hasRun 1 = .ok (.ifCond .lt 21, 3) := by decide +kernel
theorem dX3_hasRun_4 : decode cX3_hasRun 4 = .ok (.iload_n 2, 1) := by decide +kernel
theorem dX3_hasRun_5 : decode cX3_hasRun 5 = .ok (.ifCond .lt 17, 3) := by decide +kernel
theorem dX3_hasRun_8 : decode cX3_hasRun 8 = .ok (.iload_n 2, 1) := by decide +kernel
theorem dX3_hasRun_9 : decode cX3_hasRun 9 = .ok (.aload_n 0, 1) := by decide +kernel
theorem dX3_hasRun_10 : decode cX3_hasRun 10 = .ok (.getfield 19, 3) := by decide +kernel
theorem dX3_hasRun_13 : decode cX3_hasRun 13 = .ok (.iload_n 1, 1) := by decide +kernel
theorem dX3_hasRun_14 : decode cX3_hasRun 14 = .ok (.isub, 1) := by decide +kernel
theorem dX3_hasRun_15 : decode cX3_hasRun 15 = .ok (.if_icmp .gt 7, 3) := by decide +kernel
theorem dX3_hasRun_18 : decode cX3_hasRun 18 = .ok (.iconst 1, 1) := by decide +kernel
theorem dX3_hasRun_19 : decode cX3_hasRun 19 = .ok (.goto 4, 3) := by decide +kernel
theorem dX3_hasRun_22 : decode cX3_hasRun 22 = .ok (.iconst 0, 1) := by decide +kernel
theorem dX3_hasRun_23 : decode cX3_hasRun 23 = .ok (.ireturn, 1) := by decide +kernel
theorem dX4_init_0 : decode cX4_init 0 = .ok (.aload_n 0, 1) := by decide +kernel
theorem dX4_init_1 : decode cX4_init 1 = .ok (.invokespecial 3, 3) := by decide +kernel
theorem dX4_init_4 : decode cX4_init 4 = .ok (.aload_n 0, 1) := by decide +kernel
theorem dX4_init_5 : decode cX4_init 5 = .ok (.bipush 8, 2) := by decide +kernel
theorem dX4_init_7 : decode cX4_init 7 = .ok (.newarray .int, 2) := by decide +kernel
theorem dX4_init_9 : decode cX4_init 9 = .ok (.putfield 9, 3) := by decide +kernel
theorem dX4_init_12 : decode cX4_init 12 = .ok (.aload_n 0, 1) := by decide +kernel
theorem dX4_init_13 : decode cX4_init 13 = .ok (.bipush 8, 2) := by decide +kernel
theorem dX4_init_15 : decode cX4_init 15 = .ok (.newarray .int, 2) := by decide +kernel
theorem dX4_init_17 : decode cX4_init 17 = .ok (.putfield 15, 3) := by decide +kernel
theorem dX4_init_20 : decode cX4_init 20 = .ok (.aload_n 0, 1) := by decide +kernel
theorem dX4_init_21 : decode cX4_init 21 = .ok (.bipush 8, 2) := by decide +kernel
theorem dX4_init_23 : decode cX4_init 23 = .ok (.newarray .int, 2) := by decide +kernel
theorem dX4_init_25 : decode cX4_init 25 = .ok (.putfield 18, 3) := by decide +kernel
theorem dX4_init_28 : decode cX4_init 28 = .ok (.aload_n 0, 1) := by decide +kernel
theorem dX4_init_29 : decode cX4_init 29 = .ok (.iconst 0, 1) := by decide +kernel
theorem dX4_init_30 : decode cX4_init 30 = .ok (.putfield 21, 3) := by decide +kernel
theorem dX4_init_33 : decode cX4_init 33 = .ok (.aload_n 0, 1) := by decide +kernel
theorem dX4_init_34 : decode cX4_init 34 = .ok (.iconst (-1), 1) := by decide +kernel
theorem dX4_init_35 : decode cX4_init 35 = .ok (.putfield 25, 3) := by decide +kernel
theorem dX4_init_38 : decode cX4_init 38 = .ok (.aload_n 0, 1) := by decide +kernel
theorem dX4_init_39 : decode cX4_init 39 = .ok (.aload_n 1, 1) := by decide +kernel
theorem dX4_init_40 : decode cX4_init 40 = .ok (.putfield 28, 3) := by decide +kernel
theorem dX4_init_43 : decode cX4_init 43 = .ok (.aload_n 0, 1) := by decide +kernel
theorem dX4_init_44 : decode cX4_init 44 = .ok (.iload_n 2, 1) := by decide +kernel
theorem dX4_init_45 : decode cX4_init 45 = .ok (.putfield 32, 3) := by decide +kernel
theorem dX4_init_48 : decode cX4_init 48 = .ok (.aload_n 0, 1) := by decide +kernel
theorem dX4_init_49 : decode cX4_init 49 = .ok (.new 35, 3) := by decide +kernel
theorem dX4_init_52 : decode cX4_init 52 = .ok (.dup, 1) := by decide +kernel
theorem dX4_init_53 : decode cX4_init 53 = .ok (.bipush 8, 2) := by decide +kernel
theorem dX4_init_55 : decode cX4_init 55 = .ok (.iload_n 2, 1) := by decide +kernel
theorem dX4_init_56 : decode cX4_init 56 = .ok (.iconst 2, 1) := by decide +kernel
theorem dX4_init_57 : decode cX4_init 57 = .ok (.iadd, 1) := by decide +kernel
theorem dX4_init_58 : decode cX4_init 58 = .ok (.imul, 1) := by decide +kernel
theorem dX4_init_59 : decode cX4_init 59 = .ok (.iconst 1, 1) := by decide +kernel
theorem dX4_init_60 : decode cX4_init 60 = .ok (.isub, 1) := by decide +kernel
theorem dX4_init_61 : decode cX4_init 61 = .ok (.invokespecial 37, 3) := by decide +kernel
theorem dX4_init_64 : decode cX4_init 64 = .ok (.putfield 40, 3) := by decide +kernel
theorem dX4_init_67 : decode cX4_init 67 = .ok (.return_, 1) := by decide +kernel
theorem dX4_append_0 : decode cX4_append 0 = .ok (.aload_n 0, 1) := by decide +kernel
theorem dX4_append_1 : decode cX4_append 1 = .ok (.getfield 40, 3) := by decide +kernel
theorem dX4_append_4 : decode cX4_append 4 = .ok (.iload_n 1, 1) := by decide +kernel
theorem dX4_append_5 : decode cX4_append 5 = .ok (.invokevirtual 44, 3) := by decide +kernel
theorem dX4_append_8 : decode cX4_append 8 = .ok (.istore_n 2, 1) := by decide +kernel
theorem dX4_append_9 : decode cX4_append 9 = .ok (.aload_n 0, 1) := by decide +kernel
theorem dX4_append_10 : decode cX4_append 10 = .ok (.invokevirtual 48, 3) := by decide +kernel
theorem dX4_append_13 : decode cX4_append 13 = .ok (.iload_n 2, 1) := by decide +kernel
theorem dX4_append_14 : decode cX4_append 14 = .ok (.ireturn, 1) := by decide +kernel
theorem dX4_dropLast_0 : decode cX4_dropLast 0 = .ok (.aload_n 0, 1) := by decide +kernel
theorem dX4_dropLast_1 : decode cX4_dropLast 1 = .ok (.getfield 40, 3) := by decide +kernel
theorem dX4_dropLast_4 : decode cX4_dropLast 4 = .ok (.invokevirtual 51, 3) := by decide +kernel
theorem dX4_dropLast_7 : decode cX4_dropLast 7 = .ok (.istore_n 1, 1) := by decide +kernel
theorem dX4_dropLast_8 : decode cX4_dropLast 8 = .ok (.aload_n 0, 1) := by decide +kernel
theorem dX4_dropLast_9 : decode cX4_dropLast 9 = .ok (.invokevirtual 48, 3) := by decide +kernel
theorem dX4_dropLast_12 : decode cX4_dropLast 12 = .ok (.iload_n 1, 1) := by decide +kernel
theorem dX4_dropLast_13 : decode cX4_dropLast 13 = .ok (.ireturn, 1) := by decide +kernel
theorem dX4_empty_0 : decode cX4_empty 0 = .ok (.aload_n 0, 1) := by decide +kernel
theorem dX4_empty_1 : decode cX4_empty 1 = .ok (.getfield 40, 3) := by decide +kernel
theorem dX4_empty_4 : decode cX4_empty 4 = .ok (.invokevirtual 55, 3) := by decide +kernel
theorem dX4_empty_7 : decode cX4_empty 7 = .ok (.istore_n 1, 1) := by decide +kernel
theorem dX4_empty_8 : decode cX4_empty 8 = .ok (.aload_n 0, 1) := by decide +kernel
theorem dX4_empty_9 : decode cX4_empty 9 = .ok (.invokevirtual 48, 3) := by decide +kernel
theorem dX4_empty_12 : decode cX4_empty 12 = .ok (.iload_n 1, 1) := by decide +kernel
theorem dX4_empty_13 : decode cX4_empty 13 = .ok (.ireturn, 1) := by decide +kernel
theorem dX4_parse_0 : decode cX4_parse 0 = .ok (.aload_n 0, 1) := by decide +kernel
theorem dX4_parse_1 : decode cX4_parse 1 = .ok (.aload_n 0, 1) := by decide +kernel
theorem dX4_parse_2 : decode cX4_parse 2 = .ok (.invokevirtual 58, 3) := by decide +kernel
theorem dX4_parse_5 : decode cX4_parse 5 = .ok (.putfield 25, 3) := by decide +kernel
theorem dX4_parse_8 : decode cX4_parse 8 = .ok (.aload_n 0, 1) := by decide +kernel
theorem dX4_parse_9 : decode cX4_parse 9 = .ok (.iconst 0, 1) := by decide +kernel
theorem dX4_parse_10 : decode cX4_parse 10 = .ok (.putfield 21, 3) := by decide +kernel
theorem dX4_parse_13 : decode cX4_parse 13 = .ok (.aload_n 0, 1) := by decide +kernel
theorem dX4_parse_14 : decode cX4_parse 14 = .ok (.getfield 25, 3) := by decide +kernel
theorem dX4_parse_17 : decode cX4_parse 17 = .ok (.iconst (-1), 1) := by decide +kernel
theorem dX4_parse_18 : decode cX4_parse 18 = .ok (.if_icmp .ne 13, 3) := by decide +kernel
theorem dX4_parse_21 : decode cX4_parse 21 = .ok (.aload_n 0, 1) := by decide +kernel
theorem dX4_parse_22 : decode cX4_parse 22 = .ok (.getfield 40, 3) := by decide +kernel
theorem dX4_parse_25 : decode cX4_parse 25 = .ok (.getfield 61, 3) := by decide +kernel
theorem dX4_parse_28 : decode cX4_parse 28 = .ok (.goto 4, 3) := by decide +kernel
theorem dX4_parse_31 : decode cX4_parse 31 = .ok (.iconst 0, 1) := by decide +kernel
theorem dX4_parse_32 : decode cX4_parse 32 = .ok (.istore_n 1, 1) := by decide +kernel
theorem dX4_parse_33 : decode cX4_parse 33 = .ok (.iconst 0, 1) := by decide +kernel
theorem dX4_parse_34 : decode cX4_parse 34 = .ok (.istore_n 2, 1) := by decide +kernel
theorem dX4_parse_35 : decode cX4_parse 35 = .ok (.iload_n 2, 1) := by decide +kernel
theorem dX4_parse_36 : decode cX4_parse 36 = .ok (.iload_n 1, 1) := by decide +kernel
theorem dX4_parse_37 : decode cX4_parse 37 = .ok (.if_icmp .ge 114, 3) := by decide +kernel
theorem dX4_parse_40 : decode cX4_parse 40 = .ok (.aload_n 0, 1) := by decide +kernel
theorem dX4_parse_41 : decode cX4_parse 41 = .ok (.getfield 21, 3) := by decide +kernel
theorem dX4_parse_44 : decode cX4_parse 44 = .ok (.bipush 8, 2) := by decide +kernel
theorem dX4_parse_46 : decode cX4_parse 46 = .ok (.if_icmp .ge 105, 3) := by decide +kernel
theorem dX4_parse_49 : decode cX4_parse 49 = .ok (.aload_n 0, 1) := by decide +kernel
theorem dX4_parse_50 : decode cX4_parse 50 = .ok (.getfield 9, 3) := by decide +kernel
theorem dX4_parse_53 : decode cX4_parse 53 = .ok (.aload_n 0, 1) := by decide +kernel
theorem dX4_parse_54 : decode cX4_parse 54 = .ok (.getfield 21, 3) := by decide +kernel
theorem dX4_parse_57 : decode cX4_parse 57 = .ok (.aload_n 0, 1) := by decide +kernel
theorem dX4_parse_58 : decode cX4_parse 58 = .ok (.getfield 28, 3) := by decide +kernel
theorem dX4_parse_61 : decode cX4_parse 61 = .ok (.aload_n 0, 1) := by decide +kernel
theorem dX4_parse_62 : decode cX4_parse 62 = .ok (.getfield 40, 3) := by decide +kernel
theorem dX4_parse_65 : decode cX4_parse 65 = .ok (.iload_n 2, 1) := by decide +kernel
theorem dX4_parse_66 : decode cX4_parse 66 = .ok (.invokevirtual 64, 3) := by decide +kernel
theorem dX4_parse_69 : decode cX4_parse 69 = .ok (.i2c, 1) := by decide +kernel
theorem dX4_parse_70 : decode cX4_parse 70 = .ok (.invokevirtual 67, 3) := by decide +kernel
theorem dX4_parse_73 : decode cX4_parse 73 = .ok (.iastore, 1) := by decide +kernel
theorem dX4_parse_74 : decode cX4_parse 74 = .ok (.aload_n 0, 1) := by decide +kernel
theorem dX4_parse_75 : decode cX4_parse 75 = .ok (.getfield 15, 3) := by decide +kernel
theorem dX4_parse_78 : decode cX4_parse 78 = .ok (.aload_n 0, 1) := by decide +kernel
theorem dX4_parse_79 : decode cX4_parse 79 = .ok (.getfield 21, 3) := by decide +kernel
theorem dX4_parse_82 : decode cX4_parse 82 = .ok (.bipush 10, 2) := by decide +kernel
theorem dX4_parse_84 : decode cX4_parse 84 = .ok (.aload_n 0, 1) := by decide +kernel
theorem dX4_parse_85 : decode cX4_parse 85 = .ok (.iload_n 2, 1) := by decide +kernel
theorem dX4_parse_86 : decode cX4_parse 86 = .ok (.iconst 1, 1) := by decide +kernel
theorem dX4_parse_87 : decode cX4_parse 87 = .ok (.iadd, 1) := by decide +kernel
theorem dX4_parse_88 : decode cX4_parse 88 = .ok (.invokevirtual 72, 3) := by decide +kernel
theorem dX4_parse_91 : decode cX4_parse 91 = .ok (.imul, 1) := by decide +kernel
theorem dX4_parse_92 : decode cX4_parse 92 = .ok (.aload_n 0, 1) := by decide +kernel
theorem dX4_parse_93 : decode cX4_parse 93 = .ok (.iload_n 2, 1) := by decide +kernel
theorem dX4_parse_94 : decode cX4_parse 94 = .ok (.iconst 2, 1) := by decide +kernel
theorem dX4_parse_95 : decode cX4_parse 95 = .ok (.iadd, 1) := by decide +kernel
theorem dX4_parse_96 : decode cX4_parse 96 = .ok (.invokevirtual 72, 3) := by decide +kernel
theorem dX4_parse_99 : decode cX4_parse 99 = .ok (.iadd, 1) := by decide +kernel
theorem dX4_parse_100 : decode cX4_parse 100 = .ok (.iastore, 1) := by decide +kernel
theorem dX4_parse_101 : decode cX4_parse 101 = .ok (.aload_n 0, 1) := by decide +kernel
theorem dX4_parse_102 : decode cX4_parse 102 = .ok (.getfield 18, 3) := by decide +kernel
theorem dX4_parse_105 : decode cX4_parse 105 = .ok (.aload_n 0, 1) := by decide +kernel
theorem dX4_parse_106 : decode cX4_parse 106 = .ok (.getfield 21, 3) := by decide +kernel
theorem dX4_parse_109 : decode cX4_parse 109 = .ok (.aload_n 0, 1) := by decide +kernel
theorem dX4_parse_110 : decode cX4_parse 110 = .ok (.getfield 32, 3) := by decide +kernel
theorem dX4_parse_113 : decode cX4_parse 113 = .ok (.iconst 2, 1) := by decide +kernel
theorem dX4_parse_114 : decode cX4_parse 114 = .ok (.if_icmp .le 13, 3) := by decide +kernel
theorem dX4_parse_117 : decode cX4_parse 117 = .ok (.aload_n 0, 1) := by decide +kernel
theorem dX4_parse_118 : decode cX4_parse 118 = .ok (.iload_n 2, 1) := by decide +kernel
theorem dX4_parse_119 : decode cX4_parse 119 = .ok (.iconst 3, 1) := by decide +kernel
theorem dX4_parse_120 : decode cX4_parse 120 = .ok (.iadd, 1) := by decide +kernel
theorem dX4_parse_121 : decode cX4_parse 121 = .ok (.invokevirtual 72, 3) := by decide +kernel
theorem dX4_parse_124 : decode cX4_parse 124 = .ok (.goto 4, 3) := by decide +kernel
theorem dX4_parse_127 : decode cX4_parse 127 = .ok (.iconst 0, 1) := by decide +kernel
theorem dX4_parse_128 : decode cX4_parse 128 = .ok (.iastore, 1) := by decide +kernel
theorem dX4_parse_129 : decode cX4_parse 129 = .ok (.aload_n 0, 1) := by decide +kernel
theorem dX4_parse_130 : decode cX4_parse 130 = .ok (.dup, 1) := by decide +kernel
theorem dX4_parse_131 : decode cX4_parse 131 = .ok (.getfield 21, 3) := by decide +kernel
theorem dX4_parse_134 : decode cX4_parse 134 = .ok (.iconst 1, 1) := by decide +kernel
theorem dX4_parse_135 : decode cX4_parse 135 = .ok (.iadd, 1) := by decide +kernel
theorem dX4_parse_136 : decode cX4_parse 136 = .ok (.putfield 21, 3) := by decide +kernel
theorem dX4_parse_139 : decode cX4_parse 139 = .ok (.iload_n 2, 1) := by decide +kernel
theorem dX4_parse_140 : decode cX4_parse 140 = .ok (.aload_n 0, 1) := by decide +kernel
theorem dX4_parse_141 : decode cX4_parse 141 = .ok (.getfield 32, 3) := by decide +kernel
theorem dX4_parse_144 : decode cX4_parse 144 = .ok (.iconst 2, 1) := by decide +kernel
theorem dX4_parse_145 : decode cX4_parse 145 = .ok (.iadd, 1) := by decide +kernel
theorem dX4_parse_146 : decode cX4_parse 146 = .ok (.iadd, 1) := by decide +kernel
theorem dX4_parse_147 : decode cX4_parse 147 = .ok (.istore_n 2, 1) := by decide +kernel
theorem dX4_parse_148 : decode cX4_parse 148 = .ok (.goto (-113), 3) := by decide +kernel
theorem dX4_parse_151 : decode cX4_parse 151 = .ok (.return_, 1) := by decide +kernel
theorem dX4_firstFault_0 : decode cX4_firstFault 0 = .ok (.iconst 0, 1) := by decide +kernel
theorem dX4_firstFault_1 : decode cX4_firstFault 1 = .ok (.istore_n 1, 1) := by decide +kernel
theorem dX4_firstFault_2 : decode cX4_firstFault 2 = .ok (.iconst 0, 1) := by decide +kernel
theorem dX4_firstFault_3 : decode cX4_firstFault 3 = .ok (.istore_n 2, 1) := by decide +kernel
theorem dX4_firstFault_4 : decode cX4_firstFault 4 = .ok (.iload_n 2, 1) := by decide +kernel
theorem dX4_firstFault_5 : decode cX4_firstFault 5 = .ok (.aload_n 0, 1) := by decide +kernel
theorem dX4_firstFault_6 : decode cX4_firstFault 6 = .ok (.getfield 40, 3) := by decide +kernel
theorem dX4_firstFault_9 : decode cX4_firstFault 9 = .ok (.getfield 61, 3) := by decide +kernel
theorem dX4_firstFault_12 : decode cX4_firstFault 12 = .ok (.if_icmp .ge 43, 3) := by decide +kernel
theorem dX4_firstFault_15 : decode cX4_firstFault 15 = .ok (.aload_n 0, 1) := by decide +kernel
theorem dX4_firstFault_16 : decode cX4_firstFault 16 = .ok (.iload_n 1, 1) := by decide +kernel
theorem dX4_firstFault_17 : decode cX4_firstFault 17 = .ok (.aload_n 0, 1) := by decide +kernel
theorem dX4_firstFault_18 : decode cX4_firstFault 18 = .ok (.getfield 40, 3) := by decide +kernel
theorem dX4_firstFault_21 : decode cX4_firstFault 21 = .ok (.iload_n 2, 1) := by decide +kernel
theorem dX4_firstFault_22 : decode cX4_firstFault 22 = .ok (.invokevirtual 64, 3) := by decide +kernel
theorem dX4_firstFault_25 : decode cX4_firstFault 25 = .ok (.invokevirtual 75, 3) := by decide +kernel
theorem dX4_firstFault_28 : decode cX4_firstFault 28 = .ok (.ifCond .ne 5, 3) := by decide +kernel
theorem dX4_firstFault_31 : decode cX4_firstFault 31 = .ok (.iload_n 2, 1) := by decide +kernel
theorem dX4_firstFault_32 : decode cX4_firstFault 32 = .ok (.ireturn, 1) := by decide +kernel
theorem dX4_firstFault_33 : decode cX4_firstFault 33 = .ok (.iload_n 1, 1) := by decide +kernel
theorem dX4_firstFault_34 : decode cX4_firstFault 34 = .ok (.aload_n 0, 1) := by decide +kernel
theorem dX4_firstFault_35 : decode cX4_firstFault 35 = .ok (.getfield 32, 3) := by decide +kernel
theorem dX4_firstFault_38 : decode cX4_firstFault 38 = .ok (.if_icmp .le 7, 3) := by decide +kernel
theorem dX4_firstFault_41 : decode cX4_firstFault 41 = .ok (.iconst 0, 1) := by decide +kernel
theorem dX4_firstFault_42 : decode cX4_firstFault 42 = .ok (.goto 6, 3) := by decide +kernel
theorem dX4_firstFault_45 : decode cX4_firstFault 45 = .ok (.iload_n 1, 1) := by decide +kernel
theorem dX4_firstFault_46 : decode cX4_firstFault 46 = .ok (.iconst 1, 1) := by decide +kernel
theorem dX4_firstFault_47 : decode cX4_firstFault 47 = .ok (.iadd, 1) := by decide +kernel
theorem dX4_firstFault_48 : decode cX4_firstFault 48 = .ok (.istore_n 1, 1) := by decide +kernel
theorem dX4_firstFault_49 : decode cX4_firstFault 49 = .ok (.iinc 2 1, 3) := by decide +kernel
theorem dX4_firstFault_52 : decode cX4_firstFault 52 = .ok (.goto (-48), 3) := by decide +kernel
theorem dX4_firstFault_55 : decode cX4_firstFault 55 = .ok (.aload_n 0, 1) := by decide +kernel
theorem dX4_firstFault_56 : decode cX4_firstFault 56 = .ok (.getfield 40, 3) := by decide +kernel
theorem dX4_firstFault_59 : decode cX4_firstFault 59 = .ok (.getfield 61, 3) := by decide +kernel
theorem dX4_firstFault_62 : decode cX4_firstFault 62 = .ok (.ifCond .eq 11, 3) := by decide +kernel
theorem dX4_firstFault_65 : decode cX4_firstFault 65 = .ok (.iload_n 1, 1) := by decide +kernel
theorem dX4_firstFault_66 : decode cX4_firstFault 66 = .ok (.aload_n 0, 1) := by decide +kernel
theorem dX4_firstFault_67 : decode cX4_firstFault 67 = .ok (.getfield 32, 3) := by decide +kernel
theorem dX4_firstFault_70 : decode cX4_firstFault 70 = .ok (.if_icmp .le 7, 3) := by decide +kernel
theorem dX4_firstFault_73 : decode cX4_firstFault 73 = .ok (.iconst (-1), 1) := by decide +kernel
theorem dX4_firstFault_74 : decode cX4_firstFault 74 = .ok (.goto 10, 3) := by decide +kernel
theorem dX4_firstFault_77 : decode cX4_firstFault 77 = .ok (.aload_n 0, 1) := by decide +kernel
theorem dX4_firstFault_78 : decode cX4_firstFault 78 = .ok (.getfield 40, 3) := by decide +kernel
theorem dX4_firstFault_81 : decode cX4_firstFault 81 = .ok (.getfield 61, 3) := by decide +kernel
theorem dX4_firstFault_84 : decode cX4_firstFault 84 = .ok (.ireturn, 1) := by decide +kernel
theorem dX4_fits_0 : decode cX4_fits 0 = .ok (.iload_n 1, 1) := by decide +kernel
theorem dX4_fits_1 : decode cX4_fits 1 = .ok (.ifCond .ne 21, 3) := by decide +kernel
theorem dX4_fits_4 : decode cX4_fits 4 = .ok (.aload_n 0, 1) := by decide +kernel
theorem dX4_fits_5 : decode cX4_fits 5 = .ok (.getfield 28, 3) := by decide +kernel
theorem dX4_fits_8 : decode cX4_fits 8 = .ok (.iload_n 2, 1) := by decide +kernel
theorem dX4_fits_9 : decode cX4_fits 9 = .ok (.i2c, 1) := by decide +kernel
theorem dX4_fits_10 : decode cX4_fits 10 = .ok (.invokevirtual 67, 3) := by decide +kernel
theorem dX4_fits_13 : decode cX4_fits 13 = .ok (.ifCond .lt 7, 3) := by decide +kernel
theorem dX4_fits_16 : decode cX4_fits 16 = .ok (.iconst 1, 1) := by decide +kernel
theorem dX4_fits_17 : decode cX4_fits 17 = .ok (.goto 4, 3) := by decide +kernel
theorem dX4_fits_20 : decode cX4_fits 20 = .ok (.iconst 0, 1) := by decide +kernel
theorem dX4_fits_21 : decode cX4_fits 21 = .ok (.ireturn, 1) := by decide +kernel
theorem dX4_fits_22 : decode cX4_fits 22 = .ok (.iload_n 1, 1) := by decide +kernel
theorem dX4_fits_23 : decode cX4_fits 23 = .ok (.aload_n 0, 1) := by decide +kernel
theorem dX4_fits_24 : decode cX4_fits 24 = .ok (.getfield 32, 3) := by decide +kernel
theorem dX4_fits_27 : decode cX4_fits 27 = .ok (.if_icmp .le 15, 3) := by decide +kernel
theorem dX4_fits_30 : decode cX4_fits 30 = .ok (.iload_n 2, 1) := by decide +kernel
theorem dX4_fits_31 : decode cX4_fits 31 = .ok (.bipush 59, 2) := by decide +kernel
theorem dX4_fits_33 : decode cX4_fits 33 = .ok (.if_icmp .ne 7, 3) := by decide +kernel
theorem dX4_fits_36 : decode cX4_fits 36 = .ok (.iconst 1, 1) := by decide +kernel
theorem dX4_fits_37 : decode cX4_fits 37 = .ok (.goto 4, 3) := by decide +kernel
theorem dX4_fits_40 : decode cX4_fits 40 = .ok (.iconst 0, 1) := by decide +kernel
theorem dX4_fits_41 : decode cX4_fits 41 = .ok (.ireturn, 1) := by decide +kernel
theorem dX4_fits_42 : decode cX4_fits 42 = .ok (.iload_n 1, 1) := by decide +kernel
theorem dX4_fits_43 : decode cX4_fits 43 = .ok (.iconst 1, 1) := by decide +kernel
theorem dX4_fits_44 : decode cX4_fits 44 = .ok (.if_icmp .ne 21, 3) := by decide +kernel
theorem dX4_fits_47 : decode cX4_fits 47 = .ok (.iload_n 2, 1) := by decide +kernel
theorem dX4_fits_48 : decode cX4_fits 48 = .ok (.bipush 48, 2) := by decide +kernel
theorem dX4_fits_50 : decode cX4_fits 50 = .ok (.if_icmp .lt 13, 3) := by decide +kernel
theorem dX4_fits_53 : decode cX4_fits 53 = .ok (.iload_n 2, 1) := by decide +kernel
theorem dX4_fits_54 : decode cX4_fits 54 = .ok (.bipush 50, 2) := by decide +kernel
theorem dX4_fits_56 : decode cX4_fits 56 = .ok (.if_icmp .gt 7, 3) := by decide +kernel
theorem dX4_fits_59 : decode cX4_fits 59 = .ok (.iconst 1, 1) := by decide +kernel
theorem dX4_fits_60 : decode cX4_fits 60 = .ok (.goto 4, 3) := by decide +kernel
theorem dX4_fits_63 : decode cX4_fits 63 = .ok (.iconst 0, 1) := by decide +kernel
theorem dX4_fits_64 : decode cX4_fits 64 = .ok (.ireturn, 1) := by decide +kernel
theorem dX4_fits_65 : decode cX4_fits 65 = .ok (.iload_n 2, 1) := by decide +kernel
theorem dX4_fits_66 : decode cX4_fits 66 = .ok (.iload_n 1, 1) := by decide +kernel
theorem dX4_fits_67 : decode cX4_fits 67 = .ok (.iconst 2, 1) := by decide +kernel
theorem dX4_fits_68 : decode cX4_fits 68 = .ok (.if_icmp .ne 8, 3) := by decide +kernel
theorem dX4_fits_71 : decode cX4_fits 71 = .ok (.bipush 48, 2) := by decide +kernel
theorem dX4_fits_73 : decode cX4_fits 73 = .ok (.goto 5, 3) := by decide +kernel
theorem dX4_fits_76 : decode cX4_fits 76 = .ok (.bipush 49, 2) := by decide +kernel
theorem dX4_fits_78 : decode cX4_fits 78 = .ok (.if_icmp .lt 13, 3) := by decide +kernel
theorem dX4_fits_81 : decode cX4_fits 81 = .ok (.iload_n 2, 1) := by decide +kernel
theorem dX4_fits_82 : decode cX4_fits 82 = .ok (.bipush 57, 2) := by decide +kernel
theorem dX4_fits_84 : decode cX4_fits 84 = .ok (.if_icmp .gt 7, 3) := by decide +kernel
theorem dX4_fits_87 : decode cX4_fits 87 = .ok (.iconst 1, 1) := by decide +kernel
theorem dX4_fits_88 : decode cX4_fits 88 = .ok (.goto 4, 3) := by decide +kernel
theorem dX4_fits_91 : decode cX4_fits 91 = .ok (.iconst 0, 1) := by decide +kernel
theorem dX4_fits_92 : decode cX4_fits 92 = .ok (.ireturn, 1) := by decide +kernel
theorem dX4_figureAt_0 : decode cX4_figureAt 0 = .ok (.aload_n 0, 1) := by decide +kernel
theorem dX4_figureAt_1 : decode cX4_figureAt 1 = .ok (.getfield 40, 3) := by decide +kernel
theorem dX4_figureAt_4 : decode cX4_figureAt 4 = .ok (.iload_n 1, 1) := by decide +kernel
theorem dX4_figureAt_5 : decode cX4_figureAt 5 = .ok (.invokevirtual 64, 3) := by decide +kernel
theorem dX4_figureAt_8 : decode cX4_figureAt 8 = .ok (.bipush 48, 2) := by decide +kernel
theorem dX4_figureAt_10 : decode cX4_figureAt 10 = .ok (.isub, 1) := by decide +kernel
theorem dX4_figureAt_11 : decode cX4_figureAt 11 = .ok (.ireturn, 1) := by decide +kernel
theorem dX5_init_0 : decode cX5_init 0 = .ok (.aload_n 0, 1) := by decide +kernel
theorem dX5_init_1 : decode cX5_init 1 = .ok (.invokespecial 3, 3) := by decide +kernel
theorem dX5_init_4 : decode cX5_init 4 = .ok (.aload_n 0, 1) := by decide +kernel
theorem dX5_init_5 : decode cX5_init 5 = .ok (.bipush 8, 2) := by decide +kernel
theorem dX5_init_7 : decode cX5_init 7 = .ok (.newarray .int, 2) := by decide +kernel
theorem dX5_init_9 : decode cX5_init 9 = .ok (.putfield 9, 3) := by decide +kernel
theorem dX5_init_12 : decode cX5_init 12 = .ok (.aload_n 0, 1) := by decide +kernel
theorem dX5_init_13 : decode cX5_init 13 = .ok (.bipush 8, 2) := by decide +kernel
theorem dX5_init_15 : decode cX5_init 15 = .ok (.newarray .int, 2) := by decide +kernel
theorem dX5_init_17 : decode cX5_init 17 = .ok (.putfield 15, 3) := by decide +kernel
theorem dX5_init_20 : decode cX5_init 20 = .ok (.aload_n 0, 1) := by decide +kernel
theorem dX5_init_21 : decode cX5_init 21 = .ok (.bipush 8, 2) := by decide +kernel
theorem dX5_init_23 : decode cX5_init 23 = .ok (.newarray .int, 2) := by decide +kernel
theorem dX5_init_25 : decode cX5_init 25 = .ok (.putfield 18, 3) := by decide +kernel
theorem dX5_init_28 : decode cX5_init 28 = .ok (.aload_n 0, 1) := by decide +kernel
theorem dX5_init_29 : decode cX5_init 29 = .ok (.bipush 8, 2) := by decide +kernel
theorem dX5_init_31 : decode cX5_init 31 = .ok (.newarray .int, 2) := by decide +kernel
theorem dX5_init_33 : decode cX5_init 33 = .ok (.putfield 21, 3) := by decide +kernel
theorem dX5_init_36 : decode cX5_init 36 = .ok (.aload_n 0, 1) := by decide +kernel
theorem dX5_init_37 : decode cX5_init 37 = .ok (.bipush 8, 2) := by decide +kernel
theorem dX5_init_39 : decode cX5_init 39 = .ok (.newarray .int, 2) := by decide +kernel
theorem dX5_init_41 : decode cX5_init 41 = .ok (.putfield 24, 3) := by decide +kernel
theorem dX5_init_44 : decode cX5_init 44 = .ok (.aload_n 0, 1) := by decide +kernel
theorem dX5_init_45 : decode cX5_init 45 = .ok (.bipush 40, 2) := by decide +kernel
theorem dX5_init_47 : decode cX5_init 47 = .ok (.newarray .int, 2) := by decide +kernel
theorem dX5_init_49 : decode cX5_init 49 = .ok (.putfield 27, 3) := by decide +kernel
theorem dX5_init_52 : decode cX5_init 52 = .ok (.aload_n 0, 1) := by decide +kernel
theorem dX5_init_53 : decode cX5_init 53 = .ok (.bipush 40, 2) := by decide +kernel
theorem dX5_init_55 : decode cX5_init 55 = .ok (.newarray .int, 2) := by decide +kernel
theorem dX5_init_57 : decode cX5_init 57 = .ok (.putfield 30, 3) := by decide +kernel
theorem dX5_init_60 : decode cX5_init 60 = .ok (.aload_n 0, 1) := by decide +kernel
theorem dX5_init_61 : decode cX5_init 61 = .ok (.iconst 4, 1) := by decide +kernel
theorem dX5_init_62 : decode cX5_init 62 = .ok (.newarray .int, 2) := by decide +kernel
theorem dX5_init_64 : decode cX5_init 64 = .ok (.putfield 33, 3) := by decide +kernel
theorem dX5_init_67 : decode cX5_init 67 = .ok (.return_, 1) := by decide +kernel
theorem dX5_go_0 : decode cX5_go 0 = .ok (.aload_n 0, 1) := by decide +kernel
theorem dX5_go_1 : decode cX5_go 1 = .ok (.invokevirtual 36, 3) := by decide +kernel
theorem dX5_go_4 : decode cX5_go 4 = .ok (.iconst 0, 1) := by decide +kernel
theorem dX5_go_5 : decode cX5_go 5 = .ok (.istore_n 2, 1) := by decide +kernel
theorem dX5_go_6 : decode cX5_go 6 = .ok (.iload_n 2, 1) := by decide +kernel
theorem dX5_go_7 : decode cX5_go 7 = .ok (.aload_n 1, 1) := by decide +kernel
theorem dX5_go_8 : decode cX5_go 8 = .ok (.getfield 39, 3) := by decide +kernel
theorem dX5_go_11 : decode cX5_go 11 = .ok (.if_icmp .ge 15, 3) := by decide +kernel
theorem dX5_go_14 : decode cX5_go 14 = .ok (.aload_n 0, 1) := by decide +kernel
theorem dX5_go_15 : decode cX5_go 15 = .ok (.aload_n 1, 1) := by decide +kernel
theorem dX5_go_16 : decode cX5_go 16 = .ok (.iload_n 2, 1) := by decide +kernel
theorem dX5_go_17 : decode cX5_go 17 = .ok (.invokevirtual 45, 3) := by decide +kernel
theorem dX5_go_20 : decode cX5_go 20 = .ok (.iinc 2 1, 3) := by decide +kernel
theorem dX5_go_23 : decode cX5_go 23 = .ok (.goto (-17), 3) := by decide +kernel
theorem dX5_go_26 : decode cX5_go 26 = .ok (.iconst 0, 1) := by decide +kernel
theorem dX5_go_27 : decode cX5_go 27 = .ok (.istore_n 2, 1) := by decide +kernel
theorem dX5_go_28 : decode cX5_go 28 = .ok (.iload_n 2, 1) := by decide +kernel
theorem dX5_go_29 : decode cX5_go 29 = .ok (.aload_n 1, 1) := by decide +kernel
theorem dX5_go_30 : decode cX5_go 30 = .ok (.getfield 49, 3) := by decide +kernel
theorem dX5_go_33 : decode cX5_go 33 = .ok (.if_icmp .ge 15, 3) := by decide +kernel
theorem dX5_go_36 : decode cX5_go 36 = .ok (.aload_n 0, 1) := by decide +kernel
theorem dX5_go_37 : decode cX5_go 37 = .ok (.aload_n 1, 1) := by decide +kernel
theorem dX5_go_38 : decode cX5_go 38 = .ok (.iload_n 2, 1) := by decide +kernel
theorem dX5_go_39 : decode cX5_go 39 = .ok (.invokevirtual 52, 3) := by decide +kernel
theorem dX5_go_42 : decode cX5_go 42 = .ok (.iinc 2 1, 3) := by decide +kernel
theorem dX5_go_45 : decode cX5_go 45 = .ok (.goto (-17), 3) := by decide +kernel
theorem dX5_go_48 : decode cX5_go 48 = .ok (.iconst 0, 1) := by decide +kernel
theorem dX5_go_49 : decode cX5_go 49 = .ok (.istore_n 2, 1) := by decide +kernel
theorem dX5_go_50 : decode cX5_go 50 = .ok (.iload_n 2, 1) := by decide +kernel
theorem dX5_go_51 : decode cX5_go 51 = .ok (.bipush 40, 2) := by decide +kernel
theorem dX5_go_53 : decode cX5_go 53 = .ok (.if_icmp .ge 47, 3) := by decide +kernel
theorem dX5_go_56 : decode cX5_go 56 = .ok (.aload_n 0, 1) := by decide +kernel
theorem dX5_go_57 : decode cX5_go 57 = .ok (.getfield 27, 3) := by decide +kernel
theorem dX5_go_60 : decode cX5_go 60 = .ok (.iload_n 2, 1) := by decide +kernel
theorem dX5_go_61 : decode cX5_go 61 = .ok (.iaload, 1) := by decide +kernel
theorem dX5_go_62 : decode cX5_go 62 = .ok (.aload_n 0, 1) := by decide +kernel
theorem dX5_go_63 : decode cX5_go 63 = .ok (.getfield 55, 3) := by decide +kernel
theorem dX5_go_66 : decode cX5_go 66 = .ok (.iconst (-1), 1) := by decide +kernel
theorem dX5_go_67 : decode cX5_go 67 = .ok (.ixor, 1) := by decide +kernel
theorem dX5_go_68 : decode cX5_go 68 = .ok (.iand, 1) := by decide +kernel
theorem dX5_go_69 : decode cX5_go 69 = .ok (.ifCond .eq 25, 3) := by decide +kernel
theorem dX5_go_72 : decode cX5_go 72 = .ok (.aload_n 0, 1) := by decide +kernel
theorem dX5_go_73 : decode cX5_go 73 = .ok (.getfield 30, 3) := by decide +kernel
theorem dX5_go_76 : decode cX5_go 76 = .ok (.iload_n 2, 1) := by decide +kernel
theorem dX5_go_77 : decode cX5_go 77 = .ok (.iaload, 1) := by decide +kernel
theorem dX5_go_78 : decode cX5_go 78 = .ok (.aload_n 0, 1) := by decide +kernel
theorem dX5_go_79 : decode cX5_go 79 = .ok (.getfield 58, 3) := by decide +kernel
theorem dX5_go_82 : decode cX5_go 82 = .ok (.iconst (-1), 1) := by decide +kernel
theorem dX5_go_83 : decode cX5_go 83 = .ok (.ixor, 1) := by decide +kernel
theorem dX5_go_84 : decode cX5_go 84 = .ok (.iand, 1) := by decide +kernel
theorem dX5_go_85 : decode cX5_go 85 = .ok (.ifCond .eq 9, 3) := by decide +kernel
theorem dX5_go_88 : decode cX5_go 88 = .ok (.aload_n 0, 1) := by decide +kernel
theorem dX5_go_89 : decode cX5_go 89 = .ok (.aload_n 1, 1) := by decide +kernel
theorem dX5_go_90 : decode cX5_go 90 = .ok (.iload_n 2, 1) := by decide +kernel
theorem dX5_go_91 : decode cX5_go 91 = .ok (.invokevirtual 61, 3) := by decide +kernel
theorem dX5_go_94 : decode cX5_go 94 = .ok (.iinc 2 1, 3) := by decide +kernel
theorem dX5_go_97 : decode cX5_go 97 = .ok (.goto (-47), 3) := by decide +kernel
theorem dX5_go_100 : decode cX5_go 100 = .ok (.return_, 1) := by decide +kernel
theorem dX5_clear_0 : decode cX5_clear 0 = .ok (.aload_n 0, 1) := by decide +kernel
theorem dX5_clear_1 : decode cX5_clear 1 = .ok (.getfield 9, 3) := by decide +kernel
theorem dX5_clear_4 : decode cX5_clear 4 = .ok (.iconst (-1), 1) := by decide +kernel
theorem dX5_clear_5 : decode cX5_clear 5 = .ok (.invokestatic 64, 3) := by decide +kernel
theorem dX5_clear_8 : decode cX5_clear 8 = .ok (.aload_n 0, 1) := by decide +kernel
theorem dX5_clear_9 : decode cX5_clear 9 = .ok (.getfield 15, 3) := by decide +kernel
theorem dX5_clear_12 : decode cX5_clear 12 = .ok (.iconst (-1), 1) := by decide +kernel
theorem dX5_clear_13 : decode cX5_clear 13 = .ok (.invokestatic 64, 3) := by decide +kernel
theorem dX5_clear_16 : decode cX5_clear 16 = .ok (.aload_n 0, 1) := by decide +kernel
theorem dX5_clear_17 : decode cX5_clear 17 = .ok (.getfield 18, 3) := by decide +kernel
theorem dX5_clear_20 : decode cX5_clear 20 = .ok (.iconst (-1), 1) := by decide +kernel
theorem dX5_clear_21 : decode cX5_clear 21 = .ok (.invokestatic 64, 3) := by decide +kernel
theorem dX5_clear_24 : decode cX5_clear 24 = .ok (.aload_n 0, 1) := by decide +kernel
theorem dX5_clear_25 : decode cX5_clear 25 = .ok (.getfield 21, 3) := by decide +kernel
theorem dX5_clear_28 : decode cX5_clear 28 = .ok (.iconst (-1), 1) := by decide +kernel
theorem dX5_clear_29 : decode cX5_clear 29 = .ok (.invokestatic 64, 3) := by decide +kernel
theorem dX5_clear_32 : decode cX5_clear 32 = .ok (.aload_n 0, 1) := by decide +kernel
theorem dX5_clear_33 : decode cX5_clear 33 = .ok (.getfield 24, 3) := by decide +kernel
theorem dX5_clear_36 : decode cX5_clear 36 = .ok (.iconst 0, 1) := by decide +kernel
theorem dX5_clear_37 : decode cX5_clear 37 = .ok (.invokestatic 64, 3) := by decide +kernel
theorem dX5_clear_40 : decode cX5_clear 40 = .ok (.aload_n 0, 1) := by decide +kernel
theorem dX5_clear_41 : decode cX5_clear 41 = .ok (.getfield 27, 3) := by decide +kernel
theorem dX5_clear_44 : decode cX5_clear 44 = .ok (.iconst 0, 1) := by decide +kernel
theorem dX5_clear_45 : decode cX5_clear 45 = .ok (.invokestatic 64, 3) := by decide +kernel
theorem dX5_clear_48 : decode cX5_clear 48 = .ok (.aload_n 0, 1) := by decide +kernel
theorem dX5_clear_49 : decode cX5_clear 49 = .ok (.getfield 30, 3) := by decide +kernel
theorem dX5_clear_52 : decode cX5_clear 52 = .ok (.iconst 0, 1) := by decide +kernel
theorem dX5_clear_53 : decode cX5_clear 53 = .ok (.invokestatic 64, 3) := by decide +kernel
theorem dX5_clear_56 : decode cX5_clear 56 = .ok (.aload_n 0, 1) := by decide +kernel
theorem dX5_clear_57 : decode cX5_clear 57 = .ok (.getfield 33, 3) := by decide +kernel
theorem dX5_clear_60 : decode cX5_clear 60 = .ok (.iconst 0, 1) := by decide +kernel
theorem dX5_clear_61 : decode cX5_clear 61 = .ok (.invokestatic 64, 3) := by decide +kernel
theorem dX5_clear_64 : decode cX5_clear 64 = .ok (.aload_n 0, 1) := by decide +kernel
theorem dX5_clear_65 : decode cX5_clear 65 = .ok (.iconst 0, 1) := by decide +kernel
theorem dX5_clear_66 : decode cX5_clear 66 = .ok (.putfield 55, 3) := by decide +kernel
theorem dX5_clear_69 : decode cX5_clear 69 = .ok (.aload_n 0, 1) := by decide +kernel
theorem dX5_clear_70 : decode cX5_clear 70 = .ok (.iconst 0, 1) := by decide +kernel
theorem dX5_clear_71 : decode cX5_clear 71 = .ok (.putfield 58, 3) := by decide +kernel
theorem dX5_clear_74 : decode cX5_clear 74 = .ok (.return_, 1) := by decide +kernel
theorem dX5_bringHead_0 : decode cX5_bringHead 0 = .ok (.aload_n 1, 1) := by decide +kernel
theorem dX5_bringHead_1 : decode cX5_bringHead 1 = .ok (.getfield 70, 3) := by decide +kernel
theorem dX5_bringHead_4 : decode cX5_bringHead 4 = .ok (.iload_n 2, 1) := by decide +kernel
theorem dX5_bringHead_5 : decode cX5_bringHead 5 = .ok (.iaload, 1) := by decide +kernel
theorem dX5_bringHead_6 : decode cX5_bringHead 6 = .ok (.istore_n 3, 1) := by decide +kernel
theorem dX5_bringHead_7 : decode cX5_bringHead 7 = .ok (.iload_n 3, 1) := by decide +kernel
theorem dX5_bringHead_8 : decode cX5_bringHead 8 = .ok (.iconst 3, 1) := by decide +kernel
theorem dX5_bringHead_9 : decode cX5_bringHead 9 = .ok (.invokestatic 73, 3) := by decide +kernel
theorem dX5_bringHead_12 : decode cX5_bringHead 12 = .ok (.ifCond .eq 4, 3) := by decide +kernel
theorem dX5_bringHead_15 : decode cX5_bringHead 15 = .ok (.return_, 1) := by decide +kernel
theorem dX5_bringHead_16 : decode cX5_bringHead 16 = .ok (.aload_n 0, 1) := by decide +kernel
theorem dX5_bringHead_17 : decode cX5_bringHead 17 = .ok (.getfield 33, 3) := by decide +kernel
theorem dX5_bringHead_20 : decode cX5_bringHead 20 = .ok (.iload_n 3, 1) := by decide +kernel
theorem dX5_bringHead_21 : decode cX5_bringHead 21 = .ok (.dup2, 1) := by decide +kernel
theorem dX5_bringHead_22 : decode cX5_bringHead 22 = .ok (.iaload, 1) := by decide +kernel
theorem dX5_bringHead_23 : decode cX5_bringHead 23 = .ok (.iconst 1, 1) := by decide +kernel
theorem dX5_bringHead_24 : decode cX5_bringHead 24 = .ok (.iload_n 2, 1) := by decide +kernel
theorem dX5_bringHead_25 : decode cX5_bringHead 25 = .ok (.ishl, 1) := by decide +kernel
theorem dX5_bringHead_26 : decode cX5_bringHead 26 = .ok (.ior, 1) := by decide +kernel
theorem dX5_bringHead_27 : decode cX5_bringHead 27 = .ok (.iastore, 1) := by decide +kernel
theorem dX5_bringHead_28 : decode cX5_bringHead 28 = .ok (.aload_n 0, 1) := by decide +kernel
theorem dX5_bringHead_29 : decode cX5_bringHead 29 = .ok (.getfield 33, 3) := by decide +kernel
theorem dX5_bringHead_32 : decode cX5_bringHead 32 = .ok (.iconst 3, 1) := by decide +kernel
theorem dX5_bringHead_33 : decode cX5_bringHead 33 = .ok (.dup2, 1) := by decide +kernel
theorem dX5_bringHead_34 : decode cX5_bringHead 34 = .ok (.iaload, 1) := by decide +kernel
theorem dX5_bringHead_35 : decode cX5_bringHead 35 = .ok (.iconst 1, 1) := by decide +kernel
theorem dX5_bringHead_36 : decode cX5_bringHead 36 = .ok (.iload_n 2, 1) := by decide +kernel
theorem dX5_bringHead_37 : decode cX5_bringHead 37 = .ok (.ishl, 1) := by decide +kernel
theorem dX5_bringHead_38 : decode cX5_bringHead 38 = .ok (.ior, 1) := by decide +kernel
theorem dX5_bringHead_39 : decode cX5_bringHead 39 = .ok (.iastore, 1) := by decide +kernel
theorem dX5_bringHead_40 : decode cX5_bringHead 40 = .ok (.aload_n 0, 1) := by decide +kernel
theorem dX5_bringHead_41 : decode cX5_bringHead 41 = .ok (.getfield 9, 3) := by decide +kernel
theorem dX5_bringHead_44 : decode cX5_bringHead 44 = .ok (.iload_n 2, 1) := by decide +kernel
theorem dX5_bringHead_45 : decode cX5_bringHead 45 = .ok (.aload_n 1, 1) := by decide +kernel
theorem dX5_bringHead_46 : decode cX5_bringHead 46 = .ok (.iload_n 2, 1) := by decide +kernel
theorem dX5_bringHead_47 : decode cX5_bringHead 47 = .ok (.invokevirtual 77, 3) := by decide +kernel
theorem dX5_bringHead_50 : decode cX5_bringHead 50 = .ok (.iastore, 1) := by decide +kernel
theorem dX5_bringHead_51 : decode cX5_bringHead 51 = .ok (.aload_n 0, 1) := by decide +kernel
theorem dX5_bringHead_52 : decode cX5_bringHead 52 = .ok (.getfield 9, 3) := by decide +kernel
theorem dX5_bringHead_55 : decode cX5_bringHead 55 = .ok (.iload_n 2, 1) := by decide +kernel
theorem dX5_bringHead_56 : decode cX5_bringHead 56 = .ok (.iaload, 1) := by decide +kernel
theorem dX5_bringHead_57 : decode cX5_bringHead 57 = .ok (.iconst (-1), 1) := by decide +kernel
theorem dX5_bringHead_58 : decode cX5_bringHead 58 = .ok (.if_icmp .ne 4, 3) := by decide +kernel
theorem dX5_bringHead_61 : decode cX5_bringHead 61 = .ok (.return_, 1) := by decide +kernel
theorem dX5_bringHead_62 : decode cX5_bringHead 62 = .ok (.aload_n 0, 1) := by decide +kernel
theorem dX5_bringHead_63 : decode cX5_bringHead 63 = .ok (.getfield 15, 3) := by decide +kernel
theorem dX5_bringHead_66 : decode cX5_bringHead 66 = .ok (.iload_n 2, 1) := by decide +kernel
theorem dX5_bringHead_67 : decode cX5_bringHead 67 = .ok (.aload_n 0, 1) := by decide +kernel
theorem dX5_bringHead_68 : decode cX5_bringHead 68 = .ok (.getfield 9, 3) := by decide +kernel
theorem dX5_bringHead_71 : decode cX5_bringHead 71 = .ok (.iload_n 2, 1) := by decide +kernel
theorem dX5_bringHead_72 : decode cX5_bringHead 72 = .ok (.iaload, 1) := by decide +kernel
theorem dX5_bringHead_73 : decode cX5_bringHead 73 = .ok (.getstatic 81, 3) := by decide +kernel
theorem dX5_bringHead_76 : decode cX5_bringHead 76 = .ok (.iload_n 3, 1) := by decide +kernel
theorem dX5_bringHead_77 : decode cX5_bringHead 77 = .ok (.iaload, 1) := by decide +kernel
theorem dX5_bringHead_78 : decode cX5_bringHead 78 = .ok (.iadd, 1) := by decide +kernel
theorem dX5_bringHead_79 : decode cX5_bringHead 79 = .ok (.iastore, 1) := by decide +kernel
theorem dX5_bringHead_80 : decode cX5_bringHead 80 = .ok (.aload_n 0, 1) := by decide +kernel
theorem dX5_bringHead_81 : decode cX5_bringHead 81 = .ok (.getfield 15, 3) := by decide +kernel
theorem dX5_bringHead_84 : decode cX5_bringHead 84 = .ok (.iload_n 2, 1) := by decide +kernel
theorem dX5_bringHead_85 : decode cX5_bringHead 85 = .ok (.iaload, 1) := by decide +kernel
theorem dX5_bringHead_86 : decode cX5_bringHead 86 = .ok (.aload_n 1, 1) := by decide +kernel
theorem dX5_bringHead_87 : decode cX5_bringHead 87 = .ok (.getfield 84, 3) := by decide +kernel
theorem dX5_bringHead_90 : decode cX5_bringHead 90 = .ok (.iload_n 2, 1) := by decide +kernel
theorem dX5_bringHead_91 : decode cX5_bringHead 91 = .ok (.iaload, 1) := by decide +kernel
theorem dX5_bringHead_92 : decode cX5_bringHead 92 = .ok (.invokestatic 87, 3) := by decide +kernel
theorem dX5_bringHead_95 : decode cX5_bringHead 95 = .ok (.istore 4, 2) := by decide +kernel
theorem dX5_bringHead_97 : decode cX5_bringHead 97 = .ok (.aload_n 0, 1) := by decide +kernel
theorem dX5_bringHead_98 : decode cX5_bringHead 98 = .ok (.getfield 9, 3) := by decide +kernel
theorem dX5_bringHead_101 : decode cX5_bringHead 101 = .ok (.iload_n 2, 1) := by decide +kernel
theorem dX5_bringHead_102 : decode cX5_bringHead 102 = .ok (.iaload, 1) := by decide +kernel
theorem dX5_bringHead_103 : decode cX5_bringHead 103 = .ok (.istore 5, 2) := by decide +kernel
theorem dX5_bringHead_105 : decode cX5_bringHead 105 = .ok (.iload 5, 2) := by decide +kernel
theorem dX5_bringHead_107 : decode cX5_bringHead 107 = .ok (.iload 4, 2) := by decide +kernel
theorem dX5_bringHead_109 : decode cX5_bringHead 109 = .ok (.if_icmp .ge 29, 3) := by decide +kernel
theorem dX5_bringHead_112 : decode cX5_bringHead 112 = .ok (.iload 5, 2) := by decide +kernel
theorem dX5_bringHead_114 : decode cX5_bringHead 114 = .ok (.bipush 40, 2) := by decide +kernel
theorem dX5_bringHead_116 : decode cX5_bringHead 116 = .ok (.if_icmp .ge 22, 3) := by decide +kernel
theorem dX5_bringHead_119 : decode cX5_bringHead 119 = .ok (.aload_n 0, 1) := by decide +kernel
theorem dX5_bringHead_120 : decode cX5_bringHead 120 = .ok (.getfield 27, 3) := by decide +kernel
theorem dX5_bringHead_123 : decode cX5_bringHead 123 = .ok (.iload 5, 2) := by decide +kernel
theorem dX5_bringHead_125 : decode cX5_bringHead 125 = .ok (.dup2, 1) := by decide +kernel
theorem dX5_bringHead_126 : decode cX5_bringHead 126 = .ok (.iaload, 1) := by decide +kernel
theorem dX5_bringHead_127 : decode cX5_bringHead 127 = .ok (.iconst 1, 1) := by decide +kernel
theorem dX5_bringHead_128 : decode cX5_bringHead 128 = .ok (.iload_n 2, 1) := by decide +kernel
theorem dX5_bringHead_129 : decode cX5_bringHead 129 = .ok (.ishl, 1) := by decide +kernel
theorem dX5_bringHead_130 : decode cX5_bringHead 130 = .ok (.ior, 1) := by decide +kernel
theorem dX5_bringHead_131 : decode cX5_bringHead 131 = .ok (.iastore, 1) := by decide +kernel
theorem dX5_bringHead_132 : decode cX5_bringHead 132 = .ok (.iinc 5 1, 3) := by decide +kernel
theorem dX5_bringHead_135 : decode cX5_bringHead 135 = .ok (.goto (-30), 3) := by decide +kernel
theorem dX5_bringHead_138 : decode cX5_bringHead 138 = .ok (.return_, 1) := by decide +kernel
theorem dX5_bringCouple_0 : decode cX5_bringCouple 0 = .ok (.aload_n 1, 1) := by decide +kernel
theorem dX5_bringCouple_1 : decode cX5_bringCouple 1 = .ok (.getfield 93, 3) := by decide +kernel
theorem dX5_bringCouple_4 : decode cX5_bringCouple 4 = .ok (.iload_n 2, 1) := by decide +kernel
theorem dX5_bringCouple_5 : decode cX5_bringCouple 5 = .ok (.iaload, 1) := by decide +kernel
theorem dX5_bringCouple_6 : decode cX5_bringCouple 6 = .ok (.istore_n 3, 1) := by decide +kernel
theorem dX5_bringCouple_7 : decode cX5_bringCouple 7 = .ok (.iload_n 3, 1) := by decide +kernel
theorem dX5_bringCouple_8 : decode cX5_bringCouple 8 = .ok (.iconst 4, 1) := by decide +kernel
theorem dX5_bringCouple_9 : decode cX5_bringCouple 9 = .ok (.invokestatic 73, 3) := by decide +kernel
theorem dX5_bringCouple_12 : decode cX5_bringCouple 12 = .ok (.ifCond .ne 12, 3) := by decide +kernel
theorem dX5_bringCouple_15 : decode cX5_bringCouple 15 = .ok (.aload_n 1, 1) := by decide +kernel
theorem dX5_bringCouple_16 : decode cX5_bringCouple 16 = .ok (.getfield 96, 3) := by decide +kernel
theorem dX5_bringCouple_19 : decode cX5_bringCouple 19 = .ok (.iload_n 2, 1) := by decide +kernel
theorem dX5_bringCouple_20 : decode cX5_bringCouple 20 = .ok (.iaload, 1) := by decide +kernel
theorem dX5_bringCouple_21 : decode cX5_bringCouple 21 = .ok (.ifCond .ge 4, 3) := by decide +kernel
theorem dX5_bringCouple_24 : decode cX5_bringCouple 24 = .ok (.return_, 1) := by decide +kernel
theorem dX5_bringCouple_25 : decode cX5_bringCouple 25 = .ok (.aload_n 1, 1) := by decide +kernel
theorem dX5_bringCouple_26 : decode cX5_bringCouple 26 = .ok (.getfield 96, 3) := by decide +kernel
theorem dX5_bringCouple_29 : decode cX5_bringCouple 29 = .ok (.iload_n 2, 1) := by decide +kernel
theorem dX5_bringCouple_30 : decode cX5_bringCouple 30 = .ok (.iaload, 1) := by decide +kernel
theorem dX5_bringCouple_31 : decode cX5_bringCouple 31 = .ok (.aload_n 1, 1) := by decide +kernel
theorem dX5_bringCouple_32 : decode cX5_bringCouple 32 = .ok (.getfield 99, 3) := by decide +kernel
theorem dX5_bringCouple_35 : decode cX5_bringCouple 35 = .ok (.iload_n 2, 1) := by decide +kernel
theorem dX5_bringCouple_36 : decode cX5_bringCouple 36 = .ok (.iaload, 1) := by decide +kernel
theorem dX5_bringCouple_37 : decode cX5_bringCouple 37 = .ok (.iadd, 1) := by decide +kernel
theorem dX5_bringCouple_38 : decode cX5_bringCouple 38 = .ok (.bipush 40, 2) := by decide +kernel
theorem dX5_bringCouple_40 : decode cX5_bringCouple 40 = .ok (.invokestatic 87, 3) := by decide +kernel
theorem dX5_bringCouple_43 : decode cX5_bringCouple 43 = .ok (.istore 4, 2) := by decide +kernel
theorem dX5_bringCouple_45 : decode cX5_bringCouple 45 = .ok (.aload_n 1, 1) := by decide +kernel
theorem dX5_bringCouple_46 : decode cX5_bringCouple 46 = .ok (.getfield 96, 3) := by decide +kernel
theorem dX5_bringCouple_49 : decode cX5_bringCouple 49 = .ok (.iload_n 2, 1) := by decide +kernel
theorem dX5_bringCouple_50 : decode cX5_bringCouple 50 = .ok (.iaload, 1) := by decide +kernel
theorem dX5_bringCouple_51 : decode cX5_bringCouple 51 = .ok (.istore 5, 2) := by decide +kernel
theorem dX5_bringCouple_53 : decode cX5_bringCouple 53 = .ok (.iload 5, 2) := by decide +kernel
theorem dX5_bringCouple_55 : decode cX5_bringCouple 55 = .ok (.iload 4, 2) := by decide +kernel
theorem dX5_bringCouple_57 : decode cX5_bringCouple 57 = .ok (.if_icmp .ge 45, 3) := by decide +kernel
theorem dX5_bringCouple_60 : decode cX5_bringCouple 60 = .ok (.aload_n 0, 1) := by decide +kernel
theorem dX5_bringCouple_61 : decode cX5_bringCouple 61 = .ok (.getfield 30, 3) := by decide +kernel
theorem dX5_bringCouple_64 : decode cX5_bringCouple 64 = .ok (.iload 5, 2) := by decide +kernel
theorem dX5_bringCouple_66 : decode cX5_bringCouple 66 = .ok (.dup2, 1) := by decide +kernel
theorem dX5_bringCouple_67 : decode cX5_bringCouple 67 = .ok (.iaload, 1) := by decide +kernel
theorem dX5_bringCouple_68 : decode cX5_bringCouple 68 = .ok (.iconst 1, 1) := by decide +kernel
theorem dX5_bringCouple_69 : decode cX5_bringCouple 69 = .ok (.iload_n 2, 1) := by decide +kernel
theorem dX5_bringCouple_70 : decode cX5_bringCouple 70 = .ok (.ishl, 1) := by decide +kernel
theorem dX5_bringCouple_71 : decode cX5_bringCouple 71 = .ok (.ior, 1) := by decide +kernel
theorem dX5_bringCouple_72 : decode cX5_bringCouple 72 = .ok (.iastore, 1) := by decide +kernel
theorem dX5_bringCouple_73 : decode cX5_bringCouple 73 = .ok (.aload_n 0, 1) := by decide +kernel
theorem dX5_bringCouple_74 : decode cX5_bringCouple 74 = .ok (.getfield 24, 3) := by decide +kernel
theorem dX5_bringCouple_77 : decode cX5_bringCouple 77 = .ok (.iload_n 2, 1) := by decide +kernel
theorem dX5_bringCouple_78 : decode cX5_bringCouple 78 = .ok (.dup2, 1) := by decide +kernel
theorem dX5_bringCouple_79 : decode cX5_bringCouple 79 = .ok (.iaload, 1) := by decide +kernel
theorem dX5_bringCouple_80 : decode cX5_bringCouple 80 = .ok (.aload_n 0, 1) := by decide +kernel
theorem dX5_bringCouple_81 : decode cX5_bringCouple 81 = .ok (.getfield 27, 3) := by decide +kernel
theorem dX5_bringCouple_84 : decode cX5_bringCouple 84 = .ok (.iload 5, 2) := by decide +kernel
theorem dX5_bringCouple_86 : decode cX5_bringCouple 86 = .ok (.iaload, 1) := by decide +kernel
theorem dX5_bringCouple_87 : decode cX5_bringCouple 87 = .ok (.aload_n 0, 1) := by decide +kernel
theorem dX5_bringCouple_88 : decode cX5_bringCouple 88 = .ok (.getfield 33, 3) := by decide +kernel
theorem dX5_bringCouple_91 : decode cX5_bringCouple 91 = .ok (.iload_n 3, 1) := by decide +kernel
theorem dX5_bringCouple_92 : decode cX5_bringCouple 92 = .ok (.iaload, 1) := by decide +kernel
theorem dX5_bringCouple_93 : decode cX5_bringCouple 93 = .ok (.iand, 1) := by decide +kernel
theorem dX5_bringCouple_94 : decode cX5_bringCouple 94 = .ok (.ior, 1) := by decide +kernel
theorem dX5_bringCouple_95 : decode cX5_bringCouple 95 = .ok (.iastore, 1) := by decide +kernel
theorem dX5_bringCouple_96 : decode cX5_bringCouple 96 = .ok (.iinc 5 1, 3) := by decide +kernel
theorem dX5_bringCouple_99 : decode cX5_bringCouple 99 = .ok (.goto (-46), 3) := by decide +kernel
theorem dX5_bringCouple_102 : decode cX5_bringCouple 102 = .ok (.return_, 1) := by decide +kernel
theorem dX5_dawn_0 : decode cX5_dawn 0 = .ok (.iconst 0, 1) := by decide +kernel
theorem dX5_dawn_1 : decode cX5_dawn 1 = .ok (.istore_n 3, 1) := by decide +kernel
theorem dX5_dawn_2 : decode cX5_dawn 2 = .ok (.iload_n 3, 1) := by decide +kernel
theorem dX5_dawn_3 : decode cX5_dawn 3 = .ok (.aload_n 1, 1) := by decide +kernel
theorem dX5_dawn_4 : decode cX5_dawn 4 = .ok (.getfield 49, 3) := by decide +kernel
theorem dX5_dawn_7 : decode cX5_dawn 7 = .ok (.if_icmp .ge 106, 3) := by decide +kernel
theorem dX5_dawn_10 : decode cX5_dawn 10 = .ok (.aload_n 0, 1) := by decide +kernel
theorem dX5_dawn_11 : decode cX5_dawn 11 = .ok (.getfield 30, 3) := by decide +kernel
theorem dX5_dawn_14 : decode cX5_dawn 14 = .ok (.iload_n 2, 1) := by decide +kernel
theorem dX5_dawn_15 : decode cX5_dawn 15 = .ok (.iaload, 1) := by decide +kernel
theorem dX5_dawn_16 : decode cX5_dawn 16 = .ok (.aload_n 0, 1) := by decide +kernel
theorem dX5_dawn_17 : decode cX5_dawn 17 = .ok (.getfield 58, 3) := by decide +kernel
theorem dX5_dawn_20 : decode cX5_dawn 20 = .ok (.iconst (-1), 1) := by decide +kernel
theorem dX5_dawn_21 : decode cX5_dawn 21 = .ok (.ixor, 1) := by decide +kernel
theorem dX5_dawn_22 : decode cX5_dawn 22 = .ok (.iand, 1) := by decide +kernel
theorem dX5_dawn_23 : decode cX5_dawn 23 = .ok (.iconst 1, 1) := by decide +kernel
theorem dX5_dawn_24 : decode cX5_dawn 24 = .ok (.iload_n 3, 1) := by decide +kernel
theorem dX5_dawn_25 : decode cX5_dawn 25 = .ok (.ishl, 1) := by decide +kernel
theorem dX5_dawn_26 : decode cX5_dawn 26 = .ok (.iand, 1) := by decide +kernel
theorem dX5_dawn_27 : decode cX5_dawn 27 = .ok (.ifCond .ne 6, 3) := by decide +kernel
theorem dX5_dawn_30 : decode cX5_dawn 30 = .ok (.goto 77, 3) := by decide +kernel
theorem dX5_dawn_33 : decode cX5_dawn 33 = .ok (.aload_n 0, 1) := by decide +kernel
theorem dX5_dawn_34 : decode cX5_dawn 34 = .ok (.getfield 27, 3) := by decide +kernel
theorem dX5_dawn_37 : decode cX5_dawn 37 = .ok (.iload_n 2, 1) := by decide +kernel
theorem dX5_dawn_38 : decode cX5_dawn 38 = .ok (.iaload, 1) := by decide +kernel
theorem dX5_dawn_39 : decode cX5_dawn 39 = .ok (.aload_n 0, 1) := by decide +kernel
theorem dX5_dawn_40 : decode cX5_dawn 40 = .ok (.getfield 55, 3) := by decide +kernel
theorem dX5_dawn_43 : decode cX5_dawn 43 = .ok (.iconst (-1), 1) := by decide +kernel
theorem dX5_dawn_44 : decode cX5_dawn 44 = .ok (.ixor, 1) := by decide +kernel
theorem dX5_dawn_45 : decode cX5_dawn 45 = .ok (.iand, 1) := by decide +kernel
theorem dX5_dawn_46 : decode cX5_dawn 46 = .ok (.aload_n 0, 1) := by decide +kernel
theorem dX5_dawn_47 : decode cX5_dawn 47 = .ok (.getfield 24, 3) := by decide +kernel
theorem dX5_dawn_50 : decode cX5_dawn 50 = .ok (.iload_n 3, 1) := by decide +kernel
theorem dX5_dawn_51 : decode cX5_dawn 51 = .ok (.iaload, 1) := by decide +kernel
theorem dX5_dawn_52 : decode cX5_dawn 52 = .ok (.iand, 1) := by decide +kernel
theorem dX5_dawn_53 : decode cX5_dawn 53 = .ok (.invokestatic 102, 3) := by decide +kernel
theorem dX5_dawn_56 : decode cX5_dawn 56 = .ok (.istore 4, 2) := by decide +kernel
theorem dX5_dawn_58 : decode cX5_dawn 58 = .ok (.iload 4, 2) := by decide +kernel
theorem dX5_dawn_60 : decode cX5_dawn 60 = .ok (.iconst (-1), 1) := by decide +kernel
theorem dX5_dawn_61 : decode cX5_dawn 61 = .ok (.if_icmp .ne 6, 3) := by decide +kernel
theorem dX5_dawn_64 : decode cX5_dawn 64 = .ok (.goto 43, 3) := by decide +kernel
theorem dX5_dawn_67 : decode cX5_dawn 67 = .ok (.aload_n 0, 1) := by decide +kernel
theorem dX5_dawn_68 : decode cX5_dawn 68 = .ok (.dup, 1) := by decide +kernel
theorem dX5_dawn_69 : decode cX5_dawn 69 = .ok (.getfield 55, 3) := by decide +kernel
theorem dX5_dawn_72 : decode cX5_dawn 72 = .ok (.iconst 1, 1) := by decide +kernel
theorem dX5_dawn_73 : decode cX5_dawn 73 = .ok (.iload 4, 2) := by decide +kernel
theorem dX5_dawn_75 : decode cX5_dawn 75 = .ok (.ishl, 1) := by decide +kernel
theorem dX5_dawn_76 : decode cX5_dawn 76 = .ok (.ior, 1) := by decide +kernel
theorem dX5_dawn_77 : decode cX5_dawn 77 = .ok (.putfield 55, 3) := by decide +kernel
theorem dX5_dawn_80 : decode cX5_dawn 80 = .ok (.aload_n 0, 1) := by decide +kernel
theorem dX5_dawn_81 : decode cX5_dawn 81 = .ok (.dup, 1) := by decide +kernel
theorem dX5_dawn_82 : decode cX5_dawn 82 = .ok (.getfield 58, 3) := by decide +kernel
theorem dX5_dawn_85 : decode cX5_dawn 85 = .ok (.iconst 1, 1) := by decide +kernel
theorem dX5_dawn_86 : decode cX5_dawn 86 = .ok (.iload_n 3, 1) := by decide +kernel
theorem dX5_dawn_87 : decode cX5_dawn 87 = .ok (.ishl, 1) := by decide +kernel
theorem dX5_dawn_88 : decode cX5_dawn 88 = .ok (.ior, 1) := by decide +kernel
theorem dX5_dawn_89 : decode cX5_dawn 89 = .ok (.putfield 58, 3) := by decide +kernel
theorem dX5_dawn_92 : decode cX5_dawn 92 = .ok (.aload_n 0, 1) := by decide +kernel
theorem dX5_dawn_93 : decode cX5_dawn 93 = .ok (.getfield 18, 3) := by decide +kernel
theorem dX5_dawn_96 : decode cX5_dawn 96 = .ok (.iload_n 3, 1) := by decide +kernel
theorem dX5_dawn_97 : decode cX5_dawn 97 = .ok (.iload 4, 2) := by decide +kernel
theorem dX5_dawn_99 : decode cX5_dawn 99 = .ok (.iastore, 1) := by decide +kernel
theorem dX5_dawn_100 : decode cX5_dawn 100 = .ok (.aload_n 0, 1) := by decide +kernel
theorem dX5_dawn_101 : decode cX5_dawn 101 = .ok (.getfield 21, 3) := by decide +kernel
theorem dX5_dawn_104 : decode cX5_dawn 104 = .ok (.iload_n 3, 1) := by decide +kernel
theorem dX5_dawn_105 : decode cX5_dawn 105 = .ok (.iload_n 2, 1) := by decide +kernel
theorem dX5_dawn_106 : decode cX5_dawn 106 = .ok (.iastore, 1) := by decide +kernel
theorem dX5_dawn_107 : decode cX5_dawn 107 = .ok (.iinc 3 1, 3) := by decide +kernel
theorem dX5_dawn_110 : decode cX5_dawn 110 = .ok (.goto (-108), 3) := by decide +kernel
theorem dX5_dawn_113 : decode cX5_dawn 113 = .ok (.return_, 1) := by decide +kernel
theorem dX5_lifterOf_0 : decode cX5_lifterOf 0 = .ok (.iconst 0, 1) := by decide +kernel
theorem dX5_lifterOf_1 : decode cX5_lifterOf 1 = .ok (.istore_n 2, 1) := by decide +kernel
theorem dX5_lifterOf_2 : decode cX5_lifterOf 2 = .ok (.iload_n 2, 1) := by decide +kernel
theorem dX5_lifterOf_3 : decode cX5_lifterOf 3 = .ok (.bipush 8, 2) := by decide +kernel
theorem dX5_lifterOf_5 : decode cX5_lifterOf 5 = .ok (.if_icmp .ge 21, 3) := by decide +kernel
theorem dX5_lifterOf_8 : decode cX5_lifterOf 8 = .ok (.aload_n 0, 1) := by decide +kernel
theorem dX5_lifterOf_9 : decode cX5_lifterOf 9 = .ok (.getfield 18, 3) := by decide +kernel
theorem dX5_lifterOf_12 : decode cX5_lifterOf 12 = .ok (.iload_n 2, 1) := by decide +kernel
theorem dX5_lifterOf_13 : decode cX5_lifterOf 13 = .ok (.iaload, 1) := by decide +kernel
theorem dX5_lifterOf_14 : decode cX5_lifterOf 14 = .ok (.iload_n 1, 1) := by decide +kernel
theorem dX5_lifterOf_15 : decode cX5_lifterOf 15 = .ok (.if_icmp .ne 5, 3) := by decide +kernel
theorem dX5_lifterOf_18 : decode cX5_lifterOf 18 = .ok (.iload_n 2, 1) := by decide +kernel
theorem dX5_lifterOf_19 : decode cX5_lifterOf 19 = .ok (.ireturn, 1) := by decide +kernel
theorem dX5_lifterOf_20 : decode cX5_lifterOf 20 = .ok (.iinc 2 1, 3) := by decide +kernel
theorem dX5_lifterOf_23 : decode cX5_lifterOf 23 = .ok (.goto (-21), 3) := by decide +kernel
theorem dX5_lifterOf_26 : decode cX5_lifterOf 26 = .ok (.iconst (-1), 1) := by decide +kernel
theorem dX5_lifterOf_27 : decode cX5_lifterOf 27 = .ok (.ireturn, 1) := by decide +kernel
theorem dX5_stateOf_0 : decode cX5_stateOf 0 = .ok (.aload_n 0, 1) := by decide +kernel
theorem dX5_stateOf_1 : decode cX5_stateOf 1 = .ok (.iload_n 3, 1) := by decide +kernel
theorem dX5_stateOf_2 : decode cX5_stateOf 2 = .ok (.invokevirtual 105, 3) := by decide +kernel
theorem dX5_stateOf_5 : decode cX5_stateOf 5 = .ok (.istore 4, 2) := by decide +kernel
theorem dX5_stateOf_7 : decode cX5_stateOf 7 = .ok (.iload 4, 2) := by decide +kernel
theorem dX5_stateOf_9 : decode cX5_stateOf 9 = .ok (.iconst (-1), 1) := by decide +kernel
theorem dX5_stateOf_10 : decode cX5_stateOf 10 = .ok (.if_icmp .eq 16, 3) := by decide +kernel
theorem dX5_stateOf_13 : decode cX5_stateOf 13 = .ok (.aload_n 0, 1) := by decide +kernel
theorem dX5_stateOf_14 : decode cX5_stateOf 14 = .ok (.getfield 21, 3) := by decide +kernel
theorem dX5_stateOf_17 : decode cX5_stateOf 17 = .ok (.iload 4, 2) := by decide +kernel
theorem dX5_stateOf_19 : decode cX5_stateOf 19 = .ok (.iaload, 1) := by decide +kernel
theorem dX5_stateOf_20 : decode cX5_stateOf 20 = .ok (.iload_n 2, 1) := by decide +kernel
theorem dX5_stateOf_21 : decode cX5_stateOf 21 = .ok (.if_icmp .gt 5, 3) := by decide +kernel
theorem dX5_stateOf_24 : decode cX5_stateOf 24 = .ok (.iconst 2, 1) := by decide +kernel
theorem dX5_stateOf_25 : decode cX5_stateOf 25 = .ok (.ireturn, 1) := by decide +kernel
theorem dX5_stateOf_26 : decode cX5_stateOf 26 = .ok (.aload_n 1, 1) := by decide +kernel
theorem dX5_stateOf_27 : decode cX5_stateOf 27 = .ok (.getfield 84, 3) := by decide +kernel
theorem dX5_stateOf_30 : decode cX5_stateOf 30 = .ok (.iload_n 3, 1) := by decide +kernel
theorem dX5_stateOf_31 : decode cX5_stateOf 31 = .ok (.iaload, 1) := by decide +kernel
theorem dX5_stateOf_32 : decode cX5_stateOf 32 = .ok (.iload_n 2, 1) := by decide +kernel
theorem dX5_stateOf_33 : decode cX5_stateOf 33 = .ok (.if_icmp .gt 5, 3) := by decide +kernel
theorem dX5_stateOf_36 : decode cX5_stateOf 36 = .ok (.iconst 3, 1) := by decide +kernel
theorem dX5_stateOf_37 : decode cX5_stateOf 37 = .ok (.ireturn, 1) := by decide +kernel
theorem dX5_stateOf_38 : decode cX5_stateOf 38 = .ok (.aload_n 0, 1) := by decide +kernel
theorem dX5_stateOf_39 : decode cX5_stateOf 39 = .ok (.getfield 9, 3) := by decide +kernel
theorem dX5_stateOf_42 : decode cX5_stateOf 42 = .ok (.iload_n 3, 1) := by decide +kernel
theorem dX5_stateOf_43 : decode cX5_stateOf 43 = .ok (.iaload, 1) := by decide +kernel
theorem dX5_stateOf_44 : decode cX5_stateOf 44 = .ok (.iconst (-1), 1) := by decide +kernel
theorem dX5_stateOf_45 : decode cX5_stateOf 45 = .ok (.if_icmp .ne 17, 3) := by decide +kernel
theorem dX5_stateOf_48 : decode cX5_stateOf 48 = .ok (.aload_n 1, 1) := by decide +kernel
theorem dX5_stateOf_49 : decode cX5_stateOf 49 = .ok (.invokevirtual 108, 3) := by decide +kernel
theorem dX5_stateOf_52 : decode cX5_stateOf 52 = .ok (.iload_n 2, 1) := by decide +kernel
theorem dX5_stateOf_53 : decode cX5_stateOf 53 = .ok (.if_icmp .gt 7, 3) := by decide +kernel
theorem dX5_stateOf_56 : decode cX5_stateOf 56 = .ok (.iconst 3, 1) := by decide +kernel
theorem dX5_stateOf_57 : decode cX5_stateOf 57 = .ok (.goto 4, 3) := by decide +kernel
theorem dX5_stateOf_60 : decode cX5_stateOf 60 = .ok (.iconst 0, 1) := by decide +kernel
theorem dX5_stateOf_61 : decode cX5_stateOf 61 = .ok (.ireturn, 1) := by decide +kernel
theorem dX5_stateOf_62 : decode cX5_stateOf 62 = .ok (.iload_n 2, 1) := by decide +kernel
theorem dX5_stateOf_63 : decode cX5_stateOf 63 = .ok (.aload_n 0, 1) := by decide +kernel
theorem dX5_stateOf_64 : decode cX5_stateOf 64 = .ok (.getfield 9, 3) := by decide +kernel
theorem dX5_stateOf_67 : decode cX5_stateOf 67 = .ok (.iload_n 3, 1) := by decide +kernel
theorem dX5_stateOf_68 : decode cX5_stateOf 68 = .ok (.iaload, 1) := by decide +kernel
theorem dX5_stateOf_69 : decode cX5_stateOf 69 = .ok (.if_icmp .ge 5, 3) := by decide +kernel
theorem dX5_stateOf_72 : decode cX5_stateOf 72 = .ok (.iconst 0, 1) := by decide +kernel
theorem dX5_stateOf_73 : decode cX5_stateOf 73 = .ok (.ireturn, 1) := by decide +kernel
theorem dX5_stateOf_74 : decode cX5_stateOf 74 = .ok (.iload_n 2, 1) := by decide +kernel
theorem dX5_stateOf_75 : decode cX5_stateOf 75 = .ok (.aload_n 0, 1) := by decide +kernel
theorem dX5_stateOf_76 : decode cX5_stateOf 76 = .ok (.getfield 15, 3) := by decide +kernel
theorem dX5_stateOf_79 : decode cX5_stateOf 79 = .ok (.iload_n 3, 1) := by decide +kernel
theorem dX5_stateOf_80 : decode cX5_stateOf 80 = .ok (.iaload, 1) := by decide +kernel
theorem dX5_stateOf_81 : decode cX5_stateOf 81 = .ok (.if_icmp .ge 7, 3) := by decide +kernel
theorem dX5_stateOf_84 : decode cX5_stateOf 84 = .ok (.iconst 1, 1) := by decide +kernel
theorem dX5_stateOf_85 : decode cX5_stateOf 85 = .ok (.goto 4, 3) := by decide +kernel
theorem dX5_stateOf_88 : decode cX5_stateOf 88 = .ok (.iconst 4, 1) := by decide +kernel
theorem dX5_stateOf_89 : decode cX5_stateOf 89 = .ok (.ireturn, 1) := by decide +kernel
theorem dX5_firstOutOfTurn_0 : decode cX5_firstOutOfTurn 0 = .ok (.iconst (-1), 1) := by decide +kernel
theorem dX5_firstOutOfTurn_1 : decode cX5_firstOutOfTurn 1 = .ok (.istore_n 2, 1) := by decide +kernel
theorem dX5_firstOutOfTurn_2 : decode cX5_firstOutOfTurn 2 = .ok (.iconst 0, 1) := by decide +kernel
theorem dX5_firstOutOfTurn_3 : decode cX5_firstOutOfTurn 3 = .ok (.istore_n 3, 1) := by decide +kernel
theorem dX5_firstOutOfTurn_4 : decode cX5_firstOutOfTurn 4 = .ok (.iload_n 3, 1) := by decide +kernel
theorem dX5_firstOutOfTurn_5 : decode cX5_firstOutOfTurn 5 = .ok (.aload_n 1, 1) := by decide +kernel
theorem dX5_firstOutOfTurn_6 : decode cX5_firstOutOfTurn 6 = .ok (.getfield 49, 3) := by decide +kernel
theorem dX5_firstOutOfTurn_9 : decode cX5_firstOutOfTurn 9 = .ok (.if_icmp .ge 53, 3) := by decide +kernel
theorem dX5_firstOutOfTurn_12 : decode cX5_firstOutOfTurn 12 = .ok (.aload_n 0, 1) := by decide +kernel
theorem dX5_firstOutOfTurn_13 : decode cX5_firstOutOfTurn 13 = .ok (.getfield 18, 3) := by decide +kernel
theorem dX5_firstOutOfTurn_16 : decode cX5_firstOutOfTurn 16 = .ok (.iload_n 3, 1) := by decide +kernel
theorem dX5_firstOutOfTurn_17 : decode cX5_firstOutOfTurn 17 = .ok (.iaload, 1) := by decide +kernel
theorem dX5_firstOutOfTurn_18 : decode cX5_firstOutOfTurn 18 = .ok (.iconst (-1), 1) := by decide +kernel
theorem dX5_firstOutOfTurn_19 : decode cX5_firstOutOfTurn 19 = .ok (.if_icmp .eq 37, 3) := by decide +kernel
theorem dX5_firstOutOfTurn_22 : decode cX5_firstOutOfTurn 22 = .ok (.aload_n 0, 1) := by decide +kernel
theorem dX5_firstOutOfTurn_23 : decode cX5_firstOutOfTurn 23 = .ok (.aload_n 1, 1) := by decide +kernel
theorem dX5_firstOutOfTurn_24 : decode cX5_firstOutOfTurn 24 = .ok (.iload_n 3, 1) := by decide +kernel
theorem dX5_firstOutOfTurn_25 : decode cX5_firstOutOfTurn 25 = .ok (.invokevirtual 112, 3) := by decide +kernel
theorem dX5_firstOutOfTurn_28 : decode cX5_firstOutOfTurn 28 = .ok (.ifCond .ne 6, 3) := by decide +kernel
theorem dX5_firstOutOfTurn_31 : decode cX5_firstOutOfTurn 31 = .ok (.goto 25, 3) := by decide +kernel
theorem dX5_firstOutOfTurn_34 : decode cX5_firstOutOfTurn 34 = .ok (.iload_n 2, 1) := by decide +kernel
theorem dX5_firstOutOfTurn_35 : decode cX5_firstOutOfTurn 35 = .ok (.iconst (-1), 1) := by decide +kernel
theorem dX5_firstOutOfTurn_36 : decode cX5_firstOutOfTurn 36 = .ok (.if_icmp .eq 18, 3) := by decide +kernel
theorem dX5_firstOutOfTurn_39 : decode cX5_firstOutOfTurn 39 = .ok (.aload_n 0, 1) := by decide +kernel
theorem dX5_firstOutOfTurn_40 : decode cX5_firstOutOfTurn 40 = .ok (.getfield 21, 3) := by decide +kernel
theorem dX5_firstOutOfTurn_43 : decode cX5_firstOutOfTurn 43 = .ok (.iload_n 3, 1) := by decide +kernel
theorem dX5_firstOutOfTurn_44 : decode cX5_firstOutOfTurn 44 = .ok (.iaload, 1) := by decide +kernel
theorem dX5_firstOutOfTurn_45 : decode cX5_firstOutOfTurn 45 = .ok (.aload_n 0, 1) := by decide +kernel
theorem dX5_firstOutOfTurn_46 : decode cX5_firstOutOfTurn 46 = .ok (.getfield 21, 3) := by decide +kernel
theorem dX5_firstOutOfTurn_49 : decode cX5_firstOutOfTurn 49 = .ok (.iload_n 2, 1) := by decide +kernel
theorem dX5_firstOutOfTurn_50 : decode cX5_firstOutOfTurn 50 = .ok (.iaload, 1) := by decide +kernel
theorem dX5_firstOutOfTurn_51 : decode cX5_firstOutOfTurn 51 = .ok (.if_icmp .ge 5, 3) := by decide +kernel
theorem dX5_firstOutOfTurn_54 : decode cX5_firstOutOfTurn 54 = .ok (.iload_n 3, 1) := by decide +kernel
theorem dX5_firstOutOfTurn_55 : decode cX5_firstOutOfTurn 55 = .ok (.istore_n 2, 1) := by decide +kernel
theorem dX5_firstOutOfTurn_56 : decode cX5_firstOutOfTurn 56 = .ok (.iinc 3 1, 3) := by decide +kernel
theorem dX5_firstOutOfTurn_59 : decode cX5_firstOutOfTurn 59 = .ok (.goto (-55), 3) := by decide +kernel
theorem dX5_firstOutOfTurn_62 : decode cX5_firstOutOfTurn 62 = .ok (.iload_n 2, 1) := by decide +kernel
theorem dX5_firstOutOfTurn_63 : decode cX5_firstOutOfTurn 63 = .ok (.ireturn, 1) := by decide +kernel
theorem dX5_isOutOfTurn_0 : decode cX5_isOutOfTurn 0 = .ok (.aload_n 1, 1) := by decide +kernel
theorem dX5_isOutOfTurn_1 : decode cX5_isOutOfTurn 1 = .ok (.getfield 70, 3) := by decide +kernel
theorem dX5_isOutOfTurn_4 : decode cX5_isOutOfTurn 4 = .ok (.aload_n 0, 1) := by decide +kernel
theorem dX5_isOutOfTurn_5 : decode cX5_isOutOfTurn 5 = .ok (.getfield 18, 3) := by decide +kernel
theorem dX5_isOutOfTurn_8 : decode cX5_isOutOfTurn 8 = .ok (.iload_n 2, 1) := by decide +kernel
theorem dX5_isOutOfTurn_9 : decode cX5_isOutOfTurn 9 = .ok (.iaload, 1) := by decide +kernel
theorem dX5_isOutOfTurn_10 : decode cX5_isOutOfTurn 10 = .ok (.iaload, 1) := by decide +kernel
theorem dX5_isOutOfTurn_11 : decode cX5_isOutOfTurn 11 = .ok (.istore_n 3, 1) := by decide +kernel
theorem dX5_isOutOfTurn_12 : decode cX5_isOutOfTurn 12 = .ok (.iconst 0, 1) := by decide +kernel
theorem dX5_isOutOfTurn_13 : decode cX5_isOutOfTurn 13 = .ok (.istore 4, 2) := by decide +kernel
theorem dX5_isOutOfTurn_15 : decode cX5_isOutOfTurn 15 = .ok (.iload 4, 2) := by decide +kernel
theorem dX5_isOutOfTurn_17 : decode cX5_isOutOfTurn 17 = .ok (.aload_n 1, 1) := by decide +kernel
theorem dX5_isOutOfTurn_18 : decode cX5_isOutOfTurn 18 = .ok (.getfield 49, 3) := by decide +kernel
theorem dX5_isOutOfTurn_21 : decode cX5_isOutOfTurn 21 = .ok (.if_icmp .ge 62, 3) := by decide +kernel
theorem dX5_isOutOfTurn_24 : decode cX5_isOutOfTurn 24 = .ok (.aload_n 1, 1) := by decide +kernel
theorem dX5_isOutOfTurn_25 : decode cX5_isOutOfTurn 25 = .ok (.getfield 96, 3) := by decide +kernel
theorem dX5_isOutOfTurn_28 : decode cX5_isOutOfTurn 28 = .ok (.iload 4, 2) := by decide +kernel
theorem dX5_isOutOfTurn_30 : decode cX5_isOutOfTurn 30 = .ok (.iaload, 1) := by decide +kernel
theorem dX5_isOutOfTurn_31 : decode cX5_isOutOfTurn 31 = .ok (.aload_n 1, 1) := by decide +kernel
theorem dX5_isOutOfTurn_32 : decode cX5_isOutOfTurn 32 = .ok (.getfield 96, 3) := by decide +kernel
theorem dX5_isOutOfTurn_35 : decode cX5_isOutOfTurn 35 = .ok (.iload_n 2, 1) := by decide +kernel
theorem dX5_isOutOfTurn_36 : decode cX5_isOutOfTurn 36 = .ok (.iaload, 1) := by decide +kernel
theorem dX5_isOutOfTurn_37 : decode cX5_isOutOfTurn 37 = .ok (.if_icmp .ge 40, 3) := by decide +kernel
theorem dX5_isOutOfTurn_40 : decode cX5_isOutOfTurn 40 = .ok (.aload_n 1, 1) := by decide +kernel
theorem dX5_isOutOfTurn_41 : decode cX5_isOutOfTurn 41 = .ok (.iload 4, 2) := by decide +kernel
theorem dX5_isOutOfTurn_43 : decode cX5_isOutOfTurn 43 = .ok (.aload_n 0, 1) := by decide +kernel
theorem dX5_isOutOfTurn_44 : decode cX5_isOutOfTurn 44 = .ok (.getfield 21, 3) := by decide +kernel
theorem dX5_isOutOfTurn_47 : decode cX5_isOutOfTurn 47 = .ok (.iload_n 2, 1) := by decide +kernel
theorem dX5_isOutOfTurn_48 : decode cX5_isOutOfTurn 48 = .ok (.iaload, 1) := by decide +kernel
theorem dX5_isOutOfTurn_49 : decode cX5_isOutOfTurn 49 = .ok (.invokevirtual 116, 3) := by decide +kernel
theorem dX5_isOutOfTurn_52 : decode cX5_isOutOfTurn 52 = .ok (.ifCond .eq 25, 3) := by decide +kernel
theorem dX5_isOutOfTurn_55 : decode cX5_isOutOfTurn 55 = .ok (.aload_n 1, 1) := by decide +kernel
theorem dX5_isOutOfTurn_56 : decode cX5_isOutOfTurn 56 = .ok (.iload 4, 2) := by decide +kernel
theorem dX5_isOutOfTurn_58 : decode cX5_isOutOfTurn 58 = .ok (.iload_n 3, 1) := by decide +kernel
theorem dX5_isOutOfTurn_59 : decode cX5_isOutOfTurn 59 = .ok (.invokevirtual 119, 3) := by decide +kernel
theorem dX5_isOutOfTurn_62 : decode cX5_isOutOfTurn 62 = .ok (.ifCond .eq 15, 3) := by decide +kernel
theorem dX5_isOutOfTurn_65 : decode cX5_isOutOfTurn 65 = .ok (.aload_n 0, 1) := by decide +kernel
theorem dX5_isOutOfTurn_66 : decode cX5_isOutOfTurn 66 = .ok (.iload 4, 2) := by decide +kernel
theorem dX5_isOutOfTurn_68 : decode cX5_isOutOfTurn 68 = .ok (.iload_n 2, 1) := by decide +kernel
theorem dX5_isOutOfTurn_69 : decode cX5_isOutOfTurn 69 = .ok (.invokevirtual 122, 3) := by decide +kernel
theorem dX5_isOutOfTurn_72 : decode cX5_isOutOfTurn 72 = .ok (.ifCond .eq 5, 3) := by decide +kernel
theorem dX5_isOutOfTurn_75 : decode cX5_isOutOfTurn 75 = .ok (.iconst 1, 1) := by decide +kernel
theorem dX5_isOutOfTurn_76 : decode cX5_isOutOfTurn 76 = .ok (.ireturn, 1) := by decide +kernel
theorem dX5_isOutOfTurn_77 : decode cX5_isOutOfTurn 77 = .ok (.iinc 4 1, 3) := by decide +kernel
theorem dX5_isOutOfTurn_80 : decode cX5_isOutOfTurn 80 = .ok (.goto (-65), 3) := by decide +kernel
theorem dX5_isOutOfTurn_83 : decode cX5_isOutOfTurn 83 = .ok (.iconst 0, 1) := by decide +kernel
theorem dX5_isOutOfTurn_84 : decode cX5_isOutOfTurn 84 = .ok (.ireturn, 1) := by decide +kernel
theorem dX5_isStillWithout_0 : decode cX5_isStillWithout 0 = .ok (.aload_n 0, 1) := by decide +kernel
theorem dX5_isStillWithout_1 : decode cX5_isStillWithout 1 = .ok (.getfield 21, 3) := by decide +kernel
theorem dX5_isStillWithout_4 : decode cX5_isStillWithout 4 = .ok (.iload_n 1, 1) := by decide +kernel
theorem dX5_isStillWithout_5 : decode cX5_isStillWithout 5 = .ok (.iaload, 1) := by decide +kernel
theorem dX5_isStillWithout_6 : decode cX5_isStillWithout 6 = .ok (.iconst (-1), 1) := by decide +kernel
theorem dX5_isStillWithout_7 : decode cX5_isStillWithout 7 = .ok (.if_icmp .eq 18, 3) := by decide +kernel
theorem dX5_isStillWithout_10 : decode cX5_isStillWithout 10 = .ok (.aload_n 0, 1) := by decide +kernel
theorem dX5_isStillWithout_11 : decode cX5_isStillWithout 11 = .ok (.getfield 21, 3) := by decide +kernel
theorem dX5_isStillWithout_14 : decode cX5_isStillWithout 14 = .ok (.iload_n 1, 1) := by decide +kernel
theorem dX5_isStillWithout_15 : decode cX5_isStillWithout 15 = .ok (.iaload, 1) := by decide +kernel
theorem dX5_isStillWithout_16 : decode cX5_isStillWithout 16 = .ok (.aload_n 0, 1) := by decide +kernel
theorem dX5_isStillWithout_17 : decode cX5_isStillWithout 17 = .ok (.getfield 21, 3) := by decide +kernel
theorem dX5_isStillWithout_20 : decode cX5_isStillWithout 20 = .ok (.iload_n 2, 1) := by decide +kernel
theorem dX5_isStillWithout_21 : decode cX5_isStillWithout 21 = .ok (.iaload, 1) := by decide +kernel
theorem dX5_isStillWithout_22 : decode cX5_isStillWithout 22 = .ok (.if_icmp .le 5, 3) := by decide +kernel
theorem dX5_isStillWithout_25 : decode cX5_isStillWithout 25 = .ok (.iconst 1, 1) := by decide +kernel
theorem dX5_isStillWithout_26 : decode cX5_isStillWithout 26 = .ok (.ireturn, 1) := by decide +kernel
theorem dX5_isStillWithout_27 : decode cX5_isStillWithout 27 = .ok (.aload_n 0, 1) := by decide +kernel
theorem dX5_isStillWithout_28 : decode cX5_isStillWithout 28 = .ok (.getfield 21, 3) := by decide +kernel
theorem dX5_isStillWithout_31 : decode cX5_isStillWithout 31 = .ok (.iload_n 1, 1) := by decide +kernel
theorem dX5_isStillWithout_32 : decode cX5_isStillWithout 32 = .ok (.iaload, 1) := by decide +kernel
theorem dX5_isStillWithout_33 : decode cX5_isStillWithout 33 = .ok (.aload_n 0, 1) := by decide +kernel
theorem dX5_isStillWithout_34 : decode cX5_isStillWithout 34 = .ok (.getfield 21, 3) := by decide +kernel
theorem dX5_isStillWithout_37 : decode cX5_isStillWithout 37 = .ok (.iload_n 2, 1) := by decide +kernel
theorem dX5_isStillWithout_38 : decode cX5_isStillWithout 38 = .ok (.iaload, 1) := by decide +kernel
theorem dX5_isStillWithout_39 : decode cX5_isStillWithout 39 = .ok (.if_icmp .ne 12, 3) := by decide +kernel
theorem dX5_isStillWithout_42 : decode cX5_isStillWithout 42 = .ok (.iload_n 1, 1) := by decide +kernel
theorem dX5_isStillWithout_43 : decode cX5_isStillWithout 43 = .ok (.iload_n 2, 1) := by decide +kernel
theorem dX5_isStillWithout_44 : decode cX5_isStillWithout 44 = .ok (.if_icmp .le 7, 3) := by decide +kernel
theorem dX5_isStillWithout_47 : decode cX5_isStillWithout 47 = .ok (.iconst 1, 1) := by decide +kernel
theorem dX5_isStillWithout_48 : decode cX5_isStillWithout 48 = .ok (.goto 4, 3) := by decide +kernel
theorem dX5_isStillWithout_51 : decode cX5_isStillWithout 51 = .ok (.iconst 0, 1) := by decide +kernel
theorem dX5_isStillWithout_52 : decode cX5_isStillWithout 52 = .ok (.ireturn, 1) := by decide +kernel
end
section
theorem dX6_init_0 : decode cX6_init 0 = .ok (.aload_n 0, 1) := by decide +kernel
theorem dX6_init_1 : decode cX6_init 1 = .ok (.invokespecial 1, 3) := by decide +kernel
theorem dX6_init_4 : decode cX6_init 4 = .ok (.aload_n 0, 1) := by decide +kernel
theorem dX6_init_5 : decode cX6_init 5 = .ok (.iconst 2, 1) := by decide +kernel
theorem dX6_init_6 : decode cX6_init 6 = .ok (.anewarray 7, 3) := by decide +kernel
theorem dX6_init_9 : decode cX6_init 9 = .ok (.dup, 1) := by decide +kernel
theorem dX6_init_10 : decode cX6_init 10 = .ok (.iconst 0, 1) := by decide +kernel
theorem dX6_init_11 : decode cX6_init 11 = .ok (.new 7, 3) := by decide +kernel
theorem dX6_init_14 : decode cX6_init 14 = .ok (.dup, 1) := by decide +kernel
theorem dX6_init_15 : decode cX6_init 15 = .ok (.ldc 9, 2) := by decide +kernel
theorem dX6_init_17 : decode cX6_init 17 = .ok (.iconst 2, 1) := by decide +kernel
theorem dX6_init_18 : decode cX6_init 18 = .ok (.invokespecial 11, 3) := by decide +kernel
theorem dX6_init_21 : decode cX6_init 21 = .ok (.aastore, 1) := by decide +kernel
theorem dX6_init_22 : decode cX6_init 22 = .ok (.dup, 1) := by decide +kernel
theorem dX6_init_23 : decode cX6_init 23 = .ok (.iconst 1, 1) := by decide +kernel
theorem dX6_init_24 : decode cX6_init 24 = .ok (.new 7, 3) := by decide +kernel
theorem dX6_init_27 : decode cX6_init 27 = .ok (.dup, 1) := by decide +kernel
theorem dX6_init_28 : decode cX6_init 28 = .ok (.ldc 14, 2) := by decide +kernel
theorem dX6_init_30 : decode cX6_init 30 = .ok (.iconst 3, 1) := by decide +kernel
theorem dX6_init_31 : decode cX6_init 31 = .ok (.invokespecial 11, 3) := by decide +kernel
theorem dX6_init_34 : decode cX6_init 34 = .ok (.aastore, 1) := by decide +kernel
theorem dX6_init_35 : decode cX6_init 35 = .ok (.putfield 16, 3) := by decide +kernel
theorem dX6_init_38 : decode cX6_init 38 = .ok (.aload_n 0, 1) := by decide +kernel
theorem dX6_init_39 : decode cX6_init 39 = .ok (.new 22, 3) := by decide +kernel
theorem dX6_init_42 : decode cX6_init 42 = .ok (.dup, 1) := by decide +kernel
theorem dX6_init_43 : decode cX6_init 43 = .ok (.bipush 6, 2) := by decide +kernel
theorem dX6_init_45 : decode cX6_init 45 = .ok (.invokespecial 24, 3) := by decide +kernel
theorem dX6_init_48 : decode cX6_init 48 = .ok (.putfield 27, 3) := by decide +kernel
theorem dX6_init_51 : decode cX6_init 51 = .ok (.aload_n 0, 1) := by decide +kernel
theorem dX6_init_52 : decode cX6_init 52 = .ok (.new 22, 3) := by decide +kernel
theorem dX6_init_55 : decode cX6_init 55 = .ok (.dup, 1) := by decide +kernel
theorem dX6_init_56 : decode cX6_init 56 = .ok (.bipush 6, 2) := by decide +kernel
theorem dX6_init_58 : decode cX6_init 58 = .ok (.invokespecial 24, 3) := by decide +kernel
theorem dX6_init_61 : decode cX6_init 61 = .ok (.putfield 31, 3) := by decide +kernel
theorem dX6_init_64 : decode cX6_init 64 = .ok (.aload_n 0, 1) := by decide +kernel
theorem dX6_init_65 : decode cX6_init 65 = .ok (.new 22, 3) := by decide +kernel
theorem dX6_init_68 : decode cX6_init 68 = .ok (.dup, 1) := by decide +kernel
theorem dX6_init_69 : decode cX6_init 69 = .ok (.bipush 8, 2) := by decide +kernel
theorem dX6_init_71 : decode cX6_init 71 = .ok (.invokespecial 24, 3) := by decide +kernel
theorem dX6_init_74 : decode cX6_init 74 = .ok (.putfield 34, 3) := by decide +kernel
theorem dX6_init_77 : decode cX6_init 77 = .ok (.aload_n 0, 1) := by decide +kernel
theorem dX6_init_78 : decode cX6_init 78 = .ok (.new 22, 3) := by decide +kernel
theorem dX6_init_81 : decode cX6_init 81 = .ok (.dup, 1) := by decide +kernel
theorem dX6_init_82 : decode cX6_init 82 = .ok (.bipush 8, 2) := by decide +kernel
theorem dX6_init_84 : decode cX6_init 84 = .ok (.invokespecial 24, 3) := by decide +kernel
theorem dX6_init_87 : decode cX6_init 87 = .ok (.putfield 37, 3) := by decide +kernel
theorem dX6_init_90 : decode cX6_init 90 = .ok (.aload_n 0, 1) := by decide +kernel
theorem dX6_init_91 : decode cX6_init 91 = .ok (.iconst 4, 1) := by decide +kernel
theorem dX6_init_92 : decode cX6_init 92 = .ok (.anewarray 40, 3) := by decide +kernel
theorem dX6_init_95 : decode cX6_init 95 = .ok (.dup, 1) := by decide +kernel
theorem dX6_init_96 : decode cX6_init 96 = .ok (.iconst 0, 1) := by decide +kernel
theorem dX6_init_97 : decode cX6_init 97 = .ok (.new 40, 3) := by decide +kernel
theorem dX6_init_100 : decode cX6_init 100 = .ok (.dup, 1) := by decide +kernel
theorem dX6_init_101 : decode cX6_init 101 = .ok (.invokespecial 42, 3) := by decide +kernel
theorem dX6_init_104 : decode cX6_init 104 = .ok (.aastore, 1) := by decide +kernel
theorem dX6_init_105 : decode cX6_init 105 = .ok (.dup, 1) := by decide +kernel
theorem dX6_init_106 : decode cX6_init 106 = .ok (.iconst 1, 1) := by decide +kernel
theorem dX6_init_107 : decode cX6_init 107 = .ok (.new 40, 3) := by decide +kernel
theorem dX6_init_110 : decode cX6_init 110 = .ok (.dup, 1) := by decide +kernel
theorem dX6_init_111 : decode cX6_init 111 = .ok (.invokespecial 42, 3) := by decide +kernel
theorem dX6_init_114 : decode cX6_init 114 = .ok (.aastore, 1) := by decide +kernel
theorem dX6_init_115 : decode cX6_init 115 = .ok (.dup, 1) := by decide +kernel
theorem dX6_init_116 : decode cX6_init 116 = .ok (.iconst 2, 1) := by decide +kernel
theorem dX6_init_117 : decode cX6_init 117 = .ok (.new 40, 3) := by decide +kernel
theorem dX6_init_120 : decode cX6_init 120 = .ok (.dup, 1) := by decide +kernel
theorem dX6_init_121 : decode cX6_init 121 = .ok (.invokespecial 42, 3) := by decide +kernel
theorem dX6_init_124 : decode cX6_init 124 = .ok (.aastore, 1) := by decide +kernel
theorem dX6_init_125 : decode cX6_init 125 = .ok (.dup, 1) := by decide +kernel
theorem dX6_init_126 : decode cX6_init 126 = .ok (.iconst 3, 1) := by decide +kernel
theorem dX6_init_127 : decode cX6_init 127 = .ok (.new 40, 3) := by decide +kernel
theorem dX6_init_130 : decode cX6_init 130 = .ok (.dup, 1) := by decide +kernel
theorem dX6_init_131 : decode cX6_init 131 = .ok (.invokespecial 42, 3) := by decide +kernel
theorem dX6_init_134 : decode cX6_init 134 = .ok (.aastore, 1) := by decide +kernel
theorem dX6_init_135 : decode cX6_init 135 = .ok (.putfield 43, 3) := by decide +kernel
theorem dX6_init_138 : decode cX6_init 138 = .ok (.aload_n 0, 1) := by decide +kernel
theorem dX6_init_139 : decode cX6_init 139 = .ok (.new 47, 3) := by decide +kernel
theorem dX6_init_142 : decode cX6_init 142 = .ok (.dup, 1) := by decide +kernel
theorem dX6_init_143 : decode cX6_init 143 = .ok (.invokespecial 49, 3) := by decide +kernel
theorem dX6_init_146 : decode cX6_init 146 = .ok (.putfield 50, 3) := by decide +kernel
theorem dX6_init_149 : decode cX6_init 149 = .ok (.aload_n 0, 1) := by decide +kernel
theorem dX6_init_150 : decode cX6_init 150 = .ok (.new 54, 3) := by decide +kernel
theorem dX6_init_153 : decode cX6_init 153 = .ok (.dup, 1) := by decide +kernel
theorem dX6_init_154 : decode cX6_init 154 = .ok (.invokespecial 56, 3) := by decide +kernel
theorem dX6_init_157 : decode cX6_init 157 = .ok (.putfield 57, 3) := by decide +kernel
theorem dX6_init_160 : decode cX6_init 160 = .ok (.aload_n 0, 1) := by decide +kernel
theorem dX6_init_161 : decode cX6_init 161 = .ok (.new 61, 3) := by decide +kernel
theorem dX6_init_164 : decode cX6_init 164 = .ok (.dup, 1) := by decide +kernel
theorem dX6_init_165 : decode cX6_init 165 = .ok (.invokespecial 63, 3) := by decide +kernel
theorem dX6_init_168 : decode cX6_init 168 = .ok (.putfield 64, 3) := by decide +kernel
theorem dX6_init_171 : decode cX6_init 171 = .ok (.aload_n 0, 1) := by decide +kernel
theorem dX6_init_172 : decode cX6_init 172 = .ok (.bipush 8, 2) := by decide +kernel
theorem dX6_init_174 : decode cX6_init 174 = .ok (.bipush 9, 2) := by decide +kernel
theorem dX6_init_176 : decode cX6_init 176 = .ok (.multianewarray 68 2, 4) := by decide +kernel
theorem dX6_init_180 : decode cX6_init 180 = .ok (.putfield 70, 3) := by decide +kernel
theorem dX6_init_183 : decode cX6_init 183 = .ok (.aload_n 0, 1) := by decide +kernel
theorem dX6_init_184 : decode cX6_init 184 = .ok (.iconst 0, 1) := by decide +kernel
theorem dX6_init_185 : decode cX6_init 185 = .ok (.putfield 73, 3) := by decide +kernel
theorem dX6_init_188 : decode cX6_init 188 = .ok (.return_, 1) := by decide +kernel
theorem dX6_type_0 : decode cX6_type 0 = .ok (.iload_n 1, 1) := by decide +kernel
theorem dX6_type_1 : decode cX6_type 1 = .ok (.iconst 2, 1) := by decide +kernel
theorem dX6_type_2 : decode cX6_type 2 = .ok (.invokestatic 77, 3) := by decide +kernel
theorem dX6_type_5 : decode cX6_type 5 = .ok (.ifCond .ne 13, 3) := by decide +kernel
theorem dX6_type_8 : decode cX6_type 8 = .ok (.iload_n 2, 1) := by decide +kernel
theorem dX6_type_9 : decode cX6_type 9 = .ok (.sipush 256, 3) := by decide +kernel
theorem dX6_type_12 : decode cX6_type 12 = .ok (.invokestatic 77, 3) := by decide +kernel
theorem dX6_type_15 : decode cX6_type 15 = .ok (.ifCond .eq 6, 3) := by decide +kernel
theorem dX6_type_18 : decode cX6_type 18 = .ok (.bipush (-2), 2) := by decide +kernel
theorem dX6_type_20 : decode cX6_type 20 = .ok (.ireturn, 1) := by decide +kernel
theorem dX6_type_21 : decode cX6_type 21 = .ok (.aload_n 0, 1) := by decide +kernel
theorem dX6_type_22 : decode cX6_type 22 = .ok (.getfield 64, 3) := by decide +kernel
theorem dX6_type_25 : decode cX6_type 25 = .ok (.invokevirtual 81, 3) := by decide +kernel
theorem dX6_type_28 : decode cX6_type 28 = .ok (.aload_n 0, 1) := by decide +kernel
theorem dX6_type_29 : decode cX6_type 29 = .ok (.getfield 16, 3) := by decide +kernel
theorem dX6_type_32 : decode cX6_type 32 = .ok (.iload_n 1, 1) := by decide +kernel
theorem dX6_type_33 : decode cX6_type 33 = .ok (.aaload, 1) := by decide +kernel
theorem dX6_type_34 : decode cX6_type 34 = .ok (.iload_n 2, 1) := by decide +kernel
theorem dX6_type_35 : decode cX6_type 35 = .ok (.invokevirtual 84, 3) := by decide +kernel
theorem dX6_type_38 : decode cX6_type 38 = .ok (.ireturn, 1) := by decide +kernel
theorem dX6_wipe_0 : decode cX6_wipe 0 = .ok (.iload_n 1, 1) := by decide +kernel
theorem dX6_wipe_1 : decode cX6_wipe 1 = .ok (.iconst 2, 1) := by decide +kernel
theorem dX6_wipe_2 : decode cX6_wipe 2 = .ok (.invokestatic 77, 3) := by decide +kernel
theorem dX6_wipe_5 : decode cX6_wipe 5 = .ok (.ifCond .eq 6, 3) := by decide +kernel
theorem dX6_wipe_8 : decode cX6_wipe 8 = .ok (.bipush (-2), 2) := by decide +kernel
theorem dX6_wipe_10 : decode cX6_wipe 10 = .ok (.ireturn, 1) := by decide +kernel
theorem dX6_wipe_11 : decode cX6_wipe 11 = .ok (.aload_n 0, 1) := by decide +kernel
theorem dX6_wipe_12 : decode cX6_wipe 12 = .ok (.getfield 64, 3) := by decide +kernel
theorem dX6_wipe_15 : decode cX6_wipe 15 = .ok (.invokevirtual 81, 3) := by decide +kernel
theorem dX6_wipe_18 : decode cX6_wipe 18 = .ok (.aload_n 0, 1) := by decide +kernel
theorem dX6_wipe_19 : decode cX6_wipe 19 = .ok (.getfield 16, 3) := by decide +kernel
theorem dX6_wipe_22 : decode cX6_wipe 22 = .ok (.iload_n 1, 1) := by decide +kernel
theorem dX6_wipe_23 : decode cX6_wipe 23 = .ok (.aaload, 1) := by decide +kernel
theorem dX6_wipe_24 : decode cX6_wipe 24 = .ok (.invokevirtual 88, 3) := by decide +kernel
theorem dX6_wipe_27 : decode cX6_wipe 27 = .ok (.ireturn, 1) := by decide +kernel
theorem dX6_undo_0 : decode cX6_undo 0 = .ok (.iload_n 1, 1) := by decide +kernel
theorem dX6_undo_1 : decode cX6_undo 1 = .ok (.iconst 2, 1) := by decide +kernel
theorem dX6_undo_2 : decode cX6_undo 2 = .ok (.invokestatic 77, 3) := by decide +kernel
theorem dX6_undo_5 : decode cX6_undo 5 = .ok (.ifCond .eq 6, 3) := by decide +kernel
theorem dX6_undo_8 : decode cX6_undo 8 = .ok (.bipush (-2), 2) := by decide +kernel
theorem dX6_undo_10 : decode cX6_undo 10 = .ok (.ireturn, 1) := by decide +kernel
theorem dX6_undo_11 : decode cX6_undo 11 = .ok (.aload_n 0, 1) := by decide +kernel
theorem dX6_undo_12 : decode cX6_undo 12 = .ok (.getfield 64, 3) := by decide +kernel
theorem dX6_undo_15 : decode cX6_undo 15 = .ok (.invokevirtual 81, 3) := by decide +kernel
theorem dX6_undo_18 : decode cX6_undo 18 = .ok (.aload_n 0, 1) := by decide +kernel
theorem dX6_undo_19 : decode cX6_undo 19 = .ok (.getfield 16, 3) := by decide +kernel
theorem dX6_undo_22 : decode cX6_undo 22 = .ok (.iload_n 1, 1) := by decide +kernel
theorem dX6_undo_23 : decode cX6_undo 23 = .ok (.aaload, 1) := by decide +kernel
theorem dX6_undo_24 : decode cX6_undo 24 = .ok (.invokevirtual 92, 3) := by decide +kernel
theorem dX6_undo_27 : decode cX6_undo 27 = .ok (.ireturn, 1) := by decide +kernel
theorem dX6_fault_0 : decode cX6_fault 0 = .ok (.iload_n 1, 1) := by decide +kernel
theorem dX6_fault_1 : decode cX6_fault 1 = .ok (.iconst 2, 1) := by decide +kernel
theorem dX6_fault_2 : decode cX6_fault 2 = .ok (.invokestatic 77, 3) := by decide +kernel
theorem dX6_fault_5 : decode cX6_fault 5 = .ok (.ifCond .eq 6, 3) := by decide +kernel
theorem dX6_fault_8 : decode cX6_fault 8 = .ok (.bipush (-2), 2) := by decide +kernel
theorem dX6_fault_10 : decode cX6_fault 10 = .ok (.ireturn, 1) := by decide +kernel
theorem dX6_fault_11 : decode cX6_fault 11 = .ok (.aload_n 0, 1) := by decide +kernel
theorem dX6_fault_12 : decode cX6_fault 12 = .ok (.getfield 16, 3) := by decide +kernel
theorem dX6_fault_15 : decode cX6_fault 15 = .ok (.iload_n 1, 1) := by decide +kernel
theorem dX6_fault_16 : decode cX6_fault 16 = .ok (.aaload, 1) := by decide +kernel
theorem dX6_fault_17 : decode cX6_fault 17 = .ok (.getfield 95, 3) := by decide +kernel
theorem dX6_fault_20 : decode cX6_fault 20 = .ok (.ireturn, 1) := by decide +kernel
theorem dX6_head_0 : decode cX6_head 0 = .ok (.aload_n 0, 1) := by decide +kernel
theorem dX6_head_1 : decode cX6_head 1 = .ok (.iload_n 1, 1) := by decide +kernel
theorem dX6_head_2 : decode cX6_head 2 = .ok (.invokevirtual 98, 3) := by decide +kernel
theorem dX6_head_5 : decode cX6_head 5 = .ok (.ifCond .ne 11, 3) := by decide +kernel
theorem dX6_head_8 : decode cX6_head 8 = .ok (.iload_n 2, 1) := by decide +kernel
theorem dX6_head_9 : decode cX6_head 9 = .ok (.iconst 2, 1) := by decide +kernel
theorem dX6_head_10 : decode cX6_head 10 = .ok (.invokestatic 77, 3) := by decide +kernel
theorem dX6_head_13 : decode cX6_head 13 = .ok (.ifCond .eq 6, 3) := by decide +kernel
theorem dX6_head_16 : decode cX6_head 16 = .ok (.bipush (-2), 2) := by decide +kernel
theorem dX6_head_18 : decode cX6_head 18 = .ok (.ireturn, 1) := by decide +kernel
theorem dX6_head_19 : decode cX6_head 19 = .ok (.iload_n 2, 1) := by decide +kernel
theorem dX6_head_20 : decode cX6_head 20 = .ok (.ifCond .ne 17, 3) := by decide +kernel
theorem dX6_head_23 : decode cX6_head 23 = .ok (.aload_n 0, 1) := by decide +kernel
theorem dX6_head_24 : decode cX6_head 24 = .ok (.getfield 16, 3) := by decide +kernel
theorem dX6_head_27 : decode cX6_head 27 = .ok (.iconst 0, 1) := by decide +kernel
theorem dX6_head_28 : decode cX6_head 28 = .ok (.aaload, 1) := by decide +kernel
theorem dX6_head_29 : decode cX6_head 29 = .ok (.getfield 102, 3) := by decide +kernel
theorem dX6_head_32 : decode cX6_head 32 = .ok (.iload_n 1, 1) := by decide +kernel
theorem dX6_head_33 : decode cX6_head 33 = .ok (.iaload, 1) := by decide +kernel
theorem dX6_head_34 : decode cX6_head 34 = .ok (.goto 14, 3) := by decide +kernel
theorem dX6_head_37 : decode cX6_head 37 = .ok (.aload_n 0, 1) := by decide +kernel
theorem dX6_head_38 : decode cX6_head 38 = .ok (.getfield 16, 3) := by decide +kernel
theorem dX6_head_41 : decode cX6_head 41 = .ok (.iconst 0, 1) := by decide +kernel
theorem dX6_head_42 : decode cX6_head 42 = .ok (.aaload, 1) := by decide +kernel
theorem dX6_head_43 : decode cX6_head 43 = .ok (.getfield 106, 3) := by decide +kernel
theorem dX6_head_46 : decode cX6_head 46 = .ok (.iload_n 1, 1) := by decide +kernel
theorem dX6_head_47 : decode cX6_head 47 = .ok (.iaload, 1) := by decide +kernel
theorem dX6_head_48 : decode cX6_head 48 = .ok (.ireturn, 1) := by decide +kernel
theorem dX6_couple_0 : decode cX6_couple 0 = .ok (.aload_n 0, 1) := by decide +kernel
theorem dX6_couple_1 : decode cX6_couple 1 = .ok (.iload_n 1, 1) := by decide +kernel
theorem dX6_couple_2 : decode cX6_couple 2 = .ok (.invokevirtual 109, 3) := by decide +kernel
theorem dX6_couple_5 : decode cX6_couple 5 = .ok (.ifCond .ne 11, 3) := by decide +kernel
theorem dX6_couple_8 : decode cX6_couple 8 = .ok (.iload_n 2, 1) := by decide +kernel
theorem dX6_couple_9 : decode cX6_couple 9 = .ok (.iconst 3, 1) := by decide +kernel
theorem dX6_couple_10 : decode cX6_couple 10 = .ok (.invokestatic 77, 3) := by decide +kernel
theorem dX6_couple_13 : decode cX6_couple 13 = .ok (.ifCond .eq 6, 3) := by decide +kernel
theorem dX6_couple_16 : decode cX6_couple 16 = .ok (.bipush (-2), 2) := by decide +kernel
theorem dX6_couple_18 : decode cX6_couple 18 = .ok (.ireturn, 1) := by decide +kernel
theorem dX6_couple_19 : decode cX6_couple 19 = .ok (.iload_n 2, 1) := by decide +kernel
theorem dX6_couple_20 : decode cX6_couple 20 = .ok (.ifCond .ne 15, 3) := by decide +kernel
theorem dX6_couple_23 : decode cX6_couple 23 = .ok (.aload_n 0, 1) := by decide +kernel
theorem dX6_couple_24 : decode cX6_couple 24 = .ok (.getfield 16, 3) := by decide +kernel
theorem dX6_couple_27 : decode cX6_couple 27 = .ok (.iconst 1, 1) := by decide +kernel
theorem dX6_couple_28 : decode cX6_couple 28 = .ok (.aaload, 1) := by decide +kernel
theorem dX6_couple_29 : decode cX6_couple 29 = .ok (.getfield 102, 3) := by decide +kernel
theorem dX6_couple_32 : decode cX6_couple 32 = .ok (.iload_n 1, 1) := by decide +kernel
theorem dX6_couple_33 : decode cX6_couple 33 = .ok (.iaload, 1) := by decide +kernel
theorem dX6_couple_34 : decode cX6_couple 34 = .ok (.ireturn, 1) := by decide +kernel
theorem dX6_couple_35 : decode cX6_couple 35 = .ok (.iload_n 2, 1) := by decide +kernel
theorem dX6_couple_36 : decode cX6_couple 36 = .ok (.iconst 1, 1) := by decide +kernel
theorem dX6_couple_37 : decode cX6_couple 37 = .ok (.if_icmp .ne 17, 3) := by decide +kernel
theorem dX6_couple_40 : decode cX6_couple 40 = .ok (.aload_n 0, 1) := by decide +kernel
theorem dX6_couple_41 : decode cX6_couple 41 = .ok (.getfield 16, 3) := by decide +kernel
theorem dX6_couple_44 : decode cX6_couple 44 = .ok (.iconst 1, 1) := by decide +kernel
theorem dX6_couple_45 : decode cX6_couple 45 = .ok (.aaload, 1) := by decide +kernel
theorem dX6_couple_46 : decode cX6_couple 46 = .ok (.getfield 106, 3) := by decide +kernel
theorem dX6_couple_49 : decode cX6_couple 49 = .ok (.iload_n 1, 1) := by decide +kernel
theorem dX6_couple_50 : decode cX6_couple 50 = .ok (.iaload, 1) := by decide +kernel
theorem dX6_couple_51 : decode cX6_couple 51 = .ok (.goto 14, 3) := by decide +kernel
theorem dX6_couple_54 : decode cX6_couple 54 = .ok (.aload_n 0, 1) := by decide +kernel
theorem dX6_couple_55 : decode cX6_couple 55 = .ok (.getfield 16, 3) := by decide +kernel
theorem dX6_couple_58 : decode cX6_couple 58 = .ok (.iconst 1, 1) := by decide +kernel
theorem dX6_couple_59 : decode cX6_couple 59 = .ok (.aaload, 1) := by decide +kernel
theorem dX6_couple_60 : decode cX6_couple 60 = .ok (.getfield 112, 3) := by decide +kernel
theorem dX6_couple_63 : decode cX6_couple 63 = .ok (.iload_n 1, 1) := by decide +kernel
theorem dX6_couple_64 : decode cX6_couple 64 = .ok (.iaload, 1) := by decide +kernel
theorem dX6_couple_65 : decode cX6_couple 65 = .ok (.ireturn, 1) := by decide +kernel
theorem dX6_weather_0 : decode cX6_weather 0 = .ok (.iload_n 1, 1) := by decide +kernel
theorem dX6_weather_1 : decode cX6_weather 1 = .ok (.iconst 2, 1) := by decide +kernel
theorem dX6_weather_2 : decode cX6_weather 2 = .ok (.invokestatic 77, 3) := by decide +kernel
theorem dX6_weather_5 : decode cX6_weather 5 = .ok (.ifCond .ne 21, 3) := by decide +kernel
theorem dX6_weather_8 : decode cX6_weather 8 = .ok (.iload_n 2, 1) := by decide +kernel
theorem dX6_weather_9 : decode cX6_weather 9 = .ok (.iload_n 1, 1) := by decide +kernel
theorem dX6_weather_10 : decode cX6_weather 10 = .ok (.ifCond .ne 8, 3) := by decide +kernel
theorem dX6_weather_13 : decode cX6_weather 13 = .ok (.bipush 30, 2) := by decide +kernel
theorem dX6_weather_15 : decode cX6_weather 15 = .ok (.goto 5, 3) := by decide +kernel
theorem dX6_weather_18 : decode cX6_weather 18 = .ok (.bipush 40, 2) := by decide +kernel
theorem dX6_weather_20 : decode cX6_weather 20 = .ok (.invokestatic 77, 3) := by decide +kernel
theorem dX6_weather_23 : decode cX6_weather 23 = .ok (.ifCond .eq 6, 3) := by decide +kernel
theorem dX6_weather_26 : decode cX6_weather 26 = .ok (.bipush (-2), 2) := by decide +kernel
theorem dX6_weather_28 : decode cX6_weather 28 = .ok (.ireturn, 1) := by decide +kernel
theorem dX6_weather_29 : decode cX6_weather 29 = .ok (.iload_n 1, 1) := by decide +kernel
theorem dX6_weather_30 : decode cX6_weather 30 = .ok (.ifCond .ne 14, 3) := by decide +kernel
theorem dX6_weather_33 : decode cX6_weather 33 = .ok (.aload_n 0, 1) := by decide +kernel
theorem dX6_weather_34 : decode cX6_weather 34 = .ok (.getfield 27, 3) := by decide +kernel
theorem dX6_weather_37 : decode cX6_weather 37 = .ok (.iload_n 2, 1) := by decide +kernel
theorem dX6_weather_38 : decode cX6_weather 38 = .ok (.invokevirtual 115, 3) := by decide +kernel
theorem dX6_weather_41 : decode cX6_weather 41 = .ok (.goto 11, 3) := by decide +kernel
theorem dX6_weather_44 : decode cX6_weather 44 = .ok (.aload_n 0, 1) := by decide +kernel
theorem dX6_weather_45 : decode cX6_weather 45 = .ok (.getfield 31, 3) := by decide +kernel
theorem dX6_weather_48 : decode cX6_weather 48 = .ok (.iload_n 2, 1) := by decide +kernel
theorem dX6_weather_49 : decode cX6_weather 49 = .ok (.invokevirtual 115, 3) := by decide +kernel
theorem dX6_weather_52 : decode cX6_weather 52 = .ok (.ireturn, 1) := by decide +kernel
theorem dX6_rabbit_0 : decode cX6_rabbit 0 = .ok (.iload_n 1, 1) := by decide +kernel
theorem dX6_rabbit_1 : decode cX6_rabbit 1 = .ok (.bipush 40, 2) := by decide +kernel
theorem dX6_rabbit_3 : decode cX6_rabbit 3 = .ok (.invokestatic 77, 3) := by decide +kernel
theorem dX6_rabbit_6 : decode cX6_rabbit 6 = .ok (.ifCond .ne 12, 3) := by decide +kernel
theorem dX6_rabbit_9 : decode cX6_rabbit 9 = .ok (.iload_n 2, 1) := by decide +kernel
theorem dX6_rabbit_10 : decode cX6_rabbit 10 = .ok (.bipush 8, 2) := by decide +kernel
theorem dX6_rabbit_12 : decode cX6_rabbit 12 = .ok (.invokestatic 77, 3) := by decide +kernel
theorem dX6_rabbit_15 : decode cX6_rabbit 15 = .ok (.ifCond .eq 6, 3) := by decide +kernel
theorem dX6_rabbit_18 : decode cX6_rabbit 18 = .ok (.bipush (-2), 2) := by decide +kernel
theorem dX6_rabbit_20 : decode cX6_rabbit 20 = .ok (.ireturn, 1) := by decide +kernel
theorem dX6_rabbit_21 : decode cX6_rabbit 21 = .ok (.aload_n 0, 1) := by decide +kernel
theorem dX6_rabbit_22 : decode cX6_rabbit 22 = .ok (.getfield 64, 3) := by decide +kernel
theorem dX6_rabbit_25 : decode cX6_rabbit 25 = .ok (.invokevirtual 81, 3) := by decide +kernel
theorem dX6_rabbit_28 : decode cX6_rabbit 28 = .ok (.aload_n 0, 1) := by decide +kernel
theorem dX6_rabbit_29 : decode cX6_rabbit 29 = .ok (.getfield 34, 3) := by decide +kernel
theorem dX6_rabbit_32 : decode cX6_rabbit 32 = .ok (.iload_n 1, 1) := by decide +kernel
theorem dX6_rabbit_33 : decode cX6_rabbit 33 = .ok (.bipush 8, 2) := by decide +kernel
theorem dX6_rabbit_35 : decode cX6_rabbit 35 = .ok (.imul, 1) := by decide +kernel
theorem dX6_rabbit_36 : decode cX6_rabbit 36 = .ok (.iload_n 2, 1) := by decide +kernel
theorem dX6_rabbit_37 : decode cX6_rabbit 37 = .ok (.iadd, 1) := by decide +kernel
theorem dX6_rabbit_38 : decode cX6_rabbit 38 = .ok (.invokevirtual 115, 3) := by decide +kernel
theorem dX6_rabbit_41 : decode cX6_rabbit 41 = .ok (.ireturn, 1) := by decide +kernel
theorem dX6_back_0 : decode cX6_back 0 = .ok (.iload_n 1, 1) := by decide +kernel
theorem dX6_back_1 : decode cX6_back 1 = .ok (.iconst 3, 1) := by decide +kernel
theorem dX6_back_2 : decode cX6_back 2 = .ok (.invokestatic 77, 3) := by decide +kernel
theorem dX6_back_5 : decode cX6_back 5 = .ok (.ifCond .eq 6, 3) := by decide +kernel
theorem dX6_back_8 : decode cX6_back 8 = .ok (.bipush (-2), 2) := by decide +kernel
theorem dX6_back_10 : decode cX6_back 10 = .ok (.ireturn, 1) := by decide +kernel
theorem dX6_back_11 : decode cX6_back 11 = .ok (.iload_n 1, 1) := by decide +kernel
theorem dX6_back_12 : decode cX6_back 12 = .ok (.ifCond .ne 11, 3) := by decide +kernel
theorem dX6_back_15 : decode cX6_back 15 = .ok (.aload_n 0, 1) := by decide +kernel
theorem dX6_back_16 : decode cX6_back 16 = .ok (.getfield 27, 3) := by decide +kernel
theorem dX6_back_19 : decode cX6_back 19 = .ok (.invokevirtual 118, 3) := by decide +kernel
theorem dX6_back_22 : decode cX6_back 22 = .ok (.ireturn, 1) := by decide +kernel
theorem dX6_back_23 : decode cX6_back 23 = .ok (.iload_n 1, 1) := by decide +kernel
theorem dX6_back_24 : decode cX6_back 24 = .ok (.iconst 1, 1) := by decide +kernel
theorem dX6_back_25 : decode cX6_back 25 = .ok (.if_icmp .ne 11, 3) := by decide +kernel
theorem dX6_back_28 : decode cX6_back 28 = .ok (.aload_n 0, 1) := by decide +kernel
theorem dX6_back_29 : decode cX6_back 29 = .ok (.getfield 31, 3) := by decide +kernel
theorem dX6_back_32 : decode cX6_back 32 = .ok (.invokevirtual 118, 3) := by decide +kernel
theorem dX6_back_35 : decode cX6_back 35 = .ok (.ireturn, 1) := by decide +kernel
theorem dX6_back_36 : decode cX6_back 36 = .ok (.aload_n 0, 1) := by decide +kernel
theorem dX6_back_37 : decode cX6_back 37 = .ok (.getfield 64, 3) := by decide +kernel
theorem dX6_back_40 : decode cX6_back 40 = .ok (.invokevirtual 81, 3) := by decide +kernel
theorem dX6_back_43 : decode cX6_back 43 = .ok (.aload_n 0, 1) := by decide +kernel
theorem dX6_back_44 : decode cX6_back 44 = .ok (.getfield 34, 3) := by decide +kernel
theorem dX6_back_47 : decode cX6_back 47 = .ok (.invokevirtual 118, 3) := by decide +kernel
theorem dX6_back_50 : decode cX6_back 50 = .ok (.ireturn, 1) := by decide +kernel
theorem dX6_read_0 : decode cX6_read 0 = .ok (.iload_n 1, 1) := by decide +kernel
theorem dX6_read_1 : decode cX6_read 1 = .ok (.iconst 4, 1) := by decide +kernel
theorem dX6_read_2 : decode cX6_read 2 = .ok (.invokestatic 77, 3) := by decide +kernel
theorem dX6_read_5 : decode cX6_read 5 = .ok (.ifCond .eq 6, 3) := by decide +kernel
theorem dX6_read_8 : decode cX6_read 8 = .ok (.bipush (-2), 2) := by decide +kernel
theorem dX6_read_10 : decode cX6_read 10 = .ok (.ireturn, 1) := by decide +kernel
theorem dX6_read_11 : decode cX6_read 11 = .ok (.aload_n 0, 1) := by decide +kernel
theorem dX6_read_12 : decode cX6_read 12 = .ok (.getfield 43, 3) := by decide +kernel
theorem dX6_read_15 : decode cX6_read 15 = .ok (.iload_n 1, 1) := by decide +kernel
theorem dX6_read_16 : decode cX6_read 16 = .ok (.aaload, 1) := by decide +kernel
theorem dX6_read_17 : decode cX6_read 17 = .ok (.astore_n 2, 1) := by decide +kernel
theorem dX6_read_18 : decode cX6_read 18 = .ok (.aload_n 2, 1) := by decide +kernel
theorem dX6_read_19 : decode cX6_read 19 = .ok (.invokevirtual 119, 3) := by decide +kernel
theorem dX6_read_22 : decode cX6_read 22 = .ok (.ifCond .eq 9, 3) := by decide +kernel
theorem dX6_read_25 : decode cX6_read 25 = .ok (.aload_n 0, 1) := by decide +kernel
theorem dX6_read_26 : decode cX6_read 26 = .ok (.iconst 1, 1) := by decide +kernel
theorem dX6_read_27 : decode cX6_read 27 = .ok (.invokevirtual 123, 3) := by decide +kernel
theorem dX6_read_30 : decode cX6_read 30 = .ok (.ireturn, 1) := by decide +kernel
theorem dX6_read_31 : decode cX6_read 31 = .ok (.iconst 0, 1) := by decide +kernel
theorem dX6_read_32 : decode cX6_read 32 = .ok (.istore_n 3, 1) := by decide +kernel
theorem dX6_read_33 : decode cX6_read 33 = .ok (.iconst 0, 1) := by decide +kernel
theorem dX6_read_34 : decode cX6_read 34 = .ok (.istore 4, 2) := by decide +kernel
theorem dX6_read_36 : decode cX6_read 36 = .ok (.iload 4, 2) := by decide +kernel
theorem dX6_read_38 : decode cX6_read 38 = .ok (.iconst 1, 1) := by decide +kernel
theorem dX6_read_39 : decode cX6_read 39 = .ok (.iadd, 1) := by decide +kernel
theorem dX6_read_40 : decode cX6_read 40 = .ok (.aload_n 2, 1) := by decide +kernel
theorem dX6_read_41 : decode cX6_read 41 = .ok (.getfield 126, 3) := by decide +kernel
theorem dX6_read_44 : decode cX6_read 44 = .ok (.if_icmp .ge 35, 3) := by decide +kernel
theorem dX6_read_47 : decode cX6_read 47 = .ok (.aload_n 0, 1) := by decide +kernel
theorem dX6_read_48 : decode cX6_read 48 = .ok (.aload_n 2, 1) := by decide +kernel
theorem dX6_read_49 : decode cX6_read 49 = .ok (.iload 4, 2) := by decide +kernel
theorem dX6_read_51 : decode cX6_read 51 = .ok (.invokevirtual 129, 3) := by decide +kernel
theorem dX6_read_54 : decode cX6_read 54 = .ok (.aload_n 2, 1) := by decide +kernel
theorem dX6_read_55 : decode cX6_read 55 = .ok (.iload 4, 2) := by decide +kernel
theorem dX6_read_57 : decode cX6_read 57 = .ok (.iconst 1, 1) := by decide +kernel
theorem dX6_read_58 : decode cX6_read 58 = .ok (.iadd, 1) := by decide +kernel
theorem dX6_read_59 : decode cX6_read 59 = .ok (.invokevirtual 129, 3) := by decide +kernel
theorem dX6_read_62 : decode cX6_read 62 = .ok (.invokevirtual 132, 3) := by decide +kernel
theorem dX6_read_65 : decode cX6_read 65 = .ok (.ifCond .ge 5, 3) := by decide +kernel
theorem dX6_read_68 : decode cX6_read 68 = .ok (.iload_n 3, 1) := by decide +kernel
theorem dX6_read_69 : decode cX6_read 69 = .ok (.ireturn, 1) := by decide +kernel
theorem dX6_read_70 : decode cX6_read 70 = .ok (.iinc 3 1, 3) := by decide +kernel
theorem dX6_read_73 : decode cX6_read 73 = .ok (.iinc 4 2, 3) := by decide +kernel
theorem dX6_read_76 : decode cX6_read 76 = .ok (.goto (-40), 3) := by decide +kernel
theorem dX6_read_79 : decode cX6_read 79 = .ok (.iload_n 3, 1) := by decide +kernel
theorem dX6_read_80 : decode cX6_read 80 = .ok (.ireturn, 1) := by decide +kernel
theorem dX6_state_0 : decode cX6_state 0 = .ok (.iload_n 1, 1) := by decide +kernel
theorem dX6_state_1 : decode cX6_state 1 = .ok (.bipush 40, 2) := by decide +kernel
theorem dX6_state_3 : decode cX6_state 3 = .ok (.invokestatic 77, 3) := by decide +kernel
theorem dX6_state_6 : decode cX6_state 6 = .ok (.ifCond .ne 11, 3) := by decide +kernel
theorem dX6_state_9 : decode cX6_state 9 = .ok (.aload_n 0, 1) := by decide +kernel
theorem dX6_state_10 : decode cX6_state 10 = .ok (.iload_n 2, 1) := by decide +kernel
theorem dX6_state_11 : decode cX6_state 11 = .ok (.invokevirtual 98, 3) := by decide +kernel
theorem dX6_state_14 : decode cX6_state 14 = .ok (.ifCond .eq 6, 3) := by decide +kernel
theorem dX6_state_17 : decode cX6_state 17 = .ok (.bipush (-2), 2) := by decide +kernel
theorem dX6_state_19 : decode cX6_state 19 = .ok (.ireturn, 1) := by decide +kernel
theorem dX6_state_20 : decode cX6_state 20 = .ok (.aload_n 0, 1) := by decide +kernel
theorem dX6_state_21 : decode cX6_state 21 = .ok (.invokevirtual 136, 3) := by decide +kernel
theorem dX6_state_24 : decode cX6_state 24 = .ok (.aload_n 0, 1) := by decide +kernel
theorem dX6_state_25 : decode cX6_state 25 = .ok (.getfield 57, 3) := by decide +kernel
theorem dX6_state_28 : decode cX6_state 28 = .ok (.aload_n 0, 1) := by decide +kernel
theorem dX6_state_29 : decode cX6_state 29 = .ok (.getfield 50, 3) := by decide +kernel
theorem dX6_state_32 : decode cX6_state 32 = .ok (.iload_n 1, 1) := by decide +kernel
theorem dX6_state_33 : decode cX6_state 33 = .ok (.iload_n 2, 1) := by decide +kernel
theorem dX6_state_34 : decode cX6_state 34 = .ok (.invokevirtual 139, 3) := by decide +kernel
theorem dX6_state_37 : decode cX6_state 37 = .ok (.ireturn, 1) := by decide +kernel
theorem dX6_lifted_0 : decode cX6_lifted 0 = .ok (.aload_n 0, 1) := by decide +kernel
theorem dX6_lifted_1 : decode cX6_lifted 1 = .ok (.iload_n 1, 1) := by decide +kernel
theorem dX6_lifted_2 : decode cX6_lifted 2 = .ok (.invokevirtual 98, 3) := by decide +kernel
theorem dX6_lifted_5 : decode cX6_lifted 5 = .ok (.ifCond .ne 11, 3) := by decide +kernel
theorem dX6_lifted_8 : decode cX6_lifted 8 = .ok (.iload_n 2, 1) := by decide +kernel
theorem dX6_lifted_9 : decode cX6_lifted 9 = .ok (.iconst 3, 1) := by decide +kernel
theorem dX6_lifted_10 : decode cX6_lifted 10 = .ok (.invokestatic 77, 3) := by decide +kernel
theorem dX6_lifted_13 : decode cX6_lifted 13 = .ok (.ifCond .eq 6, 3) := by decide +kernel
theorem dX6_lifted_16 : decode cX6_lifted 16 = .ok (.bipush (-2), 2) := by decide +kernel
theorem dX6_lifted_18 : decode cX6_lifted 18 = .ok (.ireturn, 1) := by decide +kernel
theorem dX6_lifted_19 : decode cX6_lifted 19 = .ok (.aload_n 0, 1) := by decide +kernel
theorem dX6_lifted_20 : decode cX6_lifted 20 = .ok (.invokevirtual 136, 3) := by decide +kernel
theorem dX6_lifted_23 : decode cX6_lifted 23 = .ok (.iload_n 2, 1) := by decide +kernel
theorem dX6_lifted_24 : decode cX6_lifted 24 = .ok (.ifCond .ne 13, 3) := by decide +kernel
theorem dX6_lifted_27 : decode cX6_lifted 27 = .ok (.aload_n 0, 1) := by decide +kernel
theorem dX6_lifted_28 : decode cX6_lifted 28 = .ok (.getfield 57, 3) := by decide +kernel
theorem dX6_lifted_31 : decode cX6_lifted 31 = .ok (.getfield 143, 3) := by decide +kernel
theorem dX6_lifted_34 : decode cX6_lifted 34 = .ok (.iload_n 1, 1) := by decide +kernel
theorem dX6_lifted_35 : decode cX6_lifted 35 = .ok (.iaload, 1) := by decide +kernel
theorem dX6_lifted_36 : decode cX6_lifted 36 = .ok (.ireturn, 1) := by decide +kernel
theorem dX6_lifted_37 : decode cX6_lifted 37 = .ok (.aload_n 0, 1) := by decide +kernel
theorem dX6_lifted_38 : decode cX6_lifted 38 = .ok (.getfield 57, 3) := by decide +kernel
theorem dX6_lifted_41 : decode cX6_lifted 41 = .ok (.iload_n 1, 1) := by decide +kernel
theorem dX6_lifted_42 : decode cX6_lifted 42 = .ok (.invokevirtual 146, 3) := by decide +kernel
theorem dX6_lifted_45 : decode cX6_lifted 45 = .ok (.istore_n 3, 1) := by decide +kernel
theorem dX6_lifted_46 : decode cX6_lifted 46 = .ok (.iload_n 2, 1) := by decide +kernel
theorem dX6_lifted_47 : decode cX6_lifted 47 = .ok (.iconst 1, 1) := by decide +kernel
theorem dX6_lifted_48 : decode cX6_lifted 48 = .ok (.if_icmp .eq 8, 3) := by decide +kernel
theorem dX6_lifted_51 : decode cX6_lifted 51 = .ok (.iload_n 3, 1) := by decide +kernel
theorem dX6_lifted_52 : decode cX6_lifted 52 = .ok (.iconst (-1), 1) := by decide +kernel
theorem dX6_lifted_53 : decode cX6_lifted 53 = .ok (.if_icmp .ne 7, 3) := by decide +kernel
theorem dX6_lifted_56 : decode cX6_lifted 56 = .ok (.iload_n 3, 1) := by decide +kernel
theorem dX6_lifted_57 : decode cX6_lifted 57 = .ok (.goto 12, 3) := by decide +kernel
theorem dX6_lifted_60 : decode cX6_lifted 60 = .ok (.aload_n 0, 1) := by decide +kernel
theorem dX6_lifted_61 : decode cX6_lifted 61 = .ok (.getfield 57, 3) := by decide +kernel
theorem dX6_lifted_64 : decode cX6_lifted 64 = .ok (.getfield 149, 3) := by decide +kernel
theorem dX6_lifted_67 : decode cX6_lifted 67 = .ok (.iload_n 3, 1) := by decide +kernel
theorem dX6_lifted_68 : decode cX6_lifted 68 = .ok (.iaload, 1) := by decide +kernel
theorem dX6_lifted_69 : decode cX6_lifted 69 = .ok (.ireturn, 1) := by decide +kernel
theorem dX6_gets_0 : decode cX6_gets 0 = .ok (.aload_n 0, 1) := by decide +kernel
theorem dX6_gets_1 : decode cX6_gets 1 = .ok (.iload_n 1, 1) := by decide +kernel
theorem dX6_gets_2 : decode cX6_gets 2 = .ok (.invokevirtual 109, 3) := by decide +kernel
theorem dX6_gets_5 : decode cX6_gets 5 = .ok (.ifCond .ne 11, 3) := by decide +kernel
theorem dX6_gets_8 : decode cX6_gets 8 = .ok (.iload_n 2, 1) := by decide +kernel
theorem dX6_gets_9 : decode cX6_gets 9 = .ok (.iconst 3, 1) := by decide +kernel
theorem dX6_gets_10 : decode cX6_gets 10 = .ok (.invokestatic 77, 3) := by decide +kernel
theorem dX6_gets_13 : decode cX6_gets 13 = .ok (.ifCond .eq 6, 3) := by decide +kernel
theorem dX6_gets_16 : decode cX6_gets 16 = .ok (.bipush (-2), 2) := by decide +kernel
theorem dX6_gets_18 : decode cX6_gets 18 = .ok (.ireturn, 1) := by decide +kernel
theorem dX6_gets_19 : decode cX6_gets 19 = .ok (.aload_n 0, 1) := by decide +kernel
theorem dX6_gets_20 : decode cX6_gets 20 = .ok (.invokevirtual 136, 3) := by decide +kernel
theorem dX6_gets_23 : decode cX6_gets 23 = .ok (.iload_n 2, 1) := by decide +kernel
theorem dX6_gets_24 : decode cX6_gets 24 = .ok (.ifCond .ne 13, 3) := by decide +kernel
theorem dX6_gets_27 : decode cX6_gets 27 = .ok (.aload_n 0, 1) := by decide +kernel
theorem dX6_gets_28 : decode cX6_gets 28 = .ok (.getfield 57, 3) := by decide +kernel
theorem dX6_gets_31 : decode cX6_gets 31 = .ok (.getfield 152, 3) := by decide +kernel
theorem dX6_gets_34 : decode cX6_gets 34 = .ok (.iload_n 1, 1) := by decide +kernel
theorem dX6_gets_35 : decode cX6_gets 35 = .ok (.iaload, 1) := by decide +kernel
theorem dX6_gets_36 : decode cX6_gets 36 = .ok (.ireturn, 1) := by decide +kernel
theorem dX6_gets_37 : decode cX6_gets 37 = .ok (.iload_n 2, 1) := by decide +kernel
theorem dX6_gets_38 : decode cX6_gets 38 = .ok (.iconst 1, 1) := by decide +kernel
theorem dX6_gets_39 : decode cX6_gets 39 = .ok (.if_icmp .ne 15, 3) := by decide +kernel
theorem dX6_gets_42 : decode cX6_gets 42 = .ok (.aload_n 0, 1) := by decide +kernel
theorem dX6_gets_43 : decode cX6_gets 43 = .ok (.getfield 57, 3) := by decide +kernel
theorem dX6_gets_46 : decode cX6_gets 46 = .ok (.getfield 149, 3) := by decide +kernel
theorem dX6_gets_49 : decode cX6_gets 49 = .ok (.iload_n 1, 1) := by decide +kernel
theorem dX6_gets_50 : decode cX6_gets 50 = .ok (.iaload, 1) := by decide +kernel
theorem dX6_gets_51 : decode cX6_gets 51 = .ok (.goto 8, 3) := by decide +kernel
theorem dX6_gets_54 : decode cX6_gets 54 = .ok (.aload_n 0, 1) := by decide +kernel
theorem dX6_gets_55 : decode cX6_gets 55 = .ok (.iload_n 1, 1) := by decide +kernel
theorem dX6_gets_56 : decode cX6_gets 56 = .ok (.invokevirtual 155, 3) := by decide +kernel
theorem dX6_gets_59 : decode cX6_gets 59 = .ok (.ireturn, 1) := by decide +kernel
theorem dX6_children_0 : decode cX6_children 0 = .ok (.iload_n 1, 1) := by decide +kernel
theorem dX6_children_1 : decode cX6_children 1 = .ok (.bipush 40, 2) := by decide +kernel
theorem dX6_children_3 : decode cX6_children 3 = .ok (.invokestatic 77, 3) := by decide +kernel
theorem dX6_children_6 : decode cX6_children 6 = .ok (.ifCond .eq 6, 3) := by decide +kernel
theorem dX6_children_9 : decode cX6_children 9 = .ok (.bipush (-2), 2) := by decide +kernel
theorem dX6_children_11 : decode cX6_children 11 = .ok (.ireturn, 1) := by decide +kernel
theorem dX6_children_12 : decode cX6_children 12 = .ok (.aload_n 0, 1) := by decide +kernel
theorem dX6_children_13 : decode cX6_children 13 = .ok (.invokevirtual 136, 3) := by decide +kernel
theorem dX6_children_16 : decode cX6_children 16 = .ok (.aload_n 0, 1) := by decide +kernel
theorem dX6_children_17 : decode cX6_children 17 = .ok (.iload_n 1, 1) := by decide +kernel
theorem dX6_children_18 : decode cX6_children 18 = .ok (.invokevirtual 158, 3) := by decide +kernel
theorem dX6_children_21 : decode cX6_children 21 = .ok (.ireturn, 1) := by decide +kernel
theorem dX6_without_0 : decode cX6_without 0 = .ok (.aload_n 0, 1) := by decide +kernel
theorem dX6_without_1 : decode cX6_without 1 = .ok (.invokevirtual 136, 3) := by decide +kernel
theorem dX6_without_4 : decode cX6_without 4 = .ok (.aload_n 0, 1) := by decide +kernel
theorem dX6_without_5 : decode cX6_without 5 = .ok (.getfield 57, 3) := by decide +kernel
theorem dX6_without_8 : decode cX6_without 8 = .ok (.getfield 161, 3) := by decide +kernel
theorem dX6_without_11 : decode cX6_without 11 = .ok (.iconst (-1), 1) := by decide +kernel
theorem dX6_without_12 : decode cX6_without 12 = .ok (.ixor, 1) := by decide +kernel
theorem dX6_without_13 : decode cX6_without 13 = .ok (.iconst 1, 1) := by decide +kernel
theorem dX6_without_14 : decode cX6_without 14 = .ok (.aload_n 0, 1) := by decide +kernel
theorem dX6_without_15 : decode cX6_without 15 = .ok (.getfield 50, 3) := by decide +kernel
theorem dX6_without_18 : decode cX6_without 18 = .ok (.getfield 164, 3) := by decide +kernel
theorem dX6_without_21 : decode cX6_without 21 = .ok (.ishl, 1) := by decide +kernel
theorem dX6_without_22 : decode cX6_without 22 = .ok (.iconst 1, 1) := by decide +kernel
theorem dX6_without_23 : decode cX6_without 23 = .ok (.isub, 1) := by decide +kernel
theorem dX6_without_24 : decode cX6_without 24 = .ok (.iand, 1) := by decide +kernel
theorem dX6_without_25 : decode cX6_without 25 = .ok (.ireturn, 1) := by decide +kernel
theorem dX6_turn_0 : decode cX6_turn 0 = .ok (.iload_n 1, 1) := by decide +kernel
theorem dX6_turn_1 : decode cX6_turn 1 = .ok (.iconst 2, 1) := by decide +kernel
theorem dX6_turn_2 : decode cX6_turn 2 = .ok (.invokestatic 77, 3) := by decide +kernel
theorem dX6_turn_5 : decode cX6_turn 5 = .ok (.ifCond .eq 6, 3) := by decide +kernel
theorem dX6_turn_8 : decode cX6_turn 8 = .ok (.bipush (-2), 2) := by decide +kernel
theorem dX6_turn_10 : decode cX6_turn 10 = .ok (.ireturn, 1) := by decide +kernel
theorem dX6_turn_11 : decode cX6_turn 11 = .ok (.aload_n 0, 1) := by decide +kernel
theorem dX6_turn_12 : decode cX6_turn 12 = .ok (.invokevirtual 136, 3) := by decide +kernel
theorem dX6_turn_15 : decode cX6_turn 15 = .ok (.aload_n 0, 1) := by decide +kernel
theorem dX6_turn_16 : decode cX6_turn 16 = .ok (.getfield 57, 3) := by decide +kernel
theorem dX6_turn_19 : decode cX6_turn 19 = .ok (.aload_n 0, 1) := by decide +kernel
theorem dX6_turn_20 : decode cX6_turn 20 = .ok (.getfield 50, 3) := by decide +kernel
theorem dX6_turn_23 : decode cX6_turn 23 = .ok (.invokevirtual 167, 3) := by decide +kernel
theorem dX6_turn_26 : decode cX6_turn 26 = .ok (.istore_n 2, 1) := by decide +kernel
theorem dX6_turn_27 : decode cX6_turn 27 = .ok (.iload_n 1, 1) := by decide +kernel
theorem dX6_turn_28 : decode cX6_turn 28 = .ok (.ifCond .eq 8, 3) := by decide +kernel
theorem dX6_turn_31 : decode cX6_turn 31 = .ok (.iload_n 2, 1) := by decide +kernel
theorem dX6_turn_32 : decode cX6_turn 32 = .ok (.iconst (-1), 1) := by decide +kernel
theorem dX6_turn_33 : decode cX6_turn 33 = .ok (.if_icmp .ne 7, 3) := by decide +kernel
theorem dX6_turn_36 : decode cX6_turn 36 = .ok (.iload_n 2, 1) := by decide +kernel
theorem dX6_turn_37 : decode cX6_turn 37 = .ok (.goto 12, 3) := by decide +kernel
theorem dX6_turn_40 : decode cX6_turn 40 = .ok (.aload_n 0, 1) := by decide +kernel
theorem dX6_turn_41 : decode cX6_turn 41 = .ok (.getfield 57, 3) := by decide +kernel
theorem dX6_turn_44 : decode cX6_turn 44 = .ok (.getfield 149, 3) := by decide +kernel
theorem dX6_turn_47 : decode cX6_turn 47 = .ok (.iload_n 2, 1) := by decide +kernel
theorem dX6_turn_48 : decode cX6_turn 48 = .ok (.iaload, 1) := by decide +kernel
theorem dX6_turn_49 : decode cX6_turn 49 = .ok (.ireturn, 1) := by decide +kernel
theorem dX6_met_0 : decode cX6_met 0 = .ok (.aload_n 0, 1) := by decide +kernel
theorem dX6_met_1 : decode cX6_met 1 = .ok (.invokevirtual 136, 3) := by decide +kernel
theorem dX6_met_4 : decode cX6_met 4 = .ok (.aload_n 0, 1) := by decide +kernel
theorem dX6_met_5 : decode cX6_met 5 = .ok (.getfield 50, 3) := by decide +kernel
theorem dX6_met_8 : decode cX6_met 8 = .ok (.getfield 164, 3) := by decide +kernel
theorem dX6_met_11 : decode cX6_met 11 = .ok (.istore_n 1, 1) := by decide +kernel
theorem dX6_met_12 : decode cX6_met 12 = .ok (.iconst 0, 1) := by decide +kernel
theorem dX6_met_13 : decode cX6_met 13 = .ok (.istore_n 2, 1) := by decide +kernel
theorem dX6_met_14 : decode cX6_met 14 = .ok (.iload_n 2, 1) := by decide +kernel
theorem dX6_met_15 : decode cX6_met 15 = .ok (.iconst 1, 1) := by decide +kernel
theorem dX6_met_16 : decode cX6_met 16 = .ok (.aload_n 0, 1) := by decide +kernel
theorem dX6_met_17 : decode cX6_met 17 = .ok (.getfield 50, 3) := by decide +kernel
theorem dX6_met_20 : decode cX6_met 20 = .ok (.getfield 164, 3) := by decide +kernel
theorem dX6_met_23 : decode cX6_met 23 = .ok (.ishl, 1) := by decide +kernel
theorem dX6_met_24 : decode cX6_met 24 = .ok (.if_icmp .ge 37, 3) := by decide +kernel
theorem dX6_met_27 : decode cX6_met 27 = .ok (.aload_n 0, 1) := by decide +kernel
theorem dX6_met_28 : decode cX6_met 28 = .ok (.getfield 50, 3) := by decide +kernel
theorem dX6_met_31 : decode cX6_met 31 = .ok (.getfield 164, 3) := by decide +kernel
theorem dX6_met_34 : decode cX6_met 34 = .ok (.iload_n 2, 1) := by decide +kernel
theorem dX6_met_35 : decode cX6_met 35 = .ok (.invokestatic 171, 3) := by decide +kernel
theorem dX6_met_38 : decode cX6_met 38 = .ok (.isub, 1) := by decide +kernel
theorem dX6_met_39 : decode cX6_met 39 = .ok (.istore_n 3, 1) := by decide +kernel
theorem dX6_met_40 : decode cX6_met 40 = .ok (.iload_n 1, 1) := by decide +kernel
theorem dX6_met_41 : decode cX6_met 41 = .ok (.iload_n 3, 1) := by decide +kernel
theorem dX6_met_42 : decode cX6_met 42 = .ok (.aload_n 0, 1) := by decide +kernel
theorem dX6_met_43 : decode cX6_met 43 = .ok (.iload_n 2, 1) := by decide +kernel
theorem dX6_met_44 : decode cX6_met 44 = .ok (.invokevirtual 176, 3) := by decide +kernel
theorem dX6_met_47 : decode cX6_met 47 = .ok (.invokestatic 171, 3) := by decide +kernel
theorem dX6_met_50 : decode cX6_met 50 = .ok (.iadd, 1) := by decide +kernel
theorem dX6_met_51 : decode cX6_met 51 = .ok (.invokestatic 179, 3) := by decide +kernel
theorem dX6_met_54 : decode cX6_met 54 = .ok (.istore_n 1, 1) := by decide +kernel
theorem dX6_met_55 : decode cX6_met 55 = .ok (.iinc 2 1, 3) := by decide +kernel
theorem dX6_met_58 : decode cX6_met 58 = .ok (.goto (-44), 3) := by decide +kernel
theorem dX6_met_61 : decode cX6_met 61 = .ok (.iload_n 1, 1) := by decide +kernel
theorem dX6_met_62 : decode cX6_met 62 = .ok (.ireturn, 1) := by decide +kernel
theorem dX6_keep_0 : decode cX6_keep 0 = .ok (.aload_n 0, 1) := by decide +kernel
theorem dX6_keep_1 : decode cX6_keep 1 = .ok (.iload_n 1, 1) := by decide +kernel
theorem dX6_keep_2 : decode cX6_keep 2 = .ok (.invokevirtual 109, 3) := by decide +kernel
theorem dX6_keep_5 : decode cX6_keep 5 = .ok (.ifCond .ne 13, 3) := by decide +kernel
theorem dX6_keep_8 : decode cX6_keep 8 = .ok (.iload_n 2, 1) := by decide +kernel
theorem dX6_keep_9 : decode cX6_keep 9 = .ok (.iconst (-1), 1) := by decide +kernel
theorem dX6_keep_10 : decode cX6_keep 10 = .ok (.if_icmp .lt 8, 3) := by decide +kernel
theorem dX6_keep_13 : decode cX6_keep 13 = .ok (.iload_n 2, 1) := by decide +kernel
theorem dX6_keep_14 : decode cX6_keep 14 = .ok (.iconst 1, 1) := by decide +kernel
theorem dX6_keep_15 : decode cX6_keep 15 = .ok (.if_icmp .le 6, 3) := by decide +kernel
theorem dX6_keep_18 : decode cX6_keep 18 = .ok (.bipush (-2), 2) := by decide +kernel
theorem dX6_keep_20 : decode cX6_keep 20 = .ok (.ireturn, 1) := by decide +kernel
theorem dX6_keep_21 : decode cX6_keep 21 = .ok (.aload_n 0, 1) := by decide +kernel
theorem dX6_keep_22 : decode cX6_keep 22 = .ok (.invokevirtual 184, 3) := by decide +kernel
theorem dX6_keep_25 : decode cX6_keep 25 = .ok (.aload_n 0, 1) := by decide +kernel
theorem dX6_keep_26 : decode cX6_keep 26 = .ok (.iload_n 1, 1) := by decide +kernel
theorem dX6_keep_27 : decode cX6_keep 27 = .ok (.invokevirtual 187, 3) := by decide +kernel
theorem dX6_keep_30 : decode cX6_keep 30 = .ok (.istore_n 3, 1) := by decide +kernel
theorem dX6_keep_31 : decode cX6_keep 31 = .ok (.iload_n 3, 1) := by decide +kernel
theorem dX6_keep_32 : decode cX6_keep 32 = .ok (.iconst (-1), 1) := by decide +kernel
theorem dX6_keep_33 : decode cX6_keep 33 = .ok (.if_icmp .ne 5, 3) := by decide +kernel
theorem dX6_keep_36 : decode cX6_keep 36 = .ok (.iconst (-1), 1) := by decide +kernel
theorem dX6_keep_37 : decode cX6_keep 37 = .ok (.ireturn, 1) := by decide +kernel
theorem dX6_keep_38 : decode cX6_keep 38 = .ok (.iload_n 2, 1) := by decide +kernel
theorem dX6_keep_39 : decode cX6_keep 39 = .ok (.iconst (-1), 1) := by decide +kernel
theorem dX6_keep_40 : decode cX6_keep 40 = .ok (.if_icmp .ne 8, 3) := by decide +kernel
theorem dX6_keep_43 : decode cX6_keep 43 = .ok (.iload_n 3, 1) := by decide +kernel
theorem dX6_keep_44 : decode cX6_keep 44 = .ok (.invokestatic 171, 3) := by decide +kernel
theorem dX6_keep_47 : decode cX6_keep 47 = .ok (.ireturn, 1) := by decide +kernel
theorem dX6_keep_48 : decode cX6_keep 48 = .ok (.iload_n 2, 1) := by decide +kernel
theorem dX6_keep_49 : decode cX6_keep 49 = .ok (.ifCond .ne 10, 3) := by decide +kernel
theorem dX6_keep_52 : decode cX6_keep 52 = .ok (.iload_n 3, 1) := by decide +kernel
theorem dX6_keep_53 : decode cX6_keep 53 = .ok (.invokestatic 190, 3) := by decide +kernel
theorem dX6_keep_56 : decode cX6_keep 56 = .ok (.goto 11, 3) := by decide +kernel
theorem dX6_keep_59 : decode cX6_keep 59 = .ok (.iload_n 3, 1) := by decide +kernel
theorem dX6_keep_60 : decode cX6_keep 60 = .ok (.iload_n 3, 1) := by decide +kernel
theorem dX6_keep_61 : decode cX6_keep 61 = .ok (.iconst 1, 1) := by decide +kernel
theorem dX6_keep_62 : decode cX6_keep 62 = .ok (.isub, 1) := by decide +kernel
theorem dX6_keep_63 : decode cX6_keep 63 = .ok (.iand, 1) := by decide +kernel
theorem dX6_keep_64 : decode cX6_keep 64 = .ok (.invokestatic 190, 3) := by decide +kernel
theorem dX6_keep_67 : decode cX6_keep 67 = .ok (.ireturn, 1) := by decide +kernel
theorem dX6_sow_0 : decode cX6_sow 0 = .ok (.aload_n 0, 1) := by decide +kernel
theorem dX6_sow_1 : decode cX6_sow 1 = .ok (.iload_n 1, 1) := by decide +kernel
theorem dX6_sow_2 : decode cX6_sow 2 = .ok (.invokevirtual 98, 3) := by decide +kernel
theorem dX6_sow_5 : decode cX6_sow 5 = .ok (.ifCond .ne 11, 3) := by decide +kernel
theorem dX6_sow_8 : decode cX6_sow 8 = .ok (.iload_n 2, 1) := by decide +kernel
theorem dX6_sow_9 : decode cX6_sow 9 = .ok (.iconst 2, 1) := by decide +kernel
theorem dX6_sow_10 : decode cX6_sow 10 = .ok (.invokestatic 77, 3) := by decide +kernel
theorem dX6_sow_13 : decode cX6_sow 13 = .ok (.ifCond .eq 6, 3) := by decide +kernel
theorem dX6_sow_16 : decode cX6_sow 16 = .ok (.bipush (-2), 2) := by decide +kernel
theorem dX6_sow_18 : decode cX6_sow 18 = .ok (.ireturn, 1) := by decide +kernel
theorem dX6_sow_19 : decode cX6_sow 19 = .ok (.aload_n 0, 1) := by decide +kernel
theorem dX6_sow_20 : decode cX6_sow 20 = .ok (.invokevirtual 184, 3) := by decide +kernel
theorem dX6_sow_23 : decode cX6_sow 23 = .ok (.iconst (-1), 1) := by decide +kernel
theorem dX6_sow_24 : decode cX6_sow 24 = .ok (.istore_n 3, 1) := by decide +kernel
theorem dX6_sow_25 : decode cX6_sow 25 = .ok (.bipush 9, 2) := by decide +kernel
theorem dX6_sow_27 : decode cX6_sow 27 = .ok (.istore 4, 2) := by decide +kernel
theorem dX6_sow_29 : decode cX6_sow 29 = .ok (.iconst 0, 1) := by decide +kernel
theorem dX6_sow_30 : decode cX6_sow 30 = .ok (.istore 5, 2) := by decide +kernel
theorem dX6_sow_32 : decode cX6_sow 32 = .ok (.iload 5, 2) := by decide +kernel
theorem dX6_sow_34 : decode cX6_sow 34 = .ok (.bipush 30, 2) := by decide +kernel
theorem dX6_sow_36 : decode cX6_sow 36 = .ok (.if_icmp .ge 49, 3) := by decide +kernel
theorem dX6_sow_39 : decode cX6_sow 39 = .ok (.aload_n 0, 1) := by decide +kernel
theorem dX6_sow_40 : decode cX6_sow 40 = .ok (.getfield 50, 3) := by decide +kernel
theorem dX6_sow_43 : decode cX6_sow 43 = .ok (.getfield 193, 3) := by decide +kernel
theorem dX6_sow_46 : decode cX6_sow 46 = .ok (.iload_n 1, 1) := by decide +kernel
theorem dX6_sow_47 : decode cX6_sow 47 = .ok (.iload 5, 2) := by decide +kernel
theorem dX6_sow_49 : decode cX6_sow 49 = .ok (.iastore, 1) := by decide +kernel
theorem dX6_sow_50 : decode cX6_sow 50 = .ok (.aload_n 0, 1) := by decide +kernel
theorem dX6_sow_51 : decode cX6_sow 51 = .ok (.getfield 57, 3) := by decide +kernel
theorem dX6_sow_54 : decode cX6_sow 54 = .ok (.aload_n 0, 1) := by decide +kernel
theorem dX6_sow_55 : decode cX6_sow 55 = .ok (.getfield 50, 3) := by decide +kernel
theorem dX6_sow_58 : decode cX6_sow 58 = .ok (.invokevirtual 196, 3) := by decide +kernel
theorem dX6_sow_61 : decode cX6_sow 61 = .ok (.aload_n 0, 1) := by decide +kernel
theorem dX6_sow_62 : decode cX6_sow 62 = .ok (.invokevirtual 200, 3) := by decide +kernel
theorem dX6_sow_65 : decode cX6_sow 65 = .ok (.iload 4, 2) := by decide +kernel
theorem dX6_sow_67 : decode cX6_sow 67 = .ok (.if_icmp .ge 12, 3) := by decide +kernel
theorem dX6_sow_70 : decode cX6_sow 70 = .ok (.aload_n 0, 1) := by decide +kernel
theorem dX6_sow_71 : decode cX6_sow 71 = .ok (.invokevirtual 200, 3) := by decide +kernel
theorem dX6_sow_74 : decode cX6_sow 74 = .ok (.istore 4, 2) := by decide +kernel
theorem dX6_sow_76 : decode cX6_sow 76 = .ok (.iload 5, 2) := by decide +kernel
theorem dX6_sow_78 : decode cX6_sow 78 = .ok (.istore_n 3, 1) := by decide +kernel
theorem dX6_sow_79 : decode cX6_sow 79 = .ok (.iinc 5 1, 3) := by decide +kernel
theorem dX6_sow_82 : decode cX6_sow 82 = .ok (.goto (-50), 3) := by decide +kernel
theorem dX6_sow_85 : decode cX6_sow 85 = .ok (.iload_n 2, 1) := by decide +kernel
theorem dX6_sow_86 : decode cX6_sow 86 = .ok (.ifCond .ne 7, 3) := by decide +kernel
theorem dX6_sow_89 : decode cX6_sow 89 = .ok (.iload_n 3, 1) := by decide +kernel
theorem dX6_sow_90 : decode cX6_sow 90 = .ok (.goto 5, 3) := by decide +kernel
theorem dX6_sow_93 : decode cX6_sow 93 = .ok (.iload 4, 2) := by decide +kernel
theorem dX6_sow_95 : decode cX6_sow 95 = .ok (.ireturn, 1) := by decide +kernel
theorem dX6_come_0 : decode cX6_come 0 = .ok (.aload_n 0, 1) := by decide +kernel
theorem dX6_come_1 : decode cX6_come 1 = .ok (.iload_n 1, 1) := by decide +kernel
theorem dX6_come_2 : decode cX6_come 2 = .ok (.invokevirtual 109, 3) := by decide +kernel
theorem dX6_come_5 : decode cX6_come 5 = .ok (.ifCond .ne 11, 3) := by decide +kernel
theorem dX6_come_8 : decode cX6_come 8 = .ok (.iload_n 2, 1) := by decide +kernel
theorem dX6_come_9 : decode cX6_come 9 = .ok (.iconst 2, 1) := by decide +kernel
theorem dX6_come_10 : decode cX6_come 10 = .ok (.invokestatic 77, 3) := by decide +kernel
theorem dX6_come_13 : decode cX6_come 13 = .ok (.ifCond .eq 6, 3) := by decide +kernel
theorem dX6_come_16 : decode cX6_come 16 = .ok (.bipush (-2), 2) := by decide +kernel
theorem dX6_come_18 : decode cX6_come 18 = .ok (.ireturn, 1) := by decide +kernel
theorem dX6_come_19 : decode cX6_come 19 = .ok (.aload_n 0, 1) := by decide +kernel
theorem dX6_come_20 : decode cX6_come 20 = .ok (.invokevirtual 184, 3) := by decide +kernel
theorem dX6_come_23 : decode cX6_come 23 = .ok (.iconst (-1), 1) := by decide +kernel
theorem dX6_come_24 : decode cX6_come 24 = .ok (.istore_n 3, 1) := by decide +kernel
theorem dX6_come_25 : decode cX6_come 25 = .ok (.iconst (-1), 1) := by decide +kernel
theorem dX6_come_26 : decode cX6_come 26 = .ok (.istore 4, 2) := by decide +kernel
theorem dX6_come_28 : decode cX6_come 28 = .ok (.iconst 0, 1) := by decide +kernel
theorem dX6_come_29 : decode cX6_come 29 = .ok (.istore 5, 2) := by decide +kernel
theorem dX6_come_31 : decode cX6_come 31 = .ok (.iload 5, 2) := by decide +kernel
theorem dX6_come_33 : decode cX6_come 33 = .ok (.bipush 30, 2) := by decide +kernel
theorem dX6_come_35 : decode cX6_come 35 = .ok (.if_icmp .ge 68, 3) := by decide +kernel
theorem dX6_come_38 : decode cX6_come 38 = .ok (.aload_n 0, 1) := by decide +kernel
theorem dX6_come_39 : decode cX6_come 39 = .ok (.getfield 50, 3) := by decide +kernel
theorem dX6_come_42 : decode cX6_come 42 = .ok (.getfield 203, 3) := by decide +kernel
theorem dX6_come_45 : decode cX6_come 45 = .ok (.iload_n 1, 1) := by decide +kernel
theorem dX6_come_46 : decode cX6_come 46 = .ok (.iload 5, 2) := by decide +kernel
theorem dX6_come_48 : decode cX6_come 48 = .ok (.iastore, 1) := by decide +kernel
theorem dX6_come_49 : decode cX6_come 49 = .ok (.aload_n 0, 1) := by decide +kernel
theorem dX6_come_50 : decode cX6_come 50 = .ok (.getfield 57, 3) := by decide +kernel
theorem dX6_come_53 : decode cX6_come 53 = .ok (.aload_n 0, 1) := by decide +kernel
theorem dX6_come_54 : decode cX6_come 54 = .ok (.getfield 50, 3) := by decide +kernel
theorem dX6_come_57 : decode cX6_come 57 = .ok (.invokevirtual 196, 3) := by decide +kernel
theorem dX6_come_60 : decode cX6_come 60 = .ok (.aload_n 0, 1) := by decide +kernel
theorem dX6_come_61 : decode cX6_come 61 = .ok (.getfield 57, 3) := by decide +kernel
theorem dX6_come_64 : decode cX6_come 64 = .ok (.getfield 149, 3) := by decide +kernel
theorem dX6_come_67 : decode cX6_come 67 = .ok (.iload_n 1, 1) := by decide +kernel
theorem dX6_come_68 : decode cX6_come 68 = .ok (.iaload, 1) := by decide +kernel
theorem dX6_come_69 : decode cX6_come 69 = .ok (.istore 6, 2) := by decide +kernel
theorem dX6_come_71 : decode cX6_come 71 = .ok (.iload 6, 2) := by decide +kernel
theorem dX6_come_73 : decode cX6_come 73 = .ok (.iconst (-1), 1) := by decide +kernel
theorem dX6_come_74 : decode cX6_come 74 = .ok (.if_icmp .eq 23, 3) := by decide +kernel
theorem dX6_come_77 : decode cX6_come 77 = .ok (.iload 4, 2) := by decide +kernel
theorem dX6_come_79 : decode cX6_come 79 = .ok (.iconst (-1), 1) := by decide +kernel
theorem dX6_come_80 : decode cX6_come 80 = .ok (.if_icmp .eq 10, 3) := by decide +kernel
theorem dX6_come_83 : decode cX6_come 83 = .ok (.iload 6, 2) := by decide +kernel
theorem dX6_come_85 : decode cX6_come 85 = .ok (.iload 4, 2) := by decide +kernel
theorem dX6_come_87 : decode cX6_come 87 = .ok (.if_icmp .ge 10, 3) := by decide +kernel
theorem dX6_come_90 : decode cX6_come 90 = .ok (.iload 6, 2) := by decide +kernel
theorem dX6_come_92 : decode cX6_come 92 = .ok (.istore 4, 2) := by decide +kernel
theorem dX6_come_94 : decode cX6_come 94 = .ok (.iload 5, 2) := by decide +kernel
theorem dX6_come_96 : decode cX6_come 96 = .ok (.istore_n 3, 1) := by decide +kernel
theorem dX6_come_97 : decode cX6_come 97 = .ok (.iinc 5 1, 3) := by decide +kernel
theorem dX6_come_100 : decode cX6_come 100 = .ok (.goto (-69), 3) := by decide +kernel
theorem dX6_come_103 : decode cX6_come 103 = .ok (.iload_n 2, 1) := by decide +kernel
theorem dX6_come_104 : decode cX6_come 104 = .ok (.ifCond .ne 7, 3) := by decide +kernel
theorem dX6_come_107 : decode cX6_come 107 = .ok (.iload_n 3, 1) := by decide +kernel
theorem dX6_come_108 : decode cX6_come 108 = .ok (.goto 5, 3) := by decide +kernel
theorem dX6_come_111 : decode cX6_come 111 = .ok (.iload 4, 2) := by decide +kernel
theorem dX6_come_113 : decode cX6_come 113 = .ok (.ireturn, 1) := by decide +kernel
theorem dX6_seen_0 : decode cX6_seen 0 = .ok (.iload_n 1, 1) := by decide +kernel
theorem dX6_seen_1 : decode cX6_seen 1 = .ok (.bipush 8, 2) := by decide +kernel
theorem dX6_seen_3 : decode cX6_seen 3 = .ok (.invokestatic 77, 3) := by decide +kernel
theorem dX6_seen_6 : decode cX6_seen 6 = .ok (.ifCond .ne 12, 3) := by decide +kernel
theorem dX6_seen_9 : decode cX6_seen 9 = .ok (.iload_n 2, 1) := by decide +kernel
theorem dX6_seen_10 : decode cX6_seen 10 = .ok (.bipush 9, 2) := by decide +kernel
theorem dX6_seen_12 : decode cX6_seen 12 = .ok (.invokestatic 77, 3) := by decide +kernel
theorem dX6_seen_15 : decode cX6_seen 15 = .ok (.ifCond .eq 6, 3) := by decide +kernel
theorem dX6_seen_18 : decode cX6_seen 18 = .ok (.bipush (-2), 2) := by decide +kernel
theorem dX6_seen_20 : decode cX6_seen 20 = .ok (.ireturn, 1) := by decide +kernel
theorem dX6_seen_21 : decode cX6_seen 21 = .ok (.aload_n 0, 1) := by decide +kernel
theorem dX6_seen_22 : decode cX6_seen 22 = .ok (.getfield 37, 3) := by decide +kernel
theorem dX6_seen_25 : decode cX6_seen 25 = .ok (.iload_n 1, 1) := by decide +kernel
theorem dX6_seen_26 : decode cX6_seen 26 = .ok (.bipush 9, 2) := by decide +kernel
theorem dX6_seen_28 : decode cX6_seen 28 = .ok (.imul, 1) := by decide +kernel
theorem dX6_seen_29 : decode cX6_seen 29 = .ok (.iload_n 2, 1) := by decide +kernel
theorem dX6_seen_30 : decode cX6_seen 30 = .ok (.iadd, 1) := by decide +kernel
theorem dX6_seen_31 : decode cX6_seen 31 = .ok (.invokevirtual 115, 3) := by decide +kernel
theorem dX6_seen_34 : decode cX6_seen 34 = .ok (.ireturn, 1) := by decide +kernel
theorem dX6_forget_0 : decode cX6_forget 0 = .ok (.aload_n 0, 1) := by decide +kernel
theorem dX6_forget_1 : decode cX6_forget 1 = .ok (.getfield 37, 3) := by decide +kernel
theorem dX6_forget_4 : decode cX6_forget 4 = .ok (.invokevirtual 206, 3) := by decide +kernel
theorem dX6_forget_7 : decode cX6_forget 7 = .ok (.ireturn, 1) := by decide +kernel
theorem dX6_never_0 : decode cX6_never 0 = .ok (.aload_n 0, 1) := by decide +kernel
theorem dX6_never_1 : decode cX6_never 1 = .ok (.invokevirtual 184, 3) := by decide +kernel
theorem dX6_never_4 : decode cX6_never 4 = .ok (.iconst 0, 1) := by decide +kernel
theorem dX6_never_5 : decode cX6_never 5 = .ok (.istore_n 1, 1) := by decide +kernel
theorem dX6_never_6 : decode cX6_never 6 = .ok (.iconst 0, 1) := by decide +kernel
theorem dX6_never_7 : decode cX6_never 7 = .ok (.istore_n 2, 1) := by decide +kernel
theorem dX6_never_8 : decode cX6_never 8 = .ok (.iload_n 2, 1) := by decide +kernel
theorem dX6_never_9 : decode cX6_never 9 = .ok (.aload_n 0, 1) := by decide +kernel
theorem dX6_never_10 : decode cX6_never 10 = .ok (.getfield 34, 3) := by decide +kernel
theorem dX6_never_13 : decode cX6_never 13 = .ok (.getfield 209, 3) := by decide +kernel
theorem dX6_never_16 : decode cX6_never 16 = .ok (.if_icmp .ge 47, 3) := by decide +kernel
theorem dX6_never_19 : decode cX6_never 19 = .ok (.aload_n 0, 1) := by decide +kernel
theorem dX6_never_20 : decode cX6_never 20 = .ok (.getfield 50, 3) := by decide +kernel
theorem dX6_never_23 : decode cX6_never 23 = .ok (.aload_n 0, 1) := by decide +kernel
theorem dX6_never_24 : decode cX6_never 24 = .ok (.getfield 34, 3) := by decide +kernel
theorem dX6_never_27 : decode cX6_never 27 = .ok (.iconst 1, 1) := by decide +kernel
theorem dX6_never_28 : decode cX6_never 28 = .ok (.iload_n 2, 1) := by decide +kernel
theorem dX6_never_29 : decode cX6_never 29 = .ok (.ishl, 1) := by decide +kernel
theorem dX6_never_30 : decode cX6_never 30 = .ok (.invokevirtual 210, 3) := by decide +kernel
theorem dX6_never_33 : decode cX6_never 33 = .ok (.aload_n 0, 1) := by decide +kernel
theorem dX6_never_34 : decode cX6_never 34 = .ok (.getfield 57, 3) := by decide +kernel
theorem dX6_never_37 : decode cX6_never 37 = .ok (.aload_n 0, 1) := by decide +kernel
theorem dX6_never_38 : decode cX6_never 38 = .ok (.getfield 50, 3) := by decide +kernel
theorem dX6_never_41 : decode cX6_never 41 = .ok (.invokevirtual 196, 3) := by decide +kernel
theorem dX6_never_44 : decode cX6_never 44 = .ok (.aload_n 0, 1) := by decide +kernel
theorem dX6_never_45 : decode cX6_never 45 = .ok (.invokevirtual 214, 3) := by decide +kernel
theorem dX6_never_48 : decode cX6_never 48 = .ok (.ifCond .eq 9, 3) := by decide +kernel
theorem dX6_never_51 : decode cX6_never 51 = .ok (.iload_n 1, 1) := by decide +kernel
theorem dX6_never_52 : decode cX6_never 52 = .ok (.iconst 1, 1) := by decide +kernel
theorem dX6_never_53 : decode cX6_never 53 = .ok (.iload_n 2, 1) := by decide +kernel
theorem dX6_never_54 : decode cX6_never 54 = .ok (.ishl, 1) := by decide +kernel
theorem dX6_never_55 : decode cX6_never 55 = .ok (.ior, 1) := by decide +kernel
theorem dX6_never_56 : decode cX6_never 56 = .ok (.istore_n 1, 1) := by decide +kernel
theorem dX6_never_57 : decode cX6_never 57 = .ok (.iinc 2 1, 3) := by decide +kernel
theorem dX6_never_60 : decode cX6_never 60 = .ok (.goto (-52), 3) := by decide +kernel
theorem dX6_never_63 : decode cX6_never 63 = .ok (.iload_n 1, 1) := by decide +kernel
theorem dX6_never_64 : decode cX6_never 64 = .ok (.ireturn, 1) := by decide +kernel
theorem dX6_was_0 : decode cX6_was 0 = .ok (.aload_n 0, 1) := by decide +kernel
theorem dX6_was_1 : decode cX6_was 1 = .ok (.iload_n 1, 1) := by decide +kernel
theorem dX6_was_2 : decode cX6_was 2 = .ok (.invokevirtual 98, 3) := by decide +kernel
theorem dX6_was_5 : decode cX6_was 5 = .ok (.ifCond .ne 11, 3) := by decide +kernel
theorem dX6_was_8 : decode cX6_was 8 = .ok (.iload_n 2, 1) := by decide +kernel
theorem dX6_was_9 : decode cX6_was 9 = .ok (.iconst 2, 1) := by decide +kernel
theorem dX6_was_10 : decode cX6_was 10 = .ok (.invokestatic 77, 3) := by decide +kernel
theorem dX6_was_13 : decode cX6_was 13 = .ok (.ifCond .eq 6, 3) := by decide +kernel
theorem dX6_was_16 : decode cX6_was 16 = .ok (.bipush (-2), 2) := by decide +kernel
theorem dX6_was_18 : decode cX6_was 18 = .ok (.ireturn, 1) := by decide +kernel
theorem dX6_was_19 : decode cX6_was 19 = .ok (.aload_n 0, 1) := by decide +kernel
theorem dX6_was_20 : decode cX6_was 20 = .ok (.invokevirtual 184, 3) := by decide +kernel
theorem dX6_was_23 : decode cX6_was 23 = .ok (.iload_n 2, 1) := by decide +kernel
theorem dX6_was_24 : decode cX6_was 24 = .ok (.ifCond .ne 11, 3) := by decide +kernel
theorem dX6_was_27 : decode cX6_was 27 = .ok (.aload_n 0, 1) := by decide +kernel
theorem dX6_was_28 : decode cX6_was 28 = .ok (.iload_n 1, 1) := by decide +kernel
theorem dX6_was_29 : decode cX6_was 29 = .ok (.invokevirtual 217, 3) := by decide +kernel
theorem dX6_was_32 : decode cX6_was 32 = .ok (.goto 8, 3) := by decide +kernel
theorem dX6_was_35 : decode cX6_was 35 = .ok (.aload_n 0, 1) := by decide +kernel
theorem dX6_was_36 : decode cX6_was 36 = .ok (.iload_n 1, 1) := by decide +kernel
theorem dX6_was_37 : decode cX6_was 37 = .ok (.invokevirtual 220, 3) := by decide +kernel
theorem dX6_was_40 : decode cX6_was 40 = .ok (.ireturn, 1) := by decide +kernel
theorem dX6_ask_0 : decode cX6_ask 0 = .ok (.aload_n 0, 1) := by decide +kernel
theorem dX6_ask_1 : decode cX6_ask 1 = .ok (.iload_n 1, 1) := by decide +kernel
theorem dX6_ask_2 : decode cX6_ask 2 = .ok (.invokevirtual 98, 3) := by decide +kernel
theorem dX6_ask_5 : decode cX6_ask 5 = .ok (.ifCond .eq 6, 3) := by decide +kernel
theorem dX6_ask_8 : decode cX6_ask 8 = .ok (.bipush (-2), 2) := by decide +kernel
theorem dX6_ask_10 : decode cX6_ask 10 = .ok (.ireturn, 1) := by decide +kernel
theorem dX6_ask_11 : decode cX6_ask 11 = .ok (.aload_n 0, 1) := by decide +kernel
theorem dX6_ask_12 : decode cX6_ask 12 = .ok (.invokevirtual 184, 3) := by decide +kernel
theorem dX6_ask_15 : decode cX6_ask 15 = .ok (.iconst 0, 1) := by decide +kernel
theorem dX6_ask_16 : decode cX6_ask 16 = .ok (.istore_n 2, 1) := by decide +kernel
theorem dX6_ask_17 : decode cX6_ask 17 = .ok (.iload_n 2, 1) := by decide +kernel
theorem dX6_ask_18 : decode cX6_ask 18 = .ok (.bipush 8, 2) := by decide +kernel
theorem dX6_ask_20 : decode cX6_ask 20 = .ok (.if_icmp .ge 19, 3) := by decide +kernel
theorem dX6_ask_23 : decode cX6_ask 23 = .ok (.aload_n 0, 1) := by decide +kernel
theorem dX6_ask_24 : decode cX6_ask 24 = .ok (.getfield 70, 3) := by decide +kernel
theorem dX6_ask_27 : decode cX6_ask 27 = .ok (.iload_n 2, 1) := by decide +kernel
theorem dX6_ask_28 : decode cX6_ask 28 = .ok (.aaload, 1) := by decide +kernel
theorem dX6_ask_29 : decode cX6_ask 29 = .ok (.iconst 0, 1) := by decide +kernel
theorem dX6_ask_30 : decode cX6_ask 30 = .ok (.invokestatic 223, 3) := by decide +kernel
theorem dX6_ask_33 : decode cX6_ask 33 = .ok (.iinc 2 1, 3) := by decide +kernel
theorem dX6_ask_36 : decode cX6_ask 36 = .ok (.goto (-19), 3) := by decide +kernel
theorem dX6_ask_39 : decode cX6_ask 39 = .ok (.iconst 0, 1) := by decide +kernel
theorem dX6_ask_40 : decode cX6_ask 40 = .ok (.istore_n 2, 1) := by decide +kernel
theorem dX6_ask_41 : decode cX6_ask 41 = .ok (.iload_n 2, 1) := by decide +kernel
theorem dX6_ask_42 : decode cX6_ask 42 = .ok (.bipush 30, 2) := by decide +kernel
theorem dX6_ask_44 : decode cX6_ask 44 = .ok (.if_icmp .ge 41, 3) := by decide +kernel
theorem dX6_ask_47 : decode cX6_ask 47 = .ok (.aload_n 0, 1) := by decide +kernel
theorem dX6_ask_48 : decode cX6_ask 48 = .ok (.getfield 50, 3) := by decide +kernel
theorem dX6_ask_51 : decode cX6_ask 51 = .ok (.getfield 193, 3) := by decide +kernel
theorem dX6_ask_54 : decode cX6_ask 54 = .ok (.iload_n 1, 1) := by decide +kernel
theorem dX6_ask_55 : decode cX6_ask 55 = .ok (.iload_n 2, 1) := by decide +kernel
theorem dX6_ask_56 : decode cX6_ask 56 = .ok (.iastore, 1) := by decide +kernel
theorem dX6_ask_57 : decode cX6_ask 57 = .ok (.aload_n 0, 1) := by decide +kernel
theorem dX6_ask_58 : decode cX6_ask 58 = .ok (.getfield 57, 3) := by decide +kernel
theorem dX6_ask_61 : decode cX6_ask 61 = .ok (.aload_n 0, 1) := by decide +kernel
theorem dX6_ask_62 : decode cX6_ask 62 = .ok (.getfield 50, 3) := by decide +kernel
theorem dX6_ask_65 : decode cX6_ask 65 = .ok (.invokevirtual 196, 3) := by decide +kernel
theorem dX6_ask_68 : decode cX6_ask 68 = .ok (.aload_n 0, 1) := by decide +kernel
theorem dX6_ask_69 : decode cX6_ask 69 = .ok (.invokevirtual 214, 3) := by decide +kernel
theorem dX6_ask_72 : decode cX6_ask 72 = .ok (.ifCond .eq 7, 3) := by decide +kernel
theorem dX6_ask_75 : decode cX6_ask 75 = .ok (.aload_n 0, 1) := by decide +kernel
theorem dX6_ask_76 : decode cX6_ask 76 = .ok (.invokevirtual 229, 3) := by decide +kernel
theorem dX6_ask_79 : decode cX6_ask 79 = .ok (.iinc 2 1, 3) := by decide +kernel
theorem dX6_ask_82 : decode cX6_ask 82 = .ok (.goto (-41), 3) := by decide +kernel
theorem dX6_ask_85 : decode cX6_ask 85 = .ok (.aload_n 0, 1) := by decide +kernel
theorem dX6_ask_86 : decode cX6_ask 86 = .ok (.invokevirtual 232, 3) := by decide +kernel
theorem dX6_ask_89 : decode cX6_ask 89 = .ok (.ireturn, 1) := by decide +kernel
theorem dX6_chill_0 : decode cX6_chill 0 = .ok (.iload_n 1, 1) := by decide +kernel
theorem dX6_chill_1 : decode cX6_chill 1 = .ok (.bipush 17, 2) := by decide +kernel
theorem dX6_chill_3 : decode cX6_chill 3 = .ok (.invokestatic 77, 3) := by decide +kernel
theorem dX6_chill_6 : decode cX6_chill 6 = .ok (.ifCond .ne 12, 3) := by decide +kernel
theorem dX6_chill_9 : decode cX6_chill 9 = .ok (.iload_n 2, 1) := by decide +kernel
theorem dX6_chill_10 : decode cX6_chill 10 = .ok (.bipush 10, 2) := by decide +kernel
theorem dX6_chill_12 : decode cX6_chill 12 = .ok (.invokestatic 77, 3) := by decide +kernel
theorem dX6_chill_15 : decode cX6_chill 15 = .ok (.ifCond .eq 9, 3) := by decide +kernel
theorem dX6_chill_18 : decode cX6_chill 18 = .ok (.bipush (-2), 2) := by decide +kernel
theorem dX6_chill_20 : decode cX6_chill 20 = .ok (.invokestatic 235, 3) := by decide +kernel
theorem dX6_chill_23 : decode cX6_chill 23 = .ok (.lreturn, 1) := by decide +kernel
theorem dX6_chill_24 : decode cX6_chill 24 = .ok (.aload_n 0, 1) := by decide +kernel
theorem dX6_chill_25 : decode cX6_chill 25 = .ok (.iload_n 3, 1) := by decide +kernel
theorem dX6_chill_26 : decode cX6_chill 26 = .ok (.invokevirtual 109, 3) := by decide +kernel
theorem dX6_chill_29 : decode cX6_chill 29 = .ok (.ifCond .ne 12, 3) := by decide +kernel
theorem dX6_chill_32 : decode cX6_chill 32 = .ok (.iload 4, 2) := by decide +kernel
theorem dX6_chill_34 : decode cX6_chill 34 = .ok (.iconst 2, 1) := by decide +kernel
theorem dX6_chill_35 : decode cX6_chill 35 = .ok (.invokestatic 77, 3) := by decide +kernel
theorem dX6_chill_38 : decode cX6_chill 38 = .ok (.ifCond .eq 9, 3) := by decide +kernel
theorem dX6_chill_41 : decode cX6_chill 41 = .ok (.bipush (-2), 2) := by decide +kernel
theorem dX6_chill_43 : decode cX6_chill 43 = .ok (.invokestatic 235, 3) := by decide +kernel
theorem dX6_chill_46 : decode cX6_chill 46 = .ok (.lreturn, 1) := by decide +kernel
theorem dX6_chill_47 : decode cX6_chill 47 = .ok (.aload_n 0, 1) := by decide +kernel
theorem dX6_chill_48 : decode cX6_chill 48 = .ok (.getfield 64, 3) := by decide +kernel
theorem dX6_chill_51 : decode cX6_chill 51 = .ok (.getfield 239, 3) := by decide +kernel
theorem dX6_chill_54 : decode cX6_chill 54 = .ok (.iload_n 2, 1) := by decide +kernel
theorem dX6_chill_55 : decode cX6_chill 55 = .ok (.if_icmp .eq 8, 3) := by decide +kernel
theorem dX6_chill_58 : decode cX6_chill 58 = .ok (.aload_n 0, 1) := by decide +kernel
theorem dX6_chill_59 : decode cX6_chill 59 = .ok (.iload_n 2, 1) := by decide +kernel
theorem dX6_chill_60 : decode cX6_chill 60 = .ok (.invokevirtual 242, 3) := by decide +kernel
theorem dX6_chill_63 : decode cX6_chill 63 = .ok (.aload_n 0, 1) := by decide +kernel
theorem dX6_chill_64 : decode cX6_chill 64 = .ok (.getfield 64, 3) := by decide +kernel
theorem dX6_chill_67 : decode cX6_chill 67 = .ok (.iload_n 3, 1) := by decide +kernel
theorem dX6_chill_68 : decode cX6_chill 68 = .ok (.iload_n 1, 1) := by decide +kernel
theorem dX6_chill_69 : decode cX6_chill 69 = .ok (.invokevirtual 245, 3) := by decide +kernel
theorem dX6_chill_72 : decode cX6_chill 72 = .ok (.lstore 5, 2) := by decide +kernel
theorem dX6_chill_74 : decode cX6_chill 74 = .ok (.lconst 1, 1) := by decide +kernel
theorem dX6_chill_75 : decode cX6_chill 75 = .ok (.iconst 4, 1) := by decide +kernel
theorem dX6_chill_76 : decode cX6_chill 76 = .ok (.iload_n 2, 1) := by decide +kernel
theorem dX6_chill_77 : decode cX6_chill 77 = .ok (.iconst 1, 1) := by decide +kernel
theorem dX6_chill_78 : decode cX6_chill 78 = .ok (.iadd, 1) := by decide +kernel
theorem dX6_chill_79 : decode cX6_chill 79 = .ok (.imul, 1) := by decide +kernel
theorem dX6_chill_80 : decode cX6_chill 80 = .ok (.lshl, 1) := by decide +kernel
theorem dX6_chill_81 : decode cX6_chill 81 = .ok (.lstore 7, 2) := by decide +kernel
theorem dX6_chill_83 : decode cX6_chill 83 = .ok (.iconst 0, 1) := by decide +kernel
theorem dX6_chill_84 : decode cX6_chill 84 = .ok (.istore 9, 2) := by decide +kernel
theorem dX6_chill_86 : decode cX6_chill 86 = .ok (.iload 9, 2) := by decide +kernel
theorem dX6_chill_88 : decode cX6_chill 88 = .ok (.bipush 40, 2) := by decide +kernel
theorem dX6_chill_90 : decode cX6_chill 90 = .ok (.if_icmp .ge 37, 3) := by decide +kernel
theorem dX6_chill_93 : decode cX6_chill 93 = .ok (.lload 7, 2) := by decide +kernel
theorem dX6_chill_95 : decode cX6_chill 95 = .ok (.lconst 1, 1) := by decide +kernel
theorem dX6_chill_96 : decode cX6_chill 96 = .ok (.lcmp, 1) := by decide +kernel
theorem dX6_chill_97 : decode cX6_chill 97 = .ok (.ifCond .le 30, 3) := by decide +kernel
theorem dX6_chill_100 : decode cX6_chill 100 = .ok (.lload 5, 2) := by decide +kernel
theorem dX6_chill_102 : decode cX6_chill 102 = .ok (.lconst 1, 1) := by decide +kernel
theorem dX6_chill_103 : decode cX6_chill 103 = .ok (.land, 1) := by decide +kernel
theorem dX6_chill_104 : decode cX6_chill 104 = .ok (.lconst 0, 1) := by decide +kernel
theorem dX6_chill_105 : decode cX6_chill 105 = .ok (.lcmp, 1) := by decide +kernel
theorem dX6_chill_106 : decode cX6_chill 106 = .ok (.ifCond .ne 21, 3) := by decide +kernel
theorem dX6_chill_109 : decode cX6_chill 109 = .ok (.lload 5, 2) := by decide +kernel
theorem dX6_chill_111 : decode cX6_chill 111 = .ok (.iconst 1, 1) := by decide +kernel
theorem dX6_chill_112 : decode cX6_chill 112 = .ok (.lshr, 1) := by decide +kernel
theorem dX6_chill_113 : decode cX6_chill 113 = .ok (.lstore 5, 2) := by decide +kernel
theorem dX6_chill_115 : decode cX6_chill 115 = .ok (.lload 7, 2) := by decide +kernel
theorem dX6_chill_117 : decode cX6_chill 117 = .ok (.iconst 1, 1) := by decide +kernel
theorem dX6_chill_118 : decode cX6_chill 118 = .ok (.lshr, 1) := by decide +kernel
theorem dX6_chill_119 : decode cX6_chill 119 = .ok (.lstore 7, 2) := by decide +kernel
theorem dX6_chill_121 : decode cX6_chill 121 = .ok (.iinc 9 1, 3) := by decide +kernel
theorem dX6_chill_124 : decode cX6_chill 124 = .ok (.goto (-38), 3) := by decide +kernel
theorem dX6_chill_127 : decode cX6_chill 127 = .ok (.iload 4, 2) := by decide +kernel
theorem dX6_chill_129 : decode cX6_chill 129 = .ok (.ifCond .ne 8, 3) := by decide +kernel
theorem dX6_chill_132 : decode cX6_chill 132 = .ok (.lload 5, 2) := by decide +kernel
theorem dX6_chill_134 : decode cX6_chill 134 = .ok (.goto 5, 3) := by decide +kernel
theorem dX6_chill_137 : decode cX6_chill 137 = .ok (.lload 7, 2) := by decide +kernel
theorem dX6_chill_139 : decode cX6_chill 139 = .ok (.lreturn, 1) := by decide +kernel
theorem dX6_year_0 : decode cX6_year 0 = .ok (.iload_n 2, 1) := by decide +kernel
theorem dX6_year_1 : decode cX6_year 1 = .ok (.iconst 2, 1) := by decide +kernel
theorem dX6_year_2 : decode cX6_year 2 = .ok (.invokestatic 77, 3) := by decide +kernel
theorem dX6_year_5 : decode cX6_year 5 = .ok (.ifCond .eq 6, 3) := by decide +kernel
theorem dX6_year_8 : decode cX6_year 8 = .ok (.bipush (-2), 2) := by decide +kernel
theorem dX6_year_10 : decode cX6_year 10 = .ok (.ireturn, 1) := by decide +kernel
theorem dX6_year_11 : decode cX6_year 11 = .ok (.aload_n 0, 1) := by decide +kernel
theorem dX6_year_12 : decode cX6_year 12 = .ok (.invokevirtual 184, 3) := by decide +kernel
theorem dX6_year_15 : decode cX6_year 15 = .ok (.iload_n 1, 1) := by decide +kernel
theorem dX6_year_16 : decode cX6_year 16 = .ok (.istore_n 3, 1) := by decide +kernel
theorem dX6_year_17 : decode cX6_year 17 = .ok (.iconst 0, 1) := by decide +kernel
theorem dX6_year_18 : decode cX6_year 18 = .ok (.istore 4, 2) := by decide +kernel
theorem dX6_year_20 : decode cX6_year 20 = .ok (.iload 4, 2) := by decide +kernel
theorem dX6_year_22 : decode cX6_year 22 = .ok (.aload_n 0, 1) := by decide +kernel
theorem dX6_year_23 : decode cX6_year 23 = .ok (.getfield 50, 3) := by decide +kernel
theorem dX6_year_26 : decode cX6_year 26 = .ok (.getfield 249, 3) := by decide +kernel
theorem dX6_year_29 : decode cX6_year 29 = .ok (.if_icmp .ge 35, 3) := by decide +kernel
theorem dX6_year_32 : decode cX6_year 32 = .ok (.ldc 252, 2) := by decide +kernel
theorem dX6_year_34 : decode cX6_year 34 = .ok (.iload_n 3, 1) := by decide +kernel
theorem dX6_year_35 : decode cX6_year 35 = .ok (.imul, 1) := by decide +kernel
theorem dX6_year_36 : decode cX6_year 36 = .ok (.sipush 12345, 3) := by decide +kernel
theorem dX6_year_39 : decode cX6_year 39 = .ok (.iadd, 1) := by decide +kernel
theorem dX6_year_40 : decode cX6_year 40 = .ok (.istore_n 3, 1) := by decide +kernel
theorem dX6_year_41 : decode cX6_year 41 = .ok (.aload_n 0, 1) := by decide +kernel
theorem dX6_year_42 : decode cX6_year 42 = .ok (.getfield 50, 3) := by decide +kernel
theorem dX6_year_45 : decode cX6_year 45 = .ok (.getfield 193, 3) := by decide +kernel
theorem dX6_year_48 : decode cX6_year 48 = .ok (.iload 4, 2) := by decide +kernel
theorem dX6_year_50 : decode cX6_year 50 = .ok (.iload_n 3, 1) := by decide +kernel
theorem dX6_year_51 : decode cX6_year 51 = .ok (.bipush 16, 2) := by decide +kernel
theorem dX6_year_53 : decode cX6_year 53 = .ok (.iushr, 1) := by decide +kernel
theorem dX6_year_54 : decode cX6_year 54 = .ok (.bipush 30, 2) := by decide +kernel
theorem dX6_year_56 : decode cX6_year 56 = .ok (.irem, 1) := by decide +kernel
theorem dX6_year_57 : decode cX6_year 57 = .ok (.iastore, 1) := by decide +kernel
theorem dX6_year_58 : decode cX6_year 58 = .ok (.iinc 4 1, 3) := by decide +kernel
theorem dX6_year_61 : decode cX6_year 61 = .ok (.goto (-41), 3) := by decide +kernel
theorem dX6_year_64 : decode cX6_year 64 = .ok (.aload_n 0, 1) := by decide +kernel
theorem dX6_year_65 : decode cX6_year 65 = .ok (.getfield 57, 3) := by decide +kernel
theorem dX6_year_68 : decode cX6_year 68 = .ok (.aload_n 0, 1) := by decide +kernel
theorem dX6_year_69 : decode cX6_year 69 = .ok (.getfield 50, 3) := by decide +kernel
theorem dX6_year_72 : decode cX6_year 72 = .ok (.invokevirtual 196, 3) := by decide +kernel
theorem dX6_year_75 : decode cX6_year 75 = .ok (.iload_n 2, 1) := by decide +kernel
theorem dX6_year_76 : decode cX6_year 76 = .ok (.ifCond .ne 12, 3) := by decide +kernel
theorem dX6_year_79 : decode cX6_year 79 = .ok (.aload_n 0, 1) := by decide +kernel
theorem dX6_year_80 : decode cX6_year 80 = .ok (.bipush 39, 2) := by decide +kernel
theorem dX6_year_82 : decode cX6_year 82 = .ok (.invokevirtual 158, 3) := by decide +kernel
theorem dX6_year_85 : decode cX6_year 85 = .ok (.goto 7, 3) := by decide +kernel
theorem dX6_year_88 : decode cX6_year 88 = .ok (.aload_n 0, 1) := by decide +kernel
theorem dX6_year_89 : decode cX6_year 89 = .ok (.invokevirtual 200, 3) := by decide +kernel
theorem dX6_year_92 : decode cX6_year 92 = .ok (.ireturn, 1) := by decide +kernel
theorem dX6_sheet_0 : decode cX6_sheet 0 = .ok (.iload_n 1, 1) := by decide +kernel
theorem dX6_sheet_1 : decode cX6_sheet 1 = .ok (.iconst 4, 1) := by decide +kernel
theorem dX6_sheet_2 : decode cX6_sheet 2 = .ok (.invokestatic 77, 3) := by decide +kernel
theorem dX6_sheet_5 : decode cX6_sheet 5 = .ok (.ifCond .ne 17, 3) := by decide +kernel
theorem dX6_sheet_8 : decode cX6_sheet 8 = .ok (.iload_n 2, 1) := by decide +kernel
theorem dX6_sheet_9 : decode cX6_sheet 9 = .ok (.iconst 3, 1) := by decide +kernel
theorem dX6_sheet_10 : decode cX6_sheet 10 = .ok (.invokestatic 77, 3) := by decide +kernel
theorem dX6_sheet_13 : decode cX6_sheet 13 = .ok (.ifCond .ne 9, 3) := by decide +kernel
theorem dX6_sheet_16 : decode cX6_sheet 16 = .ok (.iload_n 3, 1) := by decide +kernel
theorem dX6_sheet_17 : decode cX6_sheet 17 = .ok (.bipush 60, 2) := by decide +kernel
theorem dX6_sheet_19 : decode cX6_sheet 19 = .ok (.if_icmp .le 6, 3) := by decide +kernel
theorem dX6_sheet_22 : decode cX6_sheet 22 = .ok (.bipush (-2), 2) := by decide +kernel
theorem dX6_sheet_24 : decode cX6_sheet 24 = .ok (.ireturn, 1) := by decide +kernel
theorem dX6_sheet_25 : decode cX6_sheet 25 = .ok (.iload_n 3, 1) := by decide +kernel
theorem dX6_sheet_26 : decode cX6_sheet 26 = .ok (.ifCond .ge 9, 3) := by decide +kernel
theorem dX6_sheet_29 : decode cX6_sheet 29 = .ok (.aload_n 0, 1) := by decide +kernel
theorem dX6_sheet_30 : decode cX6_sheet 30 = .ok (.iconst 5, 1) := by decide +kernel
theorem dX6_sheet_31 : decode cX6_sheet 31 = .ok (.invokevirtual 123, 3) := by decide +kernel
theorem dX6_sheet_34 : decode cX6_sheet 34 = .ok (.ireturn, 1) := by decide +kernel
theorem dX6_sheet_35 : decode cX6_sheet 35 = .ok (.aload_n 0, 1) := by decide +kernel
theorem dX6_sheet_36 : decode cX6_sheet 36 = .ok (.getfield 43, 3) := by decide +kernel
theorem dX6_sheet_39 : decode cX6_sheet 39 = .ok (.iload_n 1, 1) := by decide +kernel
theorem dX6_sheet_40 : decode cX6_sheet 40 = .ok (.aaload, 1) := by decide +kernel
theorem dX6_sheet_41 : decode cX6_sheet 41 = .ok (.iload_n 2, 1) := by decide +kernel
theorem dX6_sheet_42 : decode cX6_sheet 42 = .ok (.iload_n 3, 1) := by decide +kernel
theorem dX6_sheet_43 : decode cX6_sheet 43 = .ok (.invokevirtual 253, 3) := by decide +kernel
theorem dX6_sheet_46 : decode cX6_sheet 46 = .ok (.iload_n 3, 1) := by decide +kernel
theorem dX6_sheet_47 : decode cX6_sheet 47 = .ok (.ireturn, 1) := by decide +kernel
theorem dX6_lose_0 : decode cX6_lose 0 = .ok (.iload_n 1, 1) := by decide +kernel
theorem dX6_lose_1 : decode cX6_lose 1 = .ok (.iconst 4, 1) := by decide +kernel
theorem dX6_lose_2 : decode cX6_lose 2 = .ok (.invokestatic 77, 3) := by decide +kernel
theorem dX6_lose_5 : decode cX6_lose 5 = .ok (.ifCond .eq 6, 3) := by decide +kernel
theorem dX6_lose_8 : decode cX6_lose 8 = .ok (.bipush (-2), 2) := by decide +kernel
theorem dX6_lose_10 : decode cX6_lose 10 = .ok (.ireturn, 1) := by decide +kernel
theorem dX6_lose_11 : decode cX6_lose 11 = .ok (.aload_n 0, 1) := by decide +kernel
theorem dX6_lose_12 : decode cX6_lose 12 = .ok (.getfield 43, 3) := by decide +kernel
theorem dX6_lose_15 : decode cX6_lose 15 = .ok (.iload_n 1, 1) := by decide +kernel
theorem dX6_lose_16 : decode cX6_lose 16 = .ok (.aaload, 1) := by decide +kernel
theorem dX6_lose_17 : decode cX6_lose 17 = .ok (.astore_n 2, 1) := by decide +kernel
theorem dX6_lose_18 : decode cX6_lose 18 = .ok (.aload_n 2, 1) := by decide +kernel
theorem dX6_lose_19 : decode cX6_lose 19 = .ok (.invokevirtual 119, 3) := by decide +kernel
theorem dX6_lose_22 : decode cX6_lose 22 = .ok (.ifCond .eq 9, 3) := by decide +kernel
theorem dX6_lose_25 : decode cX6_lose 25 = .ok (.aload_n 0, 1) := by decide +kernel
theorem dX6_lose_26 : decode cX6_lose 26 = .ok (.iconst 1, 1) := by decide +kernel
theorem dX6_lose_27 : decode cX6_lose 27 = .ok (.invokevirtual 123, 3) := by decide +kernel
theorem dX6_lose_30 : decode cX6_lose 30 = .ok (.ireturn, 1) := by decide +kernel
theorem dX6_lose_31 : decode cX6_lose 31 = .ok (.aload_n 2, 1) := by decide +kernel
theorem dX6_lose_32 : decode cX6_lose 32 = .ok (.getfield 126, 3) := by decide +kernel
theorem dX6_lose_35 : decode cX6_lose 35 = .ok (.istore_n 3, 1) := by decide +kernel
theorem dX6_lose_36 : decode cX6_lose 36 = .ok (.aload_n 2, 1) := by decide +kernel
theorem dX6_lose_37 : decode cX6_lose 37 = .ok (.iconst (-1), 1) := by decide +kernel
theorem dX6_lose_38 : decode cX6_lose 38 = .ok (.putfield 126, 3) := by decide +kernel
theorem dX6_lose_41 : decode cX6_lose 41 = .ok (.iload_n 3, 1) := by decide +kernel
theorem dX6_lose_42 : decode cX6_lose 42 = .ok (.ireturn, 1) := by decide +kernel
theorem dX6_lay_0 : decode cX6_lay 0 = .ok (.iload_n 1, 1) := by decide +kernel
theorem dX6_lay_1 : decode cX6_lay 1 = .ok (.iconst 4, 1) := by decide +kernel
theorem dX6_lay_2 : decode cX6_lay 2 = .ok (.invokestatic 77, 3) := by decide +kernel
theorem dX6_lay_5 : decode cX6_lay 5 = .ok (.ifCond .ne 11, 3) := by decide +kernel
theorem dX6_lay_8 : decode cX6_lay 8 = .ok (.iload_n 2, 1) := by decide +kernel
theorem dX6_lay_9 : decode cX6_lay 9 = .ok (.iconst 3, 1) := by decide +kernel
theorem dX6_lay_10 : decode cX6_lay 10 = .ok (.invokestatic 77, 3) := by decide +kernel
theorem dX6_lay_13 : decode cX6_lay 13 = .ok (.ifCond .eq 6, 3) := by decide +kernel
theorem dX6_lay_16 : decode cX6_lay 16 = .ok (.bipush (-2), 2) := by decide +kernel
theorem dX6_lay_18 : decode cX6_lay 18 = .ok (.ireturn, 1) := by decide +kernel
theorem dX6_lay_19 : decode cX6_lay 19 = .ok (.aload_n 0, 1) := by decide +kernel
theorem dX6_lay_20 : decode cX6_lay 20 = .ok (.getfield 43, 3) := by decide +kernel
theorem dX6_lay_23 : decode cX6_lay 23 = .ok (.iload_n 1, 1) := by decide +kernel
theorem dX6_lay_24 : decode cX6_lay 24 = .ok (.aaload, 1) := by decide +kernel
theorem dX6_lay_25 : decode cX6_lay 25 = .ok (.iload_n 2, 1) := by decide +kernel
theorem dX6_lay_26 : decode cX6_lay 26 = .ok (.iload_n 3, 1) := by decide +kernel
theorem dX6_lay_27 : decode cX6_lay 27 = .ok (.invokestatic 257, 3) := by decide +kernel
theorem dX6_lay_30 : decode cX6_lay 30 = .ok (.istore 5, 2) := by decide +kernel
theorem dX6_lay_32 : decode cX6_lay 32 = .ok (.iload 5, 2) := by decide +kernel
theorem dX6_lay_34 : decode cX6_lay 34 = .ok (.ifCond .eq 10, 3) := by decide +kernel
theorem dX6_lay_37 : decode cX6_lay 37 = .ok (.aload_n 0, 1) := by decide +kernel
theorem dX6_lay_38 : decode cX6_lay 38 = .ok (.iload 5, 2) := by decide +kernel
theorem dX6_lay_40 : decode cX6_lay 40 = .ok (.invokevirtual 123, 3) := by decide +kernel
theorem dX6_lay_43 : decode cX6_lay 43 = .ok (.ireturn, 1) := by decide +kernel
theorem dX6_lay_44 : decode cX6_lay 44 = .ok (.aload_n 0, 1) := by decide +kernel
theorem dX6_lay_45 : decode cX6_lay 45 = .ok (.getfield 43, 3) := by decide +kernel
theorem dX6_lay_48 : decode cX6_lay 48 = .ok (.iload_n 1, 1) := by decide +kernel
theorem dX6_lay_49 : decode cX6_lay 49 = .ok (.aaload, 1) := by decide +kernel
theorem dX6_lay_50 : decode cX6_lay 50 = .ok (.iload_n 3, 1) := by decide +kernel
theorem dX6_lay_51 : decode cX6_lay 51 = .ok (.iload 4, 2) := by decide +kernel
theorem dX6_lay_53 : decode cX6_lay 53 = .ok (.invokevirtual 261, 3) := by decide +kernel
theorem dX6_lay_56 : decode cX6_lay 56 = .ok (.iconst 1, 1) := by decide +kernel
theorem dX6_lay_57 : decode cX6_lay 57 = .ok (.ireturn, 1) := by decide +kernel
theorem dX6_get_0 : decode cX6_get 0 = .ok (.iload_n 1, 1) := by decide +kernel
theorem dX6_get_1 : decode cX6_get 1 = .ok (.iconst 4, 1) := by decide +kernel
theorem dX6_get_2 : decode cX6_get 2 = .ok (.invokestatic 77, 3) := by decide +kernel
theorem dX6_get_5 : decode cX6_get 5 = .ok (.ifCond .ne 11, 3) := by decide +kernel
theorem dX6_get_8 : decode cX6_get 8 = .ok (.iload_n 2, 1) := by decide +kernel
theorem dX6_get_9 : decode cX6_get 9 = .ok (.iconst 3, 1) := by decide +kernel
theorem dX6_get_10 : decode cX6_get 10 = .ok (.invokestatic 77, 3) := by decide +kernel
theorem dX6_get_13 : decode cX6_get 13 = .ok (.ifCond .eq 7, 3) := by decide +kernel
theorem dX6_get_16 : decode cX6_get 16 = .ok (.ldc_w 264, 3) := by decide +kernel
theorem dX6_get_19 : decode cX6_get 19 = .ok (.ireturn, 1) := by decide +kernel
theorem dX6_get_20 : decode cX6_get 20 = .ok (.aload_n 0, 1) := by decide +kernel
theorem dX6_get_21 : decode cX6_get 21 = .ok (.getfield 43, 3) := by decide +kernel
theorem dX6_get_24 : decode cX6_get 24 = .ok (.iload_n 1, 1) := by decide +kernel
theorem dX6_get_25 : decode cX6_get 25 = .ok (.aaload, 1) := by decide +kernel
theorem dX6_get_26 : decode cX6_get 26 = .ok (.iload_n 2, 1) := by decide +kernel
theorem dX6_get_27 : decode cX6_get 27 = .ok (.iload_n 3, 1) := by decide +kernel
theorem dX6_get_28 : decode cX6_get 28 = .ok (.invokestatic 257, 3) := by decide +kernel
theorem dX6_get_31 : decode cX6_get 31 = .ok (.istore 4, 2) := by decide +kernel
theorem dX6_get_33 : decode cX6_get 33 = .ok (.iload 4, 2) := by decide +kernel
theorem dX6_get_35 : decode cX6_get 35 = .ok (.ifCond .ne 14, 3) := by decide +kernel
theorem dX6_get_38 : decode cX6_get 38 = .ok (.aload_n 0, 1) := by decide +kernel
theorem dX6_get_39 : decode cX6_get 39 = .ok (.getfield 43, 3) := by decide +kernel
theorem dX6_get_42 : decode cX6_get 42 = .ok (.iload_n 1, 1) := by decide +kernel
theorem dX6_get_43 : decode cX6_get 43 = .ok (.aaload, 1) := by decide +kernel
theorem dX6_get_44 : decode cX6_get 44 = .ok (.iload_n 3, 1) := by decide +kernel
theorem dX6_get_45 : decode cX6_get 45 = .ok (.invokevirtual 129, 3) := by decide +kernel
theorem dX6_get_48 : decode cX6_get 48 = .ok (.ireturn, 1) := by decide +kernel
theorem dX6_get_49 : decode cX6_get 49 = .ok (.aload_n 0, 1) := by decide +kernel
theorem dX6_get_50 : decode cX6_get 50 = .ok (.iload 4, 2) := by decide +kernel
theorem dX6_get_52 : decode cX6_get 52 = .ok (.invokevirtual 123, 3) := by decide +kernel
theorem dX6_get_55 : decode cX6_get 55 = .ok (.pop, 1) := by decide +kernel
theorem dX6_get_56 : decode cX6_get 56 = .ok (.ldc_w 264, 3) := by decide +kernel
theorem dX6_get_59 : decode cX6_get 59 = .ok (.ireturn, 1) := by decide +kernel
theorem dX6_copy_0 : decode cX6_copy 0 = .ok (.iload_n 1, 1) := by decide +kernel
theorem dX6_copy_1 : decode cX6_copy 1 = .ok (.iconst 4, 1) := by decide +kernel
theorem dX6_copy_2 : decode cX6_copy 2 = .ok (.invokestatic 77, 3) := by decide +kernel
theorem dX6_copy_5 : decode cX6_copy 5 = .ok (.ifCond .ne 11, 3) := by decide +kernel
theorem dX6_copy_8 : decode cX6_copy 8 = .ok (.iload_n 3, 1) := by decide +kernel
theorem dX6_copy_9 : decode cX6_copy 9 = .ok (.iconst 4, 1) := by decide +kernel
theorem dX6_copy_10 : decode cX6_copy 10 = .ok (.invokestatic 77, 3) := by decide +kernel
theorem dX6_copy_13 : decode cX6_copy 13 = .ok (.ifCond .eq 6, 3) := by decide +kernel
theorem dX6_copy_16 : decode cX6_copy 16 = .ok (.bipush (-2), 2) := by decide +kernel
theorem dX6_copy_18 : decode cX6_copy 18 = .ok (.ireturn, 1) := by decide +kernel
theorem dX6_copy_19 : decode cX6_copy 19 = .ok (.aload_n 0, 1) := by decide +kernel
theorem dX6_copy_20 : decode cX6_copy 20 = .ok (.getfield 43, 3) := by decide +kernel
theorem dX6_copy_23 : decode cX6_copy 23 = .ok (.iload_n 1, 1) := by decide +kernel
theorem dX6_copy_24 : decode cX6_copy 24 = .ok (.aaload, 1) := by decide +kernel
theorem dX6_copy_25 : decode cX6_copy 25 = .ok (.astore 6, 2) := by decide +kernel
theorem dX6_copy_27 : decode cX6_copy 27 = .ok (.aload_n 0, 1) := by decide +kernel
theorem dX6_copy_28 : decode cX6_copy 28 = .ok (.getfield 43, 3) := by decide +kernel
theorem dX6_copy_31 : decode cX6_copy 31 = .ok (.iload_n 3, 1) := by decide +kernel
theorem dX6_copy_32 : decode cX6_copy 32 = .ok (.aaload, 1) := by decide +kernel
theorem dX6_copy_33 : decode cX6_copy 33 = .ok (.astore 7, 2) := by decide +kernel
theorem dX6_copy_35 : decode cX6_copy 35 = .ok (.aload 6, 2) := by decide +kernel
theorem dX6_copy_37 : decode cX6_copy 37 = .ok (.invokevirtual 119, 3) := by decide +kernel
theorem dX6_copy_40 : decode cX6_copy 40 = .ok (.ifCond .ne 11, 3) := by decide +kernel
theorem dX6_copy_43 : decode cX6_copy 43 = .ok (.aload 7, 2) := by decide +kernel
theorem dX6_copy_45 : decode cX6_copy 45 = .ok (.invokevirtual 119, 3) := by decide +kernel
theorem dX6_copy_48 : decode cX6_copy 48 = .ok (.ifCond .eq 9, 3) := by decide +kernel
theorem dX6_copy_51 : decode cX6_copy 51 = .ok (.aload_n 0, 1) := by decide +kernel
theorem dX6_copy_52 : decode cX6_copy 52 = .ok (.iconst 1, 1) := by decide +kernel
theorem dX6_copy_53 : decode cX6_copy 53 = .ok (.invokevirtual 123, 3) := by decide +kernel
theorem dX6_copy_56 : decode cX6_copy 56 = .ok (.ireturn, 1) := by decide +kernel
theorem dX6_copy_57 : decode cX6_copy 57 = .ok (.aload 6, 2) := by decide +kernel
theorem dX6_copy_59 : decode cX6_copy 59 = .ok (.getfield 265, 3) := by decide +kernel
theorem dX6_copy_62 : decode cX6_copy 62 = .ok (.aload 7, 2) := by decide +kernel
theorem dX6_copy_64 : decode cX6_copy 64 = .ok (.getfield 265, 3) := by decide +kernel
theorem dX6_copy_67 : decode cX6_copy 67 = .ok (.if_icmp .eq 9, 3) := by decide +kernel
theorem dX6_copy_70 : decode cX6_copy 70 = .ok (.aload_n 0, 1) := by decide +kernel
theorem dX6_copy_71 : decode cX6_copy 71 = .ok (.iconst 4, 1) := by decide +kernel
theorem dX6_copy_72 : decode cX6_copy 72 = .ok (.invokevirtual 123, 3) := by decide +kernel
theorem dX6_copy_75 : decode cX6_copy 75 = .ok (.ireturn, 1) := by decide +kernel
theorem dX6_copy_76 : decode cX6_copy 76 = .ok (.aload 6, 2) := by decide +kernel
theorem dX6_copy_78 : decode cX6_copy 78 = .ok (.iload_n 2, 1) := by decide +kernel
theorem dX6_copy_79 : decode cX6_copy 79 = .ok (.iload 5, 2) := by decide +kernel
theorem dX6_copy_81 : decode cX6_copy 81 = .ok (.invokevirtual 268, 3) := by decide +kernel
theorem dX6_copy_84 : decode cX6_copy 84 = .ok (.ifCond .eq 15, 3) := by decide +kernel
theorem dX6_copy_87 : decode cX6_copy 87 = .ok (.aload 7, 2) := by decide +kernel
theorem dX6_copy_89 : decode cX6_copy 89 = .ok (.iload 4, 2) := by decide +kernel
theorem dX6_copy_91 : decode cX6_copy 91 = .ok (.iload 5, 2) := by decide +kernel
theorem dX6_copy_93 : decode cX6_copy 93 = .ok (.invokevirtual 268, 3) := by decide +kernel
theorem dX6_copy_96 : decode cX6_copy 96 = .ok (.ifCond .ne 9, 3) := by decide +kernel
theorem dX6_copy_99 : decode cX6_copy 99 = .ok (.aload_n 0, 1) := by decide +kernel
theorem dX6_copy_100 : decode cX6_copy 100 = .ok (.iconst 2, 1) := by decide +kernel
theorem dX6_copy_101 : decode cX6_copy 101 = .ok (.invokevirtual 123, 3) := by decide +kernel
theorem dX6_copy_104 : decode cX6_copy 104 = .ok (.ireturn, 1) := by decide +kernel
theorem dX6_copy_105 : decode cX6_copy 105 = .ok (.aload 6, 2) := by decide +kernel
theorem dX6_copy_107 : decode cX6_copy 107 = .ok (.getfield 271, 3) := by decide +kernel
theorem dX6_copy_110 : decode cX6_copy 110 = .ok (.iload_n 2, 1) := by decide +kernel
theorem dX6_copy_111 : decode cX6_copy 111 = .ok (.aload 7, 2) := by decide +kernel
theorem dX6_copy_113 : decode cX6_copy 113 = .ok (.getfield 271, 3) := by decide +kernel
theorem dX6_copy_116 : decode cX6_copy 116 = .ok (.iload 4, 2) := by decide +kernel
theorem dX6_copy_118 : decode cX6_copy 118 = .ok (.iload 5, 2) := by decide +kernel
theorem dX6_copy_120 : decode cX6_copy 120 = .ok (.invokestatic 274, 3) := by decide +kernel
theorem dX6_copy_123 : decode cX6_copy 123 = .ok (.iconst 1, 1) := by decide +kernel
theorem dX6_copy_124 : decode cX6_copy 124 = .ok (.ireturn, 1) := by decide +kernel
theorem dX6_write_0 : decode cX6_write 0 = .ok (.iload_n 1, 1) := by decide +kernel
theorem dX6_write_1 : decode cX6_write 1 = .ok (.bipush 40, 2) := by decide +kernel
theorem dX6_write_3 : decode cX6_write 3 = .ok (.invokestatic 77, 3) := by decide +kernel
theorem dX6_write_6 : decode cX6_write 6 = .ok (.ifCond .ne 11, 3) := by decide +kernel
theorem dX6_write_9 : decode cX6_write 9 = .ok (.iload_n 2, 1) := by decide +kernel
theorem dX6_write_10 : decode cX6_write 10 = .ok (.iconst 4, 1) := by decide +kernel
theorem dX6_write_11 : decode cX6_write 11 = .ok (.invokestatic 77, 3) := by decide +kernel
theorem dX6_write_14 : decode cX6_write 14 = .ok (.ifCond .eq 6, 3) := by decide +kernel
theorem dX6_write_17 : decode cX6_write 17 = .ok (.bipush (-2), 2) := by decide +kernel
theorem dX6_write_19 : decode cX6_write 19 = .ok (.ireturn, 1) := by decide +kernel
theorem dX6_write_20 : decode cX6_write 20 = .ok (.aload_n 0, 1) := by decide +kernel
theorem dX6_write_21 : decode cX6_write 21 = .ok (.getfield 43, 3) := by decide +kernel
theorem dX6_write_24 : decode cX6_write 24 = .ok (.iload_n 2, 1) := by decide +kernel
theorem dX6_write_25 : decode cX6_write 25 = .ok (.aaload, 1) := by decide +kernel
theorem dX6_write_26 : decode cX6_write 26 = .ok (.astore_n 3, 1) := by decide +kernel
theorem dX6_write_27 : decode cX6_write 27 = .ok (.aload_n 3, 1) := by decide +kernel
theorem dX6_write_28 : decode cX6_write 28 = .ok (.invokevirtual 119, 3) := by decide +kernel
theorem dX6_write_31 : decode cX6_write 31 = .ok (.ifCond .eq 9, 3) := by decide +kernel
theorem dX6_write_34 : decode cX6_write 34 = .ok (.aload_n 0, 1) := by decide +kernel
theorem dX6_write_35 : decode cX6_write 35 = .ok (.iconst 1, 1) := by decide +kernel
theorem dX6_write_36 : decode cX6_write 36 = .ok (.invokevirtual 123, 3) := by decide +kernel
theorem dX6_write_39 : decode cX6_write 39 = .ok (.ireturn, 1) := by decide +kernel
theorem dX6_write_40 : decode cX6_write 40 = .ok (.aload_n 0, 1) := by decide +kernel
theorem dX6_write_41 : decode cX6_write 41 = .ok (.invokevirtual 136, 3) := by decide +kernel
theorem dX6_write_44 : decode cX6_write 44 = .ok (.aload_n 3, 1) := by decide +kernel
theorem dX6_write_45 : decode cX6_write 45 = .ok (.getfield 126, 3) := by decide +kernel
theorem dX6_write_48 : decode cX6_write 48 = .ok (.aload_n 0, 1) := by decide +kernel
theorem dX6_write_49 : decode cX6_write 49 = .ok (.getfield 50, 3) := by decide +kernel
theorem dX6_write_52 : decode cX6_write 52 = .ok (.getfield 249, 3) := by decide +kernel
theorem dX6_write_55 : decode cX6_write 55 = .ok (.invokestatic 179, 3) := by decide +kernel
theorem dX6_write_58 : decode cX6_write 58 = .ok (.istore 4, 2) := by decide +kernel
theorem dX6_write_60 : decode cX6_write 60 = .ok (.iconst 0, 1) := by decide +kernel
theorem dX6_write_61 : decode cX6_write 61 = .ok (.istore 5, 2) := by decide +kernel
theorem dX6_write_63 : decode cX6_write 63 = .ok (.iload 5, 2) := by decide +kernel
theorem dX6_write_65 : decode cX6_write 65 = .ok (.iload 4, 2) := by decide +kernel
theorem dX6_write_67 : decode cX6_write 67 = .ok (.if_icmp .ge 29, 3) := by decide +kernel
theorem dX6_write_70 : decode cX6_write 70 = .ok (.aload_n 3, 1) := by decide +kernel
theorem dX6_write_71 : decode cX6_write 71 = .ok (.iload 5, 2) := by decide +kernel
theorem dX6_write_73 : decode cX6_write 73 = .ok (.aload_n 0, 1) := by decide +kernel
theorem dX6_write_74 : decode cX6_write 74 = .ok (.getfield 57, 3) := by decide +kernel
theorem dX6_write_77 : decode cX6_write 77 = .ok (.aload_n 0, 1) := by decide +kernel
theorem dX6_write_78 : decode cX6_write 78 = .ok (.getfield 50, 3) := by decide +kernel
theorem dX6_write_81 : decode cX6_write 81 = .ok (.iload_n 1, 1) := by decide +kernel
theorem dX6_write_82 : decode cX6_write 82 = .ok (.iload 5, 2) := by decide +kernel
theorem dX6_write_84 : decode cX6_write 84 = .ok (.invokevirtual 139, 3) := by decide +kernel
theorem dX6_write_87 : decode cX6_write 87 = .ok (.invokevirtual 261, 3) := by decide +kernel
theorem dX6_write_90 : decode cX6_write 90 = .ok (.iinc 5 1, 3) := by decide +kernel
theorem dX6_write_93 : decode cX6_write 93 = .ok (.goto (-30), 3) := by decide +kernel
theorem dX6_write_96 : decode cX6_write 96 = .ok (.iload 4, 2) := by decide +kernel
theorem dX6_write_98 : decode cX6_write 98 = .ok (.ireturn, 1) := by decide +kernel
theorem dX6_count_0 : decode cX6_count 0 = .ok (.iload_n 1, 1) := by decide +kernel
theorem dX6_count_1 : decode cX6_count 1 = .ok (.tableswitch 141 0 8 #[51, 61, 71, 84, 97, 113, 121, 128, 136], 51) := by decide +kernel
theorem dX6_count_52 : decode cX6_count 52 = .ok (.aload_n 0, 1) := by decide +kernel
theorem dX6_count_53 : decode cX6_count 53 = .ok (.getfield 16, 3) := by decide +kernel
theorem dX6_count_56 : decode cX6_count 56 = .ok (.iconst 0, 1) := by decide +kernel
theorem dX6_count_57 : decode cX6_count 57 = .ok (.aaload, 1) := by decide +kernel
theorem dX6_count_58 : decode cX6_count 58 = .ok (.getfield 280, 3) := by decide +kernel
theorem dX6_count_61 : decode cX6_count 61 = .ok (.ireturn, 1) := by decide +kernel
theorem dX6_count_62 : decode cX6_count 62 = .ok (.aload_n 0, 1) := by decide +kernel
theorem dX6_count_63 : decode cX6_count 63 = .ok (.getfield 16, 3) := by decide +kernel
theorem dX6_count_66 : decode cX6_count 66 = .ok (.iconst 1, 1) := by decide +kernel
theorem dX6_count_67 : decode cX6_count 67 = .ok (.aaload, 1) := by decide +kernel
theorem dX6_count_68 : decode cX6_count 68 = .ok (.getfield 280, 3) := by decide +kernel
theorem dX6_count_71 : decode cX6_count 71 = .ok (.ireturn, 1) := by decide +kernel
theorem dX6_count_72 : decode cX6_count 72 = .ok (.aload_n 0, 1) := by decide +kernel
theorem dX6_count_73 : decode cX6_count 73 = .ok (.getfield 16, 3) := by decide +kernel
theorem dX6_count_76 : decode cX6_count 76 = .ok (.iconst 0, 1) := by decide +kernel
theorem dX6_count_77 : decode cX6_count 77 = .ok (.aaload, 1) := by decide +kernel
theorem dX6_count_78 : decode cX6_count 78 = .ok (.getfield 283, 3) := by decide +kernel
theorem dX6_count_81 : decode cX6_count 81 = .ok (.getfield 209, 3) := by decide +kernel
theorem dX6_count_84 : decode cX6_count 84 = .ok (.ireturn, 1) := by decide +kernel
theorem dX6_count_85 : decode cX6_count 85 = .ok (.aload_n 0, 1) := by decide +kernel
theorem dX6_count_86 : decode cX6_count 86 = .ok (.getfield 16, 3) := by decide +kernel
theorem dX6_count_89 : decode cX6_count 89 = .ok (.iconst 1, 1) := by decide +kernel
theorem dX6_count_90 : decode cX6_count 90 = .ok (.aaload, 1) := by decide +kernel
theorem dX6_count_91 : decode cX6_count 91 = .ok (.getfield 283, 3) := by decide +kernel
theorem dX6_count_94 : decode cX6_count 94 = .ok (.getfield 209, 3) := by decide +kernel
theorem dX6_count_97 : decode cX6_count 97 = .ok (.ireturn, 1) := by decide +kernel
theorem dX6_count_98 : decode cX6_count 98 = .ok (.aload_n 0, 1) := by decide +kernel
theorem dX6_count_99 : decode cX6_count 99 = .ok (.getfield 27, 3) := by decide +kernel
theorem dX6_count_102 : decode cX6_count 102 = .ok (.getfield 209, 3) := by decide +kernel
theorem dX6_count_105 : decode cX6_count 105 = .ok (.aload_n 0, 1) := by decide +kernel
theorem dX6_count_106 : decode cX6_count 106 = .ok (.getfield 31, 3) := by decide +kernel
theorem dX6_count_109 : decode cX6_count 109 = .ok (.getfield 209, 3) := by decide +kernel
theorem dX6_count_112 : decode cX6_count 112 = .ok (.iadd, 1) := by decide +kernel
theorem dX6_count_113 : decode cX6_count 113 = .ok (.ireturn, 1) := by decide +kernel
theorem dX6_count_114 : decode cX6_count 114 = .ok (.aload_n 0, 1) := by decide +kernel
theorem dX6_count_115 : decode cX6_count 115 = .ok (.getfield 34, 3) := by decide +kernel
theorem dX6_count_118 : decode cX6_count 118 = .ok (.getfield 209, 3) := by decide +kernel
theorem dX6_count_121 : decode cX6_count 121 = .ok (.ireturn, 1) := by decide +kernel
theorem dX6_count_122 : decode cX6_count 122 = .ok (.aload_n 0, 1) := by decide +kernel
theorem dX6_count_123 : decode cX6_count 123 = .ok (.bipush 39, 2) := by decide +kernel
theorem dX6_count_125 : decode cX6_count 125 = .ok (.invokevirtual 286, 3) := by decide +kernel
theorem dX6_count_128 : decode cX6_count 128 = .ok (.ireturn, 1) := by decide +kernel
theorem dX6_count_129 : decode cX6_count 129 = .ok (.aload_n 0, 1) := by decide +kernel
theorem dX6_count_130 : decode cX6_count 130 = .ok (.getfield 37, 3) := by decide +kernel
theorem dX6_count_133 : decode cX6_count 133 = .ok (.getfield 209, 3) := by decide +kernel
theorem dX6_count_136 : decode cX6_count 136 = .ok (.ireturn, 1) := by decide +kernel
theorem dX6_count_137 : decode cX6_count 137 = .ok (.aload_n 0, 1) := by decide +kernel
theorem dX6_count_138 : decode cX6_count 138 = .ok (.getfield 73, 3) := by decide +kernel
theorem dX6_count_141 : decode cX6_count 141 = .ok (.ireturn, 1) := by decide +kernel
theorem dX6_count_142 : decode cX6_count 142 = .ok (.bipush (-2), 2) := by decide +kernel
theorem dX6_count_144 : decode cX6_count 144 = .ok (.ireturn, 1) := by decide +kernel
theorem dX6_digest_0 : decode cX6_digest 0 = .ok (.ldc2_w 289, 3) := by decide +kernel
theorem dX6_digest_3 : decode cX6_digest 3 = .ok (.lstore_n 1, 1) := by decide +kernel
theorem dX6_digest_4 : decode cX6_digest 4 = .ok (.iconst 0, 1) := by decide +kernel
theorem dX6_digest_5 : decode cX6_digest 5 = .ok (.istore_n 3, 1) := by decide +kernel
theorem dX6_digest_6 : decode cX6_digest 6 = .ok (.iload_n 3, 1) := by decide +kernel
theorem dX6_digest_7 : decode cX6_digest 7 = .ok (.bipush 8, 2) := by decide +kernel
theorem dX6_digest_9 : decode cX6_digest 9 = .ok (.if_icmp .ge 22, 3) := by decide +kernel
theorem dX6_digest_12 : decode cX6_digest 12 = .ok (.ldc2_w 291, 3) := by decide +kernel
theorem dX6_digest_15 : decode cX6_digest 15 = .ok (.lload_n 1, 1) := by decide +kernel
theorem dX6_digest_16 : decode cX6_digest 16 = .ok (.lmul, 1) := by decide +kernel
theorem dX6_digest_17 : decode cX6_digest 17 = .ok (.aload_n 0, 1) := by decide +kernel
theorem dX6_digest_18 : decode cX6_digest 18 = .ok (.iload_n 3, 1) := by decide +kernel
theorem dX6_digest_19 : decode cX6_digest 19 = .ok (.invokevirtual 293, 3) := by decide +kernel
theorem dX6_digest_22 : decode cX6_digest 22 = .ok (.i2l, 1) := by decide +kernel
theorem dX6_digest_23 : decode cX6_digest 23 = .ok (.ladd, 1) := by decide +kernel
theorem dX6_digest_24 : decode cX6_digest 24 = .ok (.lstore_n 1, 1) := by decide +kernel
theorem dX6_digest_25 : decode cX6_digest 25 = .ok (.iinc 3 1, 3) := by decide +kernel
theorem dX6_digest_28 : decode cX6_digest 28 = .ok (.goto (-22), 3) := by decide +kernel
theorem dX6_digest_31 : decode cX6_digest 31 = .ok (.ldc2_w 291, 3) := by decide +kernel
theorem dX6_digest_34 : decode cX6_digest 34 = .ok (.ldc2_w 291, 3) := by decide +kernel
theorem dX6_digest_37 : decode cX6_digest 37 = .ok (.lload_n 1, 1) := by decide +kernel
theorem dX6_digest_38 : decode cX6_digest 38 = .ok (.lmul, 1) := by decide +kernel
theorem dX6_digest_39 : decode cX6_digest 39 = .ok (.aload_n 0, 1) := by decide +kernel
theorem dX6_digest_40 : decode cX6_digest 40 = .ok (.iconst 0, 1) := by decide +kernel
theorem dX6_digest_41 : decode cX6_digest 41 = .ok (.invokevirtual 296, 3) := by decide +kernel
theorem dX6_digest_44 : decode cX6_digest 44 = .ok (.i2l, 1) := by decide +kernel
theorem dX6_digest_45 : decode cX6_digest 45 = .ok (.ladd, 1) := by decide +kernel
theorem dX6_digest_46 : decode cX6_digest 46 = .ok (.lmul, 1) := by decide +kernel
theorem dX6_digest_47 : decode cX6_digest 47 = .ok (.aload_n 0, 1) := by decide +kernel
theorem dX6_digest_48 : decode cX6_digest 48 = .ok (.iconst 1, 1) := by decide +kernel
theorem dX6_digest_49 : decode cX6_digest 49 = .ok (.invokevirtual 296, 3) := by decide +kernel
theorem dX6_digest_52 : decode cX6_digest 52 = .ok (.i2l, 1) := by decide +kernel
theorem dX6_digest_53 : decode cX6_digest 53 = .ok (.ladd, 1) := by decide +kernel
theorem dX6_digest_54 : decode cX6_digest 54 = .ok (.lstore_n 1, 1) := by decide +kernel
theorem dX6_digest_55 : decode cX6_digest 55 = .ok (.aload_n 0, 1) := by decide +kernel
theorem dX6_digest_56 : decode cX6_digest 56 = .ok (.getfield 16, 3) := by decide +kernel
theorem dX6_digest_59 : decode cX6_digest 59 = .ok (.iconst 0, 1) := by decide +kernel
theorem dX6_digest_60 : decode cX6_digest 60 = .ok (.aaload, 1) := by decide +kernel
theorem dX6_digest_61 : decode cX6_digest 61 = .ok (.getfield 280, 3) := by decide +kernel
theorem dX6_digest_64 : decode cX6_digest 64 = .ok (.istore_n 3, 1) := by decide +kernel
theorem dX6_digest_65 : decode cX6_digest 65 = .ok (.iconst 0, 1) := by decide +kernel
theorem dX6_digest_66 : decode cX6_digest 66 = .ok (.istore 4, 2) := by decide +kernel
theorem dX6_digest_68 : decode cX6_digest 68 = .ok (.iload 4, 2) := by decide +kernel
theorem dX6_digest_70 : decode cX6_digest 70 = .ok (.iload_n 3, 1) := by decide +kernel
theorem dX6_digest_71 : decode cX6_digest 71 = .ok (.if_icmp .ge 17, 3) := by decide +kernel
theorem dX6_digest_74 : decode cX6_digest 74 = .ok (.aload_n 0, 1) := by decide +kernel
theorem dX6_digest_75 : decode cX6_digest 75 = .ok (.lload_n 1, 1) := by decide +kernel
theorem dX6_digest_76 : decode cX6_digest 76 = .ok (.iload 4, 2) := by decide +kernel
theorem dX6_digest_78 : decode cX6_digest 78 = .ok (.invokevirtual 298, 3) := by decide +kernel
theorem dX6_digest_81 : decode cX6_digest 81 = .ok (.lstore_n 1, 1) := by decide +kernel
theorem dX6_digest_82 : decode cX6_digest 82 = .ok (.iinc 4 1, 3) := by decide +kernel
theorem dX6_digest_85 : decode cX6_digest 85 = .ok (.goto (-17), 3) := by decide +kernel
theorem dX6_digest_88 : decode cX6_digest 88 = .ok (.aload_n 0, 1) := by decide +kernel
theorem dX6_digest_89 : decode cX6_digest 89 = .ok (.getfield 16, 3) := by decide +kernel
theorem dX6_digest_92 : decode cX6_digest 92 = .ok (.iconst 1, 1) := by decide +kernel
theorem dX6_digest_93 : decode cX6_digest 93 = .ok (.aaload, 1) := by decide +kernel
theorem dX6_digest_94 : decode cX6_digest 94 = .ok (.getfield 280, 3) := by decide +kernel
theorem dX6_digest_97 : decode cX6_digest 97 = .ok (.istore 4, 2) := by decide +kernel
theorem dX6_digest_99 : decode cX6_digest 99 = .ok (.iconst 0, 1) := by decide +kernel
theorem dX6_digest_100 : decode cX6_digest 100 = .ok (.istore 5, 2) := by decide +kernel
theorem dX6_digest_102 : decode cX6_digest 102 = .ok (.iload 5, 2) := by decide +kernel
theorem dX6_digest_104 : decode cX6_digest 104 = .ok (.iload 4, 2) := by decide +kernel
theorem dX6_digest_106 : decode cX6_digest 106 = .ok (.if_icmp .ge 17, 3) := by decide +kernel
theorem dX6_digest_109 : decode cX6_digest 109 = .ok (.aload_n 0, 1) := by decide +kernel
theorem dX6_digest_110 : decode cX6_digest 110 = .ok (.lload_n 1, 1) := by decide +kernel
theorem dX6_digest_111 : decode cX6_digest 111 = .ok (.iload 5, 2) := by decide +kernel
theorem dX6_digest_113 : decode cX6_digest 113 = .ok (.invokevirtual 302, 3) := by decide +kernel
theorem dX6_digest_116 : decode cX6_digest 116 = .ok (.lstore_n 1, 1) := by decide +kernel
theorem dX6_digest_117 : decode cX6_digest 117 = .ok (.iinc 5 1, 3) := by decide +kernel
theorem dX6_digest_120 : decode cX6_digest 120 = .ok (.goto (-18), 3) := by decide +kernel
theorem dX6_digest_123 : decode cX6_digest 123 = .ok (.ldc2_w 291, 3) := by decide +kernel
theorem dX6_digest_126 : decode cX6_digest 126 = .ok (.ldc2_w 291, 3) := by decide +kernel
theorem dX6_digest_129 : decode cX6_digest 129 = .ok (.lload_n 1, 1) := by decide +kernel
theorem dX6_digest_130 : decode cX6_digest 130 = .ok (.lmul, 1) := by decide +kernel
theorem dX6_digest_131 : decode cX6_digest 131 = .ok (.aload_n 0, 1) := by decide +kernel
theorem dX6_digest_132 : decode cX6_digest 132 = .ok (.bipush 9, 2) := by decide +kernel
theorem dX6_digest_134 : decode cX6_digest 134 = .ok (.invokevirtual 286, 3) := by decide +kernel
theorem dX6_digest_137 : decode cX6_digest 137 = .ok (.i2l, 1) := by decide +kernel
theorem dX6_digest_138 : decode cX6_digest 138 = .ok (.ladd, 1) := by decide +kernel
theorem dX6_digest_139 : decode cX6_digest 139 = .ok (.lmul, 1) := by decide +kernel
theorem dX6_digest_140 : decode cX6_digest 140 = .ok (.aload_n 0, 1) := by decide +kernel
theorem dX6_digest_141 : decode cX6_digest 141 = .ok (.invokevirtual 305, 3) := by decide +kernel
theorem dX6_digest_144 : decode cX6_digest 144 = .ok (.i2l, 1) := by decide +kernel
theorem dX6_digest_145 : decode cX6_digest 145 = .ok (.ladd, 1) := by decide +kernel
theorem dX6_digest_146 : decode cX6_digest 146 = .ok (.lstore_n 1, 1) := by decide +kernel
theorem dX6_digest_147 : decode cX6_digest 147 = .ok (.ldc2_w 291, 3) := by decide +kernel
theorem dX6_digest_150 : decode cX6_digest 150 = .ok (.ldc2_w 291, 3) := by decide +kernel
theorem dX6_digest_153 : decode cX6_digest 153 = .ok (.lload_n 1, 1) := by decide +kernel
theorem dX6_digest_154 : decode cX6_digest 154 = .ok (.lmul, 1) := by decide +kernel
theorem dX6_digest_155 : decode cX6_digest 155 = .ok (.aload_n 0, 1) := by decide +kernel
theorem dX6_digest_156 : decode cX6_digest 156 = .ok (.iconst 0, 1) := by decide +kernel
theorem dX6_digest_157 : decode cX6_digest 157 = .ok (.invokevirtual 308, 3) := by decide +kernel
theorem dX6_digest_160 : decode cX6_digest 160 = .ok (.i2l, 1) := by decide +kernel
theorem dX6_digest_161 : decode cX6_digest 161 = .ok (.ladd, 1) := by decide +kernel
theorem dX6_digest_162 : decode cX6_digest 162 = .ok (.lmul, 1) := by decide +kernel
theorem dX6_digest_163 : decode cX6_digest 163 = .ok (.aload_n 0, 1) := by decide +kernel
theorem dX6_digest_164 : decode cX6_digest 164 = .ok (.iconst 1, 1) := by decide +kernel
theorem dX6_digest_165 : decode cX6_digest 165 = .ok (.invokevirtual 308, 3) := by decide +kernel
theorem dX6_digest_168 : decode cX6_digest 168 = .ok (.i2l, 1) := by decide +kernel
theorem dX6_digest_169 : decode cX6_digest 169 = .ok (.ladd, 1) := by decide +kernel
theorem dX6_digest_170 : decode cX6_digest 170 = .ok (.lstore_n 1, 1) := by decide +kernel
theorem dX6_digest_171 : decode cX6_digest 171 = .ok (.ldc2_w 291, 3) := by decide +kernel
theorem dX6_digest_174 : decode cX6_digest 174 = .ok (.ldc2_w 291, 3) := by decide +kernel
theorem dX6_digest_177 : decode cX6_digest 177 = .ok (.lload_n 1, 1) := by decide +kernel
theorem dX6_digest_178 : decode cX6_digest 178 = .ok (.lmul, 1) := by decide +kernel
theorem dX6_digest_179 : decode cX6_digest 179 = .ok (.aload_n 0, 1) := by decide +kernel
theorem dX6_digest_180 : decode cX6_digest 180 = .ok (.invokevirtual 311, 3) := by decide +kernel
theorem dX6_digest_183 : decode cX6_digest 183 = .ok (.i2l, 1) := by decide +kernel
theorem dX6_digest_184 : decode cX6_digest 184 = .ok (.ladd, 1) := by decide +kernel
theorem dX6_digest_185 : decode cX6_digest 185 = .ok (.lmul, 1) := by decide +kernel
theorem dX6_digest_186 : decode cX6_digest 186 = .ok (.aload_n 0, 1) := by decide +kernel
theorem dX6_digest_187 : decode cX6_digest 187 = .ok (.invokevirtual 314, 3) := by decide +kernel
theorem dX6_digest_190 : decode cX6_digest 190 = .ok (.i2l, 1) := by decide +kernel
theorem dX6_digest_191 : decode cX6_digest 191 = .ok (.ladd, 1) := by decide +kernel
theorem dX6_digest_192 : decode cX6_digest 192 = .ok (.lstore_n 1, 1) := by decide +kernel
theorem dX6_digest_193 : decode cX6_digest 193 = .ok (.ldc2_w 291, 3) := by decide +kernel
theorem dX6_digest_196 : decode cX6_digest 196 = .ok (.ldc2_w 291, 3) := by decide +kernel
theorem dX6_digest_199 : decode cX6_digest 199 = .ok (.lload_n 1, 1) := by decide +kernel
theorem dX6_digest_200 : decode cX6_digest 200 = .ok (.lmul, 1) := by decide +kernel
theorem dX6_digest_201 : decode cX6_digest 201 = .ok (.aload_n 0, 1) := by decide +kernel
theorem dX6_digest_202 : decode cX6_digest 202 = .ok (.bipush 7, 2) := by decide +kernel
theorem dX6_digest_204 : decode cX6_digest 204 = .ok (.iconst 0, 1) := by decide +kernel
theorem dX6_digest_205 : decode cX6_digest 205 = .ok (.invokevirtual 317, 3) := by decide +kernel
theorem dX6_digest_208 : decode cX6_digest 208 = .ok (.i2l, 1) := by decide +kernel
theorem dX6_digest_209 : decode cX6_digest 209 = .ok (.ladd, 1) := by decide +kernel
theorem dX6_digest_210 : decode cX6_digest 210 = .ok (.lmul, 1) := by decide +kernel
theorem dX6_digest_211 : decode cX6_digest 211 = .ok (.aload_n 0, 1) := by decide +kernel
theorem dX6_digest_212 : decode cX6_digest 212 = .ok (.bipush 7, 2) := by decide +kernel
theorem dX6_digest_214 : decode cX6_digest 214 = .ok (.iconst 1, 1) := by decide +kernel
theorem dX6_digest_215 : decode cX6_digest 215 = .ok (.invokevirtual 317, 3) := by decide +kernel
theorem dX6_digest_218 : decode cX6_digest 218 = .ok (.i2l, 1) := by decide +kernel
theorem dX6_digest_219 : decode cX6_digest 219 = .ok (.ladd, 1) := by decide +kernel
theorem dX6_digest_220 : decode cX6_digest 220 = .ok (.lreturn, 1) := by decide +kernel
theorem dX6_digestHead_0 : decode cX6_digestHead 0 = .ok (.ldc2_w 291, 3) := by decide +kernel
theorem dX6_digestHead_3 : decode cX6_digestHead 3 = .ok (.ldc2_w 291, 3) := by decide +kernel
theorem dX6_digestHead_6 : decode cX6_digestHead 6 = .ok (.lload_n 1, 1) := by decide +kernel
theorem dX6_digestHead_7 : decode cX6_digestHead 7 = .ok (.lmul, 1) := by decide +kernel
theorem dX6_digestHead_8 : decode cX6_digestHead 8 = .ok (.aload_n 0, 1) := by decide +kernel
theorem dX6_digestHead_9 : decode cX6_digestHead 9 = .ok (.iload_n 3, 1) := by decide +kernel
theorem dX6_digestHead_10 : decode cX6_digestHead 10 = .ok (.iconst 0, 1) := by decide +kernel
theorem dX6_digestHead_11 : decode cX6_digestHead 11 = .ok (.invokevirtual 320, 3) := by decide +kernel
theorem dX6_digestHead_14 : decode cX6_digestHead 14 = .ok (.i2l, 1) := by decide +kernel
theorem dX6_digestHead_15 : decode cX6_digestHead 15 = .ok (.ladd, 1) := by decide +kernel
theorem dX6_digestHead_16 : decode cX6_digestHead 16 = .ok (.lmul, 1) := by decide +kernel
theorem dX6_digestHead_17 : decode cX6_digestHead 17 = .ok (.aload_n 0, 1) := by decide +kernel
theorem dX6_digestHead_18 : decode cX6_digestHead 18 = .ok (.iload_n 3, 1) := by decide +kernel
theorem dX6_digestHead_19 : decode cX6_digestHead 19 = .ok (.iconst 1, 1) := by decide +kernel
theorem dX6_digestHead_20 : decode cX6_digestHead 20 = .ok (.invokevirtual 320, 3) := by decide +kernel
theorem dX6_digestHead_23 : decode cX6_digestHead 23 = .ok (.i2l, 1) := by decide +kernel
theorem dX6_digestHead_24 : decode cX6_digestHead 24 = .ok (.ladd, 1) := by decide +kernel
theorem dX6_digestHead_25 : decode cX6_digestHead 25 = .ok (.lstore 4, 2) := by decide +kernel
theorem dX6_digestHead_27 : decode cX6_digestHead 27 = .ok (.ldc2_w 291, 3) := by decide +kernel
theorem dX6_digestHead_30 : decode cX6_digestHead 30 = .ok (.ldc2_w 291, 3) := by decide +kernel
theorem dX6_digestHead_33 : decode cX6_digestHead 33 = .ok (.lload 4, 2) := by decide +kernel
theorem dX6_digestHead_35 : decode cX6_digestHead 35 = .ok (.lmul, 1) := by decide +kernel
theorem dX6_digestHead_36 : decode cX6_digestHead 36 = .ok (.aload_n 0, 1) := by decide +kernel
theorem dX6_digestHead_37 : decode cX6_digestHead 37 = .ok (.bipush 9, 2) := by decide +kernel
theorem dX6_digestHead_39 : decode cX6_digestHead 39 = .ok (.iload_n 3, 1) := by decide +kernel
theorem dX6_digestHead_40 : decode cX6_digestHead 40 = .ok (.invokevirtual 323, 3) := by decide +kernel
theorem dX6_digestHead_43 : decode cX6_digestHead 43 = .ok (.i2l, 1) := by decide +kernel
theorem dX6_digestHead_44 : decode cX6_digestHead 44 = .ok (.ladd, 1) := by decide +kernel
theorem dX6_digestHead_45 : decode cX6_digestHead 45 = .ok (.lmul, 1) := by decide +kernel
theorem dX6_digestHead_46 : decode cX6_digestHead 46 = .ok (.aload_n 0, 1) := by decide +kernel
theorem dX6_digestHead_47 : decode cX6_digestHead 47 = .ok (.bipush 39, 2) := by decide +kernel
theorem dX6_digestHead_49 : decode cX6_digestHead 49 = .ok (.iload_n 3, 1) := by decide +kernel
theorem dX6_digestHead_50 : decode cX6_digestHead 50 = .ok (.invokevirtual 323, 3) := by decide +kernel
theorem dX6_digestHead_53 : decode cX6_digestHead 53 = .ok (.i2l, 1) := by decide +kernel
theorem dX6_digestHead_54 : decode cX6_digestHead 54 = .ok (.ladd, 1) := by decide +kernel
theorem dX6_digestHead_55 : decode cX6_digestHead 55 = .ok (.lstore 4, 2) := by decide +kernel
theorem dX6_digestHead_57 : decode cX6_digestHead 57 = .ok (.iconst 0, 1) := by decide +kernel
theorem dX6_digestHead_58 : decode cX6_digestHead 58 = .ok (.istore 6, 2) := by decide +kernel
theorem dX6_digestHead_60 : decode cX6_digestHead 60 = .ok (.iload 6, 2) := by decide +kernel
theorem dX6_digestHead_62 : decode cX6_digestHead 62 = .ok (.iconst 3, 1) := by decide +kernel
theorem dX6_digestHead_63 : decode cX6_digestHead 63 = .ok (.if_icmp .ge 26, 3) := by decide +kernel
theorem dX6_digestHead_66 : decode cX6_digestHead 66 = .ok (.ldc2_w 291, 3) := by decide +kernel
theorem dX6_digestHead_69 : decode cX6_digestHead 69 = .ok (.lload 4, 2) := by decide +kernel
theorem dX6_digestHead_71 : decode cX6_digestHead 71 = .ok (.lmul, 1) := by decide +kernel
theorem dX6_digestHead_72 : decode cX6_digestHead 72 = .ok (.aload_n 0, 1) := by decide +kernel
theorem dX6_digestHead_73 : decode cX6_digestHead 73 = .ok (.iload_n 3, 1) := by decide +kernel
theorem dX6_digestHead_74 : decode cX6_digestHead 74 = .ok (.iload 6, 2) := by decide +kernel
theorem dX6_digestHead_76 : decode cX6_digestHead 76 = .ok (.invokevirtual 326, 3) := by decide +kernel
theorem dX6_digestHead_79 : decode cX6_digestHead 79 = .ok (.i2l, 1) := by decide +kernel
theorem dX6_digestHead_80 : decode cX6_digestHead 80 = .ok (.ladd, 1) := by decide +kernel
theorem dX6_digestHead_81 : decode cX6_digestHead 81 = .ok (.lstore 4, 2) := by decide +kernel
theorem dX6_digestHead_83 : decode cX6_digestHead 83 = .ok (.iinc 6 1, 3) := by decide +kernel
theorem dX6_digestHead_86 : decode cX6_digestHead 86 = .ok (.goto (-26), 3) := by decide +kernel
theorem dX6_digestHead_89 : decode cX6_digestHead 89 = .ok (.ldc2_w 291, 3) := by decide +kernel
theorem dX6_digestHead_92 : decode cX6_digestHead 92 = .ok (.ldc2_w 291, 3) := by decide +kernel
theorem dX6_digestHead_95 : decode cX6_digestHead 95 = .ok (.lload 4, 2) := by decide +kernel
theorem dX6_digestHead_97 : decode cX6_digestHead 97 = .ok (.lmul, 1) := by decide +kernel
theorem dX6_digestHead_98 : decode cX6_digestHead 98 = .ok (.aload_n 0, 1) := by decide +kernel
theorem dX6_digestHead_99 : decode cX6_digestHead 99 = .ok (.iload_n 3, 1) := by decide +kernel
theorem dX6_digestHead_100 : decode cX6_digestHead 100 = .ok (.iconst 0, 1) := by decide +kernel
theorem dX6_digestHead_101 : decode cX6_digestHead 101 = .ok (.invokevirtual 329, 3) := by decide +kernel
theorem dX6_digestHead_104 : decode cX6_digestHead 104 = .ok (.i2l, 1) := by decide +kernel
theorem dX6_digestHead_105 : decode cX6_digestHead 105 = .ok (.ladd, 1) := by decide +kernel
theorem dX6_digestHead_106 : decode cX6_digestHead 106 = .ok (.lmul, 1) := by decide +kernel
theorem dX6_digestHead_107 : decode cX6_digestHead 107 = .ok (.aload_n 0, 1) := by decide +kernel
theorem dX6_digestHead_108 : decode cX6_digestHead 108 = .ok (.iload_n 3, 1) := by decide +kernel
theorem dX6_digestHead_109 : decode cX6_digestHead 109 = .ok (.iconst 1, 1) := by decide +kernel
theorem dX6_digestHead_110 : decode cX6_digestHead 110 = .ok (.invokevirtual 329, 3) := by decide +kernel
theorem dX6_digestHead_113 : decode cX6_digestHead 113 = .ok (.i2l, 1) := by decide +kernel
theorem dX6_digestHead_114 : decode cX6_digestHead 114 = .ok (.ladd, 1) := by decide +kernel
theorem dX6_digestHead_115 : decode cX6_digestHead 115 = .ok (.lstore 4, 2) := by decide +kernel
theorem dX6_digestHead_117 : decode cX6_digestHead 117 = .ok (.ldc2_w 291, 3) := by decide +kernel
theorem dX6_digestHead_120 : decode cX6_digestHead 120 = .ok (.ldc2_w 291, 3) := by decide +kernel
theorem dX6_digestHead_123 : decode cX6_digestHead 123 = .ok (.lload 4, 2) := by decide +kernel
theorem dX6_digestHead_125 : decode cX6_digestHead 125 = .ok (.lmul, 1) := by decide +kernel
theorem dX6_digestHead_126 : decode cX6_digestHead 126 = .ok (.aload_n 0, 1) := by decide +kernel
theorem dX6_digestHead_127 : decode cX6_digestHead 127 = .ok (.iload_n 3, 1) := by decide +kernel
theorem dX6_digestHead_128 : decode cX6_digestHead 128 = .ok (.iconst 0, 1) := by decide +kernel
theorem dX6_digestHead_129 : decode cX6_digestHead 129 = .ok (.invokevirtual 332, 3) := by decide +kernel
theorem dX6_digestHead_132 : decode cX6_digestHead 132 = .ok (.i2l, 1) := by decide +kernel
theorem dX6_digestHead_133 : decode cX6_digestHead 133 = .ok (.ladd, 1) := by decide +kernel
theorem dX6_digestHead_134 : decode cX6_digestHead 134 = .ok (.lmul, 1) := by decide +kernel
theorem dX6_digestHead_135 : decode cX6_digestHead 135 = .ok (.aload_n 0, 1) := by decide +kernel
theorem dX6_digestHead_136 : decode cX6_digestHead 136 = .ok (.iload_n 3, 1) := by decide +kernel
theorem dX6_digestHead_137 : decode cX6_digestHead 137 = .ok (.iconst 1, 1) := by decide +kernel
theorem dX6_digestHead_138 : decode cX6_digestHead 138 = .ok (.invokevirtual 332, 3) := by decide +kernel
theorem dX6_digestHead_141 : decode cX6_digestHead 141 = .ok (.i2l, 1) := by decide +kernel
theorem dX6_digestHead_142 : decode cX6_digestHead 142 = .ok (.ladd, 1) := by decide +kernel
theorem dX6_digestHead_143 : decode cX6_digestHead 143 = .ok (.lstore 4, 2) := by decide +kernel
theorem dX6_digestHead_145 : decode cX6_digestHead 145 = .ok (.ldc2_w 291, 3) := by decide +kernel
theorem dX6_digestHead_148 : decode cX6_digestHead 148 = .ok (.lload 4, 2) := by decide +kernel
theorem dX6_digestHead_150 : decode cX6_digestHead 150 = .ok (.lmul, 1) := by decide +kernel
theorem dX6_digestHead_151 : decode cX6_digestHead 151 = .ok (.aload_n 0, 1) := by decide +kernel
theorem dX6_digestHead_152 : decode cX6_digestHead 152 = .ok (.iload_n 3, 1) := by decide +kernel
theorem dX6_digestHead_153 : decode cX6_digestHead 153 = .ok (.invokevirtual 335, 3) := by decide +kernel
theorem dX6_digestHead_156 : decode cX6_digestHead 156 = .ok (.i2l, 1) := by decide +kernel
theorem dX6_digestHead_157 : decode cX6_digestHead 157 = .ok (.ladd, 1) := by decide +kernel
theorem dX6_digestHead_158 : decode cX6_digestHead 158 = .ok (.lreturn, 1) := by decide +kernel
theorem dX6_digestCouple_0 : decode cX6_digestCouple 0 = .ok (.lload_n 1, 1) := by decide +kernel
theorem dX6_digestCouple_1 : decode cX6_digestCouple 1 = .ok (.lstore 4, 2) := by decide +kernel
theorem dX6_digestCouple_3 : decode cX6_digestCouple 3 = .ok (.iconst 0, 1) := by decide +kernel
theorem dX6_digestCouple_4 : decode cX6_digestCouple 4 = .ok (.istore 6, 2) := by decide +kernel
theorem dX6_digestCouple_6 : decode cX6_digestCouple 6 = .ok (.iload 6, 2) := by decide +kernel
theorem dX6_digestCouple_8 : decode cX6_digestCouple 8 = .ok (.iconst 3, 1) := by decide +kernel
theorem dX6_digestCouple_9 : decode cX6_digestCouple 9 = .ok (.if_icmp .ge 26, 3) := by decide +kernel
theorem dX6_digestCouple_12 : decode cX6_digestCouple 12 = .ok (.ldc2_w 291, 3) := by decide +kernel
theorem dX6_digestCouple_15 : decode cX6_digestCouple 15 = .ok (.lload 4, 2) := by decide +kernel
theorem dX6_digestCouple_17 : decode cX6_digestCouple 17 = .ok (.lmul, 1) := by decide +kernel
theorem dX6_digestCouple_18 : decode cX6_digestCouple 18 = .ok (.aload_n 0, 1) := by decide +kernel
theorem dX6_digestCouple_19 : decode cX6_digestCouple 19 = .ok (.iload_n 3, 1) := by decide +kernel
theorem dX6_digestCouple_20 : decode cX6_digestCouple 20 = .ok (.iload 6, 2) := by decide +kernel
theorem dX6_digestCouple_22 : decode cX6_digestCouple 22 = .ok (.invokevirtual 338, 3) := by decide +kernel
theorem dX6_digestCouple_25 : decode cX6_digestCouple 25 = .ok (.i2l, 1) := by decide +kernel
theorem dX6_digestCouple_26 : decode cX6_digestCouple 26 = .ok (.ladd, 1) := by decide +kernel
theorem dX6_digestCouple_27 : decode cX6_digestCouple 27 = .ok (.lstore 4, 2) := by decide +kernel
theorem dX6_digestCouple_29 : decode cX6_digestCouple 29 = .ok (.iinc 6 1, 3) := by decide +kernel
theorem dX6_digestCouple_32 : decode cX6_digestCouple 32 = .ok (.goto (-26), 3) := by decide +kernel
theorem dX6_digestCouple_35 : decode cX6_digestCouple 35 = .ok (.iconst 0, 1) := by decide +kernel
theorem dX6_digestCouple_36 : decode cX6_digestCouple 36 = .ok (.istore 6, 2) := by decide +kernel
theorem dX6_digestCouple_38 : decode cX6_digestCouple 38 = .ok (.iload 6, 2) := by decide +kernel
theorem dX6_digestCouple_40 : decode cX6_digestCouple 40 = .ok (.iconst 3, 1) := by decide +kernel
theorem dX6_digestCouple_41 : decode cX6_digestCouple 41 = .ok (.if_icmp .ge 26, 3) := by decide +kernel
theorem dX6_digestCouple_44 : decode cX6_digestCouple 44 = .ok (.ldc2_w 291, 3) := by decide +kernel
theorem dX6_digestCouple_47 : decode cX6_digestCouple 47 = .ok (.lload 4, 2) := by decide +kernel
theorem dX6_digestCouple_49 : decode cX6_digestCouple 49 = .ok (.lmul, 1) := by decide +kernel
theorem dX6_digestCouple_50 : decode cX6_digestCouple 50 = .ok (.aload_n 0, 1) := by decide +kernel
theorem dX6_digestCouple_51 : decode cX6_digestCouple 51 = .ok (.iload_n 3, 1) := by decide +kernel
theorem dX6_digestCouple_52 : decode cX6_digestCouple 52 = .ok (.iload 6, 2) := by decide +kernel
theorem dX6_digestCouple_54 : decode cX6_digestCouple 54 = .ok (.invokevirtual 341, 3) := by decide +kernel
theorem dX6_digestCouple_57 : decode cX6_digestCouple 57 = .ok (.i2l, 1) := by decide +kernel
theorem dX6_digestCouple_58 : decode cX6_digestCouple 58 = .ok (.ladd, 1) := by decide +kernel
theorem dX6_digestCouple_59 : decode cX6_digestCouple 59 = .ok (.lstore 4, 2) := by decide +kernel
theorem dX6_digestCouple_61 : decode cX6_digestCouple 61 = .ok (.iinc 6 1, 3) := by decide +kernel
theorem dX6_digestCouple_64 : decode cX6_digestCouple 64 = .ok (.goto (-26), 3) := by decide +kernel
theorem dX6_digestCouple_67 : decode cX6_digestCouple 67 = .ok (.ldc2_w 291, 3) := by decide +kernel
theorem dX6_digestCouple_70 : decode cX6_digestCouple 70 = .ok (.ldc2_w 291, 3) := by decide +kernel
theorem dX6_digestCouple_73 : decode cX6_digestCouple 73 = .ok (.lload 4, 2) := by decide +kernel
theorem dX6_digestCouple_75 : decode cX6_digestCouple 75 = .ok (.lmul, 1) := by decide +kernel
theorem dX6_digestCouple_76 : decode cX6_digestCouple 76 = .ok (.aload_n 0, 1) := by decide +kernel
theorem dX6_digestCouple_77 : decode cX6_digestCouple 77 = .ok (.iload_n 3, 1) := by decide +kernel
theorem dX6_digestCouple_78 : decode cX6_digestCouple 78 = .ok (.iconst (-1), 1) := by decide +kernel
theorem dX6_digestCouple_79 : decode cX6_digestCouple 79 = .ok (.invokevirtual 344, 3) := by decide +kernel
theorem dX6_digestCouple_82 : decode cX6_digestCouple 82 = .ok (.i2l, 1) := by decide +kernel
theorem dX6_digestCouple_83 : decode cX6_digestCouple 83 = .ok (.ladd, 1) := by decide +kernel
theorem dX6_digestCouple_84 : decode cX6_digestCouple 84 = .ok (.lmul, 1) := by decide +kernel
theorem dX6_digestCouple_85 : decode cX6_digestCouple 85 = .ok (.aload_n 0, 1) := by decide +kernel
theorem dX6_digestCouple_86 : decode cX6_digestCouple 86 = .ok (.iload_n 3, 1) := by decide +kernel
theorem dX6_digestCouple_87 : decode cX6_digestCouple 87 = .ok (.iconst 0, 1) := by decide +kernel
theorem dX6_digestCouple_88 : decode cX6_digestCouple 88 = .ok (.invokevirtual 344, 3) := by decide +kernel
theorem dX6_digestCouple_91 : decode cX6_digestCouple 91 = .ok (.i2l, 1) := by decide +kernel
theorem dX6_digestCouple_92 : decode cX6_digestCouple 92 = .ok (.ladd, 1) := by decide +kernel
theorem dX6_digestCouple_93 : decode cX6_digestCouple 93 = .ok (.lstore 4, 2) := by decide +kernel
theorem dX6_digestCouple_95 : decode cX6_digestCouple 95 = .ok (.ldc2_w 291, 3) := by decide +kernel
theorem dX6_digestCouple_98 : decode cX6_digestCouple 98 = .ok (.ldc2_w 291, 3) := by decide +kernel
theorem dX6_digestCouple_101 : decode cX6_digestCouple 101 = .ok (.lload 4, 2) := by decide +kernel
theorem dX6_digestCouple_103 : decode cX6_digestCouple 103 = .ok (.lmul, 1) := by decide +kernel
theorem dX6_digestCouple_104 : decode cX6_digestCouple 104 = .ok (.aload_n 0, 1) := by decide +kernel
theorem dX6_digestCouple_105 : decode cX6_digestCouple 105 = .ok (.iload_n 3, 1) := by decide +kernel
theorem dX6_digestCouple_106 : decode cX6_digestCouple 106 = .ok (.iconst 0, 1) := by decide +kernel
theorem dX6_digestCouple_107 : decode cX6_digestCouple 107 = .ok (.invokevirtual 347, 3) := by decide +kernel
theorem dX6_digestCouple_110 : decode cX6_digestCouple 110 = .ok (.i2l, 1) := by decide +kernel
theorem dX6_digestCouple_111 : decode cX6_digestCouple 111 = .ok (.ladd, 1) := by decide +kernel
theorem dX6_digestCouple_112 : decode cX6_digestCouple 112 = .ok (.lmul, 1) := by decide +kernel
theorem dX6_digestCouple_113 : decode cX6_digestCouple 113 = .ok (.aload_n 0, 1) := by decide +kernel
theorem dX6_digestCouple_114 : decode cX6_digestCouple 114 = .ok (.iload_n 3, 1) := by decide +kernel
theorem dX6_digestCouple_115 : decode cX6_digestCouple 115 = .ok (.iconst 1, 1) := by decide +kernel
theorem dX6_digestCouple_116 : decode cX6_digestCouple 116 = .ok (.invokevirtual 347, 3) := by decide +kernel
theorem dX6_digestCouple_119 : decode cX6_digestCouple 119 = .ok (.i2l, 1) := by decide +kernel
theorem dX6_digestCouple_120 : decode cX6_digestCouple 120 = .ok (.ladd, 1) := by decide +kernel
theorem dX6_digestCouple_121 : decode cX6_digestCouple 121 = .ok (.lstore 4, 2) := by decide +kernel
theorem dX6_digestCouple_123 : decode cX6_digestCouple 123 = .ok (.ldc2_w 291, 3) := by decide +kernel
theorem dX6_digestCouple_126 : decode cX6_digestCouple 126 = .ok (.ldc2_w 291, 3) := by decide +kernel
theorem dX6_digestCouple_129 : decode cX6_digestCouple 129 = .ok (.lload 4, 2) := by decide +kernel
theorem dX6_digestCouple_131 : decode cX6_digestCouple 131 = .ok (.lmul, 1) := by decide +kernel
theorem dX6_digestCouple_132 : decode cX6_digestCouple 132 = .ok (.aload_n 0, 1) := by decide +kernel
theorem dX6_digestCouple_133 : decode cX6_digestCouple 133 = .ok (.iconst 5, 1) := by decide +kernel
theorem dX6_digestCouple_134 : decode cX6_digestCouple 134 = .ok (.bipush 7, 2) := by decide +kernel
theorem dX6_digestCouple_136 : decode cX6_digestCouple 136 = .ok (.iload_n 3, 1) := by decide +kernel
theorem dX6_digestCouple_137 : decode cX6_digestCouple 137 = .ok (.iconst 0, 1) := by decide +kernel
theorem dX6_digestCouple_138 : decode cX6_digestCouple 138 = .ok (.invokevirtual 350, 3) := by decide +kernel
theorem dX6_digestCouple_141 : decode cX6_digestCouple 141 = .ok (.ladd, 1) := by decide +kernel
theorem dX6_digestCouple_142 : decode cX6_digestCouple 142 = .ok (.lmul, 1) := by decide +kernel
theorem dX6_digestCouple_143 : decode cX6_digestCouple 143 = .ok (.aload_n 0, 1) := by decide +kernel
theorem dX6_digestCouple_144 : decode cX6_digestCouple 144 = .ok (.iconst 5, 1) := by decide +kernel
theorem dX6_digestCouple_145 : decode cX6_digestCouple 145 = .ok (.bipush 7, 2) := by decide +kernel
theorem dX6_digestCouple_147 : decode cX6_digestCouple 147 = .ok (.iload_n 3, 1) := by decide +kernel
theorem dX6_digestCouple_148 : decode cX6_digestCouple 148 = .ok (.iconst 1, 1) := by decide +kernel
theorem dX6_digestCouple_149 : decode cX6_digestCouple 149 = .ok (.invokevirtual 350, 3) := by decide +kernel
theorem dX6_digestCouple_152 : decode cX6_digestCouple 152 = .ok (.ladd, 1) := by decide +kernel
theorem dX6_digestCouple_153 : decode cX6_digestCouple 153 = .ok (.lreturn, 1) := by decide +kernel
theorem dX6_isOff_0 : decode cX6_isOff 0 = .ok (.iload_n 0, 1) := by decide +kernel
theorem dX6_isOff_1 : decode cX6_isOff 1 = .ok (.ifCond .lt 8, 3) := by decide +kernel
theorem dX6_isOff_4 : decode cX6_isOff 4 = .ok (.iload_n 0, 1) := by decide +kernel
theorem dX6_isOff_5 : decode cX6_isOff 5 = .ok (.iload_n 1, 1) := by decide +kernel
theorem dX6_isOff_6 : decode cX6_isOff 6 = .ok (.if_icmp .lt 7, 3) := by decide +kernel
theorem dX6_isOff_9 : decode cX6_isOff 9 = .ok (.iconst 1, 1) := by decide +kernel
theorem dX6_isOff_10 : decode cX6_isOff 10 = .ok (.goto 4, 3) := by decide +kernel
theorem dX6_isOff_13 : decode cX6_isOff 13 = .ok (.iconst 0, 1) := by decide +kernel
theorem dX6_isOff_14 : decode cX6_isOff 14 = .ok (.ireturn, 1) := by decide +kernel
theorem dX6_isNoHead_0 : decode cX6_isNoHead 0 = .ok (.iload_n 1, 1) := by decide +kernel
theorem dX6_isNoHead_1 : decode cX6_isNoHead 1 = .ok (.aload_n 0, 1) := by decide +kernel
theorem dX6_isNoHead_2 : decode cX6_isNoHead 2 = .ok (.getfield 16, 3) := by decide +kernel
theorem dX6_isNoHead_5 : decode cX6_isNoHead 5 = .ok (.iconst 0, 1) := by decide +kernel
theorem dX6_isNoHead_6 : decode cX6_isNoHead 6 = .ok (.aaload, 1) := by decide +kernel
theorem dX6_isNoHead_7 : decode cX6_isNoHead 7 = .ok (.getfield 280, 3) := by decide +kernel
theorem dX6_isNoHead_10 : decode cX6_isNoHead 10 = .ok (.invokestatic 77, 3) := by decide +kernel
theorem dX6_isNoHead_13 : decode cX6_isNoHead 13 = .ok (.ireturn, 1) := by decide +kernel
theorem dX6_isNoCouple_0 : decode cX6_isNoCouple 0 = .ok (.iload_n 1, 1) := by decide +kernel
theorem dX6_isNoCouple_1 : decode cX6_isNoCouple 1 = .ok (.aload_n 0, 1) := by decide +kernel
theorem dX6_isNoCouple_2 : decode cX6_isNoCouple 2 = .ok (.getfield 16, 3) := by decide +kernel
theorem dX6_isNoCouple_5 : decode cX6_isNoCouple 5 = .ok (.iconst 1, 1) := by decide +kernel
theorem dX6_isNoCouple_6 : decode cX6_isNoCouple 6 = .ok (.aaload, 1) := by decide +kernel
theorem dX6_isNoCouple_7 : decode cX6_isNoCouple 7 = .ok (.getfield 280, 3) := by decide +kernel
theorem dX6_isNoCouple_10 : decode cX6_isNoCouple 10 = .ok (.invokestatic 77, 3) := by decide +kernel
theorem dX6_isNoCouple_13 : decode cX6_isNoCouple 13 = .ok (.ireturn, 1) := by decide +kernel
theorem dX6_asLong_0 : decode cX6_asLong 0 = .ok (.ldc2_w 354, 3) := by decide +kernel
theorem dX6_asLong_3 : decode cX6_asLong 3 = .ok (.iload_n 0, 1) := by decide +kernel
theorem dX6_asLong_4 : decode cX6_asLong 4 = .ok (.i2l, 1) := by decide +kernel
theorem dX6_asLong_5 : decode cX6_asLong 5 = .ok (.lsub, 1) := by decide +kernel
theorem dX6_asLong_6 : decode cX6_asLong 6 = .ok (.lreturn, 1) := by decide +kernel
theorem dX6_found_0 : decode cX6_found 0 = .ok (.aload_n 0, 1) := by decide +kernel
theorem dX6_found_1 : decode cX6_found 1 = .ok (.iload_n 1, 1) := by decide +kernel
theorem dX6_found_2 : decode cX6_found 2 = .ok (.putfield 73, 3) := by decide +kernel
theorem dX6_found_5 : decode cX6_found 5 = .ok (.bipush (-10), 2) := by decide +kernel
theorem dX6_found_7 : decode cX6_found 7 = .ok (.iload_n 1, 1) := by decide +kernel
theorem dX6_found_8 : decode cX6_found 8 = .ok (.isub, 1) := by decide +kernel
theorem dX6_found_9 : decode cX6_found 9 = .ok (.ireturn, 1) := by decide +kernel
theorem dX6_whatIsWrong_0 : decode cX6_whatIsWrong 0 = .ok (.aload_n 0, 1) := by decide +kernel
theorem dX6_whatIsWrong_1 : decode cX6_whatIsWrong 1 = .ok (.invokevirtual 119, 3) := by decide +kernel
theorem dX6_whatIsWrong_4 : decode cX6_whatIsWrong 4 = .ok (.ifCond .eq 5, 3) := by decide +kernel
theorem dX6_whatIsWrong_7 : decode cX6_whatIsWrong 7 = .ok (.iconst 1, 1) := by decide +kernel
theorem dX6_whatIsWrong_8 : decode cX6_whatIsWrong 8 = .ok (.ireturn, 1) := by decide +kernel
theorem dX6_whatIsWrong_9 : decode cX6_whatIsWrong 9 = .ok (.aload_n 0, 1) := by decide +kernel
theorem dX6_whatIsWrong_10 : decode cX6_whatIsWrong 10 = .ok (.getfield 265, 3) := by decide +kernel
theorem dX6_whatIsWrong_13 : decode cX6_whatIsWrong 13 = .ok (.iload_n 1, 1) := by decide +kernel
theorem dX6_whatIsWrong_14 : decode cX6_whatIsWrong 14 = .ok (.if_icmp .eq 5, 3) := by decide +kernel
theorem dX6_whatIsWrong_17 : decode cX6_whatIsWrong 17 = .ok (.iconst 3, 1) := by decide +kernel
theorem dX6_whatIsWrong_18 : decode cX6_whatIsWrong 18 = .ok (.ireturn, 1) := by decide +kernel
theorem dX6_whatIsWrong_19 : decode cX6_whatIsWrong 19 = .ok (.iload_n 2, 1) := by decide +kernel
theorem dX6_whatIsWrong_20 : decode cX6_whatIsWrong 20 = .ok (.aload_n 0, 1) := by decide +kernel
theorem dX6_whatIsWrong_21 : decode cX6_whatIsWrong 21 = .ok (.getfield 126, 3) := by decide +kernel
theorem dX6_whatIsWrong_24 : decode cX6_whatIsWrong 24 = .ok (.invokestatic 77, 3) := by decide +kernel
theorem dX6_whatIsWrong_27 : decode cX6_whatIsWrong 27 = .ok (.ifCond .eq 7, 3) := by decide +kernel
theorem dX6_whatIsWrong_30 : decode cX6_whatIsWrong 30 = .ok (.iconst 2, 1) := by decide +kernel
theorem dX6_whatIsWrong_31 : decode cX6_whatIsWrong 31 = .ok (.goto 4, 3) := by decide +kernel
theorem dX6_whatIsWrong_34 : decode cX6_whatIsWrong 34 = .ok (.iconst 0, 1) := by decide +kernel
theorem dX6_whatIsWrong_35 : decode cX6_whatIsWrong 35 = .ok (.ireturn, 1) := by decide +kernel
theorem dX6_leastBit_0 : decode cX6_leastBit 0 = .ok (.iconst 0, 1) := by decide +kernel
theorem dX6_leastBit_1 : decode cX6_leastBit 1 = .ok (.istore_n 1, 1) := by decide +kernel
theorem dX6_leastBit_2 : decode cX6_leastBit 2 = .ok (.iload_n 1, 1) := by decide +kernel
theorem dX6_leastBit_3 : decode cX6_leastBit 3 = .ok (.bipush 8, 2) := by decide +kernel
theorem dX6_leastBit_5 : decode cX6_leastBit 5 = .ok (.if_icmp .ge 19, 3) := by decide +kernel
theorem dX6_leastBit_8 : decode cX6_leastBit 8 = .ok (.iload_n 0, 1) := by decide +kernel
theorem dX6_leastBit_9 : decode cX6_leastBit 9 = .ok (.iload_n 1, 1) := by decide +kernel
theorem dX6_leastBit_10 : decode cX6_leastBit 10 = .ok (.ishr, 1) := by decide +kernel
theorem dX6_leastBit_11 : decode cX6_leastBit 11 = .ok (.iconst 1, 1) := by decide +kernel
theorem dX6_leastBit_12 : decode cX6_leastBit 12 = .ok (.iand, 1) := by decide +kernel
theorem dX6_leastBit_13 : decode cX6_leastBit 13 = .ok (.ifCond .eq 5, 3) := by decide +kernel
theorem dX6_leastBit_16 : decode cX6_leastBit 16 = .ok (.iload_n 1, 1) := by decide +kernel
theorem dX6_leastBit_17 : decode cX6_leastBit 17 = .ok (.ireturn, 1) := by decide +kernel
theorem dX6_leastBit_18 : decode cX6_leastBit 18 = .ok (.iinc 1 1, 3) := by decide +kernel
theorem dX6_leastBit_21 : decode cX6_leastBit 21 = .ok (.goto (-19), 3) := by decide +kernel
theorem dX6_leastBit_24 : decode cX6_leastBit 24 = .ok (.iconst (-1), 1) := by decide +kernel
theorem dX6_leastBit_25 : decode cX6_leastBit 25 = .ok (.ireturn, 1) := by decide +kernel
theorem dX6_layOut_0 : decode cX6_layOut 0 = .ok (.aload_n 0, 1) := by decide +kernel
theorem dX6_layOut_1 : decode cX6_layOut 1 = .ok (.getfield 50, 3) := by decide +kernel
theorem dX6_layOut_4 : decode cX6_layOut 4 = .ok (.aload_n 0, 1) := by decide +kernel
theorem dX6_layOut_5 : decode cX6_layOut 5 = .ok (.getfield 16, 3) := by decide +kernel
theorem dX6_layOut_8 : decode cX6_layOut 8 = .ok (.iconst 0, 1) := by decide +kernel
theorem dX6_layOut_9 : decode cX6_layOut 9 = .ok (.aaload, 1) := by decide +kernel
theorem dX6_layOut_10 : decode cX6_layOut 10 = .ok (.invokevirtual 356, 3) := by decide +kernel
theorem dX6_layOut_13 : decode cX6_layOut 13 = .ok (.aload_n 0, 1) := by decide +kernel
theorem dX6_layOut_14 : decode cX6_layOut 14 = .ok (.getfield 50, 3) := by decide +kernel
theorem dX6_layOut_17 : decode cX6_layOut 17 = .ok (.aload_n 0, 1) := by decide +kernel
theorem dX6_layOut_18 : decode cX6_layOut 18 = .ok (.getfield 16, 3) := by decide +kernel
theorem dX6_layOut_21 : decode cX6_layOut 21 = .ok (.iconst 1, 1) := by decide +kernel
theorem dX6_layOut_22 : decode cX6_layOut 22 = .ok (.aaload, 1) := by decide +kernel
theorem dX6_layOut_23 : decode cX6_layOut 23 = .ok (.invokevirtual 360, 3) := by decide +kernel
theorem dX6_layOut_26 : decode cX6_layOut 26 = .ok (.aload_n 0, 1) := by decide +kernel
theorem dX6_layOut_27 : decode cX6_layOut 27 = .ok (.getfield 50, 3) := by decide +kernel
theorem dX6_layOut_30 : decode cX6_layOut 30 = .ok (.aload_n 0, 1) := by decide +kernel
theorem dX6_layOut_31 : decode cX6_layOut 31 = .ok (.getfield 27, 3) := by decide +kernel
theorem dX6_layOut_34 : decode cX6_layOut 34 = .ok (.invokevirtual 363, 3) := by decide +kernel
theorem dX6_layOut_37 : decode cX6_layOut 37 = .ok (.aload_n 0, 1) := by decide +kernel
theorem dX6_layOut_38 : decode cX6_layOut 38 = .ok (.getfield 50, 3) := by decide +kernel
theorem dX6_layOut_41 : decode cX6_layOut 41 = .ok (.aload_n 0, 1) := by decide +kernel
theorem dX6_layOut_42 : decode cX6_layOut 42 = .ok (.getfield 34, 3) := by decide +kernel
theorem dX6_layOut_45 : decode cX6_layOut 45 = .ok (.iconst 0, 1) := by decide +kernel
theorem dX6_layOut_46 : decode cX6_layOut 46 = .ok (.invokevirtual 210, 3) := by decide +kernel
theorem dX6_layOut_49 : decode cX6_layOut 49 = .ok (.return_, 1) := by decide +kernel
theorem dX6_walkAsItIs_0 : decode cX6_walkAsItIs 0 = .ok (.aload_n 0, 1) := by decide +kernel
theorem dX6_walkAsItIs_1 : decode cX6_walkAsItIs 1 = .ok (.invokevirtual 184, 3) := by decide +kernel
theorem dX6_walkAsItIs_4 : decode cX6_walkAsItIs 4 = .ok (.aload_n 0, 1) := by decide +kernel
theorem dX6_walkAsItIs_5 : decode cX6_walkAsItIs 5 = .ok (.getfield 57, 3) := by decide +kernel
theorem dX6_walkAsItIs_8 : decode cX6_walkAsItIs 8 = .ok (.aload_n 0, 1) := by decide +kernel
theorem dX6_walkAsItIs_9 : decode cX6_walkAsItIs 9 = .ok (.getfield 50, 3) := by decide +kernel
theorem dX6_walkAsItIs_12 : decode cX6_walkAsItIs 12 = .ok (.invokevirtual 196, 3) := by decide +kernel
theorem dX6_walkAsItIs_15 : decode cX6_walkAsItIs 15 = .ok (.return_, 1) := by decide +kernel
theorem dX6_childrenOf_0 : decode cX6_childrenOf 0 = .ok (.aload_n 0, 1) := by decide +kernel
theorem dX6_childrenOf_1 : decode cX6_childrenOf 1 = .ok (.getfield 57, 3) := by decide +kernel
theorem dX6_childrenOf_4 : decode cX6_childrenOf 4 = .ok (.getfield 149, 3) := by decide +kernel
theorem dX6_childrenOf_7 : decode cX6_childrenOf 7 = .ok (.iload_n 1, 1) := by decide +kernel
theorem dX6_childrenOf_8 : decode cX6_childrenOf 8 = .ok (.iaload, 1) := by decide +kernel
theorem dX6_childrenOf_9 : decode cX6_childrenOf 9 = .ok (.istore_n 2, 1) := by decide +kernel
theorem dX6_childrenOf_10 : decode cX6_childrenOf 10 = .ok (.iload_n 2, 1) := by decide +kernel
theorem dX6_childrenOf_11 : decode cX6_childrenOf 11 = .ok (.iconst (-1), 1) := by decide +kernel
theorem dX6_childrenOf_12 : decode cX6_childrenOf 12 = .ok (.if_icmp .ne 5, 3) := by decide +kernel
theorem dX6_childrenOf_15 : decode cX6_childrenOf 15 = .ok (.iconst 0, 1) := by decide +kernel
theorem dX6_childrenOf_16 : decode cX6_childrenOf 16 = .ok (.ireturn, 1) := by decide +kernel
theorem dX6_childrenOf_17 : decode cX6_childrenOf 17 = .ok (.iconst 0, 1) := by decide +kernel
theorem dX6_childrenOf_18 : decode cX6_childrenOf 18 = .ok (.istore_n 3, 1) := by decide +kernel
theorem dX6_childrenOf_19 : decode cX6_childrenOf 19 = .ok (.iload_n 3, 1) := by decide +kernel
theorem dX6_childrenOf_20 : decode cX6_childrenOf 20 = .ok (.aload_n 0, 1) := by decide +kernel
theorem dX6_childrenOf_21 : decode cX6_childrenOf 21 = .ok (.getfield 31, 3) := by decide +kernel
theorem dX6_childrenOf_24 : decode cX6_childrenOf 24 = .ok (.getfield 209, 3) := by decide +kernel
theorem dX6_childrenOf_27 : decode cX6_childrenOf 27 = .ok (.if_icmp .ge 23, 3) := by decide +kernel
theorem dX6_childrenOf_30 : decode cX6_childrenOf 30 = .ok (.aload_n 0, 1) := by decide +kernel
theorem dX6_childrenOf_31 : decode cX6_childrenOf 31 = .ok (.getfield 31, 3) := by decide +kernel
theorem dX6_childrenOf_34 : decode cX6_childrenOf 34 = .ok (.iload_n 3, 1) := by decide +kernel
theorem dX6_childrenOf_35 : decode cX6_childrenOf 35 = .ok (.invokevirtual 367, 3) := by decide +kernel
theorem dX6_childrenOf_38 : decode cX6_childrenOf 38 = .ok (.iload_n 2, 1) := by decide +kernel
theorem dX6_childrenOf_39 : decode cX6_childrenOf 39 = .ok (.if_icmp .ne 5, 3) := by decide +kernel
theorem dX6_childrenOf_42 : decode cX6_childrenOf 42 = .ok (.iconst 2, 1) := by decide +kernel
theorem dX6_childrenOf_43 : decode cX6_childrenOf 43 = .ok (.ireturn, 1) := by decide +kernel
theorem dX6_childrenOf_44 : decode cX6_childrenOf 44 = .ok (.iinc 3 1, 3) := by decide +kernel
theorem dX6_childrenOf_47 : decode cX6_childrenOf 47 = .ok (.goto (-28), 3) := by decide +kernel
theorem dX6_childrenOf_50 : decode cX6_childrenOf 50 = .ok (.iconst 1, 1) := by decide +kernel
theorem dX6_childrenOf_51 : decode cX6_childrenOf 51 = .ok (.ireturn, 1) := by decide +kernel
theorem dX6_childrenBehind_0 : decode cX6_childrenBehind 0 = .ok (.iconst 0, 1) := by decide +kernel
theorem dX6_childrenBehind_1 : decode cX6_childrenBehind 1 = .ok (.istore_n 2, 1) := by decide +kernel
theorem dX6_childrenBehind_2 : decode cX6_childrenBehind 2 = .ok (.iconst 0, 1) := by decide +kernel
theorem dX6_childrenBehind_3 : decode cX6_childrenBehind 3 = .ok (.istore_n 3, 1) := by decide +kernel
theorem dX6_childrenBehind_4 : decode cX6_childrenBehind 4 = .ok (.iload_n 3, 1) := by decide +kernel
theorem dX6_childrenBehind_5 : decode cX6_childrenBehind 5 = .ok (.aload_n 0, 1) := by decide +kernel
theorem dX6_childrenBehind_6 : decode cX6_childrenBehind 6 = .ok (.getfield 50, 3) := by decide +kernel
theorem dX6_childrenBehind_9 : decode cX6_childrenBehind 9 = .ok (.getfield 164, 3) := by decide +kernel
theorem dX6_childrenBehind_12 : decode cX6_childrenBehind 12 = .ok (.if_icmp .ge 30, 3) := by decide +kernel
theorem dX6_childrenBehind_15 : decode cX6_childrenBehind 15 = .ok (.aload_n 0, 1) := by decide +kernel
theorem dX6_childrenBehind_16 : decode cX6_childrenBehind 16 = .ok (.getfield 57, 3) := by decide +kernel
theorem dX6_childrenBehind_19 : decode cX6_childrenBehind 19 = .ok (.getfield 149, 3) := by decide +kernel
theorem dX6_childrenBehind_22 : decode cX6_childrenBehind 22 = .ok (.iload_n 3, 1) := by decide +kernel
theorem dX6_childrenBehind_23 : decode cX6_childrenBehind 23 = .ok (.iaload, 1) := by decide +kernel
theorem dX6_childrenBehind_24 : decode cX6_childrenBehind 24 = .ok (.iload_n 1, 1) := by decide +kernel
theorem dX6_childrenBehind_25 : decode cX6_childrenBehind 25 = .ok (.if_icmp .gt 11, 3) := by decide +kernel
theorem dX6_childrenBehind_28 : decode cX6_childrenBehind 28 = .ok (.iload_n 2, 1) := by decide +kernel
theorem dX6_childrenBehind_29 : decode cX6_childrenBehind 29 = .ok (.aload_n 0, 1) := by decide +kernel
theorem dX6_childrenBehind_30 : decode cX6_childrenBehind 30 = .ok (.iload_n 3, 1) := by decide +kernel
theorem dX6_childrenBehind_31 : decode cX6_childrenBehind 31 = .ok (.invokevirtual 155, 3) := by decide +kernel
theorem dX6_childrenBehind_34 : decode cX6_childrenBehind 34 = .ok (.iadd, 1) := by decide +kernel
theorem dX6_childrenBehind_35 : decode cX6_childrenBehind 35 = .ok (.istore_n 2, 1) := by decide +kernel
theorem dX6_childrenBehind_36 : decode cX6_childrenBehind 36 = .ok (.iinc 3 1, 3) := by decide +kernel
theorem dX6_childrenBehind_39 : decode cX6_childrenBehind 39 = .ok (.goto (-35), 3) := by decide +kernel
theorem dX6_childrenBehind_42 : decode cX6_childrenBehind 42 = .ok (.iload_n 2, 1) := by decide +kernel
theorem dX6_childrenBehind_43 : decode cX6_childrenBehind 43 = .ok (.ireturn, 1) := by decide +kernel
theorem dX6_numberWithout_0 : decode cX6_numberWithout 0 = .ok (.aload_n 0, 1) := by decide +kernel
theorem dX6_numberWithout_1 : decode cX6_numberWithout 1 = .ok (.getfield 50, 3) := by decide +kernel
theorem dX6_numberWithout_4 : decode cX6_numberWithout 4 = .ok (.getfield 164, 3) := by decide +kernel
theorem dX6_numberWithout_7 : decode cX6_numberWithout 7 = .ok (.aload_n 0, 1) := by decide +kernel
theorem dX6_numberWithout_8 : decode cX6_numberWithout 8 = .ok (.getfield 57, 3) := by decide +kernel
theorem dX6_numberWithout_11 : decode cX6_numberWithout 11 = .ok (.getfield 161, 3) := by decide +kernel
theorem dX6_numberWithout_14 : decode cX6_numberWithout 14 = .ok (.invokestatic 171, 3) := by decide +kernel
theorem dX6_numberWithout_17 : decode cX6_numberWithout 17 = .ok (.isub, 1) := by decide +kernel
theorem dX6_numberWithout_18 : decode cX6_numberWithout 18 = .ok (.ireturn, 1) := by decide +kernel
theorem dX6_headsFor_0 : decode cX6_headsFor 0 = .ok (.iconst 0, 1) := by decide +kernel
theorem dX6_headsFor_1 : decode cX6_headsFor 1 = .ok (.istore_n 2, 1) := by decide +kernel
theorem dX6_headsFor_2 : decode cX6_headsFor 2 = .ok (.iconst 0, 1) := by decide +kernel
theorem dX6_headsFor_3 : decode cX6_headsFor 3 = .ok (.istore_n 3, 1) := by decide +kernel
theorem dX6_headsFor_4 : decode cX6_headsFor 4 = .ok (.iload_n 3, 1) := by decide +kernel
theorem dX6_headsFor_5 : decode cX6_headsFor 5 = .ok (.aload_n 0, 1) := by decide +kernel
theorem dX6_headsFor_6 : decode cX6_headsFor 6 = .ok (.getfield 50, 3) := by decide +kernel
theorem dX6_headsFor_9 : decode cX6_headsFor 9 = .ok (.getfield 164, 3) := by decide +kernel
theorem dX6_headsFor_12 : decode cX6_headsFor 12 = .ok (.if_icmp .ge 29, 3) := by decide +kernel
theorem dX6_headsFor_15 : decode cX6_headsFor 15 = .ok (.iload_n 1, 1) := by decide +kernel
theorem dX6_headsFor_16 : decode cX6_headsFor 16 = .ok (.iload_n 3, 1) := by decide +kernel
theorem dX6_headsFor_17 : decode cX6_headsFor 17 = .ok (.ishr, 1) := by decide +kernel
theorem dX6_headsFor_18 : decode cX6_headsFor 18 = .ok (.iconst 1, 1) := by decide +kernel
theorem dX6_headsFor_19 : decode cX6_headsFor 19 = .ok (.iand, 1) := by decide +kernel
theorem dX6_headsFor_20 : decode cX6_headsFor 20 = .ok (.ifCond .eq 15, 3) := by decide +kernel
theorem dX6_headsFor_23 : decode cX6_headsFor 23 = .ok (.iload_n 2, 1) := by decide +kernel
theorem dX6_headsFor_24 : decode cX6_headsFor 24 = .ok (.aload_n 0, 1) := by decide +kernel
theorem dX6_headsFor_25 : decode cX6_headsFor 25 = .ok (.getfield 57, 3) := by decide +kernel
theorem dX6_headsFor_28 : decode cX6_headsFor 28 = .ok (.getfield 370, 3) := by decide +kernel
theorem dX6_headsFor_31 : decode cX6_headsFor 31 = .ok (.iload_n 3, 1) := by decide +kernel
theorem dX6_headsFor_32 : decode cX6_headsFor 32 = .ok (.iaload, 1) := by decide +kernel
theorem dX6_headsFor_33 : decode cX6_headsFor 33 = .ok (.ior, 1) := by decide +kernel
theorem dX6_headsFor_34 : decode cX6_headsFor 34 = .ok (.istore_n 2, 1) := by decide +kernel
theorem dX6_headsFor_35 : decode cX6_headsFor 35 = .ok (.iinc 3 1, 3) := by decide +kernel
theorem dX6_headsFor_38 : decode cX6_headsFor 38 = .ok (.goto (-34), 3) := by decide +kernel
theorem dX6_headsFor_41 : decode cX6_headsFor 41 = .ok (.iload_n 2, 1) := by decide +kernel
theorem dX6_headsFor_42 : decode cX6_headsFor 42 = .ok (.ireturn, 1) := by decide +kernel
theorem dX6_fewestKeptOff_0 : decode cX6_fewestKeptOff 0 = .ok (.getstatic 373, 3) := by decide +kernel
theorem dX6_fewestKeptOff_3 : decode cX6_fewestKeptOff 3 = .ok (.astore_n 2, 1) := by decide +kernel
theorem dX6_fewestKeptOff_4 : decode cX6_fewestKeptOff 4 = .ok (.aload_n 2, 1) := by decide +kernel
theorem dX6_fewestKeptOff_5 : decode cX6_fewestKeptOff 5 = .ok (.arraylength, 1) := by decide +kernel
theorem dX6_fewestKeptOff_6 : decode cX6_fewestKeptOff 6 = .ok (.istore_n 3, 1) := by decide +kernel
theorem dX6_fewestKeptOff_7 : decode cX6_fewestKeptOff 7 = .ok (.iconst 0, 1) := by decide +kernel
theorem dX6_fewestKeptOff_8 : decode cX6_fewestKeptOff 8 = .ok (.istore 4, 2) := by decide +kernel
theorem dX6_fewestKeptOff_10 : decode cX6_fewestKeptOff 10 = .ok (.iload 4, 2) := by decide +kernel
theorem dX6_fewestKeptOff_12 : decode cX6_fewestKeptOff 12 = .ok (.iload_n 3, 1) := by decide +kernel
theorem dX6_fewestKeptOff_13 : decode cX6_fewestKeptOff 13 = .ok (.if_icmp .ge 71, 3) := by decide +kernel
theorem dX6_fewestKeptOff_16 : decode cX6_fewestKeptOff 16 = .ok (.aload_n 2, 1) := by decide +kernel
theorem dX6_fewestKeptOff_17 : decode cX6_fewestKeptOff 17 = .ok (.iload 4, 2) := by decide +kernel
theorem dX6_fewestKeptOff_19 : decode cX6_fewestKeptOff 19 = .ok (.iaload, 1) := by decide +kernel
theorem dX6_fewestKeptOff_20 : decode cX6_fewestKeptOff 20 = .ok (.istore 5, 2) := by decide +kernel
theorem dX6_fewestKeptOff_22 : decode cX6_fewestKeptOff 22 = .ok (.iload 5, 2) := by decide +kernel
theorem dX6_fewestKeptOff_24 : decode cX6_fewestKeptOff 24 = .ok (.aload_n 0, 1) := by decide +kernel
theorem dX6_fewestKeptOff_25 : decode cX6_fewestKeptOff 25 = .ok (.getfield 34, 3) := by decide +kernel
theorem dX6_fewestKeptOff_28 : decode cX6_fewestKeptOff 28 = .ok (.getfield 209, 3) := by decide +kernel
theorem dX6_fewestKeptOff_31 : decode cX6_fewestKeptOff 31 = .ok (.ishr, 1) := by decide +kernel
theorem dX6_fewestKeptOff_32 : decode cX6_fewestKeptOff 32 = .ok (.ifCond .eq 6, 3) := by decide +kernel
theorem dX6_fewestKeptOff_35 : decode cX6_fewestKeptOff 35 = .ok (.goto 43, 3) := by decide +kernel
theorem dX6_fewestKeptOff_38 : decode cX6_fewestKeptOff 38 = .ok (.aload_n 0, 1) := by decide +kernel
theorem dX6_fewestKeptOff_39 : decode cX6_fewestKeptOff 39 = .ok (.getfield 50, 3) := by decide +kernel
theorem dX6_fewestKeptOff_42 : decode cX6_fewestKeptOff 42 = .ok (.aload_n 0, 1) := by decide +kernel
theorem dX6_fewestKeptOff_43 : decode cX6_fewestKeptOff 43 = .ok (.getfield 34, 3) := by decide +kernel
theorem dX6_fewestKeptOff_46 : decode cX6_fewestKeptOff 46 = .ok (.iload 5, 2) := by decide +kernel
theorem dX6_fewestKeptOff_48 : decode cX6_fewestKeptOff 48 = .ok (.invokevirtual 210, 3) := by decide +kernel
theorem dX6_fewestKeptOff_51 : decode cX6_fewestKeptOff 51 = .ok (.aload_n 0, 1) := by decide +kernel
theorem dX6_fewestKeptOff_52 : decode cX6_fewestKeptOff 52 = .ok (.getfield 57, 3) := by decide +kernel
theorem dX6_fewestKeptOff_55 : decode cX6_fewestKeptOff 55 = .ok (.aload_n 0, 1) := by decide +kernel
theorem dX6_fewestKeptOff_56 : decode cX6_fewestKeptOff 56 = .ok (.getfield 50, 3) := by decide +kernel
theorem dX6_fewestKeptOff_59 : decode cX6_fewestKeptOff 59 = .ok (.invokevirtual 196, 3) := by decide +kernel
theorem dX6_fewestKeptOff_62 : decode cX6_fewestKeptOff 62 = .ok (.aload_n 0, 1) := by decide +kernel
theorem dX6_fewestKeptOff_63 : decode cX6_fewestKeptOff 63 = .ok (.getfield 57, 3) := by decide +kernel
theorem dX6_fewestKeptOff_66 : decode cX6_fewestKeptOff 66 = .ok (.getfield 149, 3) := by decide +kernel
theorem dX6_fewestKeptOff_69 : decode cX6_fewestKeptOff 69 = .ok (.iload_n 1, 1) := by decide +kernel
theorem dX6_fewestKeptOff_70 : decode cX6_fewestKeptOff 70 = .ok (.iaload, 1) := by decide +kernel
theorem dX6_fewestKeptOff_71 : decode cX6_fewestKeptOff 71 = .ok (.iconst (-1), 1) := by decide +kernel
theorem dX6_fewestKeptOff_72 : decode cX6_fewestKeptOff 72 = .ok (.if_icmp .eq 6, 3) := by decide +kernel
theorem dX6_fewestKeptOff_75 : decode cX6_fewestKeptOff 75 = .ok (.iload 5, 2) := by decide +kernel
theorem dX6_fewestKeptOff_77 : decode cX6_fewestKeptOff 77 = .ok (.ireturn, 1) := by decide +kernel
theorem dX6_fewestKeptOff_78 : decode cX6_fewestKeptOff 78 = .ok (.iinc 4 1, 3) := by decide +kernel
theorem dX6_fewestKeptOff_81 : decode cX6_fewestKeptOff 81 = .ok (.goto (-71), 3) := by decide +kernel
theorem dX6_fewestKeptOff_84 : decode cX6_fewestKeptOff 84 = .ok (.iconst (-1), 1) := by decide +kernel
theorem dX6_fewestKeptOff_85 : decode cX6_fewestKeptOff 85 = .ok (.ireturn, 1) := by decide +kernel
theorem dX6_isAsSeen_0 : decode cX6_isAsSeen 0 = .ok (.iconst 0, 1) := by decide +kernel
theorem dX6_isAsSeen_1 : decode cX6_isAsSeen 1 = .ok (.istore_n 1, 1) := by decide +kernel
theorem dX6_isAsSeen_2 : decode cX6_isAsSeen 2 = .ok (.iload_n 1, 1) := by decide +kernel
theorem dX6_isAsSeen_3 : decode cX6_isAsSeen 3 = .ok (.aload_n 0, 1) := by decide +kernel
theorem dX6_isAsSeen_4 : decode cX6_isAsSeen 4 = .ok (.getfield 37, 3) := by decide +kernel
theorem dX6_isAsSeen_7 : decode cX6_isAsSeen 7 = .ok (.getfield 209, 3) := by decide +kernel
theorem dX6_isAsSeen_10 : decode cX6_isAsSeen 10 = .ok (.if_icmp .ge 74, 3) := by decide +kernel
theorem dX6_isAsSeen_13 : decode cX6_isAsSeen 13 = .ok (.aload_n 0, 1) := by decide +kernel
theorem dX6_isAsSeen_14 : decode cX6_isAsSeen 14 = .ok (.getfield 37, 3) := by decide +kernel
theorem dX6_isAsSeen_17 : decode cX6_isAsSeen 17 = .ok (.iload_n 1, 1) := by decide +kernel
theorem dX6_isAsSeen_18 : decode cX6_isAsSeen 18 = .ok (.invokevirtual 367, 3) := by decide +kernel
theorem dX6_isAsSeen_21 : decode cX6_isAsSeen 21 = .ok (.bipush 9, 2) := by decide +kernel
theorem dX6_isAsSeen_23 : decode cX6_isAsSeen 23 = .ok (.idiv, 1) := by decide +kernel
theorem dX6_isAsSeen_24 : decode cX6_isAsSeen 24 = .ok (.istore_n 2, 1) := by decide +kernel
theorem dX6_isAsSeen_25 : decode cX6_isAsSeen 25 = .ok (.aload_n 0, 1) := by decide +kernel
theorem dX6_isAsSeen_26 : decode cX6_isAsSeen 26 = .ok (.getfield 37, 3) := by decide +kernel
theorem dX6_isAsSeen_29 : decode cX6_isAsSeen 29 = .ok (.iload_n 1, 1) := by decide +kernel
theorem dX6_isAsSeen_30 : decode cX6_isAsSeen 30 = .ok (.invokevirtual 367, 3) := by decide +kernel
theorem dX6_isAsSeen_33 : decode cX6_isAsSeen 33 = .ok (.bipush 9, 2) := by decide +kernel
theorem dX6_isAsSeen_35 : decode cX6_isAsSeen 35 = .ok (.irem, 1) := by decide +kernel
theorem dX6_isAsSeen_36 : decode cX6_isAsSeen 36 = .ok (.istore_n 3, 1) := by decide +kernel
theorem dX6_isAsSeen_37 : decode cX6_isAsSeen 37 = .ok (.iload_n 2, 1) := by decide +kernel
theorem dX6_isAsSeen_38 : decode cX6_isAsSeen 38 = .ok (.aload_n 0, 1) := by decide +kernel
theorem dX6_isAsSeen_39 : decode cX6_isAsSeen 39 = .ok (.getfield 50, 3) := by decide +kernel
theorem dX6_isAsSeen_42 : decode cX6_isAsSeen 42 = .ok (.getfield 164, 3) := by decide +kernel
theorem dX6_isAsSeen_45 : decode cX6_isAsSeen 45 = .ok (.invokestatic 77, 3) := by decide +kernel
theorem dX6_isAsSeen_48 : decode cX6_isAsSeen 48 = .ok (.ifCond .eq 5, 3) := by decide +kernel
theorem dX6_isAsSeen_51 : decode cX6_isAsSeen 51 = .ok (.iconst 0, 1) := by decide +kernel
theorem dX6_isAsSeen_52 : decode cX6_isAsSeen 52 = .ok (.ireturn, 1) := by decide +kernel
theorem dX6_isAsSeen_53 : decode cX6_isAsSeen 53 = .ok (.aload_n 0, 1) := by decide +kernel
theorem dX6_isAsSeen_54 : decode cX6_isAsSeen 54 = .ok (.getfield 57, 3) := by decide +kernel
theorem dX6_isAsSeen_57 : decode cX6_isAsSeen 57 = .ok (.getfield 152, 3) := by decide +kernel
theorem dX6_isAsSeen_60 : decode cX6_isAsSeen 60 = .ok (.iload_n 2, 1) := by decide +kernel
theorem dX6_isAsSeen_61 : decode cX6_isAsSeen 61 = .ok (.iaload, 1) := by decide +kernel
theorem dX6_isAsSeen_62 : decode cX6_isAsSeen 62 = .ok (.iload_n 3, 1) := by decide +kernel
theorem dX6_isAsSeen_63 : decode cX6_isAsSeen 63 = .ok (.bipush 8, 2) := by decide +kernel
theorem dX6_isAsSeen_65 : decode cX6_isAsSeen 65 = .ok (.if_icmp .ne 7, 3) := by decide +kernel
theorem dX6_isAsSeen_68 : decode cX6_isAsSeen 68 = .ok (.iconst (-1), 1) := by decide +kernel
theorem dX6_isAsSeen_69 : decode cX6_isAsSeen 69 = .ok (.goto 4, 3) := by decide +kernel
theorem dX6_isAsSeen_72 : decode cX6_isAsSeen 72 = .ok (.iload_n 3, 1) := by decide +kernel
theorem dX6_isAsSeen_73 : decode cX6_isAsSeen 73 = .ok (.if_icmp .eq 5, 3) := by decide +kernel
theorem dX6_isAsSeen_76 : decode cX6_isAsSeen 76 = .ok (.iconst 0, 1) := by decide +kernel
theorem dX6_isAsSeen_77 : decode cX6_isAsSeen 77 = .ok (.ireturn, 1) := by decide +kernel
theorem dX6_isAsSeen_78 : decode cX6_isAsSeen 78 = .ok (.iinc 1 1, 3) := by decide +kernel
theorem dX6_isAsSeen_81 : decode cX6_isAsSeen 81 = .ok (.goto (-79), 3) := by decide +kernel
theorem dX6_isAsSeen_84 : decode cX6_isAsSeen 84 = .ok (.iconst 1, 1) := by decide +kernel
theorem dX6_isAsSeen_85 : decode cX6_isAsSeen 85 = .ok (.ireturn, 1) := by decide +kernel
theorem dX6_sortsAsSeen_0 : decode cX6_sortsAsSeen 0 = .ok (.iconst 0, 1) := by decide +kernel
theorem dX6_sortsAsSeen_1 : decode cX6_sortsAsSeen 1 = .ok (.istore_n 2, 1) := by decide +kernel
theorem dX6_sortsAsSeen_2 : decode cX6_sortsAsSeen 2 = .ok (.iconst 0, 1) := by decide +kernel
theorem dX6_sortsAsSeen_3 : decode cX6_sortsAsSeen 3 = .ok (.istore_n 3, 1) := by decide +kernel
theorem dX6_sortsAsSeen_4 : decode cX6_sortsAsSeen 4 = .ok (.iload_n 3, 1) := by decide +kernel
theorem dX6_sortsAsSeen_5 : decode cX6_sortsAsSeen 5 = .ok (.iconst 3, 1) := by decide +kernel
theorem dX6_sortsAsSeen_6 : decode cX6_sortsAsSeen 6 = .ok (.if_icmp .ge 43, 3) := by decide +kernel
theorem dX6_sortsAsSeen_9 : decode cX6_sortsAsSeen 9 = .ok (.aload_n 0, 1) := by decide +kernel
theorem dX6_sortsAsSeen_10 : decode cX6_sortsAsSeen 10 = .ok (.getfield 50, 3) := by decide +kernel
theorem dX6_sortsAsSeen_13 : decode cX6_sortsAsSeen 13 = .ok (.getfield 376, 3) := by decide +kernel
theorem dX6_sortsAsSeen_16 : decode cX6_sortsAsSeen 16 = .ok (.iload_n 1, 1) := by decide +kernel
theorem dX6_sortsAsSeen_17 : decode cX6_sortsAsSeen 17 = .ok (.iload_n 3, 1) := by decide +kernel
theorem dX6_sortsAsSeen_18 : decode cX6_sortsAsSeen 18 = .ok (.iastore, 1) := by decide +kernel
theorem dX6_sortsAsSeen_19 : decode cX6_sortsAsSeen 19 = .ok (.aload_n 0, 1) := by decide +kernel
theorem dX6_sortsAsSeen_20 : decode cX6_sortsAsSeen 20 = .ok (.getfield 57, 3) := by decide +kernel
theorem dX6_sortsAsSeen_23 : decode cX6_sortsAsSeen 23 = .ok (.aload_n 0, 1) := by decide +kernel
theorem dX6_sortsAsSeen_24 : decode cX6_sortsAsSeen 24 = .ok (.getfield 50, 3) := by decide +kernel
theorem dX6_sortsAsSeen_27 : decode cX6_sortsAsSeen 27 = .ok (.invokevirtual 196, 3) := by decide +kernel
theorem dX6_sortsAsSeen_30 : decode cX6_sortsAsSeen 30 = .ok (.aload_n 0, 1) := by decide +kernel
theorem dX6_sortsAsSeen_31 : decode cX6_sortsAsSeen 31 = .ok (.invokevirtual 214, 3) := by decide +kernel
theorem dX6_sortsAsSeen_34 : decode cX6_sortsAsSeen 34 = .ok (.ifCond .eq 9, 3) := by decide +kernel
theorem dX6_sortsAsSeen_37 : decode cX6_sortsAsSeen 37 = .ok (.iload_n 2, 1) := by decide +kernel
theorem dX6_sortsAsSeen_38 : decode cX6_sortsAsSeen 38 = .ok (.iconst 1, 1) := by decide +kernel
theorem dX6_sortsAsSeen_39 : decode cX6_sortsAsSeen 39 = .ok (.iload_n 3, 1) := by decide +kernel
theorem dX6_sortsAsSeen_40 : decode cX6_sortsAsSeen 40 = .ok (.ishl, 1) := by decide +kernel
theorem dX6_sortsAsSeen_41 : decode cX6_sortsAsSeen 41 = .ok (.ior, 1) := by decide +kernel
theorem dX6_sortsAsSeen_42 : decode cX6_sortsAsSeen 42 = .ok (.istore_n 2, 1) := by decide +kernel
theorem dX6_sortsAsSeen_43 : decode cX6_sortsAsSeen 43 = .ok (.iinc 3 1, 3) := by decide +kernel
theorem dX6_sortsAsSeen_46 : decode cX6_sortsAsSeen 46 = .ok (.goto (-42), 3) := by decide +kernel
theorem dX6_sortsAsSeen_49 : decode cX6_sortsAsSeen 49 = .ok (.iload_n 2, 1) := by decide +kernel
theorem dX6_sortsAsSeen_50 : decode cX6_sortsAsSeen 50 = .ok (.ireturn, 1) := by decide +kernel
theorem dX6_duesAsSeen_0 : decode cX6_duesAsSeen 0 = .ok (.iconst 0, 1) := by decide +kernel
theorem dX6_duesAsSeen_1 : decode cX6_duesAsSeen 1 = .ok (.istore_n 2, 1) := by decide +kernel
theorem dX6_duesAsSeen_2 : decode cX6_duesAsSeen 2 = .ok (.iconst 0, 1) := by decide +kernel
theorem dX6_duesAsSeen_3 : decode cX6_duesAsSeen 3 = .ok (.istore_n 3, 1) := by decide +kernel
theorem dX6_duesAsSeen_4 : decode cX6_duesAsSeen 4 = .ok (.iload_n 3, 1) := by decide +kernel
theorem dX6_duesAsSeen_5 : decode cX6_duesAsSeen 5 = .ok (.bipush 30, 2) := by decide +kernel
theorem dX6_duesAsSeen_7 : decode cX6_duesAsSeen 7 = .ok (.if_icmp .ge 43, 3) := by decide +kernel
theorem dX6_duesAsSeen_10 : decode cX6_duesAsSeen 10 = .ok (.aload_n 0, 1) := by decide +kernel
theorem dX6_duesAsSeen_11 : decode cX6_duesAsSeen 11 = .ok (.getfield 50, 3) := by decide +kernel
theorem dX6_duesAsSeen_14 : decode cX6_duesAsSeen 14 = .ok (.getfield 193, 3) := by decide +kernel
theorem dX6_duesAsSeen_17 : decode cX6_duesAsSeen 17 = .ok (.iload_n 1, 1) := by decide +kernel
theorem dX6_duesAsSeen_18 : decode cX6_duesAsSeen 18 = .ok (.iload_n 3, 1) := by decide +kernel
theorem dX6_duesAsSeen_19 : decode cX6_duesAsSeen 19 = .ok (.iastore, 1) := by decide +kernel
theorem dX6_duesAsSeen_20 : decode cX6_duesAsSeen 20 = .ok (.aload_n 0, 1) := by decide +kernel
theorem dX6_duesAsSeen_21 : decode cX6_duesAsSeen 21 = .ok (.getfield 57, 3) := by decide +kernel
theorem dX6_duesAsSeen_24 : decode cX6_duesAsSeen 24 = .ok (.aload_n 0, 1) := by decide +kernel
theorem dX6_duesAsSeen_25 : decode cX6_duesAsSeen 25 = .ok (.getfield 50, 3) := by decide +kernel
theorem dX6_duesAsSeen_28 : decode cX6_duesAsSeen 28 = .ok (.invokevirtual 196, 3) := by decide +kernel
theorem dX6_duesAsSeen_31 : decode cX6_duesAsSeen 31 = .ok (.aload_n 0, 1) := by decide +kernel
theorem dX6_duesAsSeen_32 : decode cX6_duesAsSeen 32 = .ok (.invokevirtual 214, 3) := by decide +kernel
theorem dX6_duesAsSeen_35 : decode cX6_duesAsSeen 35 = .ok (.ifCond .eq 9, 3) := by decide +kernel
theorem dX6_duesAsSeen_38 : decode cX6_duesAsSeen 38 = .ok (.iload_n 2, 1) := by decide +kernel
theorem dX6_duesAsSeen_39 : decode cX6_duesAsSeen 39 = .ok (.iconst 1, 1) := by decide +kernel
theorem dX6_duesAsSeen_40 : decode cX6_duesAsSeen 40 = .ok (.iload_n 3, 1) := by decide +kernel
theorem dX6_duesAsSeen_41 : decode cX6_duesAsSeen 41 = .ok (.ishl, 1) := by decide +kernel
theorem dX6_duesAsSeen_42 : decode cX6_duesAsSeen 42 = .ok (.ior, 1) := by decide +kernel
theorem dX6_duesAsSeen_43 : decode cX6_duesAsSeen 43 = .ok (.istore_n 2, 1) := by decide +kernel
theorem dX6_duesAsSeen_44 : decode cX6_duesAsSeen 44 = .ok (.iinc 3 1, 3) := by decide +kernel
theorem dX6_duesAsSeen_47 : decode cX6_duesAsSeen 47 = .ok (.goto (-43), 3) := by decide +kernel
theorem dX6_duesAsSeen_50 : decode cX6_duesAsSeen 50 = .ok (.iload_n 2, 1) := by decide +kernel
theorem dX6_duesAsSeen_51 : decode cX6_duesAsSeen 51 = .ok (.ireturn, 1) := by decide +kernel
theorem dX6_tallyWhoGotWhat_0 : decode cX6_tallyWhoGotWhat 0 = .ok (.iconst 0, 1) := by decide +kernel
theorem dX6_tallyWhoGotWhat_1 : decode cX6_tallyWhoGotWhat 1 = .ok (.istore_n 1, 1) := by decide +kernel
theorem dX6_tallyWhoGotWhat_2 : decode cX6_tallyWhoGotWhat 2 = .ok (.iload_n 1, 1) := by decide +kernel
theorem dX6_tallyWhoGotWhat_3 : decode cX6_tallyWhoGotWhat 3 = .ok (.aload_n 0, 1) := by decide +kernel
theorem dX6_tallyWhoGotWhat_4 : decode cX6_tallyWhoGotWhat 4 = .ok (.getfield 50, 3) := by decide +kernel
theorem dX6_tallyWhoGotWhat_7 : decode cX6_tallyWhoGotWhat 7 = .ok (.getfield 164, 3) := by decide +kernel
theorem dX6_tallyWhoGotWhat_10 : decode cX6_tallyWhoGotWhat 10 = .ok (.if_icmp .ge 41, 3) := by decide +kernel
theorem dX6_tallyWhoGotWhat_13 : decode cX6_tallyWhoGotWhat 13 = .ok (.aload_n 0, 1) := by decide +kernel
theorem dX6_tallyWhoGotWhat_14 : decode cX6_tallyWhoGotWhat 14 = .ok (.getfield 57, 3) := by decide +kernel
theorem dX6_tallyWhoGotWhat_17 : decode cX6_tallyWhoGotWhat 17 = .ok (.getfield 152, 3) := by decide +kernel
theorem dX6_tallyWhoGotWhat_20 : decode cX6_tallyWhoGotWhat 20 = .ok (.iload_n 1, 1) := by decide +kernel
theorem dX6_tallyWhoGotWhat_21 : decode cX6_tallyWhoGotWhat 21 = .ok (.iaload, 1) := by decide +kernel
theorem dX6_tallyWhoGotWhat_22 : decode cX6_tallyWhoGotWhat 22 = .ok (.istore_n 2, 1) := by decide +kernel
theorem dX6_tallyWhoGotWhat_23 : decode cX6_tallyWhoGotWhat 23 = .ok (.aload_n 0, 1) := by decide +kernel
theorem dX6_tallyWhoGotWhat_24 : decode cX6_tallyWhoGotWhat 24 = .ok (.getfield 70, 3) := by decide +kernel
theorem dX6_tallyWhoGotWhat_27 : decode cX6_tallyWhoGotWhat 27 = .ok (.iload_n 1, 1) := by decide +kernel
theorem dX6_tallyWhoGotWhat_28 : decode cX6_tallyWhoGotWhat 28 = .ok (.aaload, 1) := by decide +kernel
theorem dX6_tallyWhoGotWhat_29 : decode cX6_tallyWhoGotWhat 29 = .ok (.iload_n 2, 1) := by decide +kernel
theorem dX6_tallyWhoGotWhat_30 : decode cX6_tallyWhoGotWhat 30 = .ok (.iconst (-1), 1) := by decide +kernel
theorem dX6_tallyWhoGotWhat_31 : decode cX6_tallyWhoGotWhat 31 = .ok (.if_icmp .ne 8, 3) := by decide +kernel
theorem dX6_tallyWhoGotWhat_34 : decode cX6_tallyWhoGotWhat 34 = .ok (.bipush 8, 2) := by decide +kernel
theorem dX6_tallyWhoGotWhat_36 : decode cX6_tallyWhoGotWhat 36 = .ok (.goto 4, 3) := by decide +kernel
theorem dX6_tallyWhoGotWhat_39 : decode cX6_tallyWhoGotWhat 39 = .ok (.iload_n 2, 1) := by decide +kernel
theorem dX6_tallyWhoGotWhat_40 : decode cX6_tallyWhoGotWhat 40 = .ok (.dup2, 1) := by decide +kernel
theorem dX6_tallyWhoGotWhat_41 : decode cX6_tallyWhoGotWhat 41 = .ok (.iaload, 1) := by decide +kernel
theorem dX6_tallyWhoGotWhat_42 : decode cX6_tallyWhoGotWhat 42 = .ok (.iconst 1, 1) := by decide +kernel
theorem dX6_tallyWhoGotWhat_43 : decode cX6_tallyWhoGotWhat 43 = .ok (.iadd, 1) := by decide +kernel
theorem dX6_tallyWhoGotWhat_44 : decode cX6_tallyWhoGotWhat 44 = .ok (.iastore, 1) := by decide +kernel
theorem dX6_tallyWhoGotWhat_45 : decode cX6_tallyWhoGotWhat 45 = .ok (.iinc 1 1, 3) := by decide +kernel
theorem dX6_tallyWhoGotWhat_48 : decode cX6_tallyWhoGotWhat 48 = .ok (.goto (-46), 3) := by decide +kernel
theorem dX6_tallyWhoGotWhat_51 : decode cX6_tallyWhoGotWhat 51 = .ok (.return_, 1) := by decide +kernel
theorem dX6_leastTallied_0 : decode cX6_leastTallied 0 = .ok (.iconst (-1), 1) := by decide +kernel
theorem dX6_leastTallied_1 : decode cX6_leastTallied 1 = .ok (.istore_n 1, 1) := by decide +kernel
theorem dX6_leastTallied_2 : decode cX6_leastTallied 2 = .ok (.bipush 31, 2) := by decide +kernel
theorem dX6_leastTallied_4 : decode cX6_leastTallied 4 = .ok (.istore_n 2, 1) := by decide +kernel
theorem dX6_leastTallied_5 : decode cX6_leastTallied 5 = .ok (.iconst 0, 1) := by decide +kernel
theorem dX6_leastTallied_6 : decode cX6_leastTallied 6 = .ok (.istore_n 3, 1) := by decide +kernel
theorem dX6_leastTallied_7 : decode cX6_leastTallied 7 = .ok (.iload_n 3, 1) := by decide +kernel
theorem dX6_leastTallied_8 : decode cX6_leastTallied 8 = .ok (.aload_n 0, 1) := by decide +kernel
theorem dX6_leastTallied_9 : decode cX6_leastTallied 9 = .ok (.getfield 50, 3) := by decide +kernel
theorem dX6_leastTallied_12 : decode cX6_leastTallied 12 = .ok (.getfield 164, 3) := by decide +kernel
theorem dX6_leastTallied_15 : decode cX6_leastTallied 15 = .ok (.if_icmp .ge 55, 3) := by decide +kernel
theorem dX6_leastTallied_18 : decode cX6_leastTallied 18 = .ok (.iconst 0, 1) := by decide +kernel
theorem dX6_leastTallied_19 : decode cX6_leastTallied 19 = .ok (.istore 4, 2) := by decide +kernel
theorem dX6_leastTallied_21 : decode cX6_leastTallied 21 = .ok (.iconst 0, 1) := by decide +kernel
theorem dX6_leastTallied_22 : decode cX6_leastTallied 22 = .ok (.istore 5, 2) := by decide +kernel
theorem dX6_leastTallied_24 : decode cX6_leastTallied 24 = .ok (.iload 5, 2) := by decide +kernel
theorem dX6_leastTallied_26 : decode cX6_leastTallied 26 = .ok (.bipush 8, 2) := by decide +kernel
theorem dX6_leastTallied_28 : decode cX6_leastTallied 28 = .ok (.if_icmp .gt 25, 3) := by decide +kernel
theorem dX6_leastTallied_31 : decode cX6_leastTallied 31 = .ok (.iload 4, 2) := by decide +kernel
theorem dX6_leastTallied_33 : decode cX6_leastTallied 33 = .ok (.aload_n 0, 1) := by decide +kernel
theorem dX6_leastTallied_34 : decode cX6_leastTallied 34 = .ok (.getfield 70, 3) := by decide +kernel
theorem dX6_leastTallied_37 : decode cX6_leastTallied 37 = .ok (.iload_n 3, 1) := by decide +kernel
theorem dX6_leastTallied_38 : decode cX6_leastTallied 38 = .ok (.aaload, 1) := by decide +kernel
theorem dX6_leastTallied_39 : decode cX6_leastTallied 39 = .ok (.iload 5, 2) := by decide +kernel
theorem dX6_leastTallied_41 : decode cX6_leastTallied 41 = .ok (.iaload, 1) := by decide +kernel
theorem dX6_leastTallied_42 : decode cX6_leastTallied 42 = .ok (.invokestatic 379, 3) := by decide +kernel
theorem dX6_leastTallied_45 : decode cX6_leastTallied 45 = .ok (.istore 4, 2) := by decide +kernel
theorem dX6_leastTallied_47 : decode cX6_leastTallied 47 = .ok (.iinc 5 1, 3) := by decide +kernel
theorem dX6_leastTallied_50 : decode cX6_leastTallied 50 = .ok (.goto (-26), 3) := by decide +kernel
theorem dX6_leastTallied_53 : decode cX6_leastTallied 53 = .ok (.iload 4, 2) := by decide +kernel
theorem dX6_leastTallied_55 : decode cX6_leastTallied 55 = .ok (.iload_n 2, 1) := by decide +kernel
theorem dX6_leastTallied_56 : decode cX6_leastTallied 56 = .ok (.if_icmp .ge 8, 3) := by decide +kernel
theorem dX6_leastTallied_59 : decode cX6_leastTallied 59 = .ok (.iload 4, 2) := by decide +kernel
theorem dX6_leastTallied_61 : decode cX6_leastTallied 61 = .ok (.istore_n 2, 1) := by decide +kernel
theorem dX6_leastTallied_62 : decode cX6_leastTallied 62 = .ok (.iload_n 3, 1) := by decide +kernel
theorem dX6_leastTallied_63 : decode cX6_leastTallied 63 = .ok (.istore_n 1, 1) := by decide +kernel
theorem dX6_leastTallied_64 : decode cX6_leastTallied 64 = .ok (.iinc 3 1, 3) := by decide +kernel
theorem dX6_leastTallied_67 : decode cX6_leastTallied 67 = .ok (.goto (-60), 3) := by decide +kernel
theorem dX6_leastTallied_70 : decode cX6_leastTallied 70 = .ok (.iload_n 1, 1) := by decide +kernel
theorem dX6_leastTallied_71 : decode cX6_leastTallied 71 = .ok (.ireturn, 1) := by decide +kernel
theorem dX6_countChances_0 : decode cX6_countChances 0 = .ok (.aload_n 0, 1) := by decide +kernel
theorem dX6_countChances_1 : decode cX6_countChances 1 = .ok (.invokevirtual 184, 3) := by decide +kernel
theorem dX6_countChances_4 : decode cX6_countChances 4 = .ok (.aload_n 0, 1) := by decide +kernel
theorem dX6_countChances_5 : decode cX6_countChances 5 = .ok (.getfield 64, 3) := by decide +kernel
theorem dX6_countChances_8 : decode cX6_countChances 8 = .ok (.iload_n 1, 1) := by decide +kernel
theorem dX6_countChances_9 : decode cX6_countChances 9 = .ok (.invokevirtual 382, 3) := by decide +kernel
theorem dX6_countChances_12 : decode cX6_countChances 12 = .ok (.iconst 0, 1) := by decide +kernel
theorem dX6_countChances_13 : decode cX6_countChances 13 = .ok (.istore_n 2, 1) := by decide +kernel
theorem dX6_countChances_14 : decode cX6_countChances 14 = .ok (.iload_n 2, 1) := by decide +kernel
theorem dX6_countChances_15 : decode cX6_countChances 15 = .ok (.iconst 1, 1) := by decide +kernel
theorem dX6_countChances_16 : decode cX6_countChances 16 = .ok (.iload_n 1, 1) := by decide +kernel
theorem dX6_countChances_17 : decode cX6_countChances 17 = .ok (.iconst 1, 1) := by decide +kernel
theorem dX6_countChances_18 : decode cX6_countChances 18 = .ok (.iadd, 1) := by decide +kernel
theorem dX6_countChances_19 : decode cX6_countChances 19 = .ok (.ishl, 1) := by decide +kernel
theorem dX6_countChances_20 : decode cX6_countChances 20 = .ok (.if_icmp .ge 46, 3) := by decide +kernel
theorem dX6_countChances_23 : decode cX6_countChances 23 = .ok (.aload_n 0, 1) := by decide +kernel
theorem dX6_countChances_24 : decode cX6_countChances 24 = .ok (.getfield 50, 3) := by decide +kernel
theorem dX6_countChances_27 : decode cX6_countChances 27 = .ok (.iload_n 2, 1) := by decide +kernel
theorem dX6_countChances_28 : decode cX6_countChances 28 = .ok (.putfield 385, 3) := by decide +kernel
theorem dX6_countChances_31 : decode cX6_countChances 31 = .ok (.aload_n 0, 1) := by decide +kernel
theorem dX6_countChances_32 : decode cX6_countChances 32 = .ok (.getfield 57, 3) := by decide +kernel
theorem dX6_countChances_35 : decode cX6_countChances 35 = .ok (.aload_n 0, 1) := by decide +kernel
theorem dX6_countChances_36 : decode cX6_countChances 36 = .ok (.getfield 50, 3) := by decide +kernel
theorem dX6_countChances_39 : decode cX6_countChances 39 = .ok (.invokevirtual 196, 3) := by decide +kernel
theorem dX6_countChances_42 : decode cX6_countChances 42 = .ok (.aload_n 0, 1) := by decide +kernel
theorem dX6_countChances_43 : decode cX6_countChances 43 = .ok (.getfield 64, 3) := by decide +kernel
theorem dX6_countChances_46 : decode cX6_countChances 46 = .ok (.iload_n 2, 1) := by decide +kernel
theorem dX6_countChances_47 : decode cX6_countChances 47 = .ok (.invokestatic 171, 3) := by decide +kernel
theorem dX6_countChances_50 : decode cX6_countChances 50 = .ok (.aload_n 0, 1) := by decide +kernel
theorem dX6_countChances_51 : decode cX6_countChances 51 = .ok (.getfield 57, 3) := by decide +kernel
theorem dX6_countChances_54 : decode cX6_countChances 54 = .ok (.getfield 161, 3) := by decide +kernel
theorem dX6_countChances_57 : decode cX6_countChances 57 = .ok (.invokevirtual 387, 3) := by decide +kernel
theorem dX6_countChances_60 : decode cX6_countChances 60 = .ok (.iinc 2 1, 3) := by decide +kernel
theorem dX6_countChances_63 : decode cX6_countChances 63 = .ok (.goto (-49), 3) := by decide +kernel
theorem dX6_countChances_66 : decode cX6_countChances 66 = .ok (.return_, 1) := by decide +kernel
end
section
theorem dX7_init_0 : decode cX7_init 0 = .ok (.aload_n 0, 1) := by decide +kernel
theorem dX7_init_1 : decode cX7_init 1 = .ok (.invokespecial 1, 3) := by decide +kernel
theorem dX7_init_4 : decode cX7_init 4 = .ok (.aload_n 0, 1) := by decide +kernel
theorem dX7_init_5 : decode cX7_init 5 = .ok (.iconst 4, 1) := by decide +kernel
theorem dX7_init_6 : decode cX7_init 6 = .ok (.newarray .int, 2) := by decide +kernel
theorem dX7_init_8 : decode cX7_init 8 = .ok (.putfield 7, 3) := by decide +kernel
theorem dX7_init_11 : decode cX7_init 11 = .ok (.aload_n 0, 1) := by decide +kernel
theorem dX7_init_12 : decode cX7_init 12 = .ok (.iconst 4, 1) := by decide +kernel
theorem dX7_init_13 : decode cX7_init 13 = .ok (.newarray .int, 2) := by decide +kernel
theorem dX7_init_15 : decode cX7_init 15 = .ok (.putfield 13, 3) := by decide +kernel
theorem dX7_init_18 : decode cX7_init 18 = .ok (.aload_n 0, 1) := by decide +kernel
theorem dX7_init_19 : decode cX7_init 19 = .ok (.sipush 240, 3) := by decide +kernel
theorem dX7_init_22 : decode cX7_init 22 = .ok (.newarray .int, 2) := by decide +kernel
theorem dX7_init_24 : decode cX7_init 24 = .ok (.putfield 16, 3) := by decide +kernel
theorem dX7_init_27 : decode cX7_init 27 = .ok (.aload_n 0, 1) := by decide +kernel
theorem dX7_init_28 : decode cX7_init 28 = .ok (.bipush 60, 2) := by decide +kernel
theorem dX7_init_30 : decode cX7_init 30 = .ok (.newarray .int, 2) := by decide +kernel
theorem dX7_init_32 : decode cX7_init 32 = .ok (.putfield 19, 3) := by decide +kernel
theorem dX7_init_35 : decode cX7_init 35 = .ok (.aload_n 0, 1) := by decide +kernel
theorem dX7_init_36 : decode cX7_init 36 = .ok (.bipush 80, 2) := by decide +kernel
theorem dX7_init_38 : decode cX7_init 38 = .ok (.newarray .int, 2) := by decide +kernel
theorem dX7_init_40 : decode cX7_init 40 = .ok (.putfield 22, 3) := by decide +kernel
theorem dX7_init_43 : decode cX7_init 43 = .ok (.aload_n 0, 1) := by decide +kernel
theorem dX7_init_44 : decode cX7_init 44 = .ok (.iconst 2, 1) := by decide +kernel
theorem dX7_init_45 : decode cX7_init 45 = .ok (.newarray .int, 2) := by decide +kernel
theorem dX7_init_47 : decode cX7_init 47 = .ok (.putfield 25, 3) := by decide +kernel
theorem dX7_init_50 : decode cX7_init 50 = .ok (.aload_n 0, 1) := by decide +kernel
theorem dX7_init_51 : decode cX7_init 51 = .ok (.bipush 16, 2) := by decide +kernel
theorem dX7_init_53 : decode cX7_init 53 = .ok (.newarray .int, 2) := by decide +kernel
theorem dX7_init_55 : decode cX7_init 55 = .ok (.putfield 28, 3) := by decide +kernel
theorem dX7_init_58 : decode cX7_init 58 = .ok (.aload_n 0, 1) := by decide +kernel
theorem dX7_init_59 : decode cX7_init 59 = .ok (.bipush 24, 2) := by decide +kernel
theorem dX7_init_61 : decode cX7_init 61 = .ok (.newarray .int, 2) := by decide +kernel
theorem dX7_init_63 : decode cX7_init 63 = .ok (.putfield 31, 3) := by decide +kernel
theorem dX7_init_66 : decode cX7_init 66 = .ok (.aload_n 0, 1) := by decide +kernel
theorem dX7_init_67 : decode cX7_init 67 = .ok (.iconst 2, 1) := by decide +kernel
theorem dX7_init_68 : decode cX7_init 68 = .ok (.newarray .int, 2) := by decide +kernel
theorem dX7_init_70 : decode cX7_init 70 = .ok (.putfield 34, 3) := by decide +kernel
theorem dX7_init_73 : decode cX7_init 73 = .ok (.aload_n 0, 1) := by decide +kernel
theorem dX7_init_74 : decode cX7_init 74 = .ok (.bipush 12, 2) := by decide +kernel
theorem dX7_init_76 : decode cX7_init 76 = .ok (.newarray .int, 2) := by decide +kernel
theorem dX7_init_78 : decode cX7_init 78 = .ok (.putfield 37, 3) := by decide +kernel
theorem dX7_init_81 : decode cX7_init 81 = .ok (.aload_n 0, 1) := by decide +kernel
theorem dX7_init_82 : decode cX7_init 82 = .ok (.bipush 16, 2) := by decide +kernel
theorem dX7_init_84 : decode cX7_init 84 = .ok (.newarray .int, 2) := by decide +kernel
theorem dX7_init_86 : decode cX7_init 86 = .ok (.putfield 40, 3) := by decide +kernel
theorem dX7_init_89 : decode cX7_init 89 = .ok (.aload_n 0, 1) := by decide +kernel
theorem dX7_init_90 : decode cX7_init 90 = .ok (.bipush 8, 2) := by decide +kernel
theorem dX7_init_92 : decode cX7_init 92 = .ok (.newarray .int, 2) := by decide +kernel
theorem dX7_init_94 : decode cX7_init 94 = .ok (.putfield 43, 3) := by decide +kernel
theorem dX7_init_97 : decode cX7_init 97 = .ok (.aload_n 0, 1) := by decide +kernel
theorem dX7_init_98 : decode cX7_init 98 = .ok (.bipush 8, 2) := by decide +kernel
theorem dX7_init_100 : decode cX7_init 100 = .ok (.newarray .int, 2) := by decide +kernel
theorem dX7_init_102 : decode cX7_init 102 = .ok (.putfield 46, 3) := by decide +kernel
theorem dX7_init_105 : decode cX7_init 105 = .ok (.aload_n 0, 1) := by decide +kernel
theorem dX7_init_106 : decode cX7_init 106 = .ok (.bipush 8, 2) := by decide +kernel
theorem dX7_init_108 : decode cX7_init 108 = .ok (.newarray .int, 2) := by decide +kernel
theorem dX7_init_110 : decode cX7_init 110 = .ok (.putfield 49, 3) := by decide +kernel
theorem dX7_init_113 : decode cX7_init 113 = .ok (.aload_n 0, 1) := by decide +kernel
theorem dX7_init_114 : decode cX7_init 114 = .ok (.bipush 8, 2) := by decide +kernel
theorem dX7_init_116 : decode cX7_init 116 = .ok (.newarray .int, 2) := by decide +kernel
theorem dX7_init_118 : decode cX7_init 118 = .ok (.putfield 52, 3) := by decide +kernel
theorem dX7_init_121 : decode cX7_init 121 = .ok (.aload_n 0, 1) := by decide +kernel
theorem dX7_init_122 : decode cX7_init 122 = .ok (.bipush 8, 2) := by decide +kernel
theorem dX7_init_124 : decode cX7_init 124 = .ok (.newarray .int, 2) := by decide +kernel
theorem dX7_init_126 : decode cX7_init 126 = .ok (.putfield 55, 3) := by decide +kernel
theorem dX7_init_129 : decode cX7_init 129 = .ok (.aload_n 0, 1) := by decide +kernel
theorem dX7_init_130 : decode cX7_init 130 = .ok (.bipush 8, 2) := by decide +kernel
theorem dX7_init_132 : decode cX7_init 132 = .ok (.newarray .int, 2) := by decide +kernel
theorem dX7_init_134 : decode cX7_init 134 = .ok (.putfield 58, 3) := by decide +kernel
theorem dX7_init_137 : decode cX7_init 137 = .ok (.aload_n 0, 1) := by decide +kernel
theorem dX7_init_138 : decode cX7_init 138 = .ok (.bipush 8, 2) := by decide +kernel
theorem dX7_init_140 : decode cX7_init 140 = .ok (.newarray .int, 2) := by decide +kernel
theorem dX7_init_142 : decode cX7_init 142 = .ok (.putfield 61, 3) := by decide +kernel
theorem dX7_init_145 : decode cX7_init 145 = .ok (.aload_n 0, 1) := by decide +kernel
theorem dX7_init_146 : decode cX7_init 146 = .ok (.sipush 256, 3) := by decide +kernel
theorem dX7_init_149 : decode cX7_init 149 = .ok (.newarray .int, 2) := by decide +kernel
theorem dX7_init_151 : decode cX7_init 151 = .ok (.putfield 64, 3) := by decide +kernel
theorem dX7_init_154 : decode cX7_init 154 = .ok (.aload_n 0, 1) := by decide +kernel
theorem dX7_init_155 : decode cX7_init 155 = .ok (.bipush 16, 2) := by decide +kernel
theorem dX7_init_157 : decode cX7_init 157 = .ok (.newarray .int, 2) := by decide +kernel
theorem dX7_init_159 : decode cX7_init 159 = .ok (.putfield 67, 3) := by decide +kernel
theorem dX7_init_162 : decode cX7_init 162 = .ok (.aload_n 0, 1) := by decide +kernel
theorem dX7_init_163 : decode cX7_init 163 = .ok (.bipush 72, 2) := by decide +kernel
theorem dX7_init_165 : decode cX7_init 165 = .ok (.newarray .int, 2) := by decide +kernel
theorem dX7_init_167 : decode cX7_init 167 = .ok (.putfield 70, 3) := by decide +kernel
theorem dX7_init_170 : decode cX7_init 170 = .ok (.iconst 0, 1) := by decide +kernel
theorem dX7_init_171 : decode cX7_init 171 = .ok (.istore_n 1, 1) := by decide +kernel
theorem dX7_init_172 : decode cX7_init 172 = .ok (.iload_n 1, 1) := by decide +kernel
theorem dX7_init_173 : decode cX7_init 173 = .ok (.iconst 4, 1) := by decide +kernel
theorem dX7_init_174 : decode cX7_init 174 = .ok (.if_icmp .ge 16, 3) := by decide +kernel
theorem dX7_init_177 : decode cX7_init 177 = .ok (.aload_n 0, 1) := by decide +kernel
theorem dX7_init_178 : decode cX7_init 178 = .ok (.getfield 7, 3) := by decide +kernel
theorem dX7_init_181 : decode cX7_init 181 = .ok (.iload_n 1, 1) := by decide +kernel
theorem dX7_init_182 : decode cX7_init 182 = .ok (.iconst (-1), 1) := by decide +kernel
theorem dX7_init_183 : decode cX7_init 183 = .ok (.iastore, 1) := by decide +kernel
theorem dX7_init_184 : decode cX7_init 184 = .ok (.iinc 1 1, 3) := by decide +kernel
theorem dX7_init_187 : decode cX7_init 187 = .ok (.goto (-15), 3) := by decide +kernel
theorem dX7_init_190 : decode cX7_init 190 = .ok (.aload_n 0, 1) := by decide +kernel
theorem dX7_init_191 : decode cX7_init 191 = .ok (.iconst (-1), 1) := by decide +kernel
theorem dX7_init_192 : decode cX7_init 192 = .ok (.putfield 73, 3) := by decide +kernel
theorem dX7_init_195 : decode cX7_init 195 = .ok (.return_, 1) := by decide +kernel
theorem dX7_in_0 : decode cX7_in 0 = .ok (.lload_n 0, 1) := by decide +kernel
theorem dX7_in_1 : decode cX7_in 1 = .ok (.lload_n 2, 1) := by decide +kernel
theorem dX7_in_2 : decode cX7_in 2 = .ok (.lcmp, 1) := by decide +kernel
theorem dX7_in_3 : decode cX7_in 3 = .ok (.ifCond .lt 14, 3) := by decide +kernel
theorem dX7_in_6 : decode cX7_in 6 = .ok (.lload_n 0, 1) := by decide +kernel
theorem dX7_in_7 : decode cX7_in 7 = .ok (.lload 4, 2) := by decide +kernel
theorem dX7_in_9 : decode cX7_in 9 = .ok (.lcmp, 1) := by decide +kernel
theorem dX7_in_10 : decode cX7_in 10 = .ok (.ifCond .gt 7, 3) := by decide +kernel
theorem dX7_in_13 : decode cX7_in 13 = .ok (.iconst 1, 1) := by decide +kernel
theorem dX7_in_14 : decode cX7_in 14 = .ok (.goto 4, 3) := by decide +kernel
theorem dX7_in_17 : decode cX7_in 17 = .ok (.iconst 0, 1) := by decide +kernel
theorem dX7_in_18 : decode cX7_in 18 = .ok (.ireturn, 1) := by decide +kernel
theorem dX7_no_0 : decode cX7_no 0 = .ok (.ldc2_w 77, 3) := by decide +kernel
theorem dX7_no_3 : decode cX7_no 3 = .ok (.iload_n 0, 1) := by decide +kernel
theorem dX7_no_4 : decode cX7_no 4 = .ok (.i2l, 1) := by decide +kernel
theorem dX7_no_5 : decode cX7_no 5 = .ok (.lsub, 1) := by decide +kernel
theorem dX7_no_6 : decode cX7_no 6 = .ok (.lreturn, 1) := by decide +kernel
theorem dX7_isTwo_0 : decode cX7_isTwo 0 = .ok (.iload_n 0, 1) := by decide +kernel
theorem dX7_isTwo_1 : decode cX7_isTwo 1 = .ok (.i2l, 1) := by decide +kernel
theorem dX7_isTwo_2 : decode cX7_isTwo 2 = .ok (.lconst 0, 1) := by decide +kernel
theorem dX7_isTwo_3 : decode cX7_isTwo 3 = .ok (.lconst 1, 1) := by decide +kernel
theorem dX7_isTwo_4 : decode cX7_isTwo 4 = .ok (.invokestatic 79, 3) := by decide +kernel
theorem dX7_isTwo_7 : decode cX7_isTwo 7 = .ok (.ireturn, 1) := by decide +kernel
theorem dX7_isIn_0 : decode cX7_isIn 0 = .ok (.iload_n 0, 1) := by decide +kernel
theorem dX7_isIn_1 : decode cX7_isIn 1 = .ok (.iload_n 1, 1) := by decide +kernel
theorem dX7_isIn_2 : decode cX7_isIn 2 = .ok (.ishr, 1) := by decide +kernel
theorem dX7_isIn_3 : decode cX7_isIn 3 = .ok (.iconst 1, 1) := by decide +kernel
theorem dX7_isIn_4 : decode cX7_isIn 4 = .ok (.iand, 1) := by decide +kernel
theorem dX7_isIn_5 : decode cX7_isIn 5 = .ok (.iconst 1, 1) := by decide +kernel
theorem dX7_isIn_6 : decode cX7_isIn 6 = .ok (.if_icmp .ne 7, 3) := by decide +kernel
theorem dX7_isIn_9 : decode cX7_isIn 9 = .ok (.iconst 1, 1) := by decide +kernel
theorem dX7_isIn_10 : decode cX7_isIn 10 = .ok (.goto 4, 3) := by decide +kernel
theorem dX7_isIn_13 : decode cX7_isIn 13 = .ok (.iconst 0, 1) := by decide +kernel
theorem dX7_isIn_14 : decode cX7_isIn 14 = .ok (.ireturn, 1) := by decide +kernel
theorem dX7_ones_0 : decode cX7_ones 0 = .ok (.iconst 0, 1) := by decide +kernel
theorem dX7_ones_1 : decode cX7_ones 1 = .ok (.istore_n 1, 1) := by decide +kernel
theorem dX7_ones_2 : decode cX7_ones 2 = .ok (.iload_n 0, 1) := by decide +kernel
theorem dX7_ones_3 : decode cX7_ones 3 = .ok (.istore_n 2, 1) := by decide +kernel
theorem dX7_ones_4 : decode cX7_ones 4 = .ok (.iload_n 2, 1) := by decide +kernel
theorem dX7_ones_5 : decode cX7_ones 5 = .ok (.ifCond .eq 15, 3) := by decide +kernel
theorem dX7_ones_8 : decode cX7_ones 8 = .ok (.iinc 1 1, 3) := by decide +kernel
theorem dX7_ones_11 : decode cX7_ones 11 = .ok (.iload_n 2, 1) := by decide +kernel
theorem dX7_ones_12 : decode cX7_ones 12 = .ok (.iload_n 2, 1) := by decide +kernel
theorem dX7_ones_13 : decode cX7_ones 13 = .ok (.iconst 1, 1) := by decide +kernel
theorem dX7_ones_14 : decode cX7_ones 14 = .ok (.isub, 1) := by decide +kernel
theorem dX7_ones_15 : decode cX7_ones 15 = .ok (.iand, 1) := by decide +kernel
theorem dX7_ones_16 : decode cX7_ones 16 = .ok (.istore_n 2, 1) := by decide +kernel
theorem dX7_ones_17 : decode cX7_ones 17 = .ok (.goto (-13), 3) := by decide +kernel
theorem dX7_ones_20 : decode cX7_ones 20 = .ok (.iload_n 1, 1) := by decide +kernel
theorem dX7_ones_21 : decode cX7_ones 21 = .ok (.ireturn, 1) := by decide +kernel
theorem dX7_lesser_0 : decode cX7_lesser 0 = .ok (.iload_n 0, 1) := by decide +kernel
theorem dX7_lesser_1 : decode cX7_lesser 1 = .ok (.iload_n 1, 1) := by decide +kernel
theorem dX7_lesser_2 : decode cX7_lesser 2 = .ok (.if_icmp .ge 7, 3) := by decide +kernel
theorem dX7_lesser_5 : decode cX7_lesser 5 = .ok (.iload_n 0, 1) := by decide +kernel
theorem dX7_lesser_6 : decode cX7_lesser 6 = .ok (.goto 4, 3) := by decide +kernel
theorem dX7_lesser_9 : decode cX7_lesser 9 = .ok (.iload_n 1, 1) := by decide +kernel
theorem dX7_lesser_10 : decode cX7_lesser 10 = .ok (.ireturn, 1) := by decide +kernel
theorem dX7_greater_0 : decode cX7_greater 0 = .ok (.iload_n 0, 1) := by decide +kernel
theorem dX7_greater_1 : decode cX7_greater 1 = .ok (.iload_n 1, 1) := by decide +kernel
theorem dX7_greater_2 : decode cX7_greater 2 = .ok (.if_icmp .le 7, 3) := by decide +kernel
theorem dX7_greater_5 : decode cX7_greater 5 = .ok (.iload_n 0, 1) := by decide +kernel
theorem dX7_greater_6 : decode cX7_greater 6 = .ok (.goto 4, 3) := by decide +kernel
theorem dX7_greater_9 : decode cX7_greater 9 = .ok (.iload_n 1, 1) := by decide +kernel
theorem dX7_greater_10 : decode cX7_greater 10 = .ok (.ireturn, 1) := by decide +kernel
theorem dX7_part_0 : decode cX7_part 0 = .ok (.lload_n 0, 1) := by decide +kernel
theorem dX7_part_1 : decode cX7_part 1 = .ok (.lstore 5, 2) := by decide +kernel
theorem dX7_part_3 : decode cX7_part 3 = .ok (.lload_n 2, 1) := by decide +kernel
theorem dX7_part_4 : decode cX7_part 4 = .ok (.lstore 7, 2) := by decide +kernel
theorem dX7_part_6 : decode cX7_part 6 = .ok (.lload 7, 2) := by decide +kernel
theorem dX7_part_8 : decode cX7_part 8 = .ok (.lconst 0, 1) := by decide +kernel
theorem dX7_part_9 : decode cX7_part 9 = .ok (.lcmp, 1) := by decide +kernel
theorem dX7_part_10 : decode cX7_part 10 = .ok (.ifCond .eq 21, 3) := by decide +kernel
theorem dX7_part_13 : decode cX7_part 13 = .ok (.lload 5, 2) := by decide +kernel
theorem dX7_part_15 : decode cX7_part 15 = .ok (.lload 7, 2) := by decide +kernel
theorem dX7_part_17 : decode cX7_part 17 = .ok (.lrem, 1) := by decide +kernel
theorem dX7_part_18 : decode cX7_part 18 = .ok (.lstore 9, 2) := by decide +kernel
theorem dX7_part_20 : decode cX7_part 20 = .ok (.lload 7, 2) := by decide +kernel
theorem dX7_part_22 : decode cX7_part 22 = .ok (.lstore 5, 2) := by decide +kernel
theorem dX7_part_24 : decode cX7_part 24 = .ok (.lload 9, 2) := by decide +kernel
theorem dX7_part_26 : decode cX7_part 26 = .ok (.lstore 7, 2) := by decide +kernel
theorem dX7_part_28 : decode cX7_part 28 = .ok (.goto (-22), 3) := by decide +kernel
theorem dX7_part_31 : decode cX7_part 31 = .ok (.iload 4, 2) := by decide +kernel
theorem dX7_part_33 : decode cX7_part 33 = .ok (.ifCond .ne 7, 3) := by decide +kernel
theorem dX7_part_36 : decode cX7_part 36 = .ok (.lload_n 0, 1) := by decide +kernel
theorem dX7_part_37 : decode cX7_part 37 = .ok (.goto 4, 3) := by decide +kernel
theorem dX7_part_40 : decode cX7_part 40 = .ok (.lload_n 2, 1) := by decide +kernel
theorem dX7_part_41 : decode cX7_part 41 = .ok (.lload 5, 2) := by decide +kernel
theorem dX7_part_43 : decode cX7_part 43 = .ok (.ldiv, 1) := by decide +kernel
theorem dX7_part_44 : decode cX7_part 44 = .ok (.lreturn, 1) := by decide +kernel
theorem dX7_finds_0 : decode cX7_finds 0 = .ok (.aload_n 0, 1) := by decide +kernel
theorem dX7_finds_1 : decode cX7_finds 1 = .ok (.iload_n 1, 1) := by decide +kernel
theorem dX7_finds_2 : decode cX7_finds 2 = .ok (.putfield 83, 3) := by decide +kernel
theorem dX7_finds_5 : decode cX7_finds 5 = .ok (.bipush (-10), 2) := by decide +kernel
theorem dX7_finds_7 : decode cX7_finds 7 = .ok (.iload_n 1, 1) := by decide +kernel
theorem dX7_finds_8 : decode cX7_finds 8 = .ok (.isub, 1) := by decide +kernel
theorem dX7_finds_9 : decode cX7_finds 9 = .ok (.ireturn, 1) := by decide +kernel
theorem dX7_isSheet_0 : decode cX7_isSheet 0 = .ok (.iload_n 0, 1) := by decide +kernel
theorem dX7_isSheet_1 : decode cX7_isSheet 1 = .ok (.i2l, 1) := by decide +kernel
theorem dX7_isSheet_2 : decode cX7_isSheet 2 = .ok (.lconst 0, 1) := by decide +kernel
theorem dX7_isSheet_3 : decode cX7_isSheet 3 = .ok (.ldc2_w 86, 3) := by decide +kernel
theorem dX7_isSheet_6 : decode cX7_isSheet 6 = .ok (.invokestatic 79, 3) := by decide +kernel
theorem dX7_isSheet_9 : decode cX7_isSheet 9 = .ok (.ireturn, 1) := by decide +kernel
theorem dX7_sheet_0 : decode cX7_sheet 0 = .ok (.iload_n 1, 1) := by decide +kernel
theorem dX7_sheet_1 : decode cX7_sheet 1 = .ok (.invokestatic 88, 3) := by decide +kernel
theorem dX7_sheet_4 : decode cX7_sheet 4 = .ok (.ifCond .eq 21, 3) := by decide +kernel
theorem dX7_sheet_7 : decode cX7_sheet 7 = .ok (.iload_n 2, 1) := by decide +kernel
theorem dX7_sheet_8 : decode cX7_sheet 8 = .ok (.i2l, 1) := by decide +kernel
theorem dX7_sheet_9 : decode cX7_sheet 9 = .ok (.lconst 0, 1) := by decide +kernel
theorem dX7_sheet_10 : decode cX7_sheet 10 = .ok (.ldc2_w 92, 3) := by decide +kernel
theorem dX7_sheet_13 : decode cX7_sheet 13 = .ok (.invokestatic 79, 3) := by decide +kernel
theorem dX7_sheet_16 : decode cX7_sheet 16 = .ok (.ifCond .eq 9, 3) := by decide +kernel
theorem dX7_sheet_19 : decode cX7_sheet 19 = .ok (.iload_n 3, 1) := by decide +kernel
theorem dX7_sheet_20 : decode cX7_sheet 20 = .ok (.bipush 60, 2) := by decide +kernel
theorem dX7_sheet_22 : decode cX7_sheet 22 = .ok (.if_icmp .le 6, 3) := by decide +kernel
theorem dX7_sheet_25 : decode cX7_sheet 25 = .ok (.bipush (-2), 2) := by decide +kernel
theorem dX7_sheet_27 : decode cX7_sheet 27 = .ok (.ireturn, 1) := by decide +kernel
theorem dX7_sheet_28 : decode cX7_sheet 28 = .ok (.iload_n 3, 1) := by decide +kernel
theorem dX7_sheet_29 : decode cX7_sheet 29 = .ok (.ifCond .ge 9, 3) := by decide +kernel
theorem dX7_sheet_32 : decode cX7_sheet 32 = .ok (.aload_n 0, 1) := by decide +kernel
theorem dX7_sheet_33 : decode cX7_sheet 33 = .ok (.iconst 5, 1) := by decide +kernel
theorem dX7_sheet_34 : decode cX7_sheet 34 = .ok (.invokevirtual 94, 3) := by decide +kernel
theorem dX7_sheet_37 : decode cX7_sheet 37 = .ok (.ireturn, 1) := by decide +kernel
theorem dX7_sheet_38 : decode cX7_sheet 38 = .ok (.aload_n 0, 1) := by decide +kernel
theorem dX7_sheet_39 : decode cX7_sheet 39 = .ok (.getfield 7, 3) := by decide +kernel
theorem dX7_sheet_42 : decode cX7_sheet 42 = .ok (.iload_n 1, 1) := by decide +kernel
theorem dX7_sheet_43 : decode cX7_sheet 43 = .ok (.iload_n 2, 1) := by decide +kernel
theorem dX7_sheet_44 : decode cX7_sheet 44 = .ok (.iastore, 1) := by decide +kernel
theorem dX7_sheet_45 : decode cX7_sheet 45 = .ok (.aload_n 0, 1) := by decide +kernel
theorem dX7_sheet_46 : decode cX7_sheet 46 = .ok (.getfield 13, 3) := by decide +kernel
theorem dX7_sheet_49 : decode cX7_sheet 49 = .ok (.iload_n 1, 1) := by decide +kernel
theorem dX7_sheet_50 : decode cX7_sheet 50 = .ok (.iload_n 3, 1) := by decide +kernel
theorem dX7_sheet_51 : decode cX7_sheet 51 = .ok (.iastore, 1) := by decide +kernel
theorem dX7_sheet_52 : decode cX7_sheet 52 = .ok (.iconst 0, 1) := by decide +kernel
theorem dX7_sheet_53 : decode cX7_sheet 53 = .ok (.istore 4, 2) := by decide +kernel
theorem dX7_sheet_55 : decode cX7_sheet 55 = .ok (.iload 4, 2) := by decide +kernel
theorem dX7_sheet_57 : decode cX7_sheet 57 = .ok (.iload_n 3, 1) := by decide +kernel
theorem dX7_sheet_58 : decode cX7_sheet 58 = .ok (.if_icmp .ge 22, 3) := by decide +kernel
theorem dX7_sheet_61 : decode cX7_sheet 61 = .ok (.aload_n 0, 1) := by decide +kernel
theorem dX7_sheet_62 : decode cX7_sheet 62 = .ok (.getfield 16, 3) := by decide +kernel
theorem dX7_sheet_65 : decode cX7_sheet 65 = .ok (.bipush 60, 2) := by decide +kernel
theorem dX7_sheet_67 : decode cX7_sheet 67 = .ok (.iload_n 1, 1) := by decide +kernel
theorem dX7_sheet_68 : decode cX7_sheet 68 = .ok (.imul, 1) := by decide +kernel
theorem dX7_sheet_69 : decode cX7_sheet 69 = .ok (.iload 4, 2) := by decide +kernel
theorem dX7_sheet_71 : decode cX7_sheet 71 = .ok (.iadd, 1) := by decide +kernel
theorem dX7_sheet_72 : decode cX7_sheet 72 = .ok (.iconst 0, 1) := by decide +kernel
theorem dX7_sheet_73 : decode cX7_sheet 73 = .ok (.iastore, 1) := by decide +kernel
theorem dX7_sheet_74 : decode cX7_sheet 74 = .ok (.iinc 4 1, 3) := by decide +kernel
theorem dX7_sheet_77 : decode cX7_sheet 77 = .ok (.goto (-22), 3) := by decide +kernel
theorem dX7_sheet_80 : decode cX7_sheet 80 = .ok (.iload_n 3, 1) := by decide +kernel
theorem dX7_sheet_81 : decode cX7_sheet 81 = .ok (.ireturn, 1) := by decide +kernel
theorem dX7_lose_0 : decode cX7_lose 0 = .ok (.iload_n 1, 1) := by decide +kernel
theorem dX7_lose_1 : decode cX7_lose 1 = .ok (.invokestatic 88, 3) := by decide +kernel
theorem dX7_lose_4 : decode cX7_lose 4 = .ok (.ifCond .ne 6, 3) := by decide +kernel
theorem dX7_lose_7 : decode cX7_lose 7 = .ok (.bipush (-2), 2) := by decide +kernel
theorem dX7_lose_9 : decode cX7_lose 9 = .ok (.ireturn, 1) := by decide +kernel
theorem dX7_lose_10 : decode cX7_lose 10 = .ok (.aload_n 0, 1) := by decide +kernel
theorem dX7_lose_11 : decode cX7_lose 11 = .ok (.getfield 7, 3) := by decide +kernel
theorem dX7_lose_14 : decode cX7_lose 14 = .ok (.iload_n 1, 1) := by decide +kernel
theorem dX7_lose_15 : decode cX7_lose 15 = .ok (.iaload, 1) := by decide +kernel
theorem dX7_lose_16 : decode cX7_lose 16 = .ok (.ifCond .ge 9, 3) := by decide +kernel
theorem dX7_lose_19 : decode cX7_lose 19 = .ok (.aload_n 0, 1) := by decide +kernel
theorem dX7_lose_20 : decode cX7_lose 20 = .ok (.iconst 1, 1) := by decide +kernel
theorem dX7_lose_21 : decode cX7_lose 21 = .ok (.invokevirtual 94, 3) := by decide +kernel
theorem dX7_lose_24 : decode cX7_lose 24 = .ok (.ireturn, 1) := by decide +kernel
theorem dX7_lose_25 : decode cX7_lose 25 = .ok (.aload_n 0, 1) := by decide +kernel
theorem dX7_lose_26 : decode cX7_lose 26 = .ok (.getfield 7, 3) := by decide +kernel
theorem dX7_lose_29 : decode cX7_lose 29 = .ok (.iload_n 1, 1) := by decide +kernel
theorem dX7_lose_30 : decode cX7_lose 30 = .ok (.iconst (-1), 1) := by decide +kernel
theorem dX7_lose_31 : decode cX7_lose 31 = .ok (.iastore, 1) := by decide +kernel
theorem dX7_lose_32 : decode cX7_lose 32 = .ok (.aload_n 0, 1) := by decide +kernel
theorem dX7_lose_33 : decode cX7_lose 33 = .ok (.getfield 13, 3) := by decide +kernel
theorem dX7_lose_36 : decode cX7_lose 36 = .ok (.iload_n 1, 1) := by decide +kernel
theorem dX7_lose_37 : decode cX7_lose 37 = .ok (.iaload, 1) := by decide +kernel
theorem dX7_lose_38 : decode cX7_lose 38 = .ok (.ireturn, 1) := by decide +kernel
theorem dX7_lacks_0 : decode cX7_lacks 0 = .ok (.aload_n 0, 1) := by decide +kernel
theorem dX7_lacks_1 : decode cX7_lacks 1 = .ok (.getfield 7, 3) := by decide +kernel
theorem dX7_lacks_4 : decode cX7_lacks 4 = .ok (.iload_n 1, 1) := by decide +kernel
theorem dX7_lacks_5 : decode cX7_lacks 5 = .ok (.iaload, 1) := by decide +kernel
theorem dX7_lacks_6 : decode cX7_lacks 6 = .ok (.ifCond .ge 9, 3) := by decide +kernel
theorem dX7_lacks_9 : decode cX7_lacks 9 = .ok (.aload_n 0, 1) := by decide +kernel
theorem dX7_lacks_10 : decode cX7_lacks 10 = .ok (.iconst 1, 1) := by decide +kernel
theorem dX7_lacks_11 : decode cX7_lacks 11 = .ok (.invokevirtual 94, 3) := by decide +kernel
theorem dX7_lacks_14 : decode cX7_lacks 14 = .ok (.ireturn, 1) := by decide +kernel
theorem dX7_lacks_15 : decode cX7_lacks 15 = .ok (.aload_n 0, 1) := by decide +kernel
theorem dX7_lacks_16 : decode cX7_lacks 16 = .ok (.getfield 7, 3) := by decide +kernel
theorem dX7_lacks_19 : decode cX7_lacks 19 = .ok (.iload_n 1, 1) := by decide +kernel
theorem dX7_lacks_20 : decode cX7_lacks 20 = .ok (.iaload, 1) := by decide +kernel
theorem dX7_lacks_21 : decode cX7_lacks 21 = .ok (.iload_n 2, 1) := by decide +kernel
theorem dX7_lacks_22 : decode cX7_lacks 22 = .ok (.if_icmp .eq 9, 3) := by decide +kernel
theorem dX7_lacks_25 : decode cX7_lacks 25 = .ok (.aload_n 0, 1) := by decide +kernel
theorem dX7_lacks_26 : decode cX7_lacks 26 = .ok (.iconst 3, 1) := by decide +kernel
theorem dX7_lacks_27 : decode cX7_lacks 27 = .ok (.invokevirtual 94, 3) := by decide +kernel
theorem dX7_lacks_30 : decode cX7_lacks 30 = .ok (.ireturn, 1) := by decide +kernel
theorem dX7_lacks_31 : decode cX7_lacks 31 = .ok (.iload_n 3, 1) := by decide +kernel
theorem dX7_lacks_32 : decode cX7_lacks 32 = .ok (.i2l, 1) := by decide +kernel
theorem dX7_lacks_33 : decode cX7_lacks 33 = .ok (.lconst 0, 1) := by decide +kernel
theorem dX7_lacks_34 : decode cX7_lacks 34 = .ok (.aload_n 0, 1) := by decide +kernel
theorem dX7_lacks_35 : decode cX7_lacks 35 = .ok (.getfield 13, 3) := by decide +kernel
theorem dX7_lacks_38 : decode cX7_lacks 38 = .ok (.iload_n 1, 1) := by decide +kernel
theorem dX7_lacks_39 : decode cX7_lacks 39 = .ok (.iaload, 1) := by decide +kernel
theorem dX7_lacks_40 : decode cX7_lacks 40 = .ok (.iconst 1, 1) := by decide +kernel
theorem dX7_lacks_41 : decode cX7_lacks 41 = .ok (.isub, 1) := by decide +kernel
theorem dX7_lacks_42 : decode cX7_lacks 42 = .ok (.i2l, 1) := by decide +kernel
theorem dX7_lacks_43 : decode cX7_lacks 43 = .ok (.invokestatic 79, 3) := by decide +kernel
theorem dX7_lacks_46 : decode cX7_lacks 46 = .ok (.ifCond .eq 7, 3) := by decide +kernel
theorem dX7_lacks_49 : decode cX7_lacks 49 = .ok (.iconst 0, 1) := by decide +kernel
theorem dX7_lacks_50 : decode cX7_lacks 50 = .ok (.goto 8, 3) := by decide +kernel
theorem dX7_lacks_53 : decode cX7_lacks 53 = .ok (.aload_n 0, 1) := by decide +kernel
theorem dX7_lacks_54 : decode cX7_lacks 54 = .ok (.iconst 2, 1) := by decide +kernel
theorem dX7_lacks_55 : decode cX7_lacks 55 = .ok (.invokevirtual 94, 3) := by decide +kernel
theorem dX7_lacks_58 : decode cX7_lacks 58 = .ok (.ireturn, 1) := by decide +kernel
theorem dX7_cut_0 : decode cX7_cut 0 = .ok (.iload_n 0, 1) := by decide +kernel
theorem dX7_cut_1 : decode cX7_cut 1 = .ok (.ifCond .ne 8, 3) := by decide +kernel
theorem dX7_cut_4 : decode cX7_cut 4 = .ok (.iload_n 1, 1) := by decide +kernel
theorem dX7_cut_5 : decode cX7_cut 5 = .ok (.i2b, 1) := by decide +kernel
theorem dX7_cut_6 : decode cX7_cut 6 = .ok (.goto 14, 3) := by decide +kernel
theorem dX7_cut_9 : decode cX7_cut 9 = .ok (.iload_n 0, 1) := by decide +kernel
theorem dX7_cut_10 : decode cX7_cut 10 = .ok (.iconst 1, 1) := by decide +kernel
theorem dX7_cut_11 : decode cX7_cut 11 = .ok (.if_icmp .ne 8, 3) := by decide +kernel
theorem dX7_cut_14 : decode cX7_cut 14 = .ok (.iload_n 1, 1) := by decide +kernel
theorem dX7_cut_15 : decode cX7_cut 15 = .ok (.i2s, 1) := by decide +kernel
theorem dX7_cut_16 : decode cX7_cut 16 = .ok (.goto 4, 3) := by decide +kernel
theorem dX7_cut_19 : decode cX7_cut 19 = .ok (.iload_n 1, 1) := by decide +kernel
theorem dX7_cut_20 : decode cX7_cut 20 = .ok (.ireturn, 1) := by decide +kernel
theorem dX7_lay_0 : decode cX7_lay 0 = .ok (.iload_n 1, 1) := by decide +kernel
theorem dX7_lay_1 : decode cX7_lay 1 = .ok (.invokestatic 88, 3) := by decide +kernel
theorem dX7_lay_4 : decode cX7_lay 4 = .ok (.ifCond .eq 15, 3) := by decide +kernel
theorem dX7_lay_7 : decode cX7_lay 7 = .ok (.iload_n 2, 1) := by decide +kernel
theorem dX7_lay_8 : decode cX7_lay 8 = .ok (.i2l, 1) := by decide +kernel
theorem dX7_lay_9 : decode cX7_lay 9 = .ok (.lconst 0, 1) := by decide +kernel
theorem dX7_lay_10 : decode cX7_lay 10 = .ok (.ldc2_w 92, 3) := by decide +kernel
theorem dX7_lay_13 : decode cX7_lay 13 = .ok (.invokestatic 79, 3) := by decide +kernel
theorem dX7_lay_16 : decode cX7_lay 16 = .ok (.ifCond .ne 6, 3) := by decide +kernel
theorem dX7_lay_19 : decode cX7_lay 19 = .ok (.bipush (-2), 2) := by decide +kernel
theorem dX7_lay_21 : decode cX7_lay 21 = .ok (.ireturn, 1) := by decide +kernel
theorem dX7_lay_22 : decode cX7_lay 22 = .ok (.aload_n 0, 1) := by decide +kernel
theorem dX7_lay_23 : decode cX7_lay 23 = .ok (.iload_n 1, 1) := by decide +kernel
theorem dX7_lay_24 : decode cX7_lay 24 = .ok (.iload_n 2, 1) := by decide +kernel
theorem dX7_lay_25 : decode cX7_lay 25 = .ok (.iload_n 3, 1) := by decide +kernel
theorem dX7_lay_26 : decode cX7_lay 26 = .ok (.invokevirtual 98, 3) := by decide +kernel
theorem dX7_lay_29 : decode cX7_lay 29 = .ok (.istore 5, 2) := by decide +kernel
theorem dX7_lay_31 : decode cX7_lay 31 = .ok (.iload 5, 2) := by decide +kernel
theorem dX7_lay_33 : decode cX7_lay 33 = .ok (.ifCond .eq 6, 3) := by decide +kernel
theorem dX7_lay_36 : decode cX7_lay 36 = .ok (.iload 5, 2) := by decide +kernel
theorem dX7_lay_38 : decode cX7_lay 38 = .ok (.ireturn, 1) := by decide +kernel
theorem dX7_lay_39 : decode cX7_lay 39 = .ok (.aload_n 0, 1) := by decide +kernel
theorem dX7_lay_40 : decode cX7_lay 40 = .ok (.getfield 16, 3) := by decide +kernel
theorem dX7_lay_43 : decode cX7_lay 43 = .ok (.bipush 60, 2) := by decide +kernel
theorem dX7_lay_45 : decode cX7_lay 45 = .ok (.iload_n 1, 1) := by decide +kernel
theorem dX7_lay_46 : decode cX7_lay 46 = .ok (.imul, 1) := by decide +kernel
theorem dX7_lay_47 : decode cX7_lay 47 = .ok (.iload_n 3, 1) := by decide +kernel
theorem dX7_lay_48 : decode cX7_lay 48 = .ok (.iadd, 1) := by decide +kernel
theorem dX7_lay_49 : decode cX7_lay 49 = .ok (.iload_n 2, 1) := by decide +kernel
theorem dX7_lay_50 : decode cX7_lay 50 = .ok (.iload 4, 2) := by decide +kernel
theorem dX7_lay_52 : decode cX7_lay 52 = .ok (.invokestatic 102, 3) := by decide +kernel
theorem dX7_lay_55 : decode cX7_lay 55 = .ok (.iastore, 1) := by decide +kernel
theorem dX7_lay_56 : decode cX7_lay 56 = .ok (.iconst 1, 1) := by decide +kernel
theorem dX7_lay_57 : decode cX7_lay 57 = .ok (.ireturn, 1) := by decide +kernel
theorem dX7_get_0 : decode cX7_get 0 = .ok (.iload_n 1, 1) := by decide +kernel
theorem dX7_get_1 : decode cX7_get 1 = .ok (.invokestatic 88, 3) := by decide +kernel
theorem dX7_get_4 : decode cX7_get 4 = .ok (.ifCond .eq 25, 3) := by decide +kernel
theorem dX7_get_7 : decode cX7_get 7 = .ok (.iload_n 2, 1) := by decide +kernel
theorem dX7_get_8 : decode cX7_get 8 = .ok (.i2l, 1) := by decide +kernel
theorem dX7_get_9 : decode cX7_get 9 = .ok (.lconst 0, 1) := by decide +kernel
theorem dX7_get_10 : decode cX7_get 10 = .ok (.ldc2_w 92, 3) := by decide +kernel
theorem dX7_get_13 : decode cX7_get 13 = .ok (.invokestatic 79, 3) := by decide +kernel
theorem dX7_get_16 : decode cX7_get 16 = .ok (.ifCond .eq 13, 3) := by decide +kernel
theorem dX7_get_19 : decode cX7_get 19 = .ok (.aload_n 0, 1) := by decide +kernel
theorem dX7_get_20 : decode cX7_get 20 = .ok (.iload_n 1, 1) := by decide +kernel
theorem dX7_get_21 : decode cX7_get 21 = .ok (.iload_n 2, 1) := by decide +kernel
theorem dX7_get_22 : decode cX7_get 22 = .ok (.iload_n 3, 1) := by decide +kernel
theorem dX7_get_23 : decode cX7_get 23 = .ok (.invokevirtual 98, 3) := by decide +kernel
theorem dX7_get_26 : decode cX7_get 26 = .ok (.ifCond .eq 6, 3) := by decide +kernel
theorem dX7_get_29 : decode cX7_get 29 = .ok (.ldc 106, 2) := by decide +kernel
theorem dX7_get_31 : decode cX7_get 31 = .ok (.ireturn, 1) := by decide +kernel
theorem dX7_get_32 : decode cX7_get 32 = .ok (.aload_n 0, 1) := by decide +kernel
theorem dX7_get_33 : decode cX7_get 33 = .ok (.getfield 16, 3) := by decide +kernel
theorem dX7_get_36 : decode cX7_get 36 = .ok (.bipush 60, 2) := by decide +kernel
theorem dX7_get_38 : decode cX7_get 38 = .ok (.iload_n 1, 1) := by decide +kernel
theorem dX7_get_39 : decode cX7_get 39 = .ok (.imul, 1) := by decide +kernel
theorem dX7_get_40 : decode cX7_get 40 = .ok (.iload_n 3, 1) := by decide +kernel
theorem dX7_get_41 : decode cX7_get 41 = .ok (.iadd, 1) := by decide +kernel
theorem dX7_get_42 : decode cX7_get 42 = .ok (.iaload, 1) := by decide +kernel
theorem dX7_get_43 : decode cX7_get 43 = .ok (.ireturn, 1) := by decide +kernel
theorem dX7_copy_0 : decode cX7_copy 0 = .ok (.iload_n 1, 1) := by decide +kernel
theorem dX7_copy_1 : decode cX7_copy 1 = .ok (.invokestatic 88, 3) := by decide +kernel
theorem dX7_copy_4 : decode cX7_copy 4 = .ok (.ifCond .eq 10, 3) := by decide +kernel
theorem dX7_copy_7 : decode cX7_copy 7 = .ok (.iload_n 3, 1) := by decide +kernel
theorem dX7_copy_8 : decode cX7_copy 8 = .ok (.invokestatic 88, 3) := by decide +kernel
theorem dX7_copy_11 : decode cX7_copy 11 = .ok (.ifCond .ne 6, 3) := by decide +kernel
theorem dX7_copy_14 : decode cX7_copy 14 = .ok (.bipush (-2), 2) := by decide +kernel
theorem dX7_copy_16 : decode cX7_copy 16 = .ok (.ireturn, 1) := by decide +kernel
theorem dX7_copy_17 : decode cX7_copy 17 = .ok (.aload_n 0, 1) := by decide +kernel
theorem dX7_copy_18 : decode cX7_copy 18 = .ok (.getfield 7, 3) := by decide +kernel
theorem dX7_copy_21 : decode cX7_copy 21 = .ok (.iload_n 1, 1) := by decide +kernel
theorem dX7_copy_22 : decode cX7_copy 22 = .ok (.iaload, 1) := by decide +kernel
theorem dX7_copy_23 : decode cX7_copy 23 = .ok (.ifCond .lt 12, 3) := by decide +kernel
theorem dX7_copy_26 : decode cX7_copy 26 = .ok (.aload_n 0, 1) := by decide +kernel
theorem dX7_copy_27 : decode cX7_copy 27 = .ok (.getfield 7, 3) := by decide +kernel
theorem dX7_copy_30 : decode cX7_copy 30 = .ok (.iload_n 3, 1) := by decide +kernel
theorem dX7_copy_31 : decode cX7_copy 31 = .ok (.iaload, 1) := by decide +kernel
theorem dX7_copy_32 : decode cX7_copy 32 = .ok (.ifCond .ge 9, 3) := by decide +kernel
theorem dX7_copy_35 : decode cX7_copy 35 = .ok (.aload_n 0, 1) := by decide +kernel
theorem dX7_copy_36 : decode cX7_copy 36 = .ok (.iconst 1, 1) := by decide +kernel
theorem dX7_copy_37 : decode cX7_copy 37 = .ok (.invokevirtual 94, 3) := by decide +kernel
theorem dX7_copy_40 : decode cX7_copy 40 = .ok (.ireturn, 1) := by decide +kernel
theorem dX7_copy_41 : decode cX7_copy 41 = .ok (.aload_n 0, 1) := by decide +kernel
theorem dX7_copy_42 : decode cX7_copy 42 = .ok (.getfield 7, 3) := by decide +kernel
theorem dX7_copy_45 : decode cX7_copy 45 = .ok (.iload_n 1, 1) := by decide +kernel
theorem dX7_copy_46 : decode cX7_copy 46 = .ok (.iaload, 1) := by decide +kernel
theorem dX7_copy_47 : decode cX7_copy 47 = .ok (.aload_n 0, 1) := by decide +kernel
theorem dX7_copy_48 : decode cX7_copy 48 = .ok (.getfield 7, 3) := by decide +kernel
theorem dX7_copy_51 : decode cX7_copy 51 = .ok (.iload_n 3, 1) := by decide +kernel
theorem dX7_copy_52 : decode cX7_copy 52 = .ok (.iaload, 1) := by decide +kernel
theorem dX7_copy_53 : decode cX7_copy 53 = .ok (.if_icmp .eq 9, 3) := by decide +kernel
theorem dX7_copy_56 : decode cX7_copy 56 = .ok (.aload_n 0, 1) := by decide +kernel
theorem dX7_copy_57 : decode cX7_copy 57 = .ok (.iconst 4, 1) := by decide +kernel
theorem dX7_copy_58 : decode cX7_copy 58 = .ok (.invokevirtual 94, 3) := by decide +kernel
theorem dX7_copy_61 : decode cX7_copy 61 = .ok (.ireturn, 1) := by decide +kernel
theorem dX7_copy_62 : decode cX7_copy 62 = .ok (.iload_n 2, 1) := by decide +kernel
theorem dX7_copy_63 : decode cX7_copy 63 = .ok (.ifCond .lt 48, 3) := by decide +kernel
theorem dX7_copy_66 : decode cX7_copy 66 = .ok (.iload 4, 2) := by decide +kernel
theorem dX7_copy_68 : decode cX7_copy 68 = .ok (.ifCond .lt 43, 3) := by decide +kernel
theorem dX7_copy_71 : decode cX7_copy 71 = .ok (.iload 5, 2) := by decide +kernel
theorem dX7_copy_73 : decode cX7_copy 73 = .ok (.ifCond .lt 38, 3) := by decide +kernel
theorem dX7_copy_76 : decode cX7_copy 76 = .ok (.iload_n 2, 1) := by decide +kernel
theorem dX7_copy_77 : decode cX7_copy 77 = .ok (.i2l, 1) := by decide +kernel
theorem dX7_copy_78 : decode cX7_copy 78 = .ok (.iload 5, 2) := by decide +kernel
theorem dX7_copy_80 : decode cX7_copy 80 = .ok (.i2l, 1) := by decide +kernel
theorem dX7_copy_81 : decode cX7_copy 81 = .ok (.ladd, 1) := by decide +kernel
theorem dX7_copy_82 : decode cX7_copy 82 = .ok (.aload_n 0, 1) := by decide +kernel
theorem dX7_copy_83 : decode cX7_copy 83 = .ok (.getfield 13, 3) := by decide +kernel
theorem dX7_copy_86 : decode cX7_copy 86 = .ok (.iload_n 1, 1) := by decide +kernel
theorem dX7_copy_87 : decode cX7_copy 87 = .ok (.iaload, 1) := by decide +kernel
theorem dX7_copy_88 : decode cX7_copy 88 = .ok (.i2l, 1) := by decide +kernel
theorem dX7_copy_89 : decode cX7_copy 89 = .ok (.lcmp, 1) := by decide +kernel
theorem dX7_copy_90 : decode cX7_copy 90 = .ok (.ifCond .gt 21, 3) := by decide +kernel
theorem dX7_copy_93 : decode cX7_copy 93 = .ok (.iload 4, 2) := by decide +kernel
theorem dX7_copy_95 : decode cX7_copy 95 = .ok (.i2l, 1) := by decide +kernel
theorem dX7_copy_96 : decode cX7_copy 96 = .ok (.iload 5, 2) := by decide +kernel
theorem dX7_copy_98 : decode cX7_copy 98 = .ok (.i2l, 1) := by decide +kernel
theorem dX7_copy_99 : decode cX7_copy 99 = .ok (.ladd, 1) := by decide +kernel
theorem dX7_copy_100 : decode cX7_copy 100 = .ok (.aload_n 0, 1) := by decide +kernel
theorem dX7_copy_101 : decode cX7_copy 101 = .ok (.getfield 13, 3) := by decide +kernel
theorem dX7_copy_104 : decode cX7_copy 104 = .ok (.iload_n 3, 1) := by decide +kernel
theorem dX7_copy_105 : decode cX7_copy 105 = .ok (.iaload, 1) := by decide +kernel
theorem dX7_copy_106 : decode cX7_copy 106 = .ok (.i2l, 1) := by decide +kernel
theorem dX7_copy_107 : decode cX7_copy 107 = .ok (.lcmp, 1) := by decide +kernel
theorem dX7_copy_108 : decode cX7_copy 108 = .ok (.ifCond .le 9, 3) := by decide +kernel
theorem dX7_copy_111 : decode cX7_copy 111 = .ok (.aload_n 0, 1) := by decide +kernel
theorem dX7_copy_112 : decode cX7_copy 112 = .ok (.iconst 2, 1) := by decide +kernel
theorem dX7_copy_113 : decode cX7_copy 113 = .ok (.invokevirtual 94, 3) := by decide +kernel
theorem dX7_copy_116 : decode cX7_copy 116 = .ok (.ireturn, 1) := by decide +kernel
theorem dX7_copy_117 : decode cX7_copy 117 = .ok (.iconst 0, 1) := by decide +kernel
theorem dX7_copy_118 : decode cX7_copy 118 = .ok (.istore 6, 2) := by decide +kernel
theorem dX7_copy_120 : decode cX7_copy 120 = .ok (.iload 6, 2) := by decide +kernel
theorem dX7_copy_122 : decode cX7_copy 122 = .ok (.iload 5, 2) := by decide +kernel
theorem dX7_copy_124 : decode cX7_copy 124 = .ok (.if_icmp .ge 30, 3) := by decide +kernel
theorem dX7_copy_127 : decode cX7_copy 127 = .ok (.aload_n 0, 1) := by decide +kernel
theorem dX7_copy_128 : decode cX7_copy 128 = .ok (.getfield 19, 3) := by decide +kernel
theorem dX7_copy_131 : decode cX7_copy 131 = .ok (.iload 6, 2) := by decide +kernel
theorem dX7_copy_133 : decode cX7_copy 133 = .ok (.aload_n 0, 1) := by decide +kernel
theorem dX7_copy_134 : decode cX7_copy 134 = .ok (.getfield 16, 3) := by decide +kernel
theorem dX7_copy_137 : decode cX7_copy 137 = .ok (.bipush 60, 2) := by decide +kernel
theorem dX7_copy_139 : decode cX7_copy 139 = .ok (.iload_n 1, 1) := by decide +kernel
theorem dX7_copy_140 : decode cX7_copy 140 = .ok (.imul, 1) := by decide +kernel
theorem dX7_copy_141 : decode cX7_copy 141 = .ok (.iload_n 2, 1) := by decide +kernel
theorem dX7_copy_142 : decode cX7_copy 142 = .ok (.iadd, 1) := by decide +kernel
theorem dX7_copy_143 : decode cX7_copy 143 = .ok (.iload 6, 2) := by decide +kernel
theorem dX7_copy_145 : decode cX7_copy 145 = .ok (.iadd, 1) := by decide +kernel
theorem dX7_copy_146 : decode cX7_copy 146 = .ok (.iaload, 1) := by decide +kernel
theorem dX7_copy_147 : decode cX7_copy 147 = .ok (.iastore, 1) := by decide +kernel
theorem dX7_copy_148 : decode cX7_copy 148 = .ok (.iinc 6 1, 3) := by decide +kernel
theorem dX7_copy_151 : decode cX7_copy 151 = .ok (.goto (-31), 3) := by decide +kernel
theorem dX7_copy_154 : decode cX7_copy 154 = .ok (.iconst 0, 1) := by decide +kernel
theorem dX7_copy_155 : decode cX7_copy 155 = .ok (.istore 6, 2) := by decide +kernel
theorem dX7_copy_157 : decode cX7_copy 157 = .ok (.iload 6, 2) := by decide +kernel
theorem dX7_copy_159 : decode cX7_copy 159 = .ok (.iload 5, 2) := by decide +kernel
theorem dX7_copy_161 : decode cX7_copy 161 = .ok (.if_icmp .ge 31, 3) := by decide +kernel
theorem dX7_copy_164 : decode cX7_copy 164 = .ok (.aload_n 0, 1) := by decide +kernel
theorem dX7_copy_165 : decode cX7_copy 165 = .ok (.getfield 16, 3) := by decide +kernel
theorem dX7_copy_168 : decode cX7_copy 168 = .ok (.bipush 60, 2) := by decide +kernel
theorem dX7_copy_170 : decode cX7_copy 170 = .ok (.iload_n 3, 1) := by decide +kernel
theorem dX7_copy_171 : decode cX7_copy 171 = .ok (.imul, 1) := by decide +kernel
theorem dX7_copy_172 : decode cX7_copy 172 = .ok (.iload 4, 2) := by decide +kernel
theorem dX7_copy_174 : decode cX7_copy 174 = .ok (.iadd, 1) := by decide +kernel
theorem dX7_copy_175 : decode cX7_copy 175 = .ok (.iload 6, 2) := by decide +kernel
theorem dX7_copy_177 : decode cX7_copy 177 = .ok (.iadd, 1) := by decide +kernel
theorem dX7_copy_178 : decode cX7_copy 178 = .ok (.aload_n 0, 1) := by decide +kernel
theorem dX7_copy_179 : decode cX7_copy 179 = .ok (.getfield 19, 3) := by decide +kernel
theorem dX7_copy_182 : decode cX7_copy 182 = .ok (.iload 6, 2) := by decide +kernel
theorem dX7_copy_184 : decode cX7_copy 184 = .ok (.iaload, 1) := by decide +kernel
theorem dX7_copy_185 : decode cX7_copy 185 = .ok (.iastore, 1) := by decide +kernel
theorem dX7_copy_186 : decode cX7_copy 186 = .ok (.iinc 6 1, 3) := by decide +kernel
theorem dX7_copy_189 : decode cX7_copy 189 = .ok (.goto (-32), 3) := by decide +kernel
theorem dX7_copy_192 : decode cX7_copy 192 = .ok (.iconst 1, 1) := by decide +kernel
theorem dX7_copy_193 : decode cX7_copy 193 = .ok (.ireturn, 1) := by decide +kernel
theorem dX7_type_0 : decode cX7_type 0 = .ok (.iload_n 1, 1) := by decide +kernel
theorem dX7_type_1 : decode cX7_type 1 = .ok (.invokestatic 107, 3) := by decide +kernel
theorem dX7_type_4 : decode cX7_type 4 = .ok (.ifCond .eq 15, 3) := by decide +kernel
theorem dX7_type_7 : decode cX7_type 7 = .ok (.iload_n 2, 1) := by decide +kernel
theorem dX7_type_8 : decode cX7_type 8 = .ok (.i2l, 1) := by decide +kernel
theorem dX7_type_9 : decode cX7_type 9 = .ok (.lconst 0, 1) := by decide +kernel
theorem dX7_type_10 : decode cX7_type 10 = .ok (.ldc2_w 110, 3) := by decide +kernel
theorem dX7_type_13 : decode cX7_type 13 = .ok (.invokestatic 79, 3) := by decide +kernel
theorem dX7_type_16 : decode cX7_type 16 = .ok (.ifCond .ne 6, 3) := by decide +kernel
theorem dX7_type_19 : decode cX7_type 19 = .ok (.bipush (-2), 2) := by decide +kernel
theorem dX7_type_21 : decode cX7_type 21 = .ok (.ireturn, 1) := by decide +kernel
theorem dX7_type_22 : decode cX7_type 22 = .ok (.aload_n 0, 1) := by decide +kernel
theorem dX7_type_23 : decode cX7_type 23 = .ok (.getfield 25, 3) := by decide +kernel
theorem dX7_type_26 : decode cX7_type 26 = .ok (.iload_n 1, 1) := by decide +kernel
theorem dX7_type_27 : decode cX7_type 27 = .ok (.iaload, 1) := by decide +kernel
theorem dX7_type_28 : decode cX7_type 28 = .ok (.iload_n 1, 1) := by decide +kernel
theorem dX7_type_29 : decode cX7_type 29 = .ok (.ifCond .ne 8, 3) := by decide +kernel
theorem dX7_type_32 : decode cX7_type 32 = .ok (.bipush 31, 2) := by decide +kernel
theorem dX7_type_34 : decode cX7_type 34 = .ok (.goto 5, 3) := by decide +kernel
theorem dX7_type_37 : decode cX7_type 37 = .ok (.bipush 39, 2) := by decide +kernel
theorem dX7_type_39 : decode cX7_type 39 = .ok (.if_icmp .ne 6, 3) := by decide +kernel
theorem dX7_type_42 : decode cX7_type 42 = .ok (.bipush (-4), 2) := by decide +kernel
theorem dX7_type_44 : decode cX7_type 44 = .ok (.ireturn, 1) := by decide +kernel
theorem dX7_type_45 : decode cX7_type 45 = .ok (.aload_n 0, 1) := by decide +kernel
theorem dX7_type_46 : decode cX7_type 46 = .ok (.getfield 22, 3) := by decide +kernel
theorem dX7_type_49 : decode cX7_type 49 = .ok (.bipush 40, 2) := by decide +kernel
theorem dX7_type_51 : decode cX7_type 51 = .ok (.iload_n 1, 1) := by decide +kernel
theorem dX7_type_52 : decode cX7_type 52 = .ok (.imul, 1) := by decide +kernel
theorem dX7_type_53 : decode cX7_type 53 = .ok (.aload_n 0, 1) := by decide +kernel
theorem dX7_type_54 : decode cX7_type 54 = .ok (.getfield 25, 3) := by decide +kernel
theorem dX7_type_57 : decode cX7_type 57 = .ok (.iload_n 1, 1) := by decide +kernel
theorem dX7_type_58 : decode cX7_type 58 = .ok (.iaload, 1) := by decide +kernel
theorem dX7_type_59 : decode cX7_type 59 = .ok (.iadd, 1) := by decide +kernel
theorem dX7_type_60 : decode cX7_type 60 = .ok (.iload_n 2, 1) := by decide +kernel
theorem dX7_type_61 : decode cX7_type 61 = .ok (.iastore, 1) := by decide +kernel
theorem dX7_type_62 : decode cX7_type 62 = .ok (.aload_n 0, 1) := by decide +kernel
theorem dX7_type_63 : decode cX7_type 63 = .ok (.getfield 25, 3) := by decide +kernel
theorem dX7_type_66 : decode cX7_type 66 = .ok (.iload_n 1, 1) := by decide +kernel
theorem dX7_type_67 : decode cX7_type 67 = .ok (.dup2, 1) := by decide +kernel
theorem dX7_type_68 : decode cX7_type 68 = .ok (.iaload, 1) := by decide +kernel
theorem dX7_type_69 : decode cX7_type 69 = .ok (.iconst 1, 1) := by decide +kernel
theorem dX7_type_70 : decode cX7_type 70 = .ok (.iadd, 1) := by decide +kernel
theorem dX7_type_71 : decode cX7_type 71 = .ok (.iastore, 1) := by decide +kernel
theorem dX7_type_72 : decode cX7_type 72 = .ok (.aload_n 0, 1) := by decide +kernel
theorem dX7_type_73 : decode cX7_type 73 = .ok (.getfield 25, 3) := by decide +kernel
theorem dX7_type_76 : decode cX7_type 76 = .ok (.iload_n 1, 1) := by decide +kernel
theorem dX7_type_77 : decode cX7_type 77 = .ok (.iaload, 1) := by decide +kernel
theorem dX7_type_78 : decode cX7_type 78 = .ok (.ireturn, 1) := by decide +kernel
theorem dX7_wipe_0 : decode cX7_wipe 0 = .ok (.iload_n 1, 1) := by decide +kernel
theorem dX7_wipe_1 : decode cX7_wipe 1 = .ok (.invokestatic 107, 3) := by decide +kernel
theorem dX7_wipe_4 : decode cX7_wipe 4 = .ok (.ifCond .ne 6, 3) := by decide +kernel
theorem dX7_wipe_7 : decode cX7_wipe 7 = .ok (.bipush (-2), 2) := by decide +kernel
theorem dX7_wipe_9 : decode cX7_wipe 9 = .ok (.ireturn, 1) := by decide +kernel
theorem dX7_wipe_10 : decode cX7_wipe 10 = .ok (.aload_n 0, 1) := by decide +kernel
theorem dX7_wipe_11 : decode cX7_wipe 11 = .ok (.getfield 25, 3) := by decide +kernel
theorem dX7_wipe_14 : decode cX7_wipe 14 = .ok (.iload_n 1, 1) := by decide +kernel
theorem dX7_wipe_15 : decode cX7_wipe 15 = .ok (.iaload, 1) := by decide +kernel
theorem dX7_wipe_16 : decode cX7_wipe 16 = .ok (.istore_n 2, 1) := by decide +kernel
theorem dX7_wipe_17 : decode cX7_wipe 17 = .ok (.aload_n 0, 1) := by decide +kernel
theorem dX7_wipe_18 : decode cX7_wipe 18 = .ok (.getfield 25, 3) := by decide +kernel
theorem dX7_wipe_21 : decode cX7_wipe 21 = .ok (.iload_n 1, 1) := by decide +kernel
theorem dX7_wipe_22 : decode cX7_wipe 22 = .ok (.iconst 0, 1) := by decide +kernel
theorem dX7_wipe_23 : decode cX7_wipe 23 = .ok (.iastore, 1) := by decide +kernel
theorem dX7_wipe_24 : decode cX7_wipe 24 = .ok (.iload_n 2, 1) := by decide +kernel
theorem dX7_wipe_25 : decode cX7_wipe 25 = .ok (.ireturn, 1) := by decide +kernel
theorem dX7_undo_0 : decode cX7_undo 0 = .ok (.iload_n 1, 1) := by decide +kernel
theorem dX7_undo_1 : decode cX7_undo 1 = .ok (.invokestatic 107, 3) := by decide +kernel
theorem dX7_undo_4 : decode cX7_undo 4 = .ok (.ifCond .ne 6, 3) := by decide +kernel
theorem dX7_undo_7 : decode cX7_undo 7 = .ok (.bipush (-2), 2) := by decide +kernel
theorem dX7_undo_9 : decode cX7_undo 9 = .ok (.ireturn, 1) := by decide +kernel
theorem dX7_undo_10 : decode cX7_undo 10 = .ok (.aload_n 0, 1) := by decide +kernel
theorem dX7_undo_11 : decode cX7_undo 11 = .ok (.getfield 25, 3) := by decide +kernel
theorem dX7_undo_14 : decode cX7_undo 14 = .ok (.iload_n 1, 1) := by decide +kernel
theorem dX7_undo_15 : decode cX7_undo 15 = .ok (.iaload, 1) := by decide +kernel
theorem dX7_undo_16 : decode cX7_undo 16 = .ok (.ifCond .ne 6, 3) := by decide +kernel
theorem dX7_undo_19 : decode cX7_undo 19 = .ok (.bipush (-3), 2) := by decide +kernel
theorem dX7_undo_21 : decode cX7_undo 21 = .ok (.ireturn, 1) := by decide +kernel
theorem dX7_undo_22 : decode cX7_undo 22 = .ok (.aload_n 0, 1) := by decide +kernel
theorem dX7_undo_23 : decode cX7_undo 23 = .ok (.getfield 25, 3) := by decide +kernel
theorem dX7_undo_26 : decode cX7_undo 26 = .ok (.iload_n 1, 1) := by decide +kernel
theorem dX7_undo_27 : decode cX7_undo 27 = .ok (.dup2, 1) := by decide +kernel
theorem dX7_undo_28 : decode cX7_undo 28 = .ok (.iaload, 1) := by decide +kernel
theorem dX7_undo_29 : decode cX7_undo 29 = .ok (.iconst 1, 1) := by decide +kernel
theorem dX7_undo_30 : decode cX7_undo 30 = .ok (.isub, 1) := by decide +kernel
theorem dX7_undo_31 : decode cX7_undo 31 = .ok (.iastore, 1) := by decide +kernel
theorem dX7_undo_32 : decode cX7_undo 32 = .ok (.aload_n 0, 1) := by decide +kernel
theorem dX7_undo_33 : decode cX7_undo 33 = .ok (.getfield 25, 3) := by decide +kernel
theorem dX7_undo_36 : decode cX7_undo 36 = .ok (.iload_n 1, 1) := by decide +kernel
theorem dX7_undo_37 : decode cX7_undo 37 = .ok (.iaload, 1) := by decide +kernel
theorem dX7_undo_38 : decode cX7_undo 38 = .ok (.ireturn, 1) := by decide +kernel
theorem dX7_sortOf_0 : decode cX7_sortOf 0 = .ok (.iload_n 0, 1) := by decide +kernel
theorem dX7_sortOf_1 : decode cX7_sortOf 1 = .ok (.bipush 115, 2) := by decide +kernel
theorem dX7_sortOf_3 : decode cX7_sortOf 3 = .ok (.if_icmp .ne 7, 3) := by decide +kernel
theorem dX7_sortOf_6 : decode cX7_sortOf 6 = .ok (.iconst 0, 1) := by decide +kernel
theorem dX7_sortOf_7 : decode cX7_sortOf 7 = .ok (.goto 25, 3) := by decide +kernel
theorem dX7_sortOf_10 : decode cX7_sortOf 10 = .ok (.iload_n 0, 1) := by decide +kernel
theorem dX7_sortOf_11 : decode cX7_sortOf 11 = .ok (.bipush 114, 2) := by decide +kernel
theorem dX7_sortOf_13 : decode cX7_sortOf 13 = .ok (.if_icmp .ne 7, 3) := by decide +kernel
theorem dX7_sortOf_16 : decode cX7_sortOf 16 = .ok (.iconst 1, 1) := by decide +kernel
theorem dX7_sortOf_17 : decode cX7_sortOf 17 = .ok (.goto 15, 3) := by decide +kernel
theorem dX7_sortOf_20 : decode cX7_sortOf 20 = .ok (.iload_n 0, 1) := by decide +kernel
theorem dX7_sortOf_21 : decode cX7_sortOf 21 = .ok (.bipush 112, 2) := by decide +kernel
theorem dX7_sortOf_23 : decode cX7_sortOf 23 = .ok (.if_icmp .ne 7, 3) := by decide +kernel
theorem dX7_sortOf_26 : decode cX7_sortOf 26 = .ok (.iconst 2, 1) := by decide +kernel
theorem dX7_sortOf_27 : decode cX7_sortOf 27 = .ok (.goto 5, 3) := by decide +kernel
theorem dX7_sortOf_30 : decode cX7_sortOf 30 = .ok (.bipush (-9), 2) := by decide +kernel
theorem dX7_sortOf_32 : decode cX7_sortOf 32 = .ok (.ireturn, 1) := by decide +kernel
theorem dX7_figureOf_0 : decode cX7_figureOf 0 = .ok (.iload_n 0, 1) := by decide +kernel
theorem dX7_figureOf_1 : decode cX7_figureOf 1 = .ok (.i2l, 1) := by decide +kernel
theorem dX7_figureOf_2 : decode cX7_figureOf 2 = .ok (.bipush 48, 2) := by decide +kernel
theorem dX7_figureOf_4 : decode cX7_figureOf 4 = .ok (.iload_n 1, 1) := by decide +kernel
theorem dX7_figureOf_5 : decode cX7_figureOf 5 = .ok (.iadd, 1) := by decide +kernel
theorem dX7_figureOf_6 : decode cX7_figureOf 6 = .ok (.i2l, 1) := by decide +kernel
theorem dX7_figureOf_7 : decode cX7_figureOf 7 = .ok (.bipush 48, 2) := by decide +kernel
theorem dX7_figureOf_9 : decode cX7_figureOf 9 = .ok (.iload_n 2, 1) := by decide +kernel
theorem dX7_figureOf_10 : decode cX7_figureOf 10 = .ok (.iadd, 1) := by decide +kernel
theorem dX7_figureOf_11 : decode cX7_figureOf 11 = .ok (.i2l, 1) := by decide +kernel
theorem dX7_figureOf_12 : decode cX7_figureOf 12 = .ok (.invokestatic 79, 3) := by decide +kernel
theorem dX7_figureOf_15 : decode cX7_figureOf 15 = .ok (.ifCond .eq 10, 3) := by decide +kernel
theorem dX7_figureOf_18 : decode cX7_figureOf 18 = .ok (.iload_n 0, 1) := by decide +kernel
theorem dX7_figureOf_19 : decode cX7_figureOf 19 = .ok (.bipush 48, 2) := by decide +kernel
theorem dX7_figureOf_21 : decode cX7_figureOf 21 = .ok (.isub, 1) := by decide +kernel
theorem dX7_figureOf_22 : decode cX7_figureOf 22 = .ok (.goto 5, 3) := by decide +kernel
theorem dX7_figureOf_25 : decode cX7_figureOf 25 = .ok (.bipush (-9), 2) := by decide +kernel
theorem dX7_figureOf_27 : decode cX7_figureOf 27 = .ok (.ireturn, 1) := by decide +kernel
theorem dX7_tellsOf_0 : decode cX7_tellsOf 0 = .ok (.iload_n 1, 1) := by decide +kernel
theorem dX7_tellsOf_1 : decode cX7_tellsOf 1 = .ok (.ifCond .ne 23, 3) := by decide +kernel
theorem dX7_tellsOf_4 : decode cX7_tellsOf 4 = .ok (.iload_n 0, 1) := by decide +kernel
theorem dX7_tellsOf_5 : decode cX7_tellsOf 5 = .ok (.iconst 1, 1) := by decide +kernel
theorem dX7_tellsOf_6 : decode cX7_tellsOf 6 = .ok (.if_icmp .ne 13, 3) := by decide +kernel
theorem dX7_tellsOf_9 : decode cX7_tellsOf 9 = .ok (.iload_n 2, 1) := by decide +kernel
theorem dX7_tellsOf_10 : decode cX7_tellsOf 10 = .ok (.bipush 97, 2) := by decide +kernel
theorem dX7_tellsOf_12 : decode cX7_tellsOf 12 = .ok (.if_icmp .ne 7, 3) := by decide +kernel
theorem dX7_tellsOf_15 : decode cX7_tellsOf 15 = .ok (.iconst 3, 1) := by decide +kernel
theorem dX7_tellsOf_16 : decode cX7_tellsOf 16 = .ok (.goto 7, 3) := by decide +kernel
theorem dX7_tellsOf_19 : decode cX7_tellsOf 19 = .ok (.iload_n 2, 1) := by decide +kernel
theorem dX7_tellsOf_20 : decode cX7_tellsOf 20 = .ok (.invokestatic 112, 3) := by decide +kernel
theorem dX7_tellsOf_23 : decode cX7_tellsOf 23 = .ok (.ireturn, 1) := by decide +kernel
theorem dX7_tellsOf_24 : decode cX7_tellsOf 24 = .ok (.iload_n 1, 1) := by decide +kernel
theorem dX7_tellsOf_25 : decode cX7_tellsOf 25 = .ok (.iconst 3, 1) := by decide +kernel
theorem dX7_tellsOf_26 : decode cX7_tellsOf 26 = .ok (.iload_n 0, 1) := by decide +kernel
theorem dX7_tellsOf_27 : decode cX7_tellsOf 27 = .ok (.iadd, 1) := by decide +kernel
theorem dX7_tellsOf_28 : decode cX7_tellsOf 28 = .ok (.if_icmp .ne 16, 3) := by decide +kernel
theorem dX7_tellsOf_31 : decode cX7_tellsOf 31 = .ok (.iload_n 2, 1) := by decide +kernel
theorem dX7_tellsOf_32 : decode cX7_tellsOf 32 = .ok (.bipush 59, 2) := by decide +kernel
theorem dX7_tellsOf_34 : decode cX7_tellsOf 34 = .ok (.if_icmp .ne 7, 3) := by decide +kernel
theorem dX7_tellsOf_37 : decode cX7_tellsOf 37 = .ok (.iconst 0, 1) := by decide +kernel
theorem dX7_tellsOf_38 : decode cX7_tellsOf 38 = .ok (.goto 5, 3) := by decide +kernel
theorem dX7_tellsOf_41 : decode cX7_tellsOf 41 = .ok (.bipush (-9), 2) := by decide +kernel
theorem dX7_tellsOf_43 : decode cX7_tellsOf 43 = .ok (.ireturn, 1) := by decide +kernel
theorem dX7_tellsOf_44 : decode cX7_tellsOf 44 = .ok (.iload_n 1, 1) := by decide +kernel
theorem dX7_tellsOf_45 : decode cX7_tellsOf 45 = .ok (.iconst 1, 1) := by decide +kernel
theorem dX7_tellsOf_46 : decode cX7_tellsOf 46 = .ok (.if_icmp .ne 12, 3) := by decide +kernel
theorem dX7_tellsOf_49 : decode cX7_tellsOf 49 = .ok (.iload_n 2, 1) := by decide +kernel
theorem dX7_tellsOf_50 : decode cX7_tellsOf 50 = .ok (.iconst 0, 1) := by decide +kernel
theorem dX7_tellsOf_51 : decode cX7_tellsOf 51 = .ok (.iconst 2, 1) := by decide +kernel
theorem dX7_tellsOf_52 : decode cX7_tellsOf 52 = .ok (.invokestatic 115, 3) := by decide +kernel
theorem dX7_tellsOf_55 : decode cX7_tellsOf 55 = .ok (.goto 25, 3) := by decide +kernel
theorem dX7_tellsOf_58 : decode cX7_tellsOf 58 = .ok (.iload_n 1, 1) := by decide +kernel
theorem dX7_tellsOf_59 : decode cX7_tellsOf 59 = .ok (.iconst 2, 1) := by decide +kernel
theorem dX7_tellsOf_60 : decode cX7_tellsOf 60 = .ok (.if_icmp .ne 13, 3) := by decide +kernel
theorem dX7_tellsOf_63 : decode cX7_tellsOf 63 = .ok (.iload_n 2, 1) := by decide +kernel
theorem dX7_tellsOf_64 : decode cX7_tellsOf 64 = .ok (.iconst 0, 1) := by decide +kernel
theorem dX7_tellsOf_65 : decode cX7_tellsOf 65 = .ok (.bipush 9, 2) := by decide +kernel
theorem dX7_tellsOf_67 : decode cX7_tellsOf 67 = .ok (.invokestatic 115, 3) := by decide +kernel
theorem dX7_tellsOf_70 : decode cX7_tellsOf 70 = .ok (.goto 10, 3) := by decide +kernel
theorem dX7_tellsOf_73 : decode cX7_tellsOf 73 = .ok (.iload_n 2, 1) := by decide +kernel
theorem dX7_tellsOf_74 : decode cX7_tellsOf 74 = .ok (.iconst 1, 1) := by decide +kernel
theorem dX7_tellsOf_75 : decode cX7_tellsOf 75 = .ok (.bipush 9, 2) := by decide +kernel
theorem dX7_tellsOf_77 : decode cX7_tellsOf 77 = .ok (.invokestatic 115, 3) := by decide +kernel
theorem dX7_tellsOf_80 : decode cX7_tellsOf 80 = .ok (.ireturn, 1) := by decide +kernel
theorem dX7_readsHeads_0 : decode cX7_readsHeads 0 = .ok (.aload_n 0, 1) := by decide +kernel
theorem dX7_readsHeads_1 : decode cX7_readsHeads 1 = .ok (.iconst 0, 1) := by decide +kernel
theorem dX7_readsHeads_2 : decode cX7_readsHeads 2 = .ok (.putfield 118, 3) := by decide +kernel
theorem dX7_readsHeads_5 : decode cX7_readsHeads 5 = .ok (.aload_n 0, 1) := by decide +kernel
theorem dX7_readsHeads_6 : decode cX7_readsHeads 6 = .ok (.getfield 25, 3) := by decide +kernel
theorem dX7_readsHeads_9 : decode cX7_readsHeads 9 = .ok (.iconst 0, 1) := by decide +kernel
theorem dX7_readsHeads_10 : decode cX7_readsHeads 10 = .ok (.iaload, 1) := by decide +kernel
theorem dX7_readsHeads_11 : decode cX7_readsHeads 11 = .ok (.istore_n 1, 1) := by decide +kernel
theorem dX7_readsHeads_12 : decode cX7_readsHeads 12 = .ok (.iconst 0, 1) := by decide +kernel
theorem dX7_readsHeads_13 : decode cX7_readsHeads 13 = .ok (.istore_n 2, 1) := by decide +kernel
theorem dX7_readsHeads_14 : decode cX7_readsHeads 14 = .ok (.iload_n 2, 1) := by decide +kernel
theorem dX7_readsHeads_15 : decode cX7_readsHeads 15 = .ok (.iload_n 1, 1) := by decide +kernel
theorem dX7_readsHeads_16 : decode cX7_readsHeads 16 = .ok (.if_icmp .ge 114, 3) := by decide +kernel
theorem dX7_readsHeads_19 : decode cX7_readsHeads 19 = .ok (.iload_n 2, 1) := by decide +kernel
theorem dX7_readsHeads_20 : decode cX7_readsHeads 20 = .ok (.iconst 4, 1) := by decide +kernel
theorem dX7_readsHeads_21 : decode cX7_readsHeads 21 = .ok (.irem, 1) := by decide +kernel
theorem dX7_readsHeads_22 : decode cX7_readsHeads 22 = .ok (.istore_n 3, 1) := by decide +kernel
theorem dX7_readsHeads_23 : decode cX7_readsHeads 23 = .ok (.iconst 0, 1) := by decide +kernel
theorem dX7_readsHeads_24 : decode cX7_readsHeads 24 = .ok (.iload_n 3, 1) := by decide +kernel
theorem dX7_readsHeads_25 : decode cX7_readsHeads 25 = .ok (.aload_n 0, 1) := by decide +kernel
theorem dX7_readsHeads_26 : decode cX7_readsHeads 26 = .ok (.getfield 22, 3) := by decide +kernel
theorem dX7_readsHeads_29 : decode cX7_readsHeads 29 = .ok (.iload_n 2, 1) := by decide +kernel
theorem dX7_readsHeads_30 : decode cX7_readsHeads 30 = .ok (.iaload, 1) := by decide +kernel
theorem dX7_readsHeads_31 : decode cX7_readsHeads 31 = .ok (.invokestatic 121, 3) := by decide +kernel
theorem dX7_readsHeads_34 : decode cX7_readsHeads 34 = .ok (.istore 4, 2) := by decide +kernel
theorem dX7_readsHeads_36 : decode cX7_readsHeads 36 = .ok (.iload 4, 2) := by decide +kernel
theorem dX7_readsHeads_38 : decode cX7_readsHeads 38 = .ok (.bipush (-9), 2) := by decide +kernel
theorem dX7_readsHeads_40 : decode cX7_readsHeads 40 = .ok (.if_icmp .ne 10, 3) := by decide +kernel
theorem dX7_readsHeads_43 : decode cX7_readsHeads 43 = .ok (.aload_n 0, 1) := by decide +kernel
theorem dX7_readsHeads_44 : decode cX7_readsHeads 44 = .ok (.iconst 0, 1) := by decide +kernel
theorem dX7_readsHeads_45 : decode cX7_readsHeads 45 = .ok (.putfield 118, 3) := by decide +kernel
theorem dX7_readsHeads_48 : decode cX7_readsHeads 48 = .ok (.iload_n 2, 1) := by decide +kernel
theorem dX7_readsHeads_49 : decode cX7_readsHeads 49 = .ok (.ireturn, 1) := by decide +kernel
theorem dX7_readsHeads_50 : decode cX7_readsHeads 50 = .ok (.iconst 2, 1) := by decide +kernel
theorem dX7_readsHeads_51 : decode cX7_readsHeads 51 = .ok (.iload_n 2, 1) := by decide +kernel
theorem dX7_readsHeads_52 : decode cX7_readsHeads 52 = .ok (.iconst 4, 1) := by decide +kernel
theorem dX7_readsHeads_53 : decode cX7_readsHeads 53 = .ok (.idiv, 1) := by decide +kernel
theorem dX7_readsHeads_54 : decode cX7_readsHeads 54 = .ok (.imul, 1) := by decide +kernel
theorem dX7_readsHeads_55 : decode cX7_readsHeads 55 = .ok (.istore 5, 2) := by decide +kernel
theorem dX7_readsHeads_57 : decode cX7_readsHeads 57 = .ok (.iload_n 3, 1) := by decide +kernel
theorem dX7_readsHeads_58 : decode cX7_readsHeads 58 = .ok (.ifCond .ne 15, 3) := by decide +kernel
theorem dX7_readsHeads_61 : decode cX7_readsHeads 61 = .ok (.aload_n 0, 1) := by decide +kernel
theorem dX7_readsHeads_62 : decode cX7_readsHeads 62 = .ok (.getfield 28, 3) := by decide +kernel
theorem dX7_readsHeads_65 : decode cX7_readsHeads 65 = .ok (.iload 5, 2) := by decide +kernel
theorem dX7_readsHeads_67 : decode cX7_readsHeads 67 = .ok (.iload 4, 2) := by decide +kernel
theorem dX7_readsHeads_69 : decode cX7_readsHeads 69 = .ok (.iastore, 1) := by decide +kernel
theorem dX7_readsHeads_70 : decode cX7_readsHeads 70 = .ok (.goto 54, 3) := by decide +kernel
theorem dX7_readsHeads_73 : decode cX7_readsHeads 73 = .ok (.iload_n 3, 1) := by decide +kernel
theorem dX7_readsHeads_74 : decode cX7_readsHeads 74 = .ok (.iconst 1, 1) := by decide +kernel
theorem dX7_readsHeads_75 : decode cX7_readsHeads 75 = .ok (.if_icmp .ne 20, 3) := by decide +kernel
theorem dX7_readsHeads_78 : decode cX7_readsHeads 78 = .ok (.aload_n 0, 1) := by decide +kernel
theorem dX7_readsHeads_79 : decode cX7_readsHeads 79 = .ok (.getfield 28, 3) := by decide +kernel
theorem dX7_readsHeads_82 : decode cX7_readsHeads 82 = .ok (.iload 5, 2) := by decide +kernel
theorem dX7_readsHeads_84 : decode cX7_readsHeads 84 = .ok (.iconst 1, 1) := by decide +kernel
theorem dX7_readsHeads_85 : decode cX7_readsHeads 85 = .ok (.iadd, 1) := by decide +kernel
theorem dX7_readsHeads_86 : decode cX7_readsHeads 86 = .ok (.bipush 10, 2) := by decide +kernel
theorem dX7_readsHeads_88 : decode cX7_readsHeads 88 = .ok (.iload 4, 2) := by decide +kernel
theorem dX7_readsHeads_90 : decode cX7_readsHeads 90 = .ok (.imul, 1) := by decide +kernel
theorem dX7_readsHeads_91 : decode cX7_readsHeads 91 = .ok (.iastore, 1) := by decide +kernel
theorem dX7_readsHeads_92 : decode cX7_readsHeads 92 = .ok (.goto 32, 3) := by decide +kernel
theorem dX7_readsHeads_95 : decode cX7_readsHeads 95 = .ok (.iload_n 3, 1) := by decide +kernel
theorem dX7_readsHeads_96 : decode cX7_readsHeads 96 = .ok (.iconst 2, 1) := by decide +kernel
theorem dX7_readsHeads_97 : decode cX7_readsHeads 97 = .ok (.if_icmp .ne 27, 3) := by decide +kernel
theorem dX7_readsHeads_100 : decode cX7_readsHeads 100 = .ok (.aload_n 0, 1) := by decide +kernel
theorem dX7_readsHeads_101 : decode cX7_readsHeads 101 = .ok (.getfield 28, 3) := by decide +kernel
theorem dX7_readsHeads_104 : decode cX7_readsHeads 104 = .ok (.iload 5, 2) := by decide +kernel
theorem dX7_readsHeads_106 : decode cX7_readsHeads 106 = .ok (.iconst 1, 1) := by decide +kernel
theorem dX7_readsHeads_107 : decode cX7_readsHeads 107 = .ok (.iadd, 1) := by decide +kernel
theorem dX7_readsHeads_108 : decode cX7_readsHeads 108 = .ok (.dup2, 1) := by decide +kernel
theorem dX7_readsHeads_109 : decode cX7_readsHeads 109 = .ok (.iaload, 1) := by decide +kernel
theorem dX7_readsHeads_110 : decode cX7_readsHeads 110 = .ok (.iload 4, 2) := by decide +kernel
theorem dX7_readsHeads_112 : decode cX7_readsHeads 112 = .ok (.iadd, 1) := by decide +kernel
theorem dX7_readsHeads_113 : decode cX7_readsHeads 113 = .ok (.iastore, 1) := by decide +kernel
theorem dX7_readsHeads_114 : decode cX7_readsHeads 114 = .ok (.aload_n 0, 1) := by decide +kernel
theorem dX7_readsHeads_115 : decode cX7_readsHeads 115 = .ok (.dup, 1) := by decide +kernel
theorem dX7_readsHeads_116 : decode cX7_readsHeads 116 = .ok (.getfield 118, 3) := by decide +kernel
theorem dX7_readsHeads_119 : decode cX7_readsHeads 119 = .ok (.iconst 1, 1) := by decide +kernel
theorem dX7_readsHeads_120 : decode cX7_readsHeads 120 = .ok (.iadd, 1) := by decide +kernel
theorem dX7_readsHeads_121 : decode cX7_readsHeads 121 = .ok (.putfield 118, 3) := by decide +kernel
theorem dX7_readsHeads_124 : decode cX7_readsHeads 124 = .ok (.iinc 2 1, 3) := by decide +kernel
theorem dX7_readsHeads_127 : decode cX7_readsHeads 127 = .ok (.goto (-113), 3) := by decide +kernel
theorem dX7_readsHeads_130 : decode cX7_readsHeads 130 = .ok (.iload_n 1, 1) := by decide +kernel
theorem dX7_readsHeads_131 : decode cX7_readsHeads 131 = .ok (.ifCond .le 17, 3) := by decide +kernel
theorem dX7_readsHeads_134 : decode cX7_readsHeads 134 = .ok (.iload_n 1, 1) := by decide +kernel
theorem dX7_readsHeads_135 : decode cX7_readsHeads 135 = .ok (.iconst 4, 1) := by decide +kernel
theorem dX7_readsHeads_136 : decode cX7_readsHeads 136 = .ok (.irem, 1) := by decide +kernel
theorem dX7_readsHeads_137 : decode cX7_readsHeads 137 = .ok (.iconst 3, 1) := by decide +kernel
theorem dX7_readsHeads_138 : decode cX7_readsHeads 138 = .ok (.if_icmp .eq 10, 3) := by decide +kernel
theorem dX7_readsHeads_141 : decode cX7_readsHeads 141 = .ok (.aload_n 0, 1) := by decide +kernel
theorem dX7_readsHeads_142 : decode cX7_readsHeads 142 = .ok (.iconst 0, 1) := by decide +kernel
theorem dX7_readsHeads_143 : decode cX7_readsHeads 143 = .ok (.putfield 118, 3) := by decide +kernel
theorem dX7_readsHeads_146 : decode cX7_readsHeads 146 = .ok (.iload_n 1, 1) := by decide +kernel
theorem dX7_readsHeads_147 : decode cX7_readsHeads 147 = .ok (.ireturn, 1) := by decide +kernel
theorem dX7_readsHeads_148 : decode cX7_readsHeads 148 = .ok (.iconst (-1), 1) := by decide +kernel
theorem dX7_readsHeads_149 : decode cX7_readsHeads 149 = .ok (.ireturn, 1) := by decide +kernel
theorem dX7_readsCouples_0 : decode cX7_readsCouples 0 = .ok (.aload_n 0, 1) := by decide +kernel
theorem dX7_readsCouples_1 : decode cX7_readsCouples 1 = .ok (.iconst 0, 1) := by decide +kernel
theorem dX7_readsCouples_2 : decode cX7_readsCouples 2 = .ok (.putfield 124, 3) := by decide +kernel
theorem dX7_readsCouples_5 : decode cX7_readsCouples 5 = .ok (.aload_n 0, 1) := by decide +kernel
theorem dX7_readsCouples_6 : decode cX7_readsCouples 6 = .ok (.getfield 25, 3) := by decide +kernel
theorem dX7_readsCouples_9 : decode cX7_readsCouples 9 = .ok (.iconst 1, 1) := by decide +kernel
theorem dX7_readsCouples_10 : decode cX7_readsCouples 10 = .ok (.iaload, 1) := by decide +kernel
theorem dX7_readsCouples_11 : decode cX7_readsCouples 11 = .ok (.istore_n 1, 1) := by decide +kernel
theorem dX7_readsCouples_12 : decode cX7_readsCouples 12 = .ok (.iconst 0, 1) := by decide +kernel
theorem dX7_readsCouples_13 : decode cX7_readsCouples 13 = .ok (.istore_n 2, 1) := by decide +kernel
theorem dX7_readsCouples_14 : decode cX7_readsCouples 14 = .ok (.iload_n 2, 1) := by decide +kernel
theorem dX7_readsCouples_15 : decode cX7_readsCouples 15 = .ok (.iload_n 1, 1) := by decide +kernel
theorem dX7_readsCouples_16 : decode cX7_readsCouples 16 = .ok (.if_icmp .ge 136, 3) := by decide +kernel
theorem dX7_readsCouples_19 : decode cX7_readsCouples 19 = .ok (.iload_n 2, 1) := by decide +kernel
theorem dX7_readsCouples_20 : decode cX7_readsCouples 20 = .ok (.iconst 5, 1) := by decide +kernel
theorem dX7_readsCouples_21 : decode cX7_readsCouples 21 = .ok (.irem, 1) := by decide +kernel
theorem dX7_readsCouples_22 : decode cX7_readsCouples 22 = .ok (.istore_n 3, 1) := by decide +kernel
theorem dX7_readsCouples_23 : decode cX7_readsCouples 23 = .ok (.iconst 1, 1) := by decide +kernel
theorem dX7_readsCouples_24 : decode cX7_readsCouples 24 = .ok (.iload_n 3, 1) := by decide +kernel
theorem dX7_readsCouples_25 : decode cX7_readsCouples 25 = .ok (.aload_n 0, 1) := by decide +kernel
theorem dX7_readsCouples_26 : decode cX7_readsCouples 26 = .ok (.getfield 22, 3) := by decide +kernel
theorem dX7_readsCouples_29 : decode cX7_readsCouples 29 = .ok (.bipush 40, 2) := by decide +kernel
theorem dX7_readsCouples_31 : decode cX7_readsCouples 31 = .ok (.iload_n 2, 1) := by decide +kernel
theorem dX7_readsCouples_32 : decode cX7_readsCouples 32 = .ok (.iadd, 1) := by decide +kernel
theorem dX7_readsCouples_33 : decode cX7_readsCouples 33 = .ok (.iaload, 1) := by decide +kernel
theorem dX7_readsCouples_34 : decode cX7_readsCouples 34 = .ok (.invokestatic 121, 3) := by decide +kernel
theorem dX7_readsCouples_37 : decode cX7_readsCouples 37 = .ok (.istore 4, 2) := by decide +kernel
theorem dX7_readsCouples_39 : decode cX7_readsCouples 39 = .ok (.iload 4, 2) := by decide +kernel
theorem dX7_readsCouples_41 : decode cX7_readsCouples 41 = .ok (.bipush (-9), 2) := by decide +kernel
theorem dX7_readsCouples_43 : decode cX7_readsCouples 43 = .ok (.if_icmp .ne 10, 3) := by decide +kernel
theorem dX7_readsCouples_46 : decode cX7_readsCouples 46 = .ok (.aload_n 0, 1) := by decide +kernel
theorem dX7_readsCouples_47 : decode cX7_readsCouples 47 = .ok (.iconst 0, 1) := by decide +kernel
theorem dX7_readsCouples_48 : decode cX7_readsCouples 48 = .ok (.putfield 124, 3) := by decide +kernel
theorem dX7_readsCouples_51 : decode cX7_readsCouples 51 = .ok (.iload_n 2, 1) := by decide +kernel
theorem dX7_readsCouples_52 : decode cX7_readsCouples 52 = .ok (.ireturn, 1) := by decide +kernel
theorem dX7_readsCouples_53 : decode cX7_readsCouples 53 = .ok (.iconst 3, 1) := by decide +kernel
theorem dX7_readsCouples_54 : decode cX7_readsCouples 54 = .ok (.iload_n 2, 1) := by decide +kernel
theorem dX7_readsCouples_55 : decode cX7_readsCouples 55 = .ok (.iconst 5, 1) := by decide +kernel
theorem dX7_readsCouples_56 : decode cX7_readsCouples 56 = .ok (.idiv, 1) := by decide +kernel
theorem dX7_readsCouples_57 : decode cX7_readsCouples 57 = .ok (.imul, 1) := by decide +kernel
theorem dX7_readsCouples_58 : decode cX7_readsCouples 58 = .ok (.istore 5, 2) := by decide +kernel
theorem dX7_readsCouples_60 : decode cX7_readsCouples 60 = .ok (.iload_n 3, 1) := by decide +kernel
theorem dX7_readsCouples_61 : decode cX7_readsCouples 61 = .ok (.ifCond .ne 15, 3) := by decide +kernel
theorem dX7_readsCouples_64 : decode cX7_readsCouples 64 = .ok (.aload_n 0, 1) := by decide +kernel
theorem dX7_readsCouples_65 : decode cX7_readsCouples 65 = .ok (.getfield 31, 3) := by decide +kernel
theorem dX7_readsCouples_68 : decode cX7_readsCouples 68 = .ok (.iload 5, 2) := by decide +kernel
theorem dX7_readsCouples_70 : decode cX7_readsCouples 70 = .ok (.iload 4, 2) := by decide +kernel
theorem dX7_readsCouples_72 : decode cX7_readsCouples 72 = .ok (.iastore, 1) := by decide +kernel
theorem dX7_readsCouples_73 : decode cX7_readsCouples 73 = .ok (.goto 73, 3) := by decide +kernel
theorem dX7_readsCouples_76 : decode cX7_readsCouples 76 = .ok (.iload_n 3, 1) := by decide +kernel
theorem dX7_readsCouples_77 : decode cX7_readsCouples 77 = .ok (.iconst 1, 1) := by decide +kernel
theorem dX7_readsCouples_78 : decode cX7_readsCouples 78 = .ok (.if_icmp .ne 20, 3) := by decide +kernel
theorem dX7_readsCouples_81 : decode cX7_readsCouples 81 = .ok (.aload_n 0, 1) := by decide +kernel
theorem dX7_readsCouples_82 : decode cX7_readsCouples 82 = .ok (.getfield 31, 3) := by decide +kernel
theorem dX7_readsCouples_85 : decode cX7_readsCouples 85 = .ok (.iload 5, 2) := by decide +kernel
theorem dX7_readsCouples_87 : decode cX7_readsCouples 87 = .ok (.iconst 1, 1) := by decide +kernel
theorem dX7_readsCouples_88 : decode cX7_readsCouples 88 = .ok (.iadd, 1) := by decide +kernel
theorem dX7_readsCouples_89 : decode cX7_readsCouples 89 = .ok (.bipush 10, 2) := by decide +kernel
theorem dX7_readsCouples_91 : decode cX7_readsCouples 91 = .ok (.iload 4, 2) := by decide +kernel
theorem dX7_readsCouples_93 : decode cX7_readsCouples 93 = .ok (.imul, 1) := by decide +kernel
theorem dX7_readsCouples_94 : decode cX7_readsCouples 94 = .ok (.iastore, 1) := by decide +kernel
theorem dX7_readsCouples_95 : decode cX7_readsCouples 95 = .ok (.goto 51, 3) := by decide +kernel
theorem dX7_readsCouples_98 : decode cX7_readsCouples 98 = .ok (.iload_n 3, 1) := by decide +kernel
theorem dX7_readsCouples_99 : decode cX7_readsCouples 99 = .ok (.iconst 2, 1) := by decide +kernel
theorem dX7_readsCouples_100 : decode cX7_readsCouples 100 = .ok (.if_icmp .ne 20, 3) := by decide +kernel
theorem dX7_readsCouples_103 : decode cX7_readsCouples 103 = .ok (.aload_n 0, 1) := by decide +kernel
theorem dX7_readsCouples_104 : decode cX7_readsCouples 104 = .ok (.getfield 31, 3) := by decide +kernel
theorem dX7_readsCouples_107 : decode cX7_readsCouples 107 = .ok (.iload 5, 2) := by decide +kernel
theorem dX7_readsCouples_109 : decode cX7_readsCouples 109 = .ok (.iconst 1, 1) := by decide +kernel
theorem dX7_readsCouples_110 : decode cX7_readsCouples 110 = .ok (.iadd, 1) := by decide +kernel
theorem dX7_readsCouples_111 : decode cX7_readsCouples 111 = .ok (.dup2, 1) := by decide +kernel
theorem dX7_readsCouples_112 : decode cX7_readsCouples 112 = .ok (.iaload, 1) := by decide +kernel
theorem dX7_readsCouples_113 : decode cX7_readsCouples 113 = .ok (.iload 4, 2) := by decide +kernel
theorem dX7_readsCouples_115 : decode cX7_readsCouples 115 = .ok (.iadd, 1) := by decide +kernel
theorem dX7_readsCouples_116 : decode cX7_readsCouples 116 = .ok (.iastore, 1) := by decide +kernel
theorem dX7_readsCouples_117 : decode cX7_readsCouples 117 = .ok (.goto 29, 3) := by decide +kernel
theorem dX7_readsCouples_120 : decode cX7_readsCouples 120 = .ok (.iload_n 3, 1) := by decide +kernel
theorem dX7_readsCouples_121 : decode cX7_readsCouples 121 = .ok (.iconst 3, 1) := by decide +kernel
theorem dX7_readsCouples_122 : decode cX7_readsCouples 122 = .ok (.if_icmp .ne 24, 3) := by decide +kernel
theorem dX7_readsCouples_125 : decode cX7_readsCouples 125 = .ok (.aload_n 0, 1) := by decide +kernel
theorem dX7_readsCouples_126 : decode cX7_readsCouples 126 = .ok (.getfield 31, 3) := by decide +kernel
theorem dX7_readsCouples_129 : decode cX7_readsCouples 129 = .ok (.iload 5, 2) := by decide +kernel
theorem dX7_readsCouples_131 : decode cX7_readsCouples 131 = .ok (.iconst 2, 1) := by decide +kernel
theorem dX7_readsCouples_132 : decode cX7_readsCouples 132 = .ok (.iadd, 1) := by decide +kernel
theorem dX7_readsCouples_133 : decode cX7_readsCouples 133 = .ok (.iload 4, 2) := by decide +kernel
theorem dX7_readsCouples_135 : decode cX7_readsCouples 135 = .ok (.iastore, 1) := by decide +kernel
theorem dX7_readsCouples_136 : decode cX7_readsCouples 136 = .ok (.aload_n 0, 1) := by decide +kernel
theorem dX7_readsCouples_137 : decode cX7_readsCouples 137 = .ok (.dup, 1) := by decide +kernel
theorem dX7_readsCouples_138 : decode cX7_readsCouples 138 = .ok (.getfield 124, 3) := by decide +kernel
theorem dX7_readsCouples_141 : decode cX7_readsCouples 141 = .ok (.iconst 1, 1) := by decide +kernel
theorem dX7_readsCouples_142 : decode cX7_readsCouples 142 = .ok (.iadd, 1) := by decide +kernel
theorem dX7_readsCouples_143 : decode cX7_readsCouples 143 = .ok (.putfield 124, 3) := by decide +kernel
theorem dX7_readsCouples_146 : decode cX7_readsCouples 146 = .ok (.iinc 2 1, 3) := by decide +kernel
theorem dX7_readsCouples_149 : decode cX7_readsCouples 149 = .ok (.goto (-135), 3) := by decide +kernel
theorem dX7_readsCouples_152 : decode cX7_readsCouples 152 = .ok (.iload_n 1, 1) := by decide +kernel
theorem dX7_readsCouples_153 : decode cX7_readsCouples 153 = .ok (.ifCond .le 17, 3) := by decide +kernel
theorem dX7_readsCouples_156 : decode cX7_readsCouples 156 = .ok (.iload_n 1, 1) := by decide +kernel
theorem dX7_readsCouples_157 : decode cX7_readsCouples 157 = .ok (.iconst 5, 1) := by decide +kernel
theorem dX7_readsCouples_158 : decode cX7_readsCouples 158 = .ok (.irem, 1) := by decide +kernel
theorem dX7_readsCouples_159 : decode cX7_readsCouples 159 = .ok (.iconst 4, 1) := by decide +kernel
theorem dX7_readsCouples_160 : decode cX7_readsCouples 160 = .ok (.if_icmp .eq 10, 3) := by decide +kernel
theorem dX7_readsCouples_163 : decode cX7_readsCouples 163 = .ok (.aload_n 0, 1) := by decide +kernel
theorem dX7_readsCouples_164 : decode cX7_readsCouples 164 = .ok (.iconst 0, 1) := by decide +kernel
theorem dX7_readsCouples_165 : decode cX7_readsCouples 165 = .ok (.putfield 124, 3) := by decide +kernel
theorem dX7_readsCouples_168 : decode cX7_readsCouples 168 = .ok (.iload_n 1, 1) := by decide +kernel
theorem dX7_readsCouples_169 : decode cX7_readsCouples 169 = .ok (.ireturn, 1) := by decide +kernel
theorem dX7_readsCouples_170 : decode cX7_readsCouples 170 = .ok (.iconst (-1), 1) := by decide +kernel
theorem dX7_readsCouples_171 : decode cX7_readsCouples 171 = .ok (.ireturn, 1) := by decide +kernel
theorem dX7_fault_0 : decode cX7_fault 0 = .ok (.iload_n 1, 1) := by decide +kernel
theorem dX7_fault_1 : decode cX7_fault 1 = .ok (.invokestatic 107, 3) := by decide +kernel
theorem dX7_fault_4 : decode cX7_fault 4 = .ok (.ifCond .ne 8, 3) := by decide +kernel
theorem dX7_fault_7 : decode cX7_fault 7 = .ok (.bipush (-2), 2) := by decide +kernel
theorem dX7_fault_9 : decode cX7_fault 9 = .ok (.goto 18, 3) := by decide +kernel
theorem dX7_fault_12 : decode cX7_fault 12 = .ok (.iload_n 1, 1) := by decide +kernel
theorem dX7_fault_13 : decode cX7_fault 13 = .ok (.ifCond .ne 10, 3) := by decide +kernel
theorem dX7_fault_16 : decode cX7_fault 16 = .ok (.aload_n 0, 1) := by decide +kernel
theorem dX7_fault_17 : decode cX7_fault 17 = .ok (.invokevirtual 127, 3) := by decide +kernel
theorem dX7_fault_20 : decode cX7_fault 20 = .ok (.goto 7, 3) := by decide +kernel
theorem dX7_fault_23 : decode cX7_fault 23 = .ok (.aload_n 0, 1) := by decide +kernel
theorem dX7_fault_24 : decode cX7_fault 24 = .ok (.invokevirtual 131, 3) := by decide +kernel
theorem dX7_fault_27 : decode cX7_fault 27 = .ok (.ireturn, 1) := by decide +kernel
theorem dX7_isHead_0 : decode cX7_isHead 0 = .ok (.iload_n 1, 1) := by decide +kernel
theorem dX7_isHead_1 : decode cX7_isHead 1 = .ok (.i2l, 1) := by decide +kernel
theorem dX7_isHead_2 : decode cX7_isHead 2 = .ok (.lconst 0, 1) := by decide +kernel
theorem dX7_isHead_3 : decode cX7_isHead 3 = .ok (.aload_n 0, 1) := by decide +kernel
theorem dX7_isHead_4 : decode cX7_isHead 4 = .ok (.getfield 118, 3) := by decide +kernel
theorem dX7_isHead_7 : decode cX7_isHead 7 = .ok (.iconst 1, 1) := by decide +kernel
theorem dX7_isHead_8 : decode cX7_isHead 8 = .ok (.isub, 1) := by decide +kernel
theorem dX7_isHead_9 : decode cX7_isHead 9 = .ok (.i2l, 1) := by decide +kernel
theorem dX7_isHead_10 : decode cX7_isHead 10 = .ok (.invokestatic 79, 3) := by decide +kernel
theorem dX7_isHead_13 : decode cX7_isHead 13 = .ok (.ireturn, 1) := by decide +kernel
theorem dX7_isCouple_0 : decode cX7_isCouple 0 = .ok (.iload_n 1, 1) := by decide +kernel
theorem dX7_isCouple_1 : decode cX7_isCouple 1 = .ok (.i2l, 1) := by decide +kernel
theorem dX7_isCouple_2 : decode cX7_isCouple 2 = .ok (.lconst 0, 1) := by decide +kernel
theorem dX7_isCouple_3 : decode cX7_isCouple 3 = .ok (.aload_n 0, 1) := by decide +kernel
theorem dX7_isCouple_4 : decode cX7_isCouple 4 = .ok (.getfield 124, 3) := by decide +kernel
theorem dX7_isCouple_7 : decode cX7_isCouple 7 = .ok (.iconst 1, 1) := by decide +kernel
theorem dX7_isCouple_8 : decode cX7_isCouple 8 = .ok (.isub, 1) := by decide +kernel
theorem dX7_isCouple_9 : decode cX7_isCouple 9 = .ok (.i2l, 1) := by decide +kernel
theorem dX7_isCouple_10 : decode cX7_isCouple 10 = .ok (.invokestatic 79, 3) := by decide +kernel
theorem dX7_isCouple_13 : decode cX7_isCouple 13 = .ok (.ireturn, 1) := by decide +kernel
theorem dX7_isDay_0 : decode cX7_isDay 0 = .ok (.iload_n 0, 1) := by decide +kernel
theorem dX7_isDay_1 : decode cX7_isDay 1 = .ok (.i2l, 1) := by decide +kernel
theorem dX7_isDay_2 : decode cX7_isDay 2 = .ok (.lconst 0, 1) := by decide +kernel
theorem dX7_isDay_3 : decode cX7_isDay 3 = .ok (.ldc2_w 134, 3) := by decide +kernel
theorem dX7_isDay_6 : decode cX7_isDay 6 = .ok (.invokestatic 79, 3) := by decide +kernel
theorem dX7_isDay_9 : decode cX7_isDay 9 = .ok (.ireturn, 1) := by decide +kernel
theorem dX7_head_0 : decode cX7_head 0 = .ok (.aload_n 0, 1) := by decide +kernel
theorem dX7_head_1 : decode cX7_head 1 = .ok (.invokevirtual 127, 3) := by decide +kernel
theorem dX7_head_4 : decode cX7_head 4 = .ok (.pop, 1) := by decide +kernel
theorem dX7_head_5 : decode cX7_head 5 = .ok (.aload_n 0, 1) := by decide +kernel
theorem dX7_head_6 : decode cX7_head 6 = .ok (.iload_n 1, 1) := by decide +kernel
theorem dX7_head_7 : decode cX7_head 7 = .ok (.invokevirtual 136, 3) := by decide +kernel
theorem dX7_head_10 : decode cX7_head 10 = .ok (.ifCond .eq 23, 3) := by decide +kernel
theorem dX7_head_13 : decode cX7_head 13 = .ok (.iload_n 2, 1) := by decide +kernel
theorem dX7_head_14 : decode cX7_head 14 = .ok (.invokestatic 107, 3) := by decide +kernel
theorem dX7_head_17 : decode cX7_head 17 = .ok (.ifCond .eq 16, 3) := by decide +kernel
theorem dX7_head_20 : decode cX7_head 20 = .ok (.aload_n 0, 1) := by decide +kernel
theorem dX7_head_21 : decode cX7_head 21 = .ok (.getfield 28, 3) := by decide +kernel
theorem dX7_head_24 : decode cX7_head 24 = .ok (.iconst 2, 1) := by decide +kernel
theorem dX7_head_25 : decode cX7_head 25 = .ok (.iload_n 1, 1) := by decide +kernel
theorem dX7_head_26 : decode cX7_head 26 = .ok (.imul, 1) := by decide +kernel
theorem dX7_head_27 : decode cX7_head 27 = .ok (.iload_n 2, 1) := by decide +kernel
theorem dX7_head_28 : decode cX7_head 28 = .ok (.iadd, 1) := by decide +kernel
theorem dX7_head_29 : decode cX7_head 29 = .ok (.iaload, 1) := by decide +kernel
theorem dX7_head_30 : decode cX7_head 30 = .ok (.goto 5, 3) := by decide +kernel
theorem dX7_head_33 : decode cX7_head 33 = .ok (.bipush (-2), 2) := by decide +kernel
theorem dX7_head_35 : decode cX7_head 35 = .ok (.ireturn, 1) := by decide +kernel
theorem dX7_couple_0 : decode cX7_couple 0 = .ok (.aload_n 0, 1) := by decide +kernel
theorem dX7_couple_1 : decode cX7_couple 1 = .ok (.invokevirtual 131, 3) := by decide +kernel
theorem dX7_couple_4 : decode cX7_couple 4 = .ok (.pop, 1) := by decide +kernel
theorem dX7_couple_5 : decode cX7_couple 5 = .ok (.aload_n 0, 1) := by decide +kernel
theorem dX7_couple_6 : decode cX7_couple 6 = .ok (.iload_n 1, 1) := by decide +kernel
theorem dX7_couple_7 : decode cX7_couple 7 = .ok (.invokevirtual 139, 3) := by decide +kernel
theorem dX7_couple_10 : decode cX7_couple 10 = .ok (.ifCond .eq 28, 3) := by decide +kernel
theorem dX7_couple_13 : decode cX7_couple 13 = .ok (.iload_n 2, 1) := by decide +kernel
theorem dX7_couple_14 : decode cX7_couple 14 = .ok (.i2l, 1) := by decide +kernel
theorem dX7_couple_15 : decode cX7_couple 15 = .ok (.lconst 0, 1) := by decide +kernel
theorem dX7_couple_16 : decode cX7_couple 16 = .ok (.ldc2_w 92, 3) := by decide +kernel
theorem dX7_couple_19 : decode cX7_couple 19 = .ok (.invokestatic 79, 3) := by decide +kernel
theorem dX7_couple_22 : decode cX7_couple 22 = .ok (.ifCond .eq 16, 3) := by decide +kernel
theorem dX7_couple_25 : decode cX7_couple 25 = .ok (.aload_n 0, 1) := by decide +kernel
theorem dX7_couple_26 : decode cX7_couple 26 = .ok (.getfield 31, 3) := by decide +kernel
theorem dX7_couple_29 : decode cX7_couple 29 = .ok (.iconst 3, 1) := by decide +kernel
theorem dX7_couple_30 : decode cX7_couple 30 = .ok (.iload_n 1, 1) := by decide +kernel
theorem dX7_couple_31 : decode cX7_couple 31 = .ok (.imul, 1) := by decide +kernel
theorem dX7_couple_32 : decode cX7_couple 32 = .ok (.iload_n 2, 1) := by decide +kernel
theorem dX7_couple_33 : decode cX7_couple 33 = .ok (.iadd, 1) := by decide +kernel
theorem dX7_couple_34 : decode cX7_couple 34 = .ok (.iaload, 1) := by decide +kernel
theorem dX7_couple_35 : decode cX7_couple 35 = .ok (.goto 5, 3) := by decide +kernel
theorem dX7_couple_38 : decode cX7_couple 38 = .ok (.bipush (-2), 2) := by decide +kernel
theorem dX7_couple_40 : decode cX7_couple 40 = .ok (.ireturn, 1) := by decide +kernel
theorem dX7_weather_0 : decode cX7_weather 0 = .ok (.iload_n 1, 1) := by decide +kernel
theorem dX7_weather_1 : decode cX7_weather 1 = .ok (.invokestatic 107, 3) := by decide +kernel
theorem dX7_weather_4 : decode cX7_weather 4 = .ok (.ifCond .eq 25, 3) := by decide +kernel
theorem dX7_weather_7 : decode cX7_weather 7 = .ok (.iload_n 2, 1) := by decide +kernel
theorem dX7_weather_8 : decode cX7_weather 8 = .ok (.i2l, 1) := by decide +kernel
theorem dX7_weather_9 : decode cX7_weather 9 = .ok (.lconst 0, 1) := by decide +kernel
theorem dX7_weather_10 : decode cX7_weather 10 = .ok (.iload_n 1, 1) := by decide +kernel
theorem dX7_weather_11 : decode cX7_weather 11 = .ok (.ifCond .ne 9, 3) := by decide +kernel
theorem dX7_weather_14 : decode cX7_weather 14 = .ok (.ldc2_w 142, 3) := by decide +kernel
theorem dX7_weather_17 : decode cX7_weather 17 = .ok (.goto 6, 3) := by decide +kernel
theorem dX7_weather_20 : decode cX7_weather 20 = .ok (.ldc2_w 134, 3) := by decide +kernel
theorem dX7_weather_23 : decode cX7_weather 23 = .ok (.invokestatic 79, 3) := by decide +kernel
theorem dX7_weather_26 : decode cX7_weather 26 = .ok (.ifCond .ne 6, 3) := by decide +kernel
theorem dX7_weather_29 : decode cX7_weather 29 = .ok (.bipush (-2), 2) := by decide +kernel
theorem dX7_weather_31 : decode cX7_weather 31 = .ok (.ireturn, 1) := by decide +kernel
theorem dX7_weather_32 : decode cX7_weather 32 = .ok (.aload_n 0, 1) := by decide +kernel
theorem dX7_weather_33 : decode cX7_weather 33 = .ok (.getfield 34, 3) := by decide +kernel
theorem dX7_weather_36 : decode cX7_weather 36 = .ok (.iload_n 1, 1) := by decide +kernel
theorem dX7_weather_37 : decode cX7_weather 37 = .ok (.iaload, 1) := by decide +kernel
theorem dX7_weather_38 : decode cX7_weather 38 = .ok (.bipush 6, 2) := by decide +kernel
theorem dX7_weather_40 : decode cX7_weather 40 = .ok (.if_icmp .ne 6, 3) := by decide +kernel
theorem dX7_weather_43 : decode cX7_weather 43 = .ok (.bipush (-4), 2) := by decide +kernel
theorem dX7_weather_45 : decode cX7_weather 45 = .ok (.ireturn, 1) := by decide +kernel
theorem dX7_weather_46 : decode cX7_weather 46 = .ok (.aload_n 0, 1) := by decide +kernel
theorem dX7_weather_47 : decode cX7_weather 47 = .ok (.getfield 37, 3) := by decide +kernel
theorem dX7_weather_50 : decode cX7_weather 50 = .ok (.bipush 6, 2) := by decide +kernel
theorem dX7_weather_52 : decode cX7_weather 52 = .ok (.iload_n 1, 1) := by decide +kernel
theorem dX7_weather_53 : decode cX7_weather 53 = .ok (.imul, 1) := by decide +kernel
theorem dX7_weather_54 : decode cX7_weather 54 = .ok (.aload_n 0, 1) := by decide +kernel
theorem dX7_weather_55 : decode cX7_weather 55 = .ok (.getfield 34, 3) := by decide +kernel
theorem dX7_weather_58 : decode cX7_weather 58 = .ok (.iload_n 1, 1) := by decide +kernel
theorem dX7_weather_59 : decode cX7_weather 59 = .ok (.iaload, 1) := by decide +kernel
theorem dX7_weather_60 : decode cX7_weather 60 = .ok (.iadd, 1) := by decide +kernel
theorem dX7_weather_61 : decode cX7_weather 61 = .ok (.iload_n 2, 1) := by decide +kernel
theorem dX7_weather_62 : decode cX7_weather 62 = .ok (.iastore, 1) := by decide +kernel
theorem dX7_weather_63 : decode cX7_weather 63 = .ok (.aload_n 0, 1) := by decide +kernel
theorem dX7_weather_64 : decode cX7_weather 64 = .ok (.getfield 34, 3) := by decide +kernel
theorem dX7_weather_67 : decode cX7_weather 67 = .ok (.iload_n 1, 1) := by decide +kernel
theorem dX7_weather_68 : decode cX7_weather 68 = .ok (.dup2, 1) := by decide +kernel
theorem dX7_weather_69 : decode cX7_weather 69 = .ok (.iaload, 1) := by decide +kernel
theorem dX7_weather_70 : decode cX7_weather 70 = .ok (.iconst 1, 1) := by decide +kernel
theorem dX7_weather_71 : decode cX7_weather 71 = .ok (.iadd, 1) := by decide +kernel
theorem dX7_weather_72 : decode cX7_weather 72 = .ok (.iastore, 1) := by decide +kernel
theorem dX7_weather_73 : decode cX7_weather 73 = .ok (.aload_n 0, 1) := by decide +kernel
theorem dX7_weather_74 : decode cX7_weather 74 = .ok (.getfield 34, 3) := by decide +kernel
theorem dX7_weather_77 : decode cX7_weather 77 = .ok (.iload_n 1, 1) := by decide +kernel
theorem dX7_weather_78 : decode cX7_weather 78 = .ok (.iaload, 1) := by decide +kernel
theorem dX7_weather_79 : decode cX7_weather 79 = .ok (.ireturn, 1) := by decide +kernel
theorem dX7_rabbit_0 : decode cX7_rabbit 0 = .ok (.iload_n 1, 1) := by decide +kernel
theorem dX7_rabbit_1 : decode cX7_rabbit 1 = .ok (.invokestatic 144, 3) := by decide +kernel
theorem dX7_rabbit_4 : decode cX7_rabbit 4 = .ok (.ifCond .eq 15, 3) := by decide +kernel
theorem dX7_rabbit_7 : decode cX7_rabbit 7 = .ok (.iload_n 2, 1) := by decide +kernel
theorem dX7_rabbit_8 : decode cX7_rabbit 8 = .ok (.i2l, 1) := by decide +kernel
theorem dX7_rabbit_9 : decode cX7_rabbit 9 = .ok (.lconst 0, 1) := by decide +kernel
theorem dX7_rabbit_10 : decode cX7_rabbit 10 = .ok (.ldc2_w 147, 3) := by decide +kernel
theorem dX7_rabbit_13 : decode cX7_rabbit 13 = .ok (.invokestatic 79, 3) := by decide +kernel
theorem dX7_rabbit_16 : decode cX7_rabbit 16 = .ok (.ifCond .ne 6, 3) := by decide +kernel
theorem dX7_rabbit_19 : decode cX7_rabbit 19 = .ok (.bipush (-2), 2) := by decide +kernel
theorem dX7_rabbit_21 : decode cX7_rabbit 21 = .ok (.ireturn, 1) := by decide +kernel
theorem dX7_rabbit_22 : decode cX7_rabbit 22 = .ok (.aload_n 0, 1) := by decide +kernel
theorem dX7_rabbit_23 : decode cX7_rabbit 23 = .ok (.getfield 149, 3) := by decide +kernel
theorem dX7_rabbit_26 : decode cX7_rabbit 26 = .ok (.bipush 8, 2) := by decide +kernel
theorem dX7_rabbit_28 : decode cX7_rabbit 28 = .ok (.if_icmp .ne 6, 3) := by decide +kernel
theorem dX7_rabbit_31 : decode cX7_rabbit 31 = .ok (.bipush (-4), 2) := by decide +kernel
theorem dX7_rabbit_33 : decode cX7_rabbit 33 = .ok (.ireturn, 1) := by decide +kernel
theorem dX7_rabbit_34 : decode cX7_rabbit 34 = .ok (.aload_n 0, 1) := by decide +kernel
theorem dX7_rabbit_35 : decode cX7_rabbit 35 = .ok (.getfield 40, 3) := by decide +kernel
theorem dX7_rabbit_38 : decode cX7_rabbit 38 = .ok (.iconst 2, 1) := by decide +kernel
theorem dX7_rabbit_39 : decode cX7_rabbit 39 = .ok (.aload_n 0, 1) := by decide +kernel
theorem dX7_rabbit_40 : decode cX7_rabbit 40 = .ok (.getfield 149, 3) := by decide +kernel
theorem dX7_rabbit_43 : decode cX7_rabbit 43 = .ok (.imul, 1) := by decide +kernel
theorem dX7_rabbit_44 : decode cX7_rabbit 44 = .ok (.iload_n 1, 1) := by decide +kernel
theorem dX7_rabbit_45 : decode cX7_rabbit 45 = .ok (.iastore, 1) := by decide +kernel
theorem dX7_rabbit_46 : decode cX7_rabbit 46 = .ok (.aload_n 0, 1) := by decide +kernel
theorem dX7_rabbit_47 : decode cX7_rabbit 47 = .ok (.getfield 40, 3) := by decide +kernel
theorem dX7_rabbit_50 : decode cX7_rabbit 50 = .ok (.iconst 2, 1) := by decide +kernel
theorem dX7_rabbit_51 : decode cX7_rabbit 51 = .ok (.aload_n 0, 1) := by decide +kernel
theorem dX7_rabbit_52 : decode cX7_rabbit 52 = .ok (.getfield 149, 3) := by decide +kernel
theorem dX7_rabbit_55 : decode cX7_rabbit 55 = .ok (.imul, 1) := by decide +kernel
theorem dX7_rabbit_56 : decode cX7_rabbit 56 = .ok (.iconst 1, 1) := by decide +kernel
theorem dX7_rabbit_57 : decode cX7_rabbit 57 = .ok (.iadd, 1) := by decide +kernel
theorem dX7_rabbit_58 : decode cX7_rabbit 58 = .ok (.iload_n 2, 1) := by decide +kernel
theorem dX7_rabbit_59 : decode cX7_rabbit 59 = .ok (.iastore, 1) := by decide +kernel
theorem dX7_rabbit_60 : decode cX7_rabbit 60 = .ok (.aload_n 0, 1) := by decide +kernel
theorem dX7_rabbit_61 : decode cX7_rabbit 61 = .ok (.dup, 1) := by decide +kernel
theorem dX7_rabbit_62 : decode cX7_rabbit 62 = .ok (.getfield 149, 3) := by decide +kernel
theorem dX7_rabbit_65 : decode cX7_rabbit 65 = .ok (.iconst 1, 1) := by decide +kernel
theorem dX7_rabbit_66 : decode cX7_rabbit 66 = .ok (.iadd, 1) := by decide +kernel
theorem dX7_rabbit_67 : decode cX7_rabbit 67 = .ok (.putfield 149, 3) := by decide +kernel
theorem dX7_rabbit_70 : decode cX7_rabbit 70 = .ok (.aload_n 0, 1) := by decide +kernel
theorem dX7_rabbit_71 : decode cX7_rabbit 71 = .ok (.getfield 149, 3) := by decide +kernel
theorem dX7_rabbit_74 : decode cX7_rabbit 74 = .ok (.ireturn, 1) := by decide +kernel
theorem dX7_back_0 : decode cX7_back 0 = .ok (.iload_n 1, 1) := by decide +kernel
theorem dX7_back_1 : decode cX7_back 1 = .ok (.i2l, 1) := by decide +kernel
theorem dX7_back_2 : decode cX7_back 2 = .ok (.lconst 0, 1) := by decide +kernel
theorem dX7_back_3 : decode cX7_back 3 = .ok (.ldc2_w 92, 3) := by decide +kernel
theorem dX7_back_6 : decode cX7_back 6 = .ok (.invokestatic 79, 3) := by decide +kernel
theorem dX7_back_9 : decode cX7_back 9 = .ok (.ifCond .ne 6, 3) := by decide +kernel
theorem dX7_back_12 : decode cX7_back 12 = .ok (.bipush (-2), 2) := by decide +kernel
theorem dX7_back_14 : decode cX7_back 14 = .ok (.ireturn, 1) := by decide +kernel
theorem dX7_back_15 : decode cX7_back 15 = .ok (.iload_n 1, 1) := by decide +kernel
theorem dX7_back_16 : decode cX7_back 16 = .ok (.iconst 2, 1) := by decide +kernel
theorem dX7_back_17 : decode cX7_back 17 = .ok (.if_icmp .ne 10, 3) := by decide +kernel
theorem dX7_back_20 : decode cX7_back 20 = .ok (.aload_n 0, 1) := by decide +kernel
theorem dX7_back_21 : decode cX7_back 21 = .ok (.getfield 149, 3) := by decide +kernel
theorem dX7_back_24 : decode cX7_back 24 = .ok (.goto 9, 3) := by decide +kernel
theorem dX7_back_27 : decode cX7_back 27 = .ok (.aload_n 0, 1) := by decide +kernel
theorem dX7_back_28 : decode cX7_back 28 = .ok (.getfield 34, 3) := by decide +kernel
theorem dX7_back_31 : decode cX7_back 31 = .ok (.iload_n 1, 1) := by decide +kernel
theorem dX7_back_32 : decode cX7_back 32 = .ok (.iaload, 1) := by decide +kernel
theorem dX7_back_33 : decode cX7_back 33 = .ok (.istore_n 2, 1) := by decide +kernel
theorem dX7_back_34 : decode cX7_back 34 = .ok (.iload_n 2, 1) := by decide +kernel
theorem dX7_back_35 : decode cX7_back 35 = .ok (.ifCond .ne 6, 3) := by decide +kernel
theorem dX7_back_38 : decode cX7_back 38 = .ok (.bipush (-3), 2) := by decide +kernel
theorem dX7_back_40 : decode cX7_back 40 = .ok (.ireturn, 1) := by decide +kernel
theorem dX7_back_41 : decode cX7_back 41 = .ok (.aload_n 0, 1) := by decide +kernel
theorem dX7_back_42 : decode cX7_back 42 = .ok (.dup, 1) := by decide +kernel
theorem dX7_back_43 : decode cX7_back 43 = .ok (.getfield 149, 3) := by decide +kernel
theorem dX7_back_46 : decode cX7_back 46 = .ok (.iload_n 1, 1) := by decide +kernel
theorem dX7_back_47 : decode cX7_back 47 = .ok (.iconst 2, 1) := by decide +kernel
theorem dX7_back_48 : decode cX7_back 48 = .ok (.if_icmp .ne 7, 3) := by decide +kernel
theorem dX7_back_51 : decode cX7_back 51 = .ok (.iconst 1, 1) := by decide +kernel
theorem dX7_back_52 : decode cX7_back 52 = .ok (.goto 4, 3) := by decide +kernel
theorem dX7_back_55 : decode cX7_back 55 = .ok (.iconst 0, 1) := by decide +kernel
theorem dX7_back_56 : decode cX7_back 56 = .ok (.isub, 1) := by decide +kernel
theorem dX7_back_57 : decode cX7_back 57 = .ok (.putfield 149, 3) := by decide +kernel
theorem dX7_back_60 : decode cX7_back 60 = .ok (.aload_n 0, 1) := by decide +kernel
theorem dX7_back_61 : decode cX7_back 61 = .ok (.getfield 34, 3) := by decide +kernel
theorem dX7_back_64 : decode cX7_back 64 = .ok (.iconst 0, 1) := by decide +kernel
theorem dX7_back_65 : decode cX7_back 65 = .ok (.dup2, 1) := by decide +kernel
theorem dX7_back_66 : decode cX7_back 66 = .ok (.iaload, 1) := by decide +kernel
theorem dX7_back_67 : decode cX7_back 67 = .ok (.iload_n 1, 1) := by decide +kernel
theorem dX7_back_68 : decode cX7_back 68 = .ok (.ifCond .ne 7, 3) := by decide +kernel
theorem dX7_back_71 : decode cX7_back 71 = .ok (.iconst 1, 1) := by decide +kernel
theorem dX7_back_72 : decode cX7_back 72 = .ok (.goto 4, 3) := by decide +kernel
theorem dX7_back_75 : decode cX7_back 75 = .ok (.iconst 0, 1) := by decide +kernel
theorem dX7_back_76 : decode cX7_back 76 = .ok (.isub, 1) := by decide +kernel
theorem dX7_back_77 : decode cX7_back 77 = .ok (.iastore, 1) := by decide +kernel
theorem dX7_back_78 : decode cX7_back 78 = .ok (.aload_n 0, 1) := by decide +kernel
theorem dX7_back_79 : decode cX7_back 79 = .ok (.getfield 34, 3) := by decide +kernel
theorem dX7_back_82 : decode cX7_back 82 = .ok (.iconst 1, 1) := by decide +kernel
theorem dX7_back_83 : decode cX7_back 83 = .ok (.dup2, 1) := by decide +kernel
theorem dX7_back_84 : decode cX7_back 84 = .ok (.iaload, 1) := by decide +kernel
theorem dX7_back_85 : decode cX7_back 85 = .ok (.iload_n 1, 1) := by decide +kernel
theorem dX7_back_86 : decode cX7_back 86 = .ok (.iconst 1, 1) := by decide +kernel
theorem dX7_back_87 : decode cX7_back 87 = .ok (.if_icmp .ne 7, 3) := by decide +kernel
theorem dX7_back_90 : decode cX7_back 90 = .ok (.iconst 1, 1) := by decide +kernel
theorem dX7_back_91 : decode cX7_back 91 = .ok (.goto 4, 3) := by decide +kernel
theorem dX7_back_94 : decode cX7_back 94 = .ok (.iconst 0, 1) := by decide +kernel
theorem dX7_back_95 : decode cX7_back 95 = .ok (.isub, 1) := by decide +kernel
theorem dX7_back_96 : decode cX7_back 96 = .ok (.iastore, 1) := by decide +kernel
theorem dX7_back_97 : decode cX7_back 97 = .ok (.iload_n 2, 1) := by decide +kernel
theorem dX7_back_98 : decode cX7_back 98 = .ok (.iconst 1, 1) := by decide +kernel
theorem dX7_back_99 : decode cX7_back 99 = .ok (.isub, 1) := by decide +kernel
theorem dX7_back_100 : decode cX7_back 100 = .ok (.ireturn, 1) := by decide +kernel
theorem dX7_read_0 : decode cX7_read 0 = .ok (.iload_n 1, 1) := by decide +kernel
theorem dX7_read_1 : decode cX7_read 1 = .ok (.invokestatic 88, 3) := by decide +kernel
theorem dX7_read_4 : decode cX7_read 4 = .ok (.ifCond .ne 6, 3) := by decide +kernel
theorem dX7_read_7 : decode cX7_read 7 = .ok (.bipush (-2), 2) := by decide +kernel
theorem dX7_read_9 : decode cX7_read 9 = .ok (.ireturn, 1) := by decide +kernel
theorem dX7_read_10 : decode cX7_read 10 = .ok (.aload_n 0, 1) := by decide +kernel
theorem dX7_read_11 : decode cX7_read 11 = .ok (.getfield 7, 3) := by decide +kernel
theorem dX7_read_14 : decode cX7_read 14 = .ok (.iload_n 1, 1) := by decide +kernel
theorem dX7_read_15 : decode cX7_read 15 = .ok (.iaload, 1) := by decide +kernel
theorem dX7_read_16 : decode cX7_read 16 = .ok (.ifCond .ge 9, 3) := by decide +kernel
theorem dX7_read_19 : decode cX7_read 19 = .ok (.aload_n 0, 1) := by decide +kernel
theorem dX7_read_20 : decode cX7_read 20 = .ok (.iconst 1, 1) := by decide +kernel
theorem dX7_read_21 : decode cX7_read 21 = .ok (.invokevirtual 94, 3) := by decide +kernel
theorem dX7_read_24 : decode cX7_read 24 = .ok (.ireturn, 1) := by decide +kernel
theorem dX7_read_25 : decode cX7_read 25 = .ok (.iconst 0, 1) := by decide +kernel
theorem dX7_read_26 : decode cX7_read 26 = .ok (.istore_n 2, 1) := by decide +kernel
theorem dX7_read_27 : decode cX7_read 27 = .ok (.iconst 1, 1) := by decide +kernel
theorem dX7_read_28 : decode cX7_read 28 = .ok (.istore_n 3, 1) := by decide +kernel
theorem dX7_read_29 : decode cX7_read 29 = .ok (.iload_n 3, 1) := by decide +kernel
theorem dX7_read_30 : decode cX7_read 30 = .ok (.ifCond .eq 73, 3) := by decide +kernel
theorem dX7_read_33 : decode cX7_read 33 = .ok (.iconst 2, 1) := by decide +kernel
theorem dX7_read_34 : decode cX7_read 34 = .ok (.iload_n 2, 1) := by decide +kernel
theorem dX7_read_35 : decode cX7_read 35 = .ok (.imul, 1) := by decide +kernel
theorem dX7_read_36 : decode cX7_read 36 = .ok (.iconst 2, 1) := by decide +kernel
theorem dX7_read_37 : decode cX7_read 37 = .ok (.iadd, 1) := by decide +kernel
theorem dX7_read_38 : decode cX7_read 38 = .ok (.aload_n 0, 1) := by decide +kernel
theorem dX7_read_39 : decode cX7_read 39 = .ok (.getfield 13, 3) := by decide +kernel
theorem dX7_read_42 : decode cX7_read 42 = .ok (.iload_n 1, 1) := by decide +kernel
theorem dX7_read_43 : decode cX7_read 43 = .ok (.iaload, 1) := by decide +kernel
theorem dX7_read_44 : decode cX7_read 44 = .ok (.if_icmp .gt 59, 3) := by decide +kernel
theorem dX7_read_47 : decode cX7_read 47 = .ok (.aload_n 0, 1) := by decide +kernel
theorem dX7_read_48 : decode cX7_read 48 = .ok (.aload_n 0, 1) := by decide +kernel
theorem dX7_read_49 : decode cX7_read 49 = .ok (.getfield 16, 3) := by decide +kernel
theorem dX7_read_52 : decode cX7_read 52 = .ok (.bipush 60, 2) := by decide +kernel
theorem dX7_read_54 : decode cX7_read 54 = .ok (.iload_n 1, 1) := by decide +kernel
theorem dX7_read_55 : decode cX7_read 55 = .ok (.imul, 1) := by decide +kernel
theorem dX7_read_56 : decode cX7_read 56 = .ok (.iconst 2, 1) := by decide +kernel
theorem dX7_read_57 : decode cX7_read 57 = .ok (.iload_n 2, 1) := by decide +kernel
theorem dX7_read_58 : decode cX7_read 58 = .ok (.imul, 1) := by decide +kernel
theorem dX7_read_59 : decode cX7_read 59 = .ok (.iadd, 1) := by decide +kernel
theorem dX7_read_60 : decode cX7_read 60 = .ok (.iaload, 1) := by decide +kernel
theorem dX7_read_61 : decode cX7_read 61 = .ok (.aload_n 0, 1) := by decide +kernel
theorem dX7_read_62 : decode cX7_read 62 = .ok (.getfield 16, 3) := by decide +kernel
theorem dX7_read_65 : decode cX7_read 65 = .ok (.bipush 60, 2) := by decide +kernel
theorem dX7_read_67 : decode cX7_read 67 = .ok (.iload_n 1, 1) := by decide +kernel
theorem dX7_read_68 : decode cX7_read 68 = .ok (.imul, 1) := by decide +kernel
theorem dX7_read_69 : decode cX7_read 69 = .ok (.iconst 2, 1) := by decide +kernel
theorem dX7_read_70 : decode cX7_read 70 = .ok (.iload_n 2, 1) := by decide +kernel
theorem dX7_read_71 : decode cX7_read 71 = .ok (.imul, 1) := by decide +kernel
theorem dX7_read_72 : decode cX7_read 72 = .ok (.iadd, 1) := by decide +kernel
theorem dX7_read_73 : decode cX7_read 73 = .ok (.iconst 1, 1) := by decide +kernel
theorem dX7_read_74 : decode cX7_read 74 = .ok (.iadd, 1) := by decide +kernel
theorem dX7_read_75 : decode cX7_read 75 = .ok (.iaload, 1) := by decide +kernel
theorem dX7_read_76 : decode cX7_read 76 = .ok (.invokevirtual 152, 3) := by decide +kernel
theorem dX7_read_79 : decode cX7_read 79 = .ok (.ifCond .lt 7, 3) := by decide +kernel
theorem dX7_read_82 : decode cX7_read 82 = .ok (.iconst 1, 1) := by decide +kernel
theorem dX7_read_83 : decode cX7_read 83 = .ok (.goto 4, 3) := by decide +kernel
theorem dX7_read_86 : decode cX7_read 86 = .ok (.iconst 0, 1) := by decide +kernel
theorem dX7_read_87 : decode cX7_read 87 = .ok (.istore_n 3, 1) := by decide +kernel
theorem dX7_read_88 : decode cX7_read 88 = .ok (.iload_n 2, 1) := by decide +kernel
theorem dX7_read_89 : decode cX7_read 89 = .ok (.iload_n 3, 1) := by decide +kernel
theorem dX7_read_90 : decode cX7_read 90 = .ok (.ifCond .eq 7, 3) := by decide +kernel
theorem dX7_read_93 : decode cX7_read 93 = .ok (.iconst 1, 1) := by decide +kernel
theorem dX7_read_94 : decode cX7_read 94 = .ok (.goto 4, 3) := by decide +kernel
theorem dX7_read_97 : decode cX7_read 97 = .ok (.iconst 0, 1) := by decide +kernel
theorem dX7_read_98 : decode cX7_read 98 = .ok (.iadd, 1) := by decide +kernel
theorem dX7_read_99 : decode cX7_read 99 = .ok (.istore_n 2, 1) := by decide +kernel
theorem dX7_read_100 : decode cX7_read 100 = .ok (.goto (-71), 3) := by decide +kernel
theorem dX7_read_103 : decode cX7_read 103 = .ok (.iload_n 2, 1) := by decide +kernel
theorem dX7_read_104 : decode cX7_read 104 = .ok (.ireturn, 1) := by decide +kernel
theorem dX7_isSo_0 : decode cX7_isSo 0 = .ok (.iload_n 1, 1) := by decide +kernel
theorem dX7_isSo_1 : decode cX7_isSo 1 = .ok (.ifCond .ne 34, 3) := by decide +kernel
theorem dX7_isSo_4 : decode cX7_isSo 4 = .ok (.aload_n 0, 1) := by decide +kernel
theorem dX7_isSo_5 : decode cX7_isSo 5 = .ok (.getfield 73, 3) := by decide +kernel
theorem dX7_isSo_8 : decode cX7_isSo 8 = .ok (.iconst (-1), 1) := by decide +kernel
theorem dX7_isSo_9 : decode cX7_isSo 9 = .ok (.if_icmp .eq 26, 3) := by decide +kernel
theorem dX7_isSo_12 : decode cX7_isSo 12 = .ok (.iload_n 2, 1) := by decide +kernel
theorem dX7_isSo_13 : decode cX7_isSo 13 = .ok (.bipush 10, 2) := by decide +kernel
theorem dX7_isSo_15 : decode cX7_isSo 15 = .ok (.if_icmp .ge 18, 3) := by decide +kernel
theorem dX7_isSo_18 : decode cX7_isSo 18 = .ok (.aload_n 0, 1) := by decide +kernel
theorem dX7_isSo_19 : decode cX7_isSo 19 = .ok (.getfield 73, 3) := by decide +kernel
theorem dX7_isSo_22 : decode cX7_isSo 22 = .ok (.iload_n 2, 1) := by decide +kernel
theorem dX7_isSo_23 : decode cX7_isSo 23 = .ok (.invokestatic 154, 3) := by decide +kernel
theorem dX7_isSo_26 : decode cX7_isSo 26 = .ok (.ifCond .eq 7, 3) := by decide +kernel
theorem dX7_isSo_29 : decode cX7_isSo 29 = .ok (.iconst 1, 1) := by decide +kernel
theorem dX7_isSo_30 : decode cX7_isSo 30 = .ok (.goto 4, 3) := by decide +kernel
theorem dX7_isSo_33 : decode cX7_isSo 33 = .ok (.iconst 0, 1) := by decide +kernel
theorem dX7_isSo_34 : decode cX7_isSo 34 = .ok (.ireturn, 1) := by decide +kernel
theorem dX7_isSo_35 : decode cX7_isSo 35 = .ok (.iconst 0, 1) := by decide +kernel
theorem dX7_isSo_36 : decode cX7_isSo 36 = .ok (.istore_n 3, 1) := by decide +kernel
theorem dX7_isSo_37 : decode cX7_isSo 37 = .ok (.iconst 0, 1) := by decide +kernel
theorem dX7_isSo_38 : decode cX7_isSo 38 = .ok (.istore 4, 2) := by decide +kernel
theorem dX7_isSo_40 : decode cX7_isSo 40 = .ok (.iload 4, 2) := by decide +kernel
theorem dX7_isSo_42 : decode cX7_isSo 42 = .ok (.aload_n 0, 1) := by decide +kernel
theorem dX7_isSo_43 : decode cX7_isSo 43 = .ok (.getfield 34, 3) := by decide +kernel
theorem dX7_isSo_46 : decode cX7_isSo 46 = .ok (.iload_n 1, 1) := by decide +kernel
theorem dX7_isSo_47 : decode cX7_isSo 47 = .ok (.iaload, 1) := by decide +kernel
theorem dX7_isSo_48 : decode cX7_isSo 48 = .ok (.if_icmp .ge 35, 3) := by decide +kernel
theorem dX7_isSo_51 : decode cX7_isSo 51 = .ok (.iload_n 3, 1) := by decide +kernel
theorem dX7_isSo_52 : decode cX7_isSo 52 = .ok (.ifCond .ne 19, 3) := by decide +kernel
theorem dX7_isSo_55 : decode cX7_isSo 55 = .ok (.aload_n 0, 1) := by decide +kernel
theorem dX7_isSo_56 : decode cX7_isSo 56 = .ok (.getfield 37, 3) := by decide +kernel
theorem dX7_isSo_59 : decode cX7_isSo 59 = .ok (.bipush 6, 2) := by decide +kernel
theorem dX7_isSo_61 : decode cX7_isSo 61 = .ok (.iload_n 1, 1) := by decide +kernel
theorem dX7_isSo_62 : decode cX7_isSo 62 = .ok (.imul, 1) := by decide +kernel
theorem dX7_isSo_63 : decode cX7_isSo 63 = .ok (.iload 4, 2) := by decide +kernel
theorem dX7_isSo_65 : decode cX7_isSo 65 = .ok (.iadd, 1) := by decide +kernel
theorem dX7_isSo_66 : decode cX7_isSo 66 = .ok (.iaload, 1) := by decide +kernel
theorem dX7_isSo_67 : decode cX7_isSo 67 = .ok (.iload_n 2, 1) := by decide +kernel
theorem dX7_isSo_68 : decode cX7_isSo 68 = .ok (.if_icmp .ne 7, 3) := by decide +kernel
theorem dX7_isSo_71 : decode cX7_isSo 71 = .ok (.iconst 1, 1) := by decide +kernel
theorem dX7_isSo_72 : decode cX7_isSo 72 = .ok (.goto 4, 3) := by decide +kernel
theorem dX7_isSo_75 : decode cX7_isSo 75 = .ok (.iconst 0, 1) := by decide +kernel
theorem dX7_isSo_76 : decode cX7_isSo 76 = .ok (.istore_n 3, 1) := by decide +kernel
theorem dX7_isSo_77 : decode cX7_isSo 77 = .ok (.iinc 4 1, 3) := by decide +kernel
theorem dX7_isSo_80 : decode cX7_isSo 80 = .ok (.goto (-40), 3) := by decide +kernel
theorem dX7_isSo_83 : decode cX7_isSo 83 = .ok (.iload_n 3, 1) := by decide +kernel
theorem dX7_isSo_84 : decode cX7_isSo 84 = .ok (.ireturn, 1) := by decide +kernel
theorem dX7_ripens_0 : decode cX7_ripens 0 = .ok (.aload_n 0, 1) := by decide +kernel
theorem dX7_ripens_1 : decode cX7_ripens 1 = .ok (.getfield 43, 3) := by decide +kernel
theorem dX7_ripens_4 : decode cX7_ripens 4 = .ok (.iload_n 1, 1) := by decide +kernel
theorem dX7_ripens_5 : decode cX7_ripens 5 = .ok (.aload_n 0, 1) := by decide +kernel
theorem dX7_ripens_6 : decode cX7_ripens 6 = .ok (.getfield 28, 3) := by decide +kernel
theorem dX7_ripens_9 : decode cX7_ripens 9 = .ok (.iconst 2, 1) := by decide +kernel
theorem dX7_ripens_10 : decode cX7_ripens 10 = .ok (.iload_n 1, 1) := by decide +kernel
theorem dX7_ripens_11 : decode cX7_ripens 11 = .ok (.imul, 1) := by decide +kernel
theorem dX7_ripens_12 : decode cX7_ripens 12 = .ok (.iconst 1, 1) := by decide +kernel
theorem dX7_ripens_13 : decode cX7_ripens 13 = .ok (.iadd, 1) := by decide +kernel
theorem dX7_ripens_14 : decode cX7_ripens 14 = .ok (.iaload, 1) := by decide +kernel
theorem dX7_ripens_15 : decode cX7_ripens 15 = .ok (.iastore, 1) := by decide +kernel
theorem dX7_ripens_16 : decode cX7_ripens 16 = .ok (.aload_n 0, 1) := by decide +kernel
theorem dX7_ripens_17 : decode cX7_ripens 17 = .ok (.getfield 46, 3) := by decide +kernel
theorem dX7_ripens_20 : decode cX7_ripens 20 = .ok (.iload_n 1, 1) := by decide +kernel
theorem dX7_ripens_21 : decode cX7_ripens 21 = .ok (.iconst (-1), 1) := by decide +kernel
theorem dX7_ripens_22 : decode cX7_ripens 22 = .ok (.iastore, 1) := by decide +kernel
theorem dX7_ripens_23 : decode cX7_ripens 23 = .ok (.iconst 0, 1) := by decide +kernel
theorem dX7_ripens_24 : decode cX7_ripens 24 = .ok (.istore_n 2, 1) := by decide +kernel
theorem dX7_ripens_25 : decode cX7_ripens 25 = .ok (.iload_n 2, 1) := by decide +kernel
theorem dX7_ripens_26 : decode cX7_ripens 26 = .ok (.aload_n 0, 1) := by decide +kernel
theorem dX7_ripens_27 : decode cX7_ripens 27 = .ok (.getfield 43, 3) := by decide +kernel
theorem dX7_ripens_30 : decode cX7_ripens 30 = .ok (.iload_n 1, 1) := by decide +kernel
theorem dX7_ripens_31 : decode cX7_ripens 31 = .ok (.iaload, 1) := by decide +kernel
theorem dX7_ripens_32 : decode cX7_ripens 32 = .ok (.if_icmp .ge 76, 3) := by decide +kernel
theorem dX7_ripens_35 : decode cX7_ripens 35 = .ok (.aload_n 0, 1) := by decide +kernel
theorem dX7_ripens_36 : decode cX7_ripens 36 = .ok (.getfield 46, 3) := by decide +kernel
theorem dX7_ripens_39 : decode cX7_ripens 39 = .ok (.iload_n 1, 1) := by decide +kernel
theorem dX7_ripens_40 : decode cX7_ripens 40 = .ok (.iaload, 1) := by decide +kernel
theorem dX7_ripens_41 : decode cX7_ripens 41 = .ok (.iconst (-1), 1) := by decide +kernel
theorem dX7_ripens_42 : decode cX7_ripens 42 = .ok (.if_icmp .ne 66, 3) := by decide +kernel
theorem dX7_ripens_45 : decode cX7_ripens 45 = .ok (.aload_n 0, 1) := by decide +kernel
theorem dX7_ripens_46 : decode cX7_ripens 46 = .ok (.iconst 0, 1) := by decide +kernel
theorem dX7_ripens_47 : decode cX7_ripens 47 = .ok (.iload_n 2, 1) := by decide +kernel
theorem dX7_ripens_48 : decode cX7_ripens 48 = .ok (.invokevirtual 158, 3) := by decide +kernel
theorem dX7_ripens_51 : decode cX7_ripens 51 = .ok (.ifCond .eq 51, 3) := by decide +kernel
theorem dX7_ripens_54 : decode cX7_ripens 54 = .ok (.aload_n 0, 1) := by decide +kernel
theorem dX7_ripens_55 : decode cX7_ripens 55 = .ok (.getfield 46, 3) := by decide +kernel
theorem dX7_ripens_58 : decode cX7_ripens 58 = .ok (.iload_n 1, 1) := by decide +kernel
theorem dX7_ripens_59 : decode cX7_ripens 59 = .ok (.aload_n 0, 1) := by decide +kernel
theorem dX7_ripens_60 : decode cX7_ripens 60 = .ok (.getfield 28, 3) := by decide +kernel
theorem dX7_ripens_63 : decode cX7_ripens 63 = .ok (.iconst 2, 1) := by decide +kernel
theorem dX7_ripens_64 : decode cX7_ripens 64 = .ok (.iload_n 1, 1) := by decide +kernel
theorem dX7_ripens_65 : decode cX7_ripens 65 = .ok (.imul, 1) := by decide +kernel
theorem dX7_ripens_66 : decode cX7_ripens 66 = .ok (.iaload, 1) := by decide +kernel
theorem dX7_ripens_67 : decode cX7_ripens 67 = .ok (.iconst 2, 1) := by decide +kernel
theorem dX7_ripens_68 : decode cX7_ripens 68 = .ok (.if_icmp .ne 7, 3) := by decide +kernel
theorem dX7_ripens_71 : decode cX7_ripens 71 = .ok (.iload_n 2, 1) := by decide +kernel
theorem dX7_ripens_72 : decode cX7_ripens 72 = .ok (.goto 4, 3) := by decide +kernel
theorem dX7_ripens_75 : decode cX7_ripens 75 = .ok (.iconst (-1), 1) := by decide +kernel
theorem dX7_ripens_76 : decode cX7_ripens 76 = .ok (.iastore, 1) := by decide +kernel
theorem dX7_ripens_77 : decode cX7_ripens 77 = .ok (.aload_n 0, 1) := by decide +kernel
theorem dX7_ripens_78 : decode cX7_ripens 78 = .ok (.getfield 43, 3) := by decide +kernel
theorem dX7_ripens_81 : decode cX7_ripens 81 = .ok (.iload_n 1, 1) := by decide +kernel
theorem dX7_ripens_82 : decode cX7_ripens 82 = .ok (.dup2, 1) := by decide +kernel
theorem dX7_ripens_83 : decode cX7_ripens 83 = .ok (.iaload, 1) := by decide +kernel
theorem dX7_ripens_84 : decode cX7_ripens 84 = .ok (.aload_n 0, 1) := by decide +kernel
theorem dX7_ripens_85 : decode cX7_ripens 85 = .ok (.getfield 28, 3) := by decide +kernel
theorem dX7_ripens_88 : decode cX7_ripens 88 = .ok (.iconst 2, 1) := by decide +kernel
theorem dX7_ripens_89 : decode cX7_ripens 89 = .ok (.iload_n 1, 1) := by decide +kernel
theorem dX7_ripens_90 : decode cX7_ripens 90 = .ok (.imul, 1) := by decide +kernel
theorem dX7_ripens_91 : decode cX7_ripens 91 = .ok (.iaload, 1) := by decide +kernel
theorem dX7_ripens_92 : decode cX7_ripens 92 = .ok (.ifCond .ne 7, 3) := by decide +kernel
theorem dX7_ripens_95 : decode cX7_ripens 95 = .ok (.iconst 1, 1) := by decide +kernel
theorem dX7_ripens_96 : decode cX7_ripens 96 = .ok (.goto 4, 3) := by decide +kernel
theorem dX7_ripens_99 : decode cX7_ripens 99 = .ok (.iconst 0, 1) := by decide +kernel
theorem dX7_ripens_100 : decode cX7_ripens 100 = .ok (.iadd, 1) := by decide +kernel
theorem dX7_ripens_101 : decode cX7_ripens 101 = .ok (.iastore, 1) := by decide +kernel
theorem dX7_ripens_102 : decode cX7_ripens 102 = .ok (.iinc 2 1, 3) := by decide +kernel
theorem dX7_ripens_105 : decode cX7_ripens 105 = .ok (.goto (-80), 3) := by decide +kernel
theorem dX7_ripens_108 : decode cX7_ripens 108 = .ok (.aload_n 0, 1) := by decide +kernel
theorem dX7_ripens_109 : decode cX7_ripens 109 = .ok (.getfield 43, 3) := by decide +kernel
theorem dX7_ripens_112 : decode cX7_ripens 112 = .ok (.iload_n 1, 1) := by decide +kernel
theorem dX7_ripens_113 : decode cX7_ripens 113 = .ok (.aload_n 0, 1) := by decide +kernel
theorem dX7_ripens_114 : decode cX7_ripens 114 = .ok (.getfield 46, 3) := by decide +kernel
theorem dX7_ripens_117 : decode cX7_ripens 117 = .ok (.iload_n 1, 1) := by decide +kernel
theorem dX7_ripens_118 : decode cX7_ripens 118 = .ok (.iaload, 1) := by decide +kernel
theorem dX7_ripens_119 : decode cX7_ripens 119 = .ok (.iconst (-1), 1) := by decide +kernel
theorem dX7_ripens_120 : decode cX7_ripens 120 = .ok (.if_icmp .ne 12, 3) := by decide +kernel
theorem dX7_ripens_123 : decode cX7_ripens 123 = .ok (.aload_n 0, 1) := by decide +kernel
theorem dX7_ripens_124 : decode cX7_ripens 124 = .ok (.getfield 43, 3) := by decide +kernel
theorem dX7_ripens_127 : decode cX7_ripens 127 = .ok (.iload_n 1, 1) := by decide +kernel
theorem dX7_ripens_128 : decode cX7_ripens 128 = .ok (.iaload, 1) := by decide +kernel
theorem dX7_ripens_129 : decode cX7_ripens 129 = .ok (.goto 4, 3) := by decide +kernel
theorem dX7_ripens_132 : decode cX7_ripens 132 = .ok (.iconst (-1), 1) := by decide +kernel
theorem dX7_ripens_133 : decode cX7_ripens 133 = .ok (.iastore, 1) := by decide +kernel
theorem dX7_ripens_134 : decode cX7_ripens 134 = .ok (.iconst 0, 1) := by decide +kernel
theorem dX7_ripens_135 : decode cX7_ripens 135 = .ok (.istore_n 2, 1) := by decide +kernel
theorem dX7_ripens_136 : decode cX7_ripens 136 = .ok (.iload_n 2, 1) := by decide +kernel
theorem dX7_ripens_137 : decode cX7_ripens 137 = .ok (.aload_n 0, 1) := by decide +kernel
theorem dX7_ripens_138 : decode cX7_ripens 138 = .ok (.getfield 149, 3) := by decide +kernel
theorem dX7_ripens_141 : decode cX7_ripens 141 = .ok (.if_icmp .ge 94, 3) := by decide +kernel
theorem dX7_ripens_144 : decode cX7_ripens 144 = .ok (.aload_n 0, 1) := by decide +kernel
theorem dX7_ripens_145 : decode cX7_ripens 145 = .ok (.getfield 161, 3) := by decide +kernel
theorem dX7_ripens_148 : decode cX7_ripens 148 = .ok (.iload_n 2, 1) := by decide +kernel
theorem dX7_ripens_149 : decode cX7_ripens 149 = .ok (.invokestatic 154, 3) := by decide +kernel
theorem dX7_ripens_152 : decode cX7_ripens 152 = .ok (.ifCond .ne 48, 3) := by decide +kernel
theorem dX7_ripens_155 : decode cX7_ripens 155 = .ok (.aload_n 0, 1) := by decide +kernel
theorem dX7_ripens_156 : decode cX7_ripens 156 = .ok (.getfield 40, 3) := by decide +kernel
theorem dX7_ripens_159 : decode cX7_ripens 159 = .ok (.iconst 2, 1) := by decide +kernel
theorem dX7_ripens_160 : decode cX7_ripens 160 = .ok (.iload_n 2, 1) := by decide +kernel
theorem dX7_ripens_161 : decode cX7_ripens 161 = .ok (.imul, 1) := by decide +kernel
theorem dX7_ripens_162 : decode cX7_ripens 162 = .ok (.iconst 1, 1) := by decide +kernel
theorem dX7_ripens_163 : decode cX7_ripens 163 = .ok (.iadd, 1) := by decide +kernel
theorem dX7_ripens_164 : decode cX7_ripens 164 = .ok (.iaload, 1) := by decide +kernel
theorem dX7_ripens_165 : decode cX7_ripens 165 = .ok (.iload_n 1, 1) := by decide +kernel
theorem dX7_ripens_166 : decode cX7_ripens 166 = .ok (.if_icmp .ne 34, 3) := by decide +kernel
theorem dX7_ripens_169 : decode cX7_ripens 169 = .ok (.aload_n 0, 1) := by decide +kernel
theorem dX7_ripens_170 : decode cX7_ripens 170 = .ok (.getfield 46, 3) := by decide +kernel
theorem dX7_ripens_173 : decode cX7_ripens 173 = .ok (.iload_n 1, 1) := by decide +kernel
theorem dX7_ripens_174 : decode cX7_ripens 174 = .ok (.iaload, 1) := by decide +kernel
theorem dX7_ripens_175 : decode cX7_ripens 175 = .ok (.iconst (-1), 1) := by decide +kernel
theorem dX7_ripens_176 : decode cX7_ripens 176 = .ok (.if_icmp .eq 20, 3) := by decide +kernel
theorem dX7_ripens_179 : decode cX7_ripens 179 = .ok (.aload_n 0, 1) := by decide +kernel
theorem dX7_ripens_180 : decode cX7_ripens 180 = .ok (.getfield 40, 3) := by decide +kernel
theorem dX7_ripens_183 : decode cX7_ripens 183 = .ok (.iconst 2, 1) := by decide +kernel
theorem dX7_ripens_184 : decode cX7_ripens 184 = .ok (.iload_n 2, 1) := by decide +kernel
theorem dX7_ripens_185 : decode cX7_ripens 185 = .ok (.imul, 1) := by decide +kernel
theorem dX7_ripens_186 : decode cX7_ripens 186 = .ok (.iaload, 1) := by decide +kernel
theorem dX7_ripens_187 : decode cX7_ripens 187 = .ok (.aload_n 0, 1) := by decide +kernel
theorem dX7_ripens_188 : decode cX7_ripens 188 = .ok (.getfield 46, 3) := by decide +kernel
theorem dX7_ripens_191 : decode cX7_ripens 191 = .ok (.iload_n 1, 1) := by decide +kernel
theorem dX7_ripens_192 : decode cX7_ripens 192 = .ok (.iaload, 1) := by decide +kernel
theorem dX7_ripens_193 : decode cX7_ripens 193 = .ok (.if_icmp .ge 7, 3) := by decide +kernel
theorem dX7_ripens_196 : decode cX7_ripens 196 = .ok (.iconst 1, 1) := by decide +kernel
theorem dX7_ripens_197 : decode cX7_ripens 197 = .ok (.goto 4, 3) := by decide +kernel
theorem dX7_ripens_200 : decode cX7_ripens 200 = .ok (.iconst 0, 1) := by decide +kernel
theorem dX7_ripens_201 : decode cX7_ripens 201 = .ok (.istore_n 3, 1) := by decide +kernel
theorem dX7_ripens_202 : decode cX7_ripens 202 = .ok (.aload_n 0, 1) := by decide +kernel
theorem dX7_ripens_203 : decode cX7_ripens 203 = .ok (.getfield 46, 3) := by decide +kernel
theorem dX7_ripens_206 : decode cX7_ripens 206 = .ok (.iload_n 1, 1) := by decide +kernel
theorem dX7_ripens_207 : decode cX7_ripens 207 = .ok (.iload_n 3, 1) := by decide +kernel
theorem dX7_ripens_208 : decode cX7_ripens 208 = .ok (.ifCond .eq 14, 3) := by decide +kernel
theorem dX7_ripens_211 : decode cX7_ripens 211 = .ok (.aload_n 0, 1) := by decide +kernel
theorem dX7_ripens_212 : decode cX7_ripens 212 = .ok (.getfield 40, 3) := by decide +kernel
theorem dX7_ripens_215 : decode cX7_ripens 215 = .ok (.iconst 2, 1) := by decide +kernel
theorem dX7_ripens_216 : decode cX7_ripens 216 = .ok (.iload_n 2, 1) := by decide +kernel
theorem dX7_ripens_217 : decode cX7_ripens 217 = .ok (.imul, 1) := by decide +kernel
theorem dX7_ripens_218 : decode cX7_ripens 218 = .ok (.iaload, 1) := by decide +kernel
theorem dX7_ripens_219 : decode cX7_ripens 219 = .ok (.goto 9, 3) := by decide +kernel
theorem dX7_ripens_222 : decode cX7_ripens 222 = .ok (.aload_n 0, 1) := by decide +kernel
theorem dX7_ripens_223 : decode cX7_ripens 223 = .ok (.getfield 46, 3) := by decide +kernel
theorem dX7_ripens_226 : decode cX7_ripens 226 = .ok (.iload_n 1, 1) := by decide +kernel
theorem dX7_ripens_227 : decode cX7_ripens 227 = .ok (.iaload, 1) := by decide +kernel
theorem dX7_ripens_228 : decode cX7_ripens 228 = .ok (.iastore, 1) := by decide +kernel
theorem dX7_ripens_229 : decode cX7_ripens 229 = .ok (.iinc 2 1, 3) := by decide +kernel
theorem dX7_ripens_232 : decode cX7_ripens 232 = .ok (.goto (-96), 3) := by decide +kernel
theorem dX7_ripens_235 : decode cX7_ripens 235 = .ok (.return_, 1) := by decide +kernel
theorem dX7_span_0 : decode cX7_span 0 = .ok (.iload_n 0, 1) := by decide +kernel
theorem dX7_span_1 : decode cX7_span 1 = .ok (.ifCond .ne 7, 3) := by decide +kernel
theorem dX7_span_4 : decode cX7_span 4 = .ok (.iconst 3, 1) := by decide +kernel
theorem dX7_span_5 : decode cX7_span 5 = .ok (.goto 13, 3) := by decide +kernel
theorem dX7_span_8 : decode cX7_span 8 = .ok (.iload_n 0, 1) := by decide +kernel
theorem dX7_span_9 : decode cX7_span 9 = .ok (.iconst 1, 1) := by decide +kernel
theorem dX7_span_10 : decode cX7_span 10 = .ok (.if_icmp .ne 7, 3) := by decide +kernel
theorem dX7_span_13 : decode cX7_span 13 = .ok (.iconst 5, 1) := by decide +kernel
theorem dX7_span_14 : decode cX7_span 14 = .ok (.goto 4, 3) := by decide +kernel
theorem dX7_span_17 : decode cX7_span 17 = .ok (.iconst 1, 1) := by decide +kernel
theorem dX7_span_18 : decode cX7_span 18 = .ok (.ireturn, 1) := by decide +kernel
theorem dX7_isRipe_0 : decode cX7_isRipe 0 = .ok (.aload_n 0, 1) := by decide +kernel
theorem dX7_isRipe_1 : decode cX7_isRipe 1 = .ok (.getfield 43, 3) := by decide +kernel
theorem dX7_isRipe_4 : decode cX7_isRipe 4 = .ok (.iload_n 1, 1) := by decide +kernel
theorem dX7_isRipe_5 : decode cX7_isRipe 5 = .ok (.iaload, 1) := by decide +kernel
theorem dX7_isRipe_6 : decode cX7_isRipe 6 = .ok (.iconst (-1), 1) := by decide +kernel
theorem dX7_isRipe_7 : decode cX7_isRipe 7 = .ok (.if_icmp .eq 63, 3) := by decide +kernel
theorem dX7_isRipe_10 : decode cX7_isRipe 10 = .ok (.iload_n 2, 1) := by decide +kernel
theorem dX7_isRipe_11 : decode cX7_isRipe 11 = .ok (.i2l, 1) := by decide +kernel
theorem dX7_isRipe_12 : decode cX7_isRipe 12 = .ok (.aload_n 0, 1) := by decide +kernel
theorem dX7_isRipe_13 : decode cX7_isRipe 13 = .ok (.getfield 43, 3) := by decide +kernel
theorem dX7_isRipe_16 : decode cX7_isRipe 16 = .ok (.iload_n 1, 1) := by decide +kernel
theorem dX7_isRipe_17 : decode cX7_isRipe 17 = .ok (.iaload, 1) := by decide +kernel
theorem dX7_isRipe_18 : decode cX7_isRipe 18 = .ok (.i2l, 1) := by decide +kernel
theorem dX7_isRipe_19 : decode cX7_isRipe 19 = .ok (.aload_n 0, 1) := by decide +kernel
theorem dX7_isRipe_20 : decode cX7_isRipe 20 = .ok (.getfield 43, 3) := by decide +kernel
theorem dX7_isRipe_23 : decode cX7_isRipe 23 = .ok (.iload_n 1, 1) := by decide +kernel
theorem dX7_isRipe_24 : decode cX7_isRipe 24 = .ok (.iaload, 1) := by decide +kernel
theorem dX7_isRipe_25 : decode cX7_isRipe 25 = .ok (.aload_n 0, 1) := by decide +kernel
theorem dX7_isRipe_26 : decode cX7_isRipe 26 = .ok (.getfield 28, 3) := by decide +kernel
theorem dX7_isRipe_29 : decode cX7_isRipe 29 = .ok (.iconst 2, 1) := by decide +kernel
theorem dX7_isRipe_30 : decode cX7_isRipe 30 = .ok (.iload_n 1, 1) := by decide +kernel
theorem dX7_isRipe_31 : decode cX7_isRipe 31 = .ok (.imul, 1) := by decide +kernel
theorem dX7_isRipe_32 : decode cX7_isRipe 32 = .ok (.iaload, 1) := by decide +kernel
theorem dX7_isRipe_33 : decode cX7_isRipe 33 = .ok (.invokestatic 164, 3) := by decide +kernel
theorem dX7_isRipe_36 : decode cX7_isRipe 36 = .ok (.iadd, 1) := by decide +kernel
theorem dX7_isRipe_37 : decode cX7_isRipe 37 = .ok (.iconst 1, 1) := by decide +kernel
theorem dX7_isRipe_38 : decode cX7_isRipe 38 = .ok (.isub, 1) := by decide +kernel
theorem dX7_isRipe_39 : decode cX7_isRipe 39 = .ok (.i2l, 1) := by decide +kernel
theorem dX7_isRipe_40 : decode cX7_isRipe 40 = .ok (.invokestatic 79, 3) := by decide +kernel
theorem dX7_isRipe_43 : decode cX7_isRipe 43 = .ok (.ifCond .eq 27, 3) := by decide +kernel
theorem dX7_isRipe_46 : decode cX7_isRipe 46 = .ok (.aload_n 0, 1) := by decide +kernel
theorem dX7_isRipe_47 : decode cX7_isRipe 47 = .ok (.getfield 46, 3) := by decide +kernel
theorem dX7_isRipe_50 : decode cX7_isRipe 50 = .ok (.iload_n 1, 1) := by decide +kernel
theorem dX7_isRipe_51 : decode cX7_isRipe 51 = .ok (.iaload, 1) := by decide +kernel
theorem dX7_isRipe_52 : decode cX7_isRipe 52 = .ok (.iconst (-1), 1) := by decide +kernel
theorem dX7_isRipe_53 : decode cX7_isRipe 53 = .ok (.if_icmp .eq 13, 3) := by decide +kernel
theorem dX7_isRipe_56 : decode cX7_isRipe 56 = .ok (.iload_n 2, 1) := by decide +kernel
theorem dX7_isRipe_57 : decode cX7_isRipe 57 = .ok (.aload_n 0, 1) := by decide +kernel
theorem dX7_isRipe_58 : decode cX7_isRipe 58 = .ok (.getfield 46, 3) := by decide +kernel
theorem dX7_isRipe_61 : decode cX7_isRipe 61 = .ok (.iload_n 1, 1) := by decide +kernel
theorem dX7_isRipe_62 : decode cX7_isRipe 62 = .ok (.iaload, 1) := by decide +kernel
theorem dX7_isRipe_63 : decode cX7_isRipe 63 = .ok (.if_icmp .ge 7, 3) := by decide +kernel
theorem dX7_isRipe_66 : decode cX7_isRipe 66 = .ok (.iconst 1, 1) := by decide +kernel
theorem dX7_isRipe_67 : decode cX7_isRipe 67 = .ok (.goto 4, 3) := by decide +kernel
theorem dX7_isRipe_70 : decode cX7_isRipe 70 = .ok (.iconst 0, 1) := by decide +kernel
theorem dX7_isRipe_71 : decode cX7_isRipe 71 = .ok (.ireturn, 1) := by decide +kernel
theorem dX7_wants_0 : decode cX7_wants 0 = .ok (.aload_n 0, 1) := by decide +kernel
theorem dX7_wants_1 : decode cX7_wants 1 = .ok (.getfield 31, 3) := by decide +kernel
theorem dX7_wants_4 : decode cX7_wants 4 = .ok (.iconst 3, 1) := by decide +kernel
theorem dX7_wants_5 : decode cX7_wants 5 = .ok (.iload_n 1, 1) := by decide +kernel
theorem dX7_wants_6 : decode cX7_wants 6 = .ok (.imul, 1) := by decide +kernel
theorem dX7_wants_7 : decode cX7_wants 7 = .ok (.iaload, 1) := by decide +kernel
theorem dX7_wants_8 : decode cX7_wants 8 = .ok (.iconst 3, 1) := by decide +kernel
theorem dX7_wants_9 : decode cX7_wants 9 = .ok (.if_icmp .eq 22, 3) := by decide +kernel
theorem dX7_wants_12 : decode cX7_wants 12 = .ok (.aload_n 0, 1) := by decide +kernel
theorem dX7_wants_13 : decode cX7_wants 13 = .ok (.getfield 31, 3) := by decide +kernel
theorem dX7_wants_16 : decode cX7_wants 16 = .ok (.iconst 3, 1) := by decide +kernel
theorem dX7_wants_17 : decode cX7_wants 17 = .ok (.iload_n 1, 1) := by decide +kernel
theorem dX7_wants_18 : decode cX7_wants 18 = .ok (.imul, 1) := by decide +kernel
theorem dX7_wants_19 : decode cX7_wants 19 = .ok (.iaload, 1) := by decide +kernel
theorem dX7_wants_20 : decode cX7_wants 20 = .ok (.aload_n 0, 1) := by decide +kernel
theorem dX7_wants_21 : decode cX7_wants 21 = .ok (.getfield 28, 3) := by decide +kernel
theorem dX7_wants_24 : decode cX7_wants 24 = .ok (.iconst 2, 1) := by decide +kernel
theorem dX7_wants_25 : decode cX7_wants 25 = .ok (.iload_n 2, 1) := by decide +kernel
theorem dX7_wants_26 : decode cX7_wants 26 = .ok (.imul, 1) := by decide +kernel
theorem dX7_wants_27 : decode cX7_wants 27 = .ok (.iaload, 1) := by decide +kernel
theorem dX7_wants_28 : decode cX7_wants 28 = .ok (.if_icmp .ne 7, 3) := by decide +kernel
theorem dX7_wants_31 : decode cX7_wants 31 = .ok (.iconst 1, 1) := by decide +kernel
theorem dX7_wants_32 : decode cX7_wants 32 = .ok (.goto 4, 3) := by decide +kernel
theorem dX7_wants_35 : decode cX7_wants 35 = .ok (.iconst 0, 1) := by decide +kernel
theorem dX7_wants_36 : decode cX7_wants 36 = .ok (.ireturn, 1) := by decide +kernel
theorem dX7_comes_0 : decode cX7_comes 0 = .ok (.iload_n 2, 1) := by decide +kernel
theorem dX7_comes_1 : decode cX7_comes 1 = .ok (.i2l, 1) := by decide +kernel
theorem dX7_comes_2 : decode cX7_comes 2 = .ok (.aload_n 0, 1) := by decide +kernel
theorem dX7_comes_3 : decode cX7_comes 3 = .ok (.getfield 31, 3) := by decide +kernel
theorem dX7_comes_6 : decode cX7_comes 6 = .ok (.iconst 3, 1) := by decide +kernel
theorem dX7_comes_7 : decode cX7_comes 7 = .ok (.iload_n 1, 1) := by decide +kernel
theorem dX7_comes_8 : decode cX7_comes 8 = .ok (.imul, 1) := by decide +kernel
theorem dX7_comes_9 : decode cX7_comes 9 = .ok (.iconst 1, 1) := by decide +kernel
theorem dX7_comes_10 : decode cX7_comes 10 = .ok (.iadd, 1) := by decide +kernel
theorem dX7_comes_11 : decode cX7_comes 11 = .ok (.iaload, 1) := by decide +kernel
theorem dX7_comes_12 : decode cX7_comes 12 = .ok (.i2l, 1) := by decide +kernel
theorem dX7_comes_13 : decode cX7_comes 13 = .ok (.aload_n 0, 1) := by decide +kernel
theorem dX7_comes_14 : decode cX7_comes 14 = .ok (.getfield 31, 3) := by decide +kernel
theorem dX7_comes_17 : decode cX7_comes 17 = .ok (.iconst 3, 1) := by decide +kernel
theorem dX7_comes_18 : decode cX7_comes 18 = .ok (.iload_n 1, 1) := by decide +kernel
theorem dX7_comes_19 : decode cX7_comes 19 = .ok (.imul, 1) := by decide +kernel
theorem dX7_comes_20 : decode cX7_comes 20 = .ok (.iconst 1, 1) := by decide +kernel
theorem dX7_comes_21 : decode cX7_comes 21 = .ok (.iadd, 1) := by decide +kernel
theorem dX7_comes_22 : decode cX7_comes 22 = .ok (.iaload, 1) := by decide +kernel
theorem dX7_comes_23 : decode cX7_comes 23 = .ok (.aload_n 0, 1) := by decide +kernel
theorem dX7_comes_24 : decode cX7_comes 24 = .ok (.getfield 31, 3) := by decide +kernel
theorem dX7_comes_27 : decode cX7_comes 27 = .ok (.iconst 3, 1) := by decide +kernel
theorem dX7_comes_28 : decode cX7_comes 28 = .ok (.iload_n 1, 1) := by decide +kernel
theorem dX7_comes_29 : decode cX7_comes 29 = .ok (.imul, 1) := by decide +kernel
theorem dX7_comes_30 : decode cX7_comes 30 = .ok (.iconst 2, 1) := by decide +kernel
theorem dX7_comes_31 : decode cX7_comes 31 = .ok (.iadd, 1) := by decide +kernel
theorem dX7_comes_32 : decode cX7_comes 32 = .ok (.iaload, 1) := by decide +kernel
theorem dX7_comes_33 : decode cX7_comes 33 = .ok (.iadd, 1) := by decide +kernel
theorem dX7_comes_34 : decode cX7_comes 34 = .ok (.iconst 1, 1) := by decide +kernel
theorem dX7_comes_35 : decode cX7_comes 35 = .ok (.isub, 1) := by decide +kernel
theorem dX7_comes_36 : decode cX7_comes 36 = .ok (.i2l, 1) := by decide +kernel
theorem dX7_comes_37 : decode cX7_comes 37 = .ok (.invokestatic 79, 3) := by decide +kernel
theorem dX7_comes_40 : decode cX7_comes 40 = .ok (.ireturn, 1) := by decide +kernel
theorem dX7_lifts_0 : decode cX7_lifts 0 = .ok (.iconst 0, 1) := by decide +kernel
theorem dX7_lifts_1 : decode cX7_lifts 1 = .ok (.istore 4, 2) := by decide +kernel
theorem dX7_lifts_3 : decode cX7_lifts 3 = .ok (.iload 4, 2) := by decide +kernel
theorem dX7_lifts_5 : decode cX7_lifts 5 = .ok (.aload_n 0, 1) := by decide +kernel
theorem dX7_lifts_6 : decode cX7_lifts 6 = .ok (.getfield 124, 3) := by decide +kernel
theorem dX7_lifts_9 : decode cX7_lifts 9 = .ok (.if_icmp .ge 119, 3) := by decide +kernel
theorem dX7_lifts_12 : decode cX7_lifts 12 = .ok (.iload 4, 2) := by decide +kernel
theorem dX7_lifts_14 : decode cX7_lifts 14 = .ok (.iload_n 1, 1) := by decide +kernel
theorem dX7_lifts_15 : decode cX7_lifts 15 = .ok (.if_icmp .eq 70, 3) := by decide +kernel
theorem dX7_lifts_18 : decode cX7_lifts 18 = .ok (.aload_n 0, 1) := by decide +kernel
theorem dX7_lifts_19 : decode cX7_lifts 19 = .ok (.getfield 167, 3) := by decide +kernel
theorem dX7_lifts_22 : decode cX7_lifts 22 = .ok (.iconst (-1), 1) := by decide +kernel
theorem dX7_lifts_23 : decode cX7_lifts 23 = .ok (.if_icmp .ne 62, 3) := by decide +kernel
theorem dX7_lifts_26 : decode cX7_lifts 26 = .ok (.aload_n 0, 1) := by decide +kernel
theorem dX7_lifts_27 : decode cX7_lifts 27 = .ok (.iload 4, 2) := by decide +kernel
theorem dX7_lifts_29 : decode cX7_lifts 29 = .ok (.iload_n 2, 1) := by decide +kernel
theorem dX7_lifts_30 : decode cX7_lifts 30 = .ok (.invokevirtual 170, 3) := by decide +kernel
theorem dX7_lifts_33 : decode cX7_lifts 33 = .ok (.ifCond .eq 52, 3) := by decide +kernel
theorem dX7_lifts_36 : decode cX7_lifts 36 = .ok (.aload_n 0, 1) := by decide +kernel
theorem dX7_lifts_37 : decode cX7_lifts 37 = .ok (.iload 4, 2) := by decide +kernel
theorem dX7_lifts_39 : decode cX7_lifts 39 = .ok (.iload_n 3, 1) := by decide +kernel
theorem dX7_lifts_40 : decode cX7_lifts 40 = .ok (.invokevirtual 173, 3) := by decide +kernel
theorem dX7_lifts_43 : decode cX7_lifts 43 = .ok (.ifCond .eq 42, 3) := by decide +kernel
theorem dX7_lifts_46 : decode cX7_lifts 46 = .ok (.aload_n 0, 1) := by decide +kernel
theorem dX7_lifts_47 : decode cX7_lifts 47 = .ok (.getfield 55, 3) := by decide +kernel
theorem dX7_lifts_50 : decode cX7_lifts 50 = .ok (.iload 4, 2) := by decide +kernel
theorem dX7_lifts_52 : decode cX7_lifts 52 = .ok (.iaload, 1) := by decide +kernel
theorem dX7_lifts_53 : decode cX7_lifts 53 = .ok (.iconst (-1), 1) := by decide +kernel
theorem dX7_lifts_54 : decode cX7_lifts 54 = .ok (.if_icmp .ne 31, 3) := by decide +kernel
theorem dX7_lifts_57 : decode cX7_lifts 57 = .ok (.aload_n 0, 1) := by decide +kernel
theorem dX7_lifts_58 : decode cX7_lifts 58 = .ok (.getfield 31, 3) := by decide +kernel
theorem dX7_lifts_61 : decode cX7_lifts 61 = .ok (.iconst 3, 1) := by decide +kernel
theorem dX7_lifts_62 : decode cX7_lifts 62 = .ok (.iload 4, 2) := by decide +kernel
theorem dX7_lifts_64 : decode cX7_lifts 64 = .ok (.imul, 1) := by decide +kernel
theorem dX7_lifts_65 : decode cX7_lifts 65 = .ok (.iconst 1, 1) := by decide +kernel
theorem dX7_lifts_66 : decode cX7_lifts 66 = .ok (.iadd, 1) := by decide +kernel
theorem dX7_lifts_67 : decode cX7_lifts 67 = .ok (.iaload, 1) := by decide +kernel
theorem dX7_lifts_68 : decode cX7_lifts 68 = .ok (.aload_n 0, 1) := by decide +kernel
theorem dX7_lifts_69 : decode cX7_lifts 69 = .ok (.getfield 31, 3) := by decide +kernel
theorem dX7_lifts_72 : decode cX7_lifts 72 = .ok (.iconst 3, 1) := by decide +kernel
theorem dX7_lifts_73 : decode cX7_lifts 73 = .ok (.iload_n 1, 1) := by decide +kernel
theorem dX7_lifts_74 : decode cX7_lifts 74 = .ok (.imul, 1) := by decide +kernel
theorem dX7_lifts_75 : decode cX7_lifts 75 = .ok (.iconst 1, 1) := by decide +kernel
theorem dX7_lifts_76 : decode cX7_lifts 76 = .ok (.iadd, 1) := by decide +kernel
theorem dX7_lifts_77 : decode cX7_lifts 77 = .ok (.iaload, 1) := by decide +kernel
theorem dX7_lifts_78 : decode cX7_lifts 78 = .ok (.if_icmp .ge 7, 3) := by decide +kernel
theorem dX7_lifts_81 : decode cX7_lifts 81 = .ok (.iconst 1, 1) := by decide +kernel
theorem dX7_lifts_82 : decode cX7_lifts 82 = .ok (.goto 4, 3) := by decide +kernel
theorem dX7_lifts_85 : decode cX7_lifts 85 = .ok (.iconst 0, 1) := by decide +kernel
theorem dX7_lifts_86 : decode cX7_lifts 86 = .ok (.istore 5, 2) := by decide +kernel
theorem dX7_lifts_88 : decode cX7_lifts 88 = .ok (.aload_n 0, 1) := by decide +kernel
theorem dX7_lifts_89 : decode cX7_lifts 89 = .ok (.iload 5, 2) := by decide +kernel
theorem dX7_lifts_91 : decode cX7_lifts 91 = .ok (.ifCond .eq 7, 3) := by decide +kernel
theorem dX7_lifts_94 : decode cX7_lifts 94 = .ok (.iload_n 1, 1) := by decide +kernel
theorem dX7_lifts_95 : decode cX7_lifts 95 = .ok (.goto 7, 3) := by decide +kernel
theorem dX7_lifts_98 : decode cX7_lifts 98 = .ok (.aload_n 0, 1) := by decide +kernel
theorem dX7_lifts_99 : decode cX7_lifts 99 = .ok (.getfield 167, 3) := by decide +kernel
theorem dX7_lifts_102 : decode cX7_lifts 102 = .ok (.putfield 167, 3) := by decide +kernel
theorem dX7_lifts_105 : decode cX7_lifts 105 = .ok (.aload_n 0, 1) := by decide +kernel
theorem dX7_lifts_106 : decode cX7_lifts 106 = .ok (.iload 5, 2) := by decide +kernel
theorem dX7_lifts_108 : decode cX7_lifts 108 = .ok (.ifCond .eq 7, 3) := by decide +kernel
theorem dX7_lifts_111 : decode cX7_lifts 111 = .ok (.iload_n 3, 1) := by decide +kernel
theorem dX7_lifts_112 : decode cX7_lifts 112 = .ok (.goto 7, 3) := by decide +kernel
theorem dX7_lifts_115 : decode cX7_lifts 115 = .ok (.aload_n 0, 1) := by decide +kernel
theorem dX7_lifts_116 : decode cX7_lifts 116 = .ok (.getfield 176, 3) := by decide +kernel
theorem dX7_lifts_119 : decode cX7_lifts 119 = .ok (.putfield 176, 3) := by decide +kernel
theorem dX7_lifts_122 : decode cX7_lifts 122 = .ok (.iinc 4 1, 3) := by decide +kernel
theorem dX7_lifts_125 : decode cX7_lifts 125 = .ok (.goto (-122), 3) := by decide +kernel
theorem dX7_lifts_128 : decode cX7_lifts 128 = .ok (.aload_n 0, 1) := by decide +kernel
theorem dX7_lifts_129 : decode cX7_lifts 129 = .ok (.getfield 49, 3) := by decide +kernel
theorem dX7_lifts_132 : decode cX7_lifts 132 = .ok (.iload_n 2, 1) := by decide +kernel
theorem dX7_lifts_133 : decode cX7_lifts 133 = .ok (.iload_n 1, 1) := by decide +kernel
theorem dX7_lifts_134 : decode cX7_lifts 134 = .ok (.iastore, 1) := by decide +kernel
theorem dX7_lifts_135 : decode cX7_lifts 135 = .ok (.aload_n 0, 1) := by decide +kernel
theorem dX7_lifts_136 : decode cX7_lifts 136 = .ok (.getfield 52, 3) := by decide +kernel
theorem dX7_lifts_139 : decode cX7_lifts 139 = .ok (.iload_n 2, 1) := by decide +kernel
theorem dX7_lifts_140 : decode cX7_lifts 140 = .ok (.iload_n 3, 1) := by decide +kernel
theorem dX7_lifts_141 : decode cX7_lifts 141 = .ok (.iastore, 1) := by decide +kernel
theorem dX7_lifts_142 : decode cX7_lifts 142 = .ok (.aload_n 0, 1) := by decide +kernel
theorem dX7_lifts_143 : decode cX7_lifts 143 = .ok (.getfield 55, 3) := by decide +kernel
theorem dX7_lifts_146 : decode cX7_lifts 146 = .ok (.iload_n 1, 1) := by decide +kernel
theorem dX7_lifts_147 : decode cX7_lifts 147 = .ok (.iload_n 2, 1) := by decide +kernel
theorem dX7_lifts_148 : decode cX7_lifts 148 = .ok (.iastore, 1) := by decide +kernel
theorem dX7_lifts_149 : decode cX7_lifts 149 = .ok (.aload_n 0, 1) := by decide +kernel
theorem dX7_lifts_150 : decode cX7_lifts 150 = .ok (.getfield 58, 3) := by decide +kernel
theorem dX7_lifts_153 : decode cX7_lifts 153 = .ok (.iload_n 1, 1) := by decide +kernel
theorem dX7_lifts_154 : decode cX7_lifts 154 = .ok (.iload_n 3, 1) := by decide +kernel
theorem dX7_lifts_155 : decode cX7_lifts 155 = .ok (.iastore, 1) := by decide +kernel
theorem dX7_lifts_156 : decode cX7_lifts 156 = .ok (.aload_n 0, 1) := by decide +kernel
theorem dX7_lifts_157 : decode cX7_lifts 157 = .ok (.getfield 61, 3) := by decide +kernel
theorem dX7_lifts_160 : decode cX7_lifts 160 = .ok (.iload_n 1, 1) := by decide +kernel
theorem dX7_lifts_161 : decode cX7_lifts 161 = .ok (.aload_n 0, 1) := by decide +kernel
theorem dX7_lifts_162 : decode cX7_lifts 162 = .ok (.iconst 1, 1) := by decide +kernel
theorem dX7_lifts_163 : decode cX7_lifts 163 = .ok (.iload_n 3, 1) := by decide +kernel
theorem dX7_lifts_164 : decode cX7_lifts 164 = .ok (.invokevirtual 158, 3) := by decide +kernel
theorem dX7_lifts_167 : decode cX7_lifts 167 = .ok (.ifCond .eq 7, 3) := by decide +kernel
theorem dX7_lifts_170 : decode cX7_lifts 170 = .ok (.iconst 2, 1) := by decide +kernel
theorem dX7_lifts_171 : decode cX7_lifts 171 = .ok (.goto 4, 3) := by decide +kernel
theorem dX7_lifts_174 : decode cX7_lifts 174 = .ok (.iconst 1, 1) := by decide +kernel
theorem dX7_lifts_175 : decode cX7_lifts 175 = .ok (.iastore, 1) := by decide +kernel
theorem dX7_lifts_176 : decode cX7_lifts 176 = .ok (.return_, 1) := by decide +kernel
theorem dX7_dawn_0 : decode cX7_dawn 0 = .ok (.iconst 0, 1) := by decide +kernel
theorem dX7_dawn_1 : decode cX7_dawn 1 = .ok (.istore_n 3, 1) := by decide +kernel
theorem dX7_dawn_2 : decode cX7_dawn 2 = .ok (.iload_n 3, 1) := by decide +kernel
theorem dX7_dawn_3 : decode cX7_dawn 3 = .ok (.aload_n 0, 1) := by decide +kernel
theorem dX7_dawn_4 : decode cX7_dawn 4 = .ok (.getfield 118, 3) := by decide +kernel
theorem dX7_dawn_7 : decode cX7_dawn 7 = .ok (.if_icmp .ge 54, 3) := by decide +kernel
theorem dX7_dawn_10 : decode cX7_dawn 10 = .ok (.aload_n 0, 1) := by decide +kernel
theorem dX7_dawn_11 : decode cX7_dawn 11 = .ok (.getfield 55, 3) := by decide +kernel
theorem dX7_dawn_14 : decode cX7_dawn 14 = .ok (.iload_n 1, 1) := by decide +kernel
theorem dX7_dawn_15 : decode cX7_dawn 15 = .ok (.iaload, 1) := by decide +kernel
theorem dX7_dawn_16 : decode cX7_dawn 16 = .ok (.iconst (-1), 1) := by decide +kernel
theorem dX7_dawn_17 : decode cX7_dawn 17 = .ok (.if_icmp .ne 44, 3) := by decide +kernel
theorem dX7_dawn_20 : decode cX7_dawn 20 = .ok (.aload_n 0, 1) := by decide +kernel
theorem dX7_dawn_21 : decode cX7_dawn 21 = .ok (.getfield 49, 3) := by decide +kernel
theorem dX7_dawn_24 : decode cX7_dawn 24 = .ok (.iload_n 3, 1) := by decide +kernel
theorem dX7_dawn_25 : decode cX7_dawn 25 = .ok (.iaload, 1) := by decide +kernel
theorem dX7_dawn_26 : decode cX7_dawn 26 = .ok (.iconst (-1), 1) := by decide +kernel
theorem dX7_dawn_27 : decode cX7_dawn 27 = .ok (.if_icmp .ne 28, 3) := by decide +kernel
theorem dX7_dawn_30 : decode cX7_dawn 30 = .ok (.aload_n 0, 1) := by decide +kernel
theorem dX7_dawn_31 : decode cX7_dawn 31 = .ok (.iload_n 1, 1) := by decide +kernel
theorem dX7_dawn_32 : decode cX7_dawn 32 = .ok (.iload_n 3, 1) := by decide +kernel
theorem dX7_dawn_33 : decode cX7_dawn 33 = .ok (.invokevirtual 170, 3) := by decide +kernel
theorem dX7_dawn_36 : decode cX7_dawn 36 = .ok (.ifCond .eq 19, 3) := by decide +kernel
theorem dX7_dawn_39 : decode cX7_dawn 39 = .ok (.aload_n 0, 1) := by decide +kernel
theorem dX7_dawn_40 : decode cX7_dawn 40 = .ok (.iload_n 3, 1) := by decide +kernel
theorem dX7_dawn_41 : decode cX7_dawn 41 = .ok (.iload_n 2, 1) := by decide +kernel
theorem dX7_dawn_42 : decode cX7_dawn 42 = .ok (.invokevirtual 179, 3) := by decide +kernel
theorem dX7_dawn_45 : decode cX7_dawn 45 = .ok (.ifCond .eq 10, 3) := by decide +kernel
theorem dX7_dawn_48 : decode cX7_dawn 48 = .ok (.aload_n 0, 1) := by decide +kernel
theorem dX7_dawn_49 : decode cX7_dawn 49 = .ok (.iload_n 1, 1) := by decide +kernel
theorem dX7_dawn_50 : decode cX7_dawn 50 = .ok (.iload_n 3, 1) := by decide +kernel
theorem dX7_dawn_51 : decode cX7_dawn 51 = .ok (.iload_n 2, 1) := by decide +kernel
theorem dX7_dawn_52 : decode cX7_dawn 52 = .ok (.invokevirtual 182, 3) := by decide +kernel
theorem dX7_dawn_55 : decode cX7_dawn 55 = .ok (.iinc 3 1, 3) := by decide +kernel
theorem dX7_dawn_58 : decode cX7_dawn 58 = .ok (.goto (-56), 3) := by decide +kernel
theorem dX7_dawn_61 : decode cX7_dawn 61 = .ok (.return_, 1) := by decide +kernel
theorem dX7_lives_0 : decode cX7_lives 0 = .ok (.iconst 0, 1) := by decide +kernel
theorem dX7_lives_1 : decode cX7_lives 1 = .ok (.istore_n 1, 1) := by decide +kernel
theorem dX7_lives_2 : decode cX7_lives 2 = .ok (.iload_n 1, 1) := by decide +kernel
theorem dX7_lives_3 : decode cX7_lives 3 = .ok (.aload_n 0, 1) := by decide +kernel
theorem dX7_lives_4 : decode cX7_lives 4 = .ok (.getfield 118, 3) := by decide +kernel
theorem dX7_lives_7 : decode cX7_lives 7 = .ok (.if_icmp .ge 28, 3) := by decide +kernel
theorem dX7_lives_10 : decode cX7_lives 10 = .ok (.aload_n 0, 1) := by decide +kernel
theorem dX7_lives_11 : decode cX7_lives 11 = .ok (.iload_n 1, 1) := by decide +kernel
theorem dX7_lives_12 : decode cX7_lives 12 = .ok (.invokevirtual 186, 3) := by decide +kernel
theorem dX7_lives_15 : decode cX7_lives 15 = .ok (.aload_n 0, 1) := by decide +kernel
theorem dX7_lives_16 : decode cX7_lives 16 = .ok (.getfield 49, 3) := by decide +kernel
theorem dX7_lives_19 : decode cX7_lives 19 = .ok (.iload_n 1, 1) := by decide +kernel
theorem dX7_lives_20 : decode cX7_lives 20 = .ok (.iconst (-1), 1) := by decide +kernel
theorem dX7_lives_21 : decode cX7_lives 21 = .ok (.iastore, 1) := by decide +kernel
theorem dX7_lives_22 : decode cX7_lives 22 = .ok (.aload_n 0, 1) := by decide +kernel
theorem dX7_lives_23 : decode cX7_lives 23 = .ok (.getfield 52, 3) := by decide +kernel
theorem dX7_lives_26 : decode cX7_lives 26 = .ok (.iload_n 1, 1) := by decide +kernel
theorem dX7_lives_27 : decode cX7_lives 27 = .ok (.iconst (-1), 1) := by decide +kernel
theorem dX7_lives_28 : decode cX7_lives 28 = .ok (.iastore, 1) := by decide +kernel
theorem dX7_lives_29 : decode cX7_lives 29 = .ok (.iinc 1 1, 3) := by decide +kernel
theorem dX7_lives_32 : decode cX7_lives 32 = .ok (.goto (-30), 3) := by decide +kernel
theorem dX7_lives_35 : decode cX7_lives 35 = .ok (.iconst 0, 1) := by decide +kernel
theorem dX7_lives_36 : decode cX7_lives 36 = .ok (.istore_n 1, 1) := by decide +kernel
theorem dX7_lives_37 : decode cX7_lives 37 = .ok (.iload_n 1, 1) := by decide +kernel
theorem dX7_lives_38 : decode cX7_lives 38 = .ok (.aload_n 0, 1) := by decide +kernel
theorem dX7_lives_39 : decode cX7_lives 39 = .ok (.getfield 124, 3) := by decide +kernel
theorem dX7_lives_42 : decode cX7_lives 42 = .ok (.if_icmp .ge 30, 3) := by decide +kernel
theorem dX7_lives_45 : decode cX7_lives 45 = .ok (.aload_n 0, 1) := by decide +kernel
theorem dX7_lives_46 : decode cX7_lives 46 = .ok (.getfield 55, 3) := by decide +kernel
theorem dX7_lives_49 : decode cX7_lives 49 = .ok (.iload_n 1, 1) := by decide +kernel
theorem dX7_lives_50 : decode cX7_lives 50 = .ok (.iconst (-1), 1) := by decide +kernel
theorem dX7_lives_51 : decode cX7_lives 51 = .ok (.iastore, 1) := by decide +kernel
theorem dX7_lives_52 : decode cX7_lives 52 = .ok (.aload_n 0, 1) := by decide +kernel
theorem dX7_lives_53 : decode cX7_lives 53 = .ok (.getfield 58, 3) := by decide +kernel
theorem dX7_lives_56 : decode cX7_lives 56 = .ok (.iload_n 1, 1) := by decide +kernel
theorem dX7_lives_57 : decode cX7_lives 57 = .ok (.iconst (-1), 1) := by decide +kernel
theorem dX7_lives_58 : decode cX7_lives 58 = .ok (.iastore, 1) := by decide +kernel
theorem dX7_lives_59 : decode cX7_lives 59 = .ok (.aload_n 0, 1) := by decide +kernel
theorem dX7_lives_60 : decode cX7_lives 60 = .ok (.getfield 61, 3) := by decide +kernel
theorem dX7_lives_63 : decode cX7_lives 63 = .ok (.iload_n 1, 1) := by decide +kernel
theorem dX7_lives_64 : decode cX7_lives 64 = .ok (.iconst 0, 1) := by decide +kernel
theorem dX7_lives_65 : decode cX7_lives 65 = .ok (.iastore, 1) := by decide +kernel
theorem dX7_lives_66 : decode cX7_lives 66 = .ok (.iinc 1 1, 3) := by decide +kernel
theorem dX7_lives_69 : decode cX7_lives 69 = .ok (.goto (-32), 3) := by decide +kernel
theorem dX7_lives_72 : decode cX7_lives 72 = .ok (.aload_n 0, 1) := by decide +kernel
theorem dX7_lives_73 : decode cX7_lives 73 = .ok (.iconst (-1), 1) := by decide +kernel
theorem dX7_lives_74 : decode cX7_lives 74 = .ok (.putfield 167, 3) := by decide +kernel
theorem dX7_lives_77 : decode cX7_lives 77 = .ok (.aload_n 0, 1) := by decide +kernel
theorem dX7_lives_78 : decode cX7_lives 78 = .ok (.iconst (-1), 1) := by decide +kernel
theorem dX7_lives_79 : decode cX7_lives 79 = .ok (.putfield 176, 3) := by decide +kernel
theorem dX7_lives_82 : decode cX7_lives 82 = .ok (.iconst 0, 1) := by decide +kernel
theorem dX7_lives_83 : decode cX7_lives 83 = .ok (.istore_n 1, 1) := by decide +kernel
theorem dX7_lives_84 : decode cX7_lives 84 = .ok (.iload_n 1, 1) := by decide +kernel
theorem dX7_lives_85 : decode cX7_lives 85 = .ok (.bipush 40, 2) := by decide +kernel
theorem dX7_lives_87 : decode cX7_lives 87 = .ok (.if_icmp .ge 40, 3) := by decide +kernel
theorem dX7_lives_90 : decode cX7_lives 90 = .ok (.iconst 0, 1) := by decide +kernel
theorem dX7_lives_91 : decode cX7_lives 91 = .ok (.istore_n 2, 1) := by decide +kernel
theorem dX7_lives_92 : decode cX7_lives 92 = .ok (.iload_n 2, 1) := by decide +kernel
theorem dX7_lives_93 : decode cX7_lives 93 = .ok (.aload_n 0, 1) := by decide +kernel
theorem dX7_lives_94 : decode cX7_lives 94 = .ok (.getfield 124, 3) := by decide +kernel
theorem dX7_lives_97 : decode cX7_lives 97 = .ok (.if_icmp .ge 24, 3) := by decide +kernel
theorem dX7_lives_100 : decode cX7_lives 100 = .ok (.aload_n 0, 1) := by decide +kernel
theorem dX7_lives_101 : decode cX7_lives 101 = .ok (.iload_n 2, 1) := by decide +kernel
theorem dX7_lives_102 : decode cX7_lives 102 = .ok (.iload_n 1, 1) := by decide +kernel
theorem dX7_lives_103 : decode cX7_lives 103 = .ok (.invokevirtual 173, 3) := by decide +kernel
theorem dX7_lives_106 : decode cX7_lives 106 = .ok (.ifCond .eq 9, 3) := by decide +kernel
theorem dX7_lives_109 : decode cX7_lives 109 = .ok (.aload_n 0, 1) := by decide +kernel
theorem dX7_lives_110 : decode cX7_lives 110 = .ok (.iload_n 2, 1) := by decide +kernel
theorem dX7_lives_111 : decode cX7_lives 111 = .ok (.iload_n 1, 1) := by decide +kernel
theorem dX7_lives_112 : decode cX7_lives 112 = .ok (.invokevirtual 190, 3) := by decide +kernel
theorem dX7_lives_115 : decode cX7_lives 115 = .ok (.iinc 2 1, 3) := by decide +kernel
theorem dX7_lives_118 : decode cX7_lives 118 = .ok (.goto (-26), 3) := by decide +kernel
theorem dX7_lives_121 : decode cX7_lives 121 = .ok (.iinc 1 1, 3) := by decide +kernel
theorem dX7_lives_124 : decode cX7_lives 124 = .ok (.goto (-40), 3) := by decide +kernel
end
section
theorem dX7_lives_127 : decode cX7_lives 127 = .ok (.return_, 1) := by decide +kernel
theorem dX7_find_0 : decode cX7_find 0 = .ok (.aload_n 0, 1) := by decide +kernel
theorem dX7_find_1 : decode cX7_find 1 = .ok (.invokevirtual 127, 3) := by decide +kernel
theorem dX7_find_4 : decode cX7_find 4 = .ok (.pop, 1) := by decide +kernel
theorem dX7_find_5 : decode cX7_find 5 = .ok (.aload_n 0, 1) := by decide +kernel
theorem dX7_find_6 : decode cX7_find 6 = .ok (.invokevirtual 131, 3) := by decide +kernel
theorem dX7_find_9 : decode cX7_find 9 = .ok (.pop, 1) := by decide +kernel
theorem dX7_find_10 : decode cX7_find 10 = .ok (.aload_n 0, 1) := by decide +kernel
theorem dX7_find_11 : decode cX7_find 11 = .ok (.invokevirtual 194, 3) := by decide +kernel
theorem dX7_find_14 : decode cX7_find 14 = .ok (.return_, 1) := by decide +kernel
theorem dX7_dueBy_0 : decode cX7_dueBy 0 = .ok (.aload_n 0, 1) := by decide +kernel
theorem dX7_dueBy_1 : decode cX7_dueBy 1 = .ok (.getfield 28, 3) := by decide +kernel
theorem dX7_dueBy_4 : decode cX7_dueBy 4 = .ok (.iconst 2, 1) := by decide +kernel
theorem dX7_dueBy_5 : decode cX7_dueBy 5 = .ok (.iload_n 1, 1) := by decide +kernel
theorem dX7_dueBy_6 : decode cX7_dueBy 6 = .ok (.imul, 1) := by decide +kernel
theorem dX7_dueBy_7 : decode cX7_dueBy 7 = .ok (.iconst 1, 1) := by decide +kernel
theorem dX7_dueBy_8 : decode cX7_dueBy 8 = .ok (.iadd, 1) := by decide +kernel
theorem dX7_dueBy_9 : decode cX7_dueBy 9 = .ok (.iaload, 1) := by decide +kernel
theorem dX7_dueBy_10 : decode cX7_dueBy 10 = .ok (.istore_n 3, 1) := by decide +kernel
theorem dX7_dueBy_11 : decode cX7_dueBy 11 = .ok (.iconst 0, 1) := by decide +kernel
theorem dX7_dueBy_12 : decode cX7_dueBy 12 = .ok (.istore 4, 2) := by decide +kernel
theorem dX7_dueBy_14 : decode cX7_dueBy 14 = .ok (.iload 4, 2) := by decide +kernel
theorem dX7_dueBy_16 : decode cX7_dueBy 16 = .ok (.iload_n 2, 1) := by decide +kernel
theorem dX7_dueBy_17 : decode cX7_dueBy 17 = .ok (.if_icmp .gt 44, 3) := by decide +kernel
theorem dX7_dueBy_20 : decode cX7_dueBy 20 = .ok (.iload 4, 2) := by decide +kernel
theorem dX7_dueBy_22 : decode cX7_dueBy 22 = .ok (.iload_n 3, 1) := by decide +kernel
theorem dX7_dueBy_23 : decode cX7_dueBy 23 = .ok (.if_icmp .ge 38, 3) := by decide +kernel
theorem dX7_dueBy_26 : decode cX7_dueBy 26 = .ok (.iload_n 3, 1) := by decide +kernel
theorem dX7_dueBy_27 : decode cX7_dueBy 27 = .ok (.aload_n 0, 1) := by decide +kernel
theorem dX7_dueBy_28 : decode cX7_dueBy 28 = .ok (.getfield 28, 3) := by decide +kernel
theorem dX7_dueBy_31 : decode cX7_dueBy 31 = .ok (.iconst 2, 1) := by decide +kernel
theorem dX7_dueBy_32 : decode cX7_dueBy 32 = .ok (.iload_n 1, 1) := by decide +kernel
theorem dX7_dueBy_33 : decode cX7_dueBy 33 = .ok (.imul, 1) := by decide +kernel
theorem dX7_dueBy_34 : decode cX7_dueBy 34 = .ok (.iaload, 1) := by decide +kernel
theorem dX7_dueBy_35 : decode cX7_dueBy 35 = .ok (.ifCond .ne 17, 3) := by decide +kernel
theorem dX7_dueBy_38 : decode cX7_dueBy 38 = .ok (.aload_n 0, 1) := by decide +kernel
theorem dX7_dueBy_39 : decode cX7_dueBy 39 = .ok (.iconst 0, 1) := by decide +kernel
theorem dX7_dueBy_40 : decode cX7_dueBy 40 = .ok (.iload 4, 2) := by decide +kernel
theorem dX7_dueBy_42 : decode cX7_dueBy 42 = .ok (.invokevirtual 158, 3) := by decide +kernel
theorem dX7_dueBy_45 : decode cX7_dueBy 45 = .ok (.ifCond .eq 7, 3) := by decide +kernel
theorem dX7_dueBy_48 : decode cX7_dueBy 48 = .ok (.iconst 1, 1) := by decide +kernel
theorem dX7_dueBy_49 : decode cX7_dueBy 49 = .ok (.goto 4, 3) := by decide +kernel
theorem dX7_dueBy_52 : decode cX7_dueBy 52 = .ok (.iconst 0, 1) := by decide +kernel
theorem dX7_dueBy_53 : decode cX7_dueBy 53 = .ok (.iadd, 1) := by decide +kernel
theorem dX7_dueBy_54 : decode cX7_dueBy 54 = .ok (.istore_n 3, 1) := by decide +kernel
theorem dX7_dueBy_55 : decode cX7_dueBy 55 = .ok (.iinc 4 1, 3) := by decide +kernel
theorem dX7_dueBy_58 : decode cX7_dueBy 58 = .ok (.goto (-44), 3) := by decide +kernel
theorem dX7_dueBy_61 : decode cX7_dueBy 61 = .ok (.iload_n 3, 1) := by decide +kernel
theorem dX7_dueBy_62 : decode cX7_dueBy 62 = .ok (.ireturn, 1) := by decide +kernel
theorem dX7_stateOf_0 : decode cX7_stateOf 0 = .ok (.aload_n 0, 1) := by decide +kernel
theorem dX7_stateOf_1 : decode cX7_stateOf 1 = .ok (.getfield 52, 3) := by decide +kernel
theorem dX7_stateOf_4 : decode cX7_stateOf 4 = .ok (.iload_n 2, 1) := by decide +kernel
theorem dX7_stateOf_5 : decode cX7_stateOf 5 = .ok (.iaload, 1) := by decide +kernel
theorem dX7_stateOf_6 : decode cX7_stateOf 6 = .ok (.iconst (-1), 1) := by decide +kernel
theorem dX7_stateOf_7 : decode cX7_stateOf 7 = .ok (.if_icmp .eq 15, 3) := by decide +kernel
theorem dX7_stateOf_10 : decode cX7_stateOf 10 = .ok (.aload_n 0, 1) := by decide +kernel
theorem dX7_stateOf_11 : decode cX7_stateOf 11 = .ok (.getfield 52, 3) := by decide +kernel
theorem dX7_stateOf_14 : decode cX7_stateOf 14 = .ok (.iload_n 2, 1) := by decide +kernel
theorem dX7_stateOf_15 : decode cX7_stateOf 15 = .ok (.iaload, 1) := by decide +kernel
theorem dX7_stateOf_16 : decode cX7_stateOf 16 = .ok (.iload_n 1, 1) := by decide +kernel
theorem dX7_stateOf_17 : decode cX7_stateOf 17 = .ok (.if_icmp .gt 5, 3) := by decide +kernel
theorem dX7_stateOf_20 : decode cX7_stateOf 20 = .ok (.iconst 2, 1) := by decide +kernel
theorem dX7_stateOf_21 : decode cX7_stateOf 21 = .ok (.ireturn, 1) := by decide +kernel
theorem dX7_stateOf_22 : decode cX7_stateOf 22 = .ok (.aload_n 0, 1) := by decide +kernel
theorem dX7_stateOf_23 : decode cX7_stateOf 23 = .ok (.getfield 46, 3) := by decide +kernel
theorem dX7_stateOf_26 : decode cX7_stateOf 26 = .ok (.iload_n 2, 1) := by decide +kernel
theorem dX7_stateOf_27 : decode cX7_stateOf 27 = .ok (.iaload, 1) := by decide +kernel
theorem dX7_stateOf_28 : decode cX7_stateOf 28 = .ok (.iconst (-1), 1) := by decide +kernel
theorem dX7_stateOf_29 : decode cX7_stateOf 29 = .ok (.if_icmp .eq 40, 3) := by decide +kernel
theorem dX7_stateOf_32 : decode cX7_stateOf 32 = .ok (.aload_n 0, 1) := by decide +kernel
theorem dX7_stateOf_33 : decode cX7_stateOf 33 = .ok (.getfield 46, 3) := by decide +kernel
theorem dX7_stateOf_36 : decode cX7_stateOf 36 = .ok (.iload_n 2, 1) := by decide +kernel
theorem dX7_stateOf_37 : decode cX7_stateOf 37 = .ok (.iaload, 1) := by decide +kernel
theorem dX7_stateOf_38 : decode cX7_stateOf 38 = .ok (.iload_n 1, 1) := by decide +kernel
theorem dX7_stateOf_39 : decode cX7_stateOf 39 = .ok (.if_icmp .gt 30, 3) := by decide +kernel
theorem dX7_stateOf_42 : decode cX7_stateOf 42 = .ok (.aload_n 0, 1) := by decide +kernel
theorem dX7_stateOf_43 : decode cX7_stateOf 43 = .ok (.getfield 52, 3) := by decide +kernel
theorem dX7_stateOf_46 : decode cX7_stateOf 46 = .ok (.iload_n 2, 1) := by decide +kernel
theorem dX7_stateOf_47 : decode cX7_stateOf 47 = .ok (.iaload, 1) := by decide +kernel
theorem dX7_stateOf_48 : decode cX7_stateOf 48 = .ok (.iconst (-1), 1) := by decide +kernel
theorem dX7_stateOf_49 : decode cX7_stateOf 49 = .ok (.if_icmp .eq 18, 3) := by decide +kernel
theorem dX7_stateOf_52 : decode cX7_stateOf 52 = .ok (.aload_n 0, 1) := by decide +kernel
theorem dX7_stateOf_53 : decode cX7_stateOf 53 = .ok (.getfield 46, 3) := by decide +kernel
theorem dX7_stateOf_56 : decode cX7_stateOf 56 = .ok (.iload_n 2, 1) := by decide +kernel
theorem dX7_stateOf_57 : decode cX7_stateOf 57 = .ok (.iaload, 1) := by decide +kernel
theorem dX7_stateOf_58 : decode cX7_stateOf 58 = .ok (.aload_n 0, 1) := by decide +kernel
theorem dX7_stateOf_59 : decode cX7_stateOf 59 = .ok (.getfield 52, 3) := by decide +kernel
theorem dX7_stateOf_62 : decode cX7_stateOf 62 = .ok (.iload_n 2, 1) := by decide +kernel
theorem dX7_stateOf_63 : decode cX7_stateOf 63 = .ok (.iaload, 1) := by decide +kernel
theorem dX7_stateOf_64 : decode cX7_stateOf 64 = .ok (.if_icmp .ge 5, 3) := by decide +kernel
theorem dX7_stateOf_67 : decode cX7_stateOf 67 = .ok (.iconst 3, 1) := by decide +kernel
theorem dX7_stateOf_68 : decode cX7_stateOf 68 = .ok (.ireturn, 1) := by decide +kernel
theorem dX7_stateOf_69 : decode cX7_stateOf 69 = .ok (.aload_n 0, 1) := by decide +kernel
theorem dX7_stateOf_70 : decode cX7_stateOf 70 = .ok (.iload_n 2, 1) := by decide +kernel
theorem dX7_stateOf_71 : decode cX7_stateOf 71 = .ok (.iload_n 1, 1) := by decide +kernel
theorem dX7_stateOf_72 : decode cX7_stateOf 72 = .ok (.invokevirtual 197, 3) := by decide +kernel
theorem dX7_stateOf_75 : decode cX7_stateOf 75 = .ok (.istore_n 3, 1) := by decide +kernel
theorem dX7_stateOf_76 : decode cX7_stateOf 76 = .ok (.iload_n 1, 1) := by decide +kernel
theorem dX7_stateOf_77 : decode cX7_stateOf 77 = .ok (.iload_n 3, 1) := by decide +kernel
theorem dX7_stateOf_78 : decode cX7_stateOf 78 = .ok (.if_icmp .ge 7, 3) := by decide +kernel
theorem dX7_stateOf_81 : decode cX7_stateOf 81 = .ok (.iconst 0, 1) := by decide +kernel
theorem dX7_stateOf_82 : decode cX7_stateOf 82 = .ok (.goto 25, 3) := by decide +kernel
theorem dX7_stateOf_85 : decode cX7_stateOf 85 = .ok (.iload_n 1, 1) := by decide +kernel
theorem dX7_stateOf_86 : decode cX7_stateOf 86 = .ok (.iload_n 3, 1) := by decide +kernel
theorem dX7_stateOf_87 : decode cX7_stateOf 87 = .ok (.aload_n 0, 1) := by decide +kernel
theorem dX7_stateOf_88 : decode cX7_stateOf 88 = .ok (.getfield 28, 3) := by decide +kernel
theorem dX7_stateOf_91 : decode cX7_stateOf 91 = .ok (.iconst 2, 1) := by decide +kernel
theorem dX7_stateOf_92 : decode cX7_stateOf 92 = .ok (.iload_n 2, 1) := by decide +kernel
theorem dX7_stateOf_93 : decode cX7_stateOf 93 = .ok (.imul, 1) := by decide +kernel
theorem dX7_stateOf_94 : decode cX7_stateOf 94 = .ok (.iaload, 1) := by decide +kernel
theorem dX7_stateOf_95 : decode cX7_stateOf 95 = .ok (.invokestatic 164, 3) := by decide +kernel
theorem dX7_stateOf_98 : decode cX7_stateOf 98 = .ok (.iadd, 1) := by decide +kernel
theorem dX7_stateOf_99 : decode cX7_stateOf 99 = .ok (.if_icmp .ge 7, 3) := by decide +kernel
theorem dX7_stateOf_102 : decode cX7_stateOf 102 = .ok (.iconst 1, 1) := by decide +kernel
theorem dX7_stateOf_103 : decode cX7_stateOf 103 = .ok (.goto 4, 3) := by decide +kernel
theorem dX7_stateOf_106 : decode cX7_stateOf 106 = .ok (.iconst 4, 1) := by decide +kernel
theorem dX7_stateOf_107 : decode cX7_stateOf 107 = .ok (.ireturn, 1) := by decide +kernel
theorem dX7_state_0 : decode cX7_state 0 = .ok (.aload_n 0, 1) := by decide +kernel
theorem dX7_state_1 : decode cX7_state 1 = .ok (.invokevirtual 200, 3) := by decide +kernel
theorem dX7_state_4 : decode cX7_state 4 = .ok (.iload_n 1, 1) := by decide +kernel
theorem dX7_state_5 : decode cX7_state 5 = .ok (.invokestatic 144, 3) := by decide +kernel
theorem dX7_state_8 : decode cX7_state 8 = .ok (.ifCond .eq 20, 3) := by decide +kernel
theorem dX7_state_11 : decode cX7_state 11 = .ok (.aload_n 0, 1) := by decide +kernel
theorem dX7_state_12 : decode cX7_state 12 = .ok (.iload_n 2, 1) := by decide +kernel
theorem dX7_state_13 : decode cX7_state 13 = .ok (.invokevirtual 136, 3) := by decide +kernel
theorem dX7_state_16 : decode cX7_state 16 = .ok (.ifCond .eq 12, 3) := by decide +kernel
theorem dX7_state_19 : decode cX7_state 19 = .ok (.aload_n 0, 1) := by decide +kernel
theorem dX7_state_20 : decode cX7_state 20 = .ok (.iload_n 1, 1) := by decide +kernel
theorem dX7_state_21 : decode cX7_state 21 = .ok (.iload_n 2, 1) := by decide +kernel
theorem dX7_state_22 : decode cX7_state 22 = .ok (.invokevirtual 203, 3) := by decide +kernel
theorem dX7_state_25 : decode cX7_state 25 = .ok (.goto 5, 3) := by decide +kernel
theorem dX7_state_28 : decode cX7_state 28 = .ok (.bipush (-2), 2) := by decide +kernel
theorem dX7_state_30 : decode cX7_state 30 = .ok (.ireturn, 1) := by decide +kernel
theorem dX7_liftedBy_0 : decode cX7_liftedBy 0 = .ok (.iload_n 2, 1) := by decide +kernel
theorem dX7_liftedBy_1 : decode cX7_liftedBy 1 = .ok (.ifCond .ne 12, 3) := by decide +kernel
theorem dX7_liftedBy_4 : decode cX7_liftedBy 4 = .ok (.aload_n 0, 1) := by decide +kernel
theorem dX7_liftedBy_5 : decode cX7_liftedBy 5 = .ok (.getfield 43, 3) := by decide +kernel
theorem dX7_liftedBy_8 : decode cX7_liftedBy 8 = .ok (.iload_n 1, 1) := by decide +kernel
theorem dX7_liftedBy_9 : decode cX7_liftedBy 9 = .ok (.iaload, 1) := by decide +kernel
theorem dX7_liftedBy_10 : decode cX7_liftedBy 10 = .ok (.goto 23, 3) := by decide +kernel
theorem dX7_liftedBy_13 : decode cX7_liftedBy 13 = .ok (.iload_n 2, 1) := by decide +kernel
theorem dX7_liftedBy_14 : decode cX7_liftedBy 14 = .ok (.iconst 1, 1) := by decide +kernel
theorem dX7_liftedBy_15 : decode cX7_liftedBy 15 = .ok (.if_icmp .ne 12, 3) := by decide +kernel
theorem dX7_liftedBy_18 : decode cX7_liftedBy 18 = .ok (.aload_n 0, 1) := by decide +kernel
theorem dX7_liftedBy_19 : decode cX7_liftedBy 19 = .ok (.getfield 49, 3) := by decide +kernel
theorem dX7_liftedBy_22 : decode cX7_liftedBy 22 = .ok (.iload_n 1, 1) := by decide +kernel
theorem dX7_liftedBy_23 : decode cX7_liftedBy 23 = .ok (.iaload, 1) := by decide +kernel
theorem dX7_liftedBy_24 : decode cX7_liftedBy 24 = .ok (.goto 9, 3) := by decide +kernel
theorem dX7_liftedBy_27 : decode cX7_liftedBy 27 = .ok (.aload_n 0, 1) := by decide +kernel
theorem dX7_liftedBy_28 : decode cX7_liftedBy 28 = .ok (.getfield 52, 3) := by decide +kernel
theorem dX7_liftedBy_31 : decode cX7_liftedBy 31 = .ok (.iload_n 1, 1) := by decide +kernel
theorem dX7_liftedBy_32 : decode cX7_liftedBy 32 = .ok (.iaload, 1) := by decide +kernel
theorem dX7_liftedBy_33 : decode cX7_liftedBy 33 = .ok (.ireturn, 1) := by decide +kernel
theorem dX7_lifted_0 : decode cX7_lifted 0 = .ok (.aload_n 0, 1) := by decide +kernel
theorem dX7_lifted_1 : decode cX7_lifted 1 = .ok (.invokevirtual 200, 3) := by decide +kernel
theorem dX7_lifted_4 : decode cX7_lifted 4 = .ok (.aload_n 0, 1) := by decide +kernel
theorem dX7_lifted_5 : decode cX7_lifted 5 = .ok (.iload_n 1, 1) := by decide +kernel
theorem dX7_lifted_6 : decode cX7_lifted 6 = .ok (.invokevirtual 136, 3) := by decide +kernel
theorem dX7_lifted_9 : decode cX7_lifted 9 = .ok (.ifCond .eq 24, 3) := by decide +kernel
theorem dX7_lifted_12 : decode cX7_lifted 12 = .ok (.iload_n 2, 1) := by decide +kernel
theorem dX7_lifted_13 : decode cX7_lifted 13 = .ok (.i2l, 1) := by decide +kernel
theorem dX7_lifted_14 : decode cX7_lifted 14 = .ok (.lconst 0, 1) := by decide +kernel
theorem dX7_lifted_15 : decode cX7_lifted 15 = .ok (.ldc2_w 92, 3) := by decide +kernel
theorem dX7_lifted_18 : decode cX7_lifted 18 = .ok (.invokestatic 79, 3) := by decide +kernel
theorem dX7_lifted_21 : decode cX7_lifted 21 = .ok (.ifCond .eq 12, 3) := by decide +kernel
theorem dX7_lifted_24 : decode cX7_lifted 24 = .ok (.aload_n 0, 1) := by decide +kernel
theorem dX7_lifted_25 : decode cX7_lifted 25 = .ok (.iload_n 1, 1) := by decide +kernel
theorem dX7_lifted_26 : decode cX7_lifted 26 = .ok (.iload_n 2, 1) := by decide +kernel
theorem dX7_lifted_27 : decode cX7_lifted 27 = .ok (.invokevirtual 206, 3) := by decide +kernel
theorem dX7_lifted_30 : decode cX7_lifted 30 = .ok (.goto 5, 3) := by decide +kernel
theorem dX7_lifted_33 : decode cX7_lifted 33 = .ok (.bipush (-2), 2) := by decide +kernel
theorem dX7_lifted_35 : decode cX7_lifted 35 = .ok (.ireturn, 1) := by decide +kernel
theorem dX7_getsBy_0 : decode cX7_getsBy 0 = .ok (.iload_n 2, 1) := by decide +kernel
theorem dX7_getsBy_1 : decode cX7_getsBy 1 = .ok (.ifCond .ne 12, 3) := by decide +kernel
theorem dX7_getsBy_4 : decode cX7_getsBy 4 = .ok (.aload_n 0, 1) := by decide +kernel
theorem dX7_getsBy_5 : decode cX7_getsBy 5 = .ok (.getfield 55, 3) := by decide +kernel
theorem dX7_getsBy_8 : decode cX7_getsBy 8 = .ok (.iload_n 1, 1) := by decide +kernel
theorem dX7_getsBy_9 : decode cX7_getsBy 9 = .ok (.iaload, 1) := by decide +kernel
theorem dX7_getsBy_10 : decode cX7_getsBy 10 = .ok (.goto 23, 3) := by decide +kernel
theorem dX7_getsBy_13 : decode cX7_getsBy 13 = .ok (.iload_n 2, 1) := by decide +kernel
theorem dX7_getsBy_14 : decode cX7_getsBy 14 = .ok (.iconst 1, 1) := by decide +kernel
theorem dX7_getsBy_15 : decode cX7_getsBy 15 = .ok (.if_icmp .ne 12, 3) := by decide +kernel
theorem dX7_getsBy_18 : decode cX7_getsBy 18 = .ok (.aload_n 0, 1) := by decide +kernel
theorem dX7_getsBy_19 : decode cX7_getsBy 19 = .ok (.getfield 58, 3) := by decide +kernel
theorem dX7_getsBy_22 : decode cX7_getsBy 22 = .ok (.iload_n 1, 1) := by decide +kernel
theorem dX7_getsBy_23 : decode cX7_getsBy 23 = .ok (.iaload, 1) := by decide +kernel
theorem dX7_getsBy_24 : decode cX7_getsBy 24 = .ok (.goto 9, 3) := by decide +kernel
theorem dX7_getsBy_27 : decode cX7_getsBy 27 = .ok (.aload_n 0, 1) := by decide +kernel
theorem dX7_getsBy_28 : decode cX7_getsBy 28 = .ok (.getfield 61, 3) := by decide +kernel
theorem dX7_getsBy_31 : decode cX7_getsBy 31 = .ok (.iload_n 1, 1) := by decide +kernel
theorem dX7_getsBy_32 : decode cX7_getsBy 32 = .ok (.iaload, 1) := by decide +kernel
theorem dX7_getsBy_33 : decode cX7_getsBy 33 = .ok (.ireturn, 1) := by decide +kernel
theorem dX7_gets_0 : decode cX7_gets 0 = .ok (.aload_n 0, 1) := by decide +kernel
theorem dX7_gets_1 : decode cX7_gets 1 = .ok (.invokevirtual 200, 3) := by decide +kernel
theorem dX7_gets_4 : decode cX7_gets 4 = .ok (.aload_n 0, 1) := by decide +kernel
theorem dX7_gets_5 : decode cX7_gets 5 = .ok (.iload_n 1, 1) := by decide +kernel
theorem dX7_gets_6 : decode cX7_gets 6 = .ok (.invokevirtual 139, 3) := by decide +kernel
theorem dX7_gets_9 : decode cX7_gets 9 = .ok (.ifCond .eq 24, 3) := by decide +kernel
theorem dX7_gets_12 : decode cX7_gets 12 = .ok (.iload_n 2, 1) := by decide +kernel
theorem dX7_gets_13 : decode cX7_gets 13 = .ok (.i2l, 1) := by decide +kernel
theorem dX7_gets_14 : decode cX7_gets 14 = .ok (.lconst 0, 1) := by decide +kernel
theorem dX7_gets_15 : decode cX7_gets 15 = .ok (.ldc2_w 92, 3) := by decide +kernel
theorem dX7_gets_18 : decode cX7_gets 18 = .ok (.invokestatic 79, 3) := by decide +kernel
theorem dX7_gets_21 : decode cX7_gets 21 = .ok (.ifCond .eq 12, 3) := by decide +kernel
theorem dX7_gets_24 : decode cX7_gets 24 = .ok (.aload_n 0, 1) := by decide +kernel
theorem dX7_gets_25 : decode cX7_gets 25 = .ok (.iload_n 1, 1) := by decide +kernel
theorem dX7_gets_26 : decode cX7_gets 26 = .ok (.iload_n 2, 1) := by decide +kernel
theorem dX7_gets_27 : decode cX7_gets 27 = .ok (.invokevirtual 209, 3) := by decide +kernel
theorem dX7_gets_30 : decode cX7_gets 30 = .ok (.goto 5, 3) := by decide +kernel
theorem dX7_gets_33 : decode cX7_gets 33 = .ok (.bipush (-2), 2) := by decide +kernel
theorem dX7_gets_35 : decode cX7_gets 35 = .ok (.ireturn, 1) := by decide +kernel
theorem dX7_childrenBy_0 : decode cX7_childrenBy 0 = .ok (.iconst 0, 1) := by decide +kernel
theorem dX7_childrenBy_1 : decode cX7_childrenBy 1 = .ok (.istore_n 2, 1) := by decide +kernel
theorem dX7_childrenBy_2 : decode cX7_childrenBy 2 = .ok (.iconst 0, 1) := by decide +kernel
theorem dX7_childrenBy_3 : decode cX7_childrenBy 3 = .ok (.istore_n 3, 1) := by decide +kernel
theorem dX7_childrenBy_4 : decode cX7_childrenBy 4 = .ok (.iload_n 3, 1) := by decide +kernel
theorem dX7_childrenBy_5 : decode cX7_childrenBy 5 = .ok (.aload_n 0, 1) := by decide +kernel
theorem dX7_childrenBy_6 : decode cX7_childrenBy 6 = .ok (.getfield 124, 3) := by decide +kernel
theorem dX7_childrenBy_9 : decode cX7_childrenBy 9 = .ok (.if_icmp .ge 32, 3) := by decide +kernel
theorem dX7_childrenBy_12 : decode cX7_childrenBy 12 = .ok (.iload_n 2, 1) := by decide +kernel
theorem dX7_childrenBy_13 : decode cX7_childrenBy 13 = .ok (.aload_n 0, 1) := by decide +kernel
theorem dX7_childrenBy_14 : decode cX7_childrenBy 14 = .ok (.getfield 58, 3) := by decide +kernel
theorem dX7_childrenBy_17 : decode cX7_childrenBy 17 = .ok (.iload_n 3, 1) := by decide +kernel
theorem dX7_childrenBy_18 : decode cX7_childrenBy 18 = .ok (.iaload, 1) := by decide +kernel
theorem dX7_childrenBy_19 : decode cX7_childrenBy 19 = .ok (.iload_n 1, 1) := by decide +kernel
theorem dX7_childrenBy_20 : decode cX7_childrenBy 20 = .ok (.if_icmp .gt 12, 3) := by decide +kernel
theorem dX7_childrenBy_23 : decode cX7_childrenBy 23 = .ok (.aload_n 0, 1) := by decide +kernel
theorem dX7_childrenBy_24 : decode cX7_childrenBy 24 = .ok (.getfield 61, 3) := by decide +kernel
theorem dX7_childrenBy_27 : decode cX7_childrenBy 27 = .ok (.iload_n 3, 1) := by decide +kernel
theorem dX7_childrenBy_28 : decode cX7_childrenBy 28 = .ok (.iaload, 1) := by decide +kernel
theorem dX7_childrenBy_29 : decode cX7_childrenBy 29 = .ok (.goto 4, 3) := by decide +kernel
theorem dX7_childrenBy_32 : decode cX7_childrenBy 32 = .ok (.iconst 0, 1) := by decide +kernel
theorem dX7_childrenBy_33 : decode cX7_childrenBy 33 = .ok (.iadd, 1) := by decide +kernel
theorem dX7_childrenBy_34 : decode cX7_childrenBy 34 = .ok (.istore_n 2, 1) := by decide +kernel
theorem dX7_childrenBy_35 : decode cX7_childrenBy 35 = .ok (.iinc 3 1, 3) := by decide +kernel
theorem dX7_childrenBy_38 : decode cX7_childrenBy 38 = .ok (.goto (-34), 3) := by decide +kernel
theorem dX7_childrenBy_41 : decode cX7_childrenBy 41 = .ok (.iload_n 2, 1) := by decide +kernel
theorem dX7_childrenBy_42 : decode cX7_childrenBy 42 = .ok (.ireturn, 1) := by decide +kernel
theorem dX7_children_0 : decode cX7_children 0 = .ok (.aload_n 0, 1) := by decide +kernel
theorem dX7_children_1 : decode cX7_children 1 = .ok (.invokevirtual 200, 3) := by decide +kernel
theorem dX7_children_4 : decode cX7_children 4 = .ok (.iload_n 1, 1) := by decide +kernel
theorem dX7_children_5 : decode cX7_children 5 = .ok (.invokestatic 144, 3) := by decide +kernel
theorem dX7_children_8 : decode cX7_children 8 = .ok (.ifCond .eq 11, 3) := by decide +kernel
theorem dX7_children_11 : decode cX7_children 11 = .ok (.aload_n 0, 1) := by decide +kernel
theorem dX7_children_12 : decode cX7_children 12 = .ok (.iload_n 1, 1) := by decide +kernel
theorem dX7_children_13 : decode cX7_children 13 = .ok (.invokevirtual 212, 3) := by decide +kernel
theorem dX7_children_16 : decode cX7_children 16 = .ok (.goto 5, 3) := by decide +kernel
theorem dX7_children_19 : decode cX7_children 19 = .ok (.bipush (-2), 2) := by decide +kernel
theorem dX7_children_21 : decode cX7_children 21 = .ok (.ireturn, 1) := by decide +kernel
theorem dX7_withoutNow_0 : decode cX7_withoutNow 0 = .ok (.iconst 0, 1) := by decide +kernel
theorem dX7_withoutNow_1 : decode cX7_withoutNow 1 = .ok (.istore_n 1, 1) := by decide +kernel
theorem dX7_withoutNow_2 : decode cX7_withoutNow 2 = .ok (.iconst 0, 1) := by decide +kernel
theorem dX7_withoutNow_3 : decode cX7_withoutNow 3 = .ok (.istore_n 2, 1) := by decide +kernel
theorem dX7_withoutNow_4 : decode cX7_withoutNow 4 = .ok (.iload_n 2, 1) := by decide +kernel
theorem dX7_withoutNow_5 : decode cX7_withoutNow 5 = .ok (.aload_n 0, 1) := by decide +kernel
theorem dX7_withoutNow_6 : decode cX7_withoutNow 6 = .ok (.getfield 124, 3) := by decide +kernel
theorem dX7_withoutNow_9 : decode cX7_withoutNow 9 = .ok (.if_icmp .ge 29, 3) := by decide +kernel
theorem dX7_withoutNow_12 : decode cX7_withoutNow 12 = .ok (.iload_n 1, 1) := by decide +kernel
theorem dX7_withoutNow_13 : decode cX7_withoutNow 13 = .ok (.aload_n 0, 1) := by decide +kernel
theorem dX7_withoutNow_14 : decode cX7_withoutNow 14 = .ok (.getfield 55, 3) := by decide +kernel
theorem dX7_withoutNow_17 : decode cX7_withoutNow 17 = .ok (.iload_n 2, 1) := by decide +kernel
theorem dX7_withoutNow_18 : decode cX7_withoutNow 18 = .ok (.iaload, 1) := by decide +kernel
theorem dX7_withoutNow_19 : decode cX7_withoutNow 19 = .ok (.iconst (-1), 1) := by decide +kernel
theorem dX7_withoutNow_20 : decode cX7_withoutNow 20 = .ok (.if_icmp .ne 9, 3) := by decide +kernel
theorem dX7_withoutNow_23 : decode cX7_withoutNow 23 = .ok (.iconst 1, 1) := by decide +kernel
theorem dX7_withoutNow_24 : decode cX7_withoutNow 24 = .ok (.iload_n 2, 1) := by decide +kernel
theorem dX7_withoutNow_25 : decode cX7_withoutNow 25 = .ok (.ishl, 1) := by decide +kernel
theorem dX7_withoutNow_26 : decode cX7_withoutNow 26 = .ok (.goto 4, 3) := by decide +kernel
theorem dX7_withoutNow_29 : decode cX7_withoutNow 29 = .ok (.iconst 0, 1) := by decide +kernel
theorem dX7_withoutNow_30 : decode cX7_withoutNow 30 = .ok (.ior, 1) := by decide +kernel
theorem dX7_withoutNow_31 : decode cX7_withoutNow 31 = .ok (.istore_n 1, 1) := by decide +kernel
theorem dX7_withoutNow_32 : decode cX7_withoutNow 32 = .ok (.iinc 2 1, 3) := by decide +kernel
theorem dX7_withoutNow_35 : decode cX7_withoutNow 35 = .ok (.goto (-31), 3) := by decide +kernel
theorem dX7_withoutNow_38 : decode cX7_withoutNow 38 = .ok (.iload_n 1, 1) := by decide +kernel
theorem dX7_withoutNow_39 : decode cX7_withoutNow 39 = .ok (.ireturn, 1) := by decide +kernel
theorem dX7_without_0 : decode cX7_without 0 = .ok (.aload_n 0, 1) := by decide +kernel
theorem dX7_without_1 : decode cX7_without 1 = .ok (.invokevirtual 200, 3) := by decide +kernel
theorem dX7_without_4 : decode cX7_without 4 = .ok (.aload_n 0, 1) := by decide +kernel
theorem dX7_without_5 : decode cX7_without 5 = .ok (.invokevirtual 215, 3) := by decide +kernel
theorem dX7_without_8 : decode cX7_without 8 = .ok (.ireturn, 1) := by decide +kernel
theorem dX7_turn_0 : decode cX7_turn 0 = .ok (.aload_n 0, 1) := by decide +kernel
theorem dX7_turn_1 : decode cX7_turn 1 = .ok (.invokevirtual 200, 3) := by decide +kernel
theorem dX7_turn_4 : decode cX7_turn 4 = .ok (.iload_n 1, 1) := by decide +kernel
theorem dX7_turn_5 : decode cX7_turn 5 = .ok (.invokestatic 107, 3) := by decide +kernel
theorem dX7_turn_8 : decode cX7_turn 8 = .ok (.ifCond .ne 8, 3) := by decide +kernel
theorem dX7_turn_11 : decode cX7_turn 11 = .ok (.bipush (-2), 2) := by decide +kernel
theorem dX7_turn_13 : decode cX7_turn 13 = .ok (.goto 18, 3) := by decide +kernel
theorem dX7_turn_16 : decode cX7_turn 16 = .ok (.iload_n 1, 1) := by decide +kernel
theorem dX7_turn_17 : decode cX7_turn 17 = .ok (.ifCond .ne 10, 3) := by decide +kernel
theorem dX7_turn_20 : decode cX7_turn 20 = .ok (.aload_n 0, 1) := by decide +kernel
theorem dX7_turn_21 : decode cX7_turn 21 = .ok (.getfield 167, 3) := by decide +kernel
theorem dX7_turn_24 : decode cX7_turn 24 = .ok (.goto 7, 3) := by decide +kernel
theorem dX7_turn_27 : decode cX7_turn 27 = .ok (.aload_n 0, 1) := by decide +kernel
theorem dX7_turn_28 : decode cX7_turn 28 = .ok (.getfield 176, 3) := by decide +kernel
theorem dX7_turn_31 : decode cX7_turn 31 = .ok (.ireturn, 1) := by decide +kernel
theorem dX7_mightMeet_0 : decode cX7_mightMeet 0 = .ok (.iconst 0, 1) := by decide +kernel
theorem dX7_mightMeet_1 : decode cX7_mightMeet 1 = .ok (.istore_n 3, 1) := by decide +kernel
theorem dX7_mightMeet_2 : decode cX7_mightMeet 2 = .ok (.iconst 0, 1) := by decide +kernel
theorem dX7_mightMeet_3 : decode cX7_mightMeet 3 = .ok (.istore 4, 2) := by decide +kernel
theorem dX7_mightMeet_5 : decode cX7_mightMeet 5 = .ok (.iload 4, 2) := by decide +kernel
theorem dX7_mightMeet_7 : decode cX7_mightMeet 7 = .ok (.bipush 40, 2) := by decide +kernel
theorem dX7_mightMeet_9 : decode cX7_mightMeet 9 = .ok (.if_icmp .ge 48, 3) := by decide +kernel
theorem dX7_mightMeet_12 : decode cX7_mightMeet 12 = .ok (.aload_n 0, 1) := by decide +kernel
theorem dX7_mightMeet_13 : decode cX7_mightMeet 13 = .ok (.iload_n 1, 1) := by decide +kernel
theorem dX7_mightMeet_14 : decode cX7_mightMeet 14 = .ok (.iload_n 2, 1) := by decide +kernel
theorem dX7_mightMeet_15 : decode cX7_mightMeet 15 = .ok (.invokevirtual 170, 3) := by decide +kernel
theorem dX7_mightMeet_18 : decode cX7_mightMeet 18 = .ok (.ifCond .eq 39, 3) := by decide +kernel
theorem dX7_mightMeet_21 : decode cX7_mightMeet 21 = .ok (.iload_n 3, 1) := by decide +kernel
theorem dX7_mightMeet_22 : decode cX7_mightMeet 22 = .ok (.ifCond .ne 23, 3) := by decide +kernel
theorem dX7_mightMeet_25 : decode cX7_mightMeet 25 = .ok (.aload_n 0, 1) := by decide +kernel
theorem dX7_mightMeet_26 : decode cX7_mightMeet 26 = .ok (.iload_n 1, 1) := by decide +kernel
theorem dX7_mightMeet_27 : decode cX7_mightMeet 27 = .ok (.iload 4, 2) := by decide +kernel
theorem dX7_mightMeet_29 : decode cX7_mightMeet 29 = .ok (.invokevirtual 173, 3) := by decide +kernel
theorem dX7_mightMeet_32 : decode cX7_mightMeet 32 = .ok (.ifCond .eq 17, 3) := by decide +kernel
theorem dX7_mightMeet_35 : decode cX7_mightMeet 35 = .ok (.aload_n 0, 1) := by decide +kernel
theorem dX7_mightMeet_36 : decode cX7_mightMeet 36 = .ok (.iload_n 2, 1) := by decide +kernel
theorem dX7_mightMeet_37 : decode cX7_mightMeet 37 = .ok (.iload 4, 2) := by decide +kernel
theorem dX7_mightMeet_39 : decode cX7_mightMeet 39 = .ok (.invokevirtual 179, 3) := by decide +kernel
theorem dX7_mightMeet_42 : decode cX7_mightMeet 42 = .ok (.ifCond .eq 7, 3) := by decide +kernel
theorem dX7_mightMeet_45 : decode cX7_mightMeet 45 = .ok (.iconst 1, 1) := by decide +kernel
theorem dX7_mightMeet_46 : decode cX7_mightMeet 46 = .ok (.goto 4, 3) := by decide +kernel
theorem dX7_mightMeet_49 : decode cX7_mightMeet 49 = .ok (.iconst 0, 1) := by decide +kernel
theorem dX7_mightMeet_50 : decode cX7_mightMeet 50 = .ok (.istore_n 3, 1) := by decide +kernel
theorem dX7_mightMeet_51 : decode cX7_mightMeet 51 = .ok (.iinc 4 1, 3) := by decide +kernel
theorem dX7_mightMeet_54 : decode cX7_mightMeet 54 = .ok (.goto (-49), 3) := by decide +kernel
theorem dX7_mightMeet_57 : decode cX7_mightMeet 57 = .ok (.iload_n 3, 1) := by decide +kernel
theorem dX7_mightMeet_58 : decode cX7_mightMeet 58 = .ok (.ireturn, 1) := by decide +kernel
theorem dX7_metNow_0 : decode cX7_metNow 0 = .ok (.iconst 1, 1) := by decide +kernel
theorem dX7_metNow_1 : decode cX7_metNow 1 = .ok (.aload_n 0, 1) := by decide +kernel
theorem dX7_metNow_2 : decode cX7_metNow 2 = .ok (.getfield 118, 3) := by decide +kernel
theorem dX7_metNow_5 : decode cX7_metNow 5 = .ok (.ishl, 1) := by decide +kernel
theorem dX7_metNow_6 : decode cX7_metNow 6 = .ok (.istore_n 1, 1) := by decide +kernel
theorem dX7_metNow_7 : decode cX7_metNow 7 = .ok (.iconst 0, 1) := by decide +kernel
theorem dX7_metNow_8 : decode cX7_metNow 8 = .ok (.istore_n 2, 1) := by decide +kernel
theorem dX7_metNow_9 : decode cX7_metNow 9 = .ok (.iload_n 2, 1) := by decide +kernel
theorem dX7_metNow_10 : decode cX7_metNow 10 = .ok (.iload_n 1, 1) := by decide +kernel
theorem dX7_metNow_11 : decode cX7_metNow 11 = .ok (.if_icmp .ge 16, 3) := by decide +kernel
theorem dX7_metNow_14 : decode cX7_metNow 14 = .ok (.aload_n 0, 1) := by decide +kernel
theorem dX7_metNow_15 : decode cX7_metNow 15 = .ok (.getfield 64, 3) := by decide +kernel
theorem dX7_metNow_18 : decode cX7_metNow 18 = .ok (.iload_n 2, 1) := by decide +kernel
theorem dX7_metNow_19 : decode cX7_metNow 19 = .ok (.iconst 0, 1) := by decide +kernel
theorem dX7_metNow_20 : decode cX7_metNow 20 = .ok (.iastore, 1) := by decide +kernel
theorem dX7_metNow_21 : decode cX7_metNow 21 = .ok (.iinc 2 1, 3) := by decide +kernel
theorem dX7_metNow_24 : decode cX7_metNow 24 = .ok (.goto (-15), 3) := by decide +kernel
theorem dX7_metNow_27 : decode cX7_metNow 27 = .ok (.iconst 0, 1) := by decide +kernel
theorem dX7_metNow_28 : decode cX7_metNow 28 = .ok (.istore_n 2, 1) := by decide +kernel
theorem dX7_metNow_29 : decode cX7_metNow 29 = .ok (.iload_n 2, 1) := by decide +kernel
theorem dX7_metNow_30 : decode cX7_metNow 30 = .ok (.aload_n 0, 1) := by decide +kernel
theorem dX7_metNow_31 : decode cX7_metNow 31 = .ok (.getfield 124, 3) := by decide +kernel
theorem dX7_metNow_34 : decode cX7_metNow 34 = .ok (.if_icmp .ge 141, 3) := by decide +kernel
theorem dX7_metNow_37 : decode cX7_metNow 37 = .ok (.iconst 0, 1) := by decide +kernel
theorem dX7_metNow_38 : decode cX7_metNow 38 = .ok (.istore_n 3, 1) := by decide +kernel
theorem dX7_metNow_39 : decode cX7_metNow 39 = .ok (.iconst 0, 1) := by decide +kernel
theorem dX7_metNow_40 : decode cX7_metNow 40 = .ok (.istore 4, 2) := by decide +kernel
theorem dX7_metNow_42 : decode cX7_metNow 42 = .ok (.iload 4, 2) := by decide +kernel
theorem dX7_metNow_44 : decode cX7_metNow 44 = .ok (.aload_n 0, 1) := by decide +kernel
theorem dX7_metNow_45 : decode cX7_metNow 45 = .ok (.getfield 118, 3) := by decide +kernel
theorem dX7_metNow_48 : decode cX7_metNow 48 = .ok (.if_icmp .ge 30, 3) := by decide +kernel
theorem dX7_metNow_51 : decode cX7_metNow 51 = .ok (.iload_n 3, 1) := by decide +kernel
theorem dX7_metNow_52 : decode cX7_metNow 52 = .ok (.aload_n 0, 1) := by decide +kernel
theorem dX7_metNow_53 : decode cX7_metNow 53 = .ok (.iload_n 2, 1) := by decide +kernel
theorem dX7_metNow_54 : decode cX7_metNow 54 = .ok (.iload 4, 2) := by decide +kernel
theorem dX7_metNow_56 : decode cX7_metNow 56 = .ok (.invokevirtual 218, 3) := by decide +kernel
theorem dX7_metNow_59 : decode cX7_metNow 59 = .ok (.ifCond .eq 10, 3) := by decide +kernel
theorem dX7_metNow_62 : decode cX7_metNow 62 = .ok (.iconst 1, 1) := by decide +kernel
theorem dX7_metNow_63 : decode cX7_metNow 63 = .ok (.iload 4, 2) := by decide +kernel
theorem dX7_metNow_65 : decode cX7_metNow 65 = .ok (.ishl, 1) := by decide +kernel
theorem dX7_metNow_66 : decode cX7_metNow 66 = .ok (.goto 4, 3) := by decide +kernel
theorem dX7_metNow_69 : decode cX7_metNow 69 = .ok (.iconst 0, 1) := by decide +kernel
theorem dX7_metNow_70 : decode cX7_metNow 70 = .ok (.ior, 1) := by decide +kernel
theorem dX7_metNow_71 : decode cX7_metNow 71 = .ok (.istore_n 3, 1) := by decide +kernel
theorem dX7_metNow_72 : decode cX7_metNow 72 = .ok (.iinc 4 1, 3) := by decide +kernel
theorem dX7_metNow_75 : decode cX7_metNow 75 = .ok (.goto (-33), 3) := by decide +kernel
theorem dX7_metNow_78 : decode cX7_metNow 78 = .ok (.iload_n 1, 1) := by decide +kernel
theorem dX7_metNow_79 : decode cX7_metNow 79 = .ok (.iconst 1, 1) := by decide +kernel
theorem dX7_metNow_80 : decode cX7_metNow 80 = .ok (.isub, 1) := by decide +kernel
theorem dX7_metNow_81 : decode cX7_metNow 81 = .ok (.istore 4, 2) := by decide +kernel
theorem dX7_metNow_83 : decode cX7_metNow 83 = .ok (.iload 4, 2) := by decide +kernel
theorem dX7_metNow_85 : decode cX7_metNow 85 = .ok (.ifCond .le 84, 3) := by decide +kernel
theorem dX7_metNow_88 : decode cX7_metNow 88 = .ok (.iconst 0, 1) := by decide +kernel
theorem dX7_metNow_89 : decode cX7_metNow 89 = .ok (.istore 5, 2) := by decide +kernel
theorem dX7_metNow_91 : decode cX7_metNow 91 = .ok (.iload 5, 2) := by decide +kernel
theorem dX7_metNow_93 : decode cX7_metNow 93 = .ok (.aload_n 0, 1) := by decide +kernel
theorem dX7_metNow_94 : decode cX7_metNow 94 = .ok (.getfield 118, 3) := by decide +kernel
theorem dX7_metNow_97 : decode cX7_metNow 97 = .ok (.if_icmp .ge 66, 3) := by decide +kernel
theorem dX7_metNow_100 : decode cX7_metNow 100 = .ok (.iload 4, 2) := by decide +kernel
theorem dX7_metNow_102 : decode cX7_metNow 102 = .ok (.iload_n 3, 1) := by decide +kernel
theorem dX7_metNow_103 : decode cX7_metNow 103 = .ok (.iand, 1) := by decide +kernel
theorem dX7_metNow_104 : decode cX7_metNow 104 = .ok (.iload 5, 2) := by decide +kernel
theorem dX7_metNow_106 : decode cX7_metNow 106 = .ok (.invokestatic 154, 3) := by decide +kernel
theorem dX7_metNow_109 : decode cX7_metNow 109 = .ok (.istore 6, 2) := by decide +kernel
theorem dX7_metNow_111 : decode cX7_metNow 111 = .ok (.aload_n 0, 1) := by decide +kernel
theorem dX7_metNow_112 : decode cX7_metNow 112 = .ok (.getfield 64, 3) := by decide +kernel
theorem dX7_metNow_115 : decode cX7_metNow 115 = .ok (.iload 4, 2) := by decide +kernel
theorem dX7_metNow_117 : decode cX7_metNow 117 = .ok (.iload 6, 2) := by decide +kernel
theorem dX7_metNow_119 : decode cX7_metNow 119 = .ok (.ifCond .eq 30, 3) := by decide +kernel
theorem dX7_metNow_122 : decode cX7_metNow 122 = .ok (.aload_n 0, 1) := by decide +kernel
theorem dX7_metNow_123 : decode cX7_metNow 123 = .ok (.getfield 64, 3) := by decide +kernel
theorem dX7_metNow_126 : decode cX7_metNow 126 = .ok (.iload 4, 2) := by decide +kernel
theorem dX7_metNow_128 : decode cX7_metNow 128 = .ok (.iconst 1, 1) := by decide +kernel
theorem dX7_metNow_129 : decode cX7_metNow 129 = .ok (.iload 5, 2) := by decide +kernel
theorem dX7_metNow_131 : decode cX7_metNow 131 = .ok (.ishl, 1) := by decide +kernel
theorem dX7_metNow_132 : decode cX7_metNow 132 = .ok (.ixor, 1) := by decide +kernel
theorem dX7_metNow_133 : decode cX7_metNow 133 = .ok (.iaload, 1) := by decide +kernel
theorem dX7_metNow_134 : decode cX7_metNow 134 = .ok (.iconst 1, 1) := by decide +kernel
theorem dX7_metNow_135 : decode cX7_metNow 135 = .ok (.iadd, 1) := by decide +kernel
theorem dX7_metNow_136 : decode cX7_metNow 136 = .ok (.aload_n 0, 1) := by decide +kernel
theorem dX7_metNow_137 : decode cX7_metNow 137 = .ok (.getfield 64, 3) := by decide +kernel
theorem dX7_metNow_140 : decode cX7_metNow 140 = .ok (.iload 4, 2) := by decide +kernel
theorem dX7_metNow_142 : decode cX7_metNow 142 = .ok (.iaload, 1) := by decide +kernel
theorem dX7_metNow_143 : decode cX7_metNow 143 = .ok (.invokestatic 221, 3) := by decide +kernel
theorem dX7_metNow_146 : decode cX7_metNow 146 = .ok (.goto 10, 3) := by decide +kernel
theorem dX7_metNow_149 : decode cX7_metNow 149 = .ok (.aload_n 0, 1) := by decide +kernel
theorem dX7_metNow_150 : decode cX7_metNow 150 = .ok (.getfield 64, 3) := by decide +kernel
theorem dX7_metNow_153 : decode cX7_metNow 153 = .ok (.iload 4, 2) := by decide +kernel
theorem dX7_metNow_155 : decode cX7_metNow 155 = .ok (.iaload, 1) := by decide +kernel
theorem dX7_metNow_156 : decode cX7_metNow 156 = .ok (.iastore, 1) := by decide +kernel
theorem dX7_metNow_157 : decode cX7_metNow 157 = .ok (.iinc 5 1, 3) := by decide +kernel
theorem dX7_metNow_160 : decode cX7_metNow 160 = .ok (.goto (-69), 3) := by decide +kernel
theorem dX7_metNow_163 : decode cX7_metNow 163 = .ok (.iinc 4 (-1), 3) := by decide +kernel
theorem dX7_metNow_166 : decode cX7_metNow 166 = .ok (.goto (-83), 3) := by decide +kernel
theorem dX7_metNow_169 : decode cX7_metNow 169 = .ok (.iinc 2 1, 3) := by decide +kernel
theorem dX7_metNow_172 : decode cX7_metNow 172 = .ok (.goto (-143), 3) := by decide +kernel
theorem dX7_metNow_175 : decode cX7_metNow 175 = .ok (.aload_n 0, 1) := by decide +kernel
theorem dX7_metNow_176 : decode cX7_metNow 176 = .ok (.getfield 64, 3) := by decide +kernel
theorem dX7_metNow_179 : decode cX7_metNow 179 = .ok (.iload_n 1, 1) := by decide +kernel
theorem dX7_metNow_180 : decode cX7_metNow 180 = .ok (.iconst 1, 1) := by decide +kernel
theorem dX7_metNow_181 : decode cX7_metNow 181 = .ok (.isub, 1) := by decide +kernel
theorem dX7_metNow_182 : decode cX7_metNow 182 = .ok (.iaload, 1) := by decide +kernel
theorem dX7_metNow_183 : decode cX7_metNow 183 = .ok (.ireturn, 1) := by decide +kernel
theorem dX7_met_0 : decode cX7_met 0 = .ok (.aload_n 0, 1) := by decide +kernel
theorem dX7_met_1 : decode cX7_met 1 = .ok (.invokevirtual 200, 3) := by decide +kernel
theorem dX7_met_4 : decode cX7_met 4 = .ok (.aload_n 0, 1) := by decide +kernel
theorem dX7_met_5 : decode cX7_met 5 = .ok (.invokevirtual 224, 3) := by decide +kernel
theorem dX7_met_8 : decode cX7_met 8 = .ok (.ireturn, 1) := by decide +kernel
theorem dX7_isMet_0 : decode cX7_isMet 0 = .ok (.aload_n 0, 1) := by decide +kernel
theorem dX7_isMet_1 : decode cX7_isMet 1 = .ok (.iload_n 2, 1) := by decide +kernel
theorem dX7_isMet_2 : decode cX7_isMet 2 = .ok (.putfield 161, 3) := by decide +kernel
theorem dX7_isMet_5 : decode cX7_isMet 5 = .ok (.aload_n 0, 1) := by decide +kernel
theorem dX7_isMet_6 : decode cX7_isMet 6 = .ok (.invokevirtual 194, 3) := by decide +kernel
theorem dX7_isMet_9 : decode cX7_isMet 9 = .ok (.aload_n 0, 1) := by decide +kernel
theorem dX7_isMet_10 : decode cX7_isMet 10 = .ok (.iconst 0, 1) := by decide +kernel
theorem dX7_isMet_11 : decode cX7_isMet 11 = .ok (.putfield 161, 3) := by decide +kernel
theorem dX7_isMet_14 : decode cX7_isMet 14 = .ok (.aload_n 0, 1) := by decide +kernel
theorem dX7_isMet_15 : decode cX7_isMet 15 = .ok (.getfield 55, 3) := by decide +kernel
theorem dX7_isMet_18 : decode cX7_isMet 18 = .ok (.iload_n 1, 1) := by decide +kernel
theorem dX7_isMet_19 : decode cX7_isMet 19 = .ok (.iaload, 1) := by decide +kernel
theorem dX7_isMet_20 : decode cX7_isMet 20 = .ok (.iconst (-1), 1) := by decide +kernel
theorem dX7_isMet_21 : decode cX7_isMet 21 = .ok (.if_icmp .eq 7, 3) := by decide +kernel
theorem dX7_isMet_24 : decode cX7_isMet 24 = .ok (.iconst 1, 1) := by decide +kernel
theorem dX7_isMet_25 : decode cX7_isMet 25 = .ok (.goto 4, 3) := by decide +kernel
theorem dX7_isMet_28 : decode cX7_isMet 28 = .ok (.iconst 0, 1) := by decide +kernel
theorem dX7_isMet_29 : decode cX7_isMet 29 = .ok (.ireturn, 1) := by decide +kernel
theorem dX7_keepOf_0 : decode cX7_keepOf 0 = .ok (.aload_n 0, 1) := by decide +kernel
theorem dX7_keepOf_1 : decode cX7_keepOf 1 = .ok (.iload_n 1, 1) := by decide +kernel
theorem dX7_keepOf_2 : decode cX7_keepOf 2 = .ok (.iconst 0, 1) := by decide +kernel
theorem dX7_keepOf_3 : decode cX7_keepOf 3 = .ok (.invokevirtual 227, 3) := by decide +kernel
theorem dX7_keepOf_6 : decode cX7_keepOf 6 = .ok (.ifCond .eq 14, 3) := by decide +kernel
theorem dX7_keepOf_9 : decode cX7_keepOf 9 = .ok (.iload_n 2, 1) := by decide +kernel
theorem dX7_keepOf_10 : decode cX7_keepOf 10 = .ok (.iconst (-1), 1) := by decide +kernel
theorem dX7_keepOf_11 : decode cX7_keepOf 11 = .ok (.if_icmp .ne 7, 3) := by decide +kernel
theorem dX7_keepOf_14 : decode cX7_keepOf 14 = .ok (.iconst 0, 1) := by decide +kernel
theorem dX7_keepOf_15 : decode cX7_keepOf 15 = .ok (.goto 4, 3) := by decide +kernel
theorem dX7_keepOf_18 : decode cX7_keepOf 18 = .ok (.iconst (-1), 1) := by decide +kernel
theorem dX7_keepOf_19 : decode cX7_keepOf 19 = .ok (.ireturn, 1) := by decide +kernel
theorem dX7_keepOf_20 : decode cX7_keepOf 20 = .ok (.iconst 0, 1) := by decide +kernel
theorem dX7_keepOf_21 : decode cX7_keepOf 21 = .ok (.istore_n 3, 1) := by decide +kernel
theorem dX7_keepOf_22 : decode cX7_keepOf 22 = .ok (.iload_n 3, 1) := by decide +kernel
theorem dX7_keepOf_23 : decode cX7_keepOf 23 = .ok (.aload_n 0, 1) := by decide +kernel
theorem dX7_keepOf_24 : decode cX7_keepOf 24 = .ok (.getfield 149, 3) := by decide +kernel
theorem dX7_keepOf_27 : decode cX7_keepOf 27 = .ok (.if_icmp .ge 39, 3) := by decide +kernel
theorem dX7_keepOf_30 : decode cX7_keepOf 30 = .ok (.aload_n 0, 1) := by decide +kernel
theorem dX7_keepOf_31 : decode cX7_keepOf 31 = .ok (.iload_n 1, 1) := by decide +kernel
theorem dX7_keepOf_32 : decode cX7_keepOf 32 = .ok (.iconst 1, 1) := by decide +kernel
theorem dX7_keepOf_33 : decode cX7_keepOf 33 = .ok (.iload_n 3, 1) := by decide +kernel
theorem dX7_keepOf_34 : decode cX7_keepOf 34 = .ok (.ishl, 1) := by decide +kernel
theorem dX7_keepOf_35 : decode cX7_keepOf 35 = .ok (.invokevirtual 227, 3) := by decide +kernel
theorem dX7_keepOf_38 : decode cX7_keepOf 38 = .ok (.ifCond .eq 22, 3) := by decide +kernel
theorem dX7_keepOf_41 : decode cX7_keepOf 41 = .ok (.iload_n 2, 1) := by decide +kernel
theorem dX7_keepOf_42 : decode cX7_keepOf 42 = .ok (.iconst (-1), 1) := by decide +kernel
theorem dX7_keepOf_43 : decode cX7_keepOf 43 = .ok (.if_icmp .ne 7, 3) := by decide +kernel
theorem dX7_keepOf_46 : decode cX7_keepOf 46 = .ok (.iconst 1, 1) := by decide +kernel
theorem dX7_keepOf_47 : decode cX7_keepOf 47 = .ok (.goto 12, 3) := by decide +kernel
theorem dX7_keepOf_50 : decode cX7_keepOf 50 = .ok (.iload_n 2, 1) := by decide +kernel
theorem dX7_keepOf_51 : decode cX7_keepOf 51 = .ok (.ifCond .ne 7, 3) := by decide +kernel
theorem dX7_keepOf_54 : decode cX7_keepOf 54 = .ok (.iload_n 3, 1) := by decide +kernel
theorem dX7_keepOf_55 : decode cX7_keepOf 55 = .ok (.goto 4, 3) := by decide +kernel
theorem dX7_keepOf_58 : decode cX7_keepOf 58 = .ok (.iconst (-1), 1) := by decide +kernel
theorem dX7_keepOf_59 : decode cX7_keepOf 59 = .ok (.ireturn, 1) := by decide +kernel
theorem dX7_keepOf_60 : decode cX7_keepOf 60 = .ok (.iinc 3 1, 3) := by decide +kernel
theorem dX7_keepOf_63 : decode cX7_keepOf 63 = .ok (.goto (-41), 3) := by decide +kernel
theorem dX7_keepOf_66 : decode cX7_keepOf 66 = .ok (.iconst 0, 1) := by decide +kernel
theorem dX7_keepOf_67 : decode cX7_keepOf 67 = .ok (.istore_n 3, 1) := by decide +kernel
theorem dX7_keepOf_68 : decode cX7_keepOf 68 = .ok (.iload_n 3, 1) := by decide +kernel
theorem dX7_keepOf_69 : decode cX7_keepOf 69 = .ok (.aload_n 0, 1) := by decide +kernel
theorem dX7_keepOf_70 : decode cX7_keepOf 70 = .ok (.getfield 149, 3) := by decide +kernel
theorem dX7_keepOf_73 : decode cX7_keepOf 73 = .ok (.if_icmp .ge 65, 3) := by decide +kernel
theorem dX7_keepOf_76 : decode cX7_keepOf 76 = .ok (.iload_n 3, 1) := by decide +kernel
theorem dX7_keepOf_77 : decode cX7_keepOf 77 = .ok (.iconst 1, 1) := by decide +kernel
theorem dX7_keepOf_78 : decode cX7_keepOf 78 = .ok (.iadd, 1) := by decide +kernel
theorem dX7_keepOf_79 : decode cX7_keepOf 79 = .ok (.istore 4, 2) := by decide +kernel
theorem dX7_keepOf_81 : decode cX7_keepOf 81 = .ok (.iload 4, 2) := by decide +kernel
theorem dX7_keepOf_83 : decode cX7_keepOf 83 = .ok (.aload_n 0, 1) := by decide +kernel
theorem dX7_keepOf_84 : decode cX7_keepOf 84 = .ok (.getfield 149, 3) := by decide +kernel
theorem dX7_keepOf_87 : decode cX7_keepOf 87 = .ok (.if_icmp .ge 45, 3) := by decide +kernel
theorem dX7_keepOf_90 : decode cX7_keepOf 90 = .ok (.aload_n 0, 1) := by decide +kernel
theorem dX7_keepOf_91 : decode cX7_keepOf 91 = .ok (.iload_n 1, 1) := by decide +kernel
theorem dX7_keepOf_92 : decode cX7_keepOf 92 = .ok (.iconst 1, 1) := by decide +kernel
theorem dX7_keepOf_93 : decode cX7_keepOf 93 = .ok (.iload_n 3, 1) := by decide +kernel
theorem dX7_keepOf_94 : decode cX7_keepOf 94 = .ok (.ishl, 1) := by decide +kernel
theorem dX7_keepOf_95 : decode cX7_keepOf 95 = .ok (.iconst 1, 1) := by decide +kernel
theorem dX7_keepOf_96 : decode cX7_keepOf 96 = .ok (.iload 4, 2) := by decide +kernel
theorem dX7_keepOf_98 : decode cX7_keepOf 98 = .ok (.ishl, 1) := by decide +kernel
theorem dX7_keepOf_99 : decode cX7_keepOf 99 = .ok (.ior, 1) := by decide +kernel
theorem dX7_keepOf_100 : decode cX7_keepOf 100 = .ok (.invokevirtual 227, 3) := by decide +kernel
theorem dX7_keepOf_103 : decode cX7_keepOf 103 = .ok (.ifCond .eq 23, 3) := by decide +kernel
theorem dX7_keepOf_106 : decode cX7_keepOf 106 = .ok (.iload_n 2, 1) := by decide +kernel
theorem dX7_keepOf_107 : decode cX7_keepOf 107 = .ok (.iconst (-1), 1) := by decide +kernel
theorem dX7_keepOf_108 : decode cX7_keepOf 108 = .ok (.if_icmp .ne 7, 3) := by decide +kernel
theorem dX7_keepOf_111 : decode cX7_keepOf 111 = .ok (.iconst 2, 1) := by decide +kernel
theorem dX7_keepOf_112 : decode cX7_keepOf 112 = .ok (.goto 13, 3) := by decide +kernel
theorem dX7_keepOf_115 : decode cX7_keepOf 115 = .ok (.iload_n 2, 1) := by decide +kernel
theorem dX7_keepOf_116 : decode cX7_keepOf 116 = .ok (.ifCond .ne 7, 3) := by decide +kernel
theorem dX7_keepOf_119 : decode cX7_keepOf 119 = .ok (.iload_n 3, 1) := by decide +kernel
theorem dX7_keepOf_120 : decode cX7_keepOf 120 = .ok (.goto 5, 3) := by decide +kernel
theorem dX7_keepOf_123 : decode cX7_keepOf 123 = .ok (.iload 4, 2) := by decide +kernel
theorem dX7_keepOf_125 : decode cX7_keepOf 125 = .ok (.ireturn, 1) := by decide +kernel
theorem dX7_keepOf_126 : decode cX7_keepOf 126 = .ok (.iinc 4 1, 3) := by decide +kernel
theorem dX7_keepOf_129 : decode cX7_keepOf 129 = .ok (.goto (-48), 3) := by decide +kernel
theorem dX7_keepOf_132 : decode cX7_keepOf 132 = .ok (.iinc 3 1, 3) := by decide +kernel
theorem dX7_keepOf_135 : decode cX7_keepOf 135 = .ok (.goto (-67), 3) := by decide +kernel
theorem dX7_keepOf_138 : decode cX7_keepOf 138 = .ok (.iconst (-1), 1) := by decide +kernel
theorem dX7_keepOf_139 : decode cX7_keepOf 139 = .ok (.ireturn, 1) := by decide +kernel
theorem dX7_keep_0 : decode cX7_keep 0 = .ok (.aload_n 0, 1) := by decide +kernel
theorem dX7_keep_1 : decode cX7_keep 1 = .ok (.invokevirtual 200, 3) := by decide +kernel
theorem dX7_keep_4 : decode cX7_keep 4 = .ok (.aload_n 0, 1) := by decide +kernel
theorem dX7_keep_5 : decode cX7_keep 5 = .ok (.iload_n 1, 1) := by decide +kernel
theorem dX7_keep_6 : decode cX7_keep 6 = .ok (.invokevirtual 139, 3) := by decide +kernel
theorem dX7_keep_9 : decode cX7_keep 9 = .ok (.ifCond .eq 24, 3) := by decide +kernel
theorem dX7_keep_12 : decode cX7_keep 12 = .ok (.iload_n 2, 1) := by decide +kernel
theorem dX7_keep_13 : decode cX7_keep 13 = .ok (.i2l, 1) := by decide +kernel
theorem dX7_keep_14 : decode cX7_keep 14 = .ok (.ldc2_w 230, 3) := by decide +kernel
theorem dX7_keep_17 : decode cX7_keep 17 = .ok (.lconst 1, 1) := by decide +kernel
theorem dX7_keep_18 : decode cX7_keep 18 = .ok (.invokestatic 79, 3) := by decide +kernel
theorem dX7_keep_21 : decode cX7_keep 21 = .ok (.ifCond .eq 12, 3) := by decide +kernel
theorem dX7_keep_24 : decode cX7_keep 24 = .ok (.aload_n 0, 1) := by decide +kernel
theorem dX7_keep_25 : decode cX7_keep 25 = .ok (.iload_n 1, 1) := by decide +kernel
theorem dX7_keep_26 : decode cX7_keep 26 = .ok (.iload_n 2, 1) := by decide +kernel
theorem dX7_keep_27 : decode cX7_keep 27 = .ok (.invokevirtual 232, 3) := by decide +kernel
theorem dX7_keep_30 : decode cX7_keep 30 = .ok (.goto 5, 3) := by decide +kernel
theorem dX7_keep_33 : decode cX7_keep 33 = .ok (.bipush (-2), 2) := by decide +kernel
theorem dX7_keep_35 : decode cX7_keep 35 = .ok (.ireturn, 1) := by decide +kernel
theorem dX7_sowOf_0 : decode cX7_sowOf 0 = .ok (.aload_n 0, 1) := by decide +kernel
theorem dX7_sowOf_1 : decode cX7_sowOf 1 = .ok (.getfield 28, 3) := by decide +kernel
theorem dX7_sowOf_4 : decode cX7_sowOf 4 = .ok (.iconst 2, 1) := by decide +kernel
theorem dX7_sowOf_5 : decode cX7_sowOf 5 = .ok (.iload_n 1, 1) := by decide +kernel
theorem dX7_sowOf_6 : decode cX7_sowOf 6 = .ok (.imul, 1) := by decide +kernel
theorem dX7_sowOf_7 : decode cX7_sowOf 7 = .ok (.iconst 1, 1) := by decide +kernel
theorem dX7_sowOf_8 : decode cX7_sowOf 8 = .ok (.iadd, 1) := by decide +kernel
theorem dX7_sowOf_9 : decode cX7_sowOf 9 = .ok (.iaload, 1) := by decide +kernel
theorem dX7_sowOf_10 : decode cX7_sowOf 10 = .ok (.istore_n 3, 1) := by decide +kernel
theorem dX7_sowOf_11 : decode cX7_sowOf 11 = .ok (.iconst (-1), 1) := by decide +kernel
theorem dX7_sowOf_12 : decode cX7_sowOf 12 = .ok (.istore 4, 2) := by decide +kernel
theorem dX7_sowOf_14 : decode cX7_sowOf 14 = .ok (.iconst 0, 1) := by decide +kernel
theorem dX7_sowOf_15 : decode cX7_sowOf 15 = .ok (.istore 5, 2) := by decide +kernel
theorem dX7_sowOf_17 : decode cX7_sowOf 17 = .ok (.iconst 0, 1) := by decide +kernel
theorem dX7_sowOf_18 : decode cX7_sowOf 18 = .ok (.istore 6, 2) := by decide +kernel
theorem dX7_sowOf_20 : decode cX7_sowOf 20 = .ok (.iload 6, 2) := by decide +kernel
theorem dX7_sowOf_22 : decode cX7_sowOf 22 = .ok (.bipush 30, 2) := by decide +kernel
theorem dX7_sowOf_24 : decode cX7_sowOf 24 = .ok (.if_icmp .ge 82, 3) := by decide +kernel
theorem dX7_sowOf_27 : decode cX7_sowOf 27 = .ok (.aload_n 0, 1) := by decide +kernel
theorem dX7_sowOf_28 : decode cX7_sowOf 28 = .ok (.getfield 28, 3) := by decide +kernel
theorem dX7_sowOf_31 : decode cX7_sowOf 31 = .ok (.iconst 2, 1) := by decide +kernel
theorem dX7_sowOf_32 : decode cX7_sowOf 32 = .ok (.iload_n 1, 1) := by decide +kernel
theorem dX7_sowOf_33 : decode cX7_sowOf 33 = .ok (.imul, 1) := by decide +kernel
theorem dX7_sowOf_34 : decode cX7_sowOf 34 = .ok (.iconst 1, 1) := by decide +kernel
theorem dX7_sowOf_35 : decode cX7_sowOf 35 = .ok (.iadd, 1) := by decide +kernel
theorem dX7_sowOf_36 : decode cX7_sowOf 36 = .ok (.iload 6, 2) := by decide +kernel
theorem dX7_sowOf_38 : decode cX7_sowOf 38 = .ok (.iastore, 1) := by decide +kernel
theorem dX7_sowOf_39 : decode cX7_sowOf 39 = .ok (.aload_n 0, 1) := by decide +kernel
theorem dX7_sowOf_40 : decode cX7_sowOf 40 = .ok (.invokevirtual 194, 3) := by decide +kernel
theorem dX7_sowOf_43 : decode cX7_sowOf 43 = .ok (.aload_n 0, 1) := by decide +kernel
theorem dX7_sowOf_44 : decode cX7_sowOf 44 = .ok (.invokevirtual 215, 3) := by decide +kernel
theorem dX7_sowOf_47 : decode cX7_sowOf 47 = .ok (.invokestatic 235, 3) := by decide +kernel
theorem dX7_sowOf_50 : decode cX7_sowOf 50 = .ok (.istore 7, 2) := by decide +kernel
theorem dX7_sowOf_52 : decode cX7_sowOf 52 = .ok (.iload 4, 2) := by decide +kernel
theorem dX7_sowOf_54 : decode cX7_sowOf 54 = .ok (.iconst (-1), 1) := by decide +kernel
theorem dX7_sowOf_55 : decode cX7_sowOf 55 = .ok (.if_icmp .eq 10, 3) := by decide +kernel
theorem dX7_sowOf_58 : decode cX7_sowOf 58 = .ok (.iload 7, 2) := by decide +kernel
theorem dX7_sowOf_60 : decode cX7_sowOf 60 = .ok (.iload 5, 2) := by decide +kernel
theorem dX7_sowOf_62 : decode cX7_sowOf 62 = .ok (.if_icmp .ge 7, 3) := by decide +kernel
theorem dX7_sowOf_65 : decode cX7_sowOf 65 = .ok (.iconst 1, 1) := by decide +kernel
theorem dX7_sowOf_66 : decode cX7_sowOf 66 = .ok (.goto 4, 3) := by decide +kernel
theorem dX7_sowOf_69 : decode cX7_sowOf 69 = .ok (.iconst 0, 1) := by decide +kernel
theorem dX7_sowOf_70 : decode cX7_sowOf 70 = .ok (.istore 8, 2) := by decide +kernel
theorem dX7_sowOf_72 : decode cX7_sowOf 72 = .ok (.iload 8, 2) := by decide +kernel
theorem dX7_sowOf_74 : decode cX7_sowOf 74 = .ok (.ifCond .eq 8, 3) := by decide +kernel
theorem dX7_sowOf_77 : decode cX7_sowOf 77 = .ok (.iload 6, 2) := by decide +kernel
theorem dX7_sowOf_79 : decode cX7_sowOf 79 = .ok (.goto 5, 3) := by decide +kernel
theorem dX7_sowOf_82 : decode cX7_sowOf 82 = .ok (.iload 4, 2) := by decide +kernel
theorem dX7_sowOf_84 : decode cX7_sowOf 84 = .ok (.istore 4, 2) := by decide +kernel
theorem dX7_sowOf_86 : decode cX7_sowOf 86 = .ok (.iload 8, 2) := by decide +kernel
theorem dX7_sowOf_88 : decode cX7_sowOf 88 = .ok (.ifCond .eq 8, 3) := by decide +kernel
theorem dX7_sowOf_91 : decode cX7_sowOf 91 = .ok (.iload 7, 2) := by decide +kernel
theorem dX7_sowOf_93 : decode cX7_sowOf 93 = .ok (.goto 5, 3) := by decide +kernel
theorem dX7_sowOf_96 : decode cX7_sowOf 96 = .ok (.iload 5, 2) := by decide +kernel
theorem dX7_sowOf_98 : decode cX7_sowOf 98 = .ok (.istore 5, 2) := by decide +kernel
theorem dX7_sowOf_100 : decode cX7_sowOf 100 = .ok (.iinc 6 1, 3) := by decide +kernel
theorem dX7_sowOf_103 : decode cX7_sowOf 103 = .ok (.goto (-83), 3) := by decide +kernel
theorem dX7_sowOf_106 : decode cX7_sowOf 106 = .ok (.aload_n 0, 1) := by decide +kernel
theorem dX7_sowOf_107 : decode cX7_sowOf 107 = .ok (.getfield 28, 3) := by decide +kernel
theorem dX7_sowOf_110 : decode cX7_sowOf 110 = .ok (.iconst 2, 1) := by decide +kernel
theorem dX7_sowOf_111 : decode cX7_sowOf 111 = .ok (.iload_n 1, 1) := by decide +kernel
theorem dX7_sowOf_112 : decode cX7_sowOf 112 = .ok (.imul, 1) := by decide +kernel
theorem dX7_sowOf_113 : decode cX7_sowOf 113 = .ok (.iconst 1, 1) := by decide +kernel
theorem dX7_sowOf_114 : decode cX7_sowOf 114 = .ok (.iadd, 1) := by decide +kernel
theorem dX7_sowOf_115 : decode cX7_sowOf 115 = .ok (.iload_n 3, 1) := by decide +kernel
theorem dX7_sowOf_116 : decode cX7_sowOf 116 = .ok (.iastore, 1) := by decide +kernel
theorem dX7_sowOf_117 : decode cX7_sowOf 117 = .ok (.iload_n 2, 1) := by decide +kernel
theorem dX7_sowOf_118 : decode cX7_sowOf 118 = .ok (.ifCond .ne 8, 3) := by decide +kernel
theorem dX7_sowOf_121 : decode cX7_sowOf 121 = .ok (.iload 4, 2) := by decide +kernel
theorem dX7_sowOf_123 : decode cX7_sowOf 123 = .ok (.goto 5, 3) := by decide +kernel
theorem dX7_sowOf_126 : decode cX7_sowOf 126 = .ok (.iload 5, 2) := by decide +kernel
theorem dX7_sowOf_128 : decode cX7_sowOf 128 = .ok (.ireturn, 1) := by decide +kernel
theorem dX7_sow_0 : decode cX7_sow 0 = .ok (.aload_n 0, 1) := by decide +kernel
theorem dX7_sow_1 : decode cX7_sow 1 = .ok (.invokevirtual 200, 3) := by decide +kernel
theorem dX7_sow_4 : decode cX7_sow 4 = .ok (.aload_n 0, 1) := by decide +kernel
theorem dX7_sow_5 : decode cX7_sow 5 = .ok (.iload_n 1, 1) := by decide +kernel
theorem dX7_sow_6 : decode cX7_sow 6 = .ok (.invokevirtual 136, 3) := by decide +kernel
theorem dX7_sow_9 : decode cX7_sow 9 = .ok (.ifCond .eq 19, 3) := by decide +kernel
theorem dX7_sow_12 : decode cX7_sow 12 = .ok (.iload_n 2, 1) := by decide +kernel
theorem dX7_sow_13 : decode cX7_sow 13 = .ok (.invokestatic 107, 3) := by decide +kernel
theorem dX7_sow_16 : decode cX7_sow 16 = .ok (.ifCond .eq 12, 3) := by decide +kernel
theorem dX7_sow_19 : decode cX7_sow 19 = .ok (.aload_n 0, 1) := by decide +kernel
theorem dX7_sow_20 : decode cX7_sow 20 = .ok (.iload_n 1, 1) := by decide +kernel
theorem dX7_sow_21 : decode cX7_sow 21 = .ok (.iload_n 2, 1) := by decide +kernel
theorem dX7_sow_22 : decode cX7_sow 22 = .ok (.invokevirtual 238, 3) := by decide +kernel
theorem dX7_sow_25 : decode cX7_sow 25 = .ok (.goto 5, 3) := by decide +kernel
theorem dX7_sow_28 : decode cX7_sow 28 = .ok (.bipush (-2), 2) := by decide +kernel
theorem dX7_sow_30 : decode cX7_sow 30 = .ok (.ireturn, 1) := by decide +kernel
theorem dX7_comeOf_0 : decode cX7_comeOf 0 = .ok (.aload_n 0, 1) := by decide +kernel
theorem dX7_comeOf_1 : decode cX7_comeOf 1 = .ok (.getfield 31, 3) := by decide +kernel
theorem dX7_comeOf_4 : decode cX7_comeOf 4 = .ok (.iconst 3, 1) := by decide +kernel
theorem dX7_comeOf_5 : decode cX7_comeOf 5 = .ok (.iload_n 1, 1) := by decide +kernel
theorem dX7_comeOf_6 : decode cX7_comeOf 6 = .ok (.imul, 1) := by decide +kernel
theorem dX7_comeOf_7 : decode cX7_comeOf 7 = .ok (.iconst 1, 1) := by decide +kernel
theorem dX7_comeOf_8 : decode cX7_comeOf 8 = .ok (.iadd, 1) := by decide +kernel
theorem dX7_comeOf_9 : decode cX7_comeOf 9 = .ok (.iaload, 1) := by decide +kernel
theorem dX7_comeOf_10 : decode cX7_comeOf 10 = .ok (.istore_n 3, 1) := by decide +kernel
theorem dX7_comeOf_11 : decode cX7_comeOf 11 = .ok (.iconst (-1), 1) := by decide +kernel
theorem dX7_comeOf_12 : decode cX7_comeOf 12 = .ok (.istore 4, 2) := by decide +kernel
theorem dX7_comeOf_14 : decode cX7_comeOf 14 = .ok (.iconst (-1), 1) := by decide +kernel
theorem dX7_comeOf_15 : decode cX7_comeOf 15 = .ok (.istore 5, 2) := by decide +kernel
theorem dX7_comeOf_17 : decode cX7_comeOf 17 = .ok (.iconst 0, 1) := by decide +kernel
theorem dX7_comeOf_18 : decode cX7_comeOf 18 = .ok (.istore 6, 2) := by decide +kernel
theorem dX7_comeOf_20 : decode cX7_comeOf 20 = .ok (.iload 6, 2) := by decide +kernel
theorem dX7_comeOf_22 : decode cX7_comeOf 22 = .ok (.bipush 30, 2) := by decide +kernel
theorem dX7_comeOf_24 : decode cX7_comeOf 24 = .ok (.if_icmp .ge 91, 3) := by decide +kernel
theorem dX7_comeOf_27 : decode cX7_comeOf 27 = .ok (.aload_n 0, 1) := by decide +kernel
theorem dX7_comeOf_28 : decode cX7_comeOf 28 = .ok (.getfield 31, 3) := by decide +kernel
theorem dX7_comeOf_31 : decode cX7_comeOf 31 = .ok (.iconst 3, 1) := by decide +kernel
theorem dX7_comeOf_32 : decode cX7_comeOf 32 = .ok (.iload_n 1, 1) := by decide +kernel
theorem dX7_comeOf_33 : decode cX7_comeOf 33 = .ok (.imul, 1) := by decide +kernel
theorem dX7_comeOf_34 : decode cX7_comeOf 34 = .ok (.iconst 1, 1) := by decide +kernel
theorem dX7_comeOf_35 : decode cX7_comeOf 35 = .ok (.iadd, 1) := by decide +kernel
theorem dX7_comeOf_36 : decode cX7_comeOf 36 = .ok (.iload 6, 2) := by decide +kernel
theorem dX7_comeOf_38 : decode cX7_comeOf 38 = .ok (.iastore, 1) := by decide +kernel
theorem dX7_comeOf_39 : decode cX7_comeOf 39 = .ok (.aload_n 0, 1) := by decide +kernel
theorem dX7_comeOf_40 : decode cX7_comeOf 40 = .ok (.invokevirtual 194, 3) := by decide +kernel
theorem dX7_comeOf_43 : decode cX7_comeOf 43 = .ok (.aload_n 0, 1) := by decide +kernel
theorem dX7_comeOf_44 : decode cX7_comeOf 44 = .ok (.getfield 55, 3) := by decide +kernel
theorem dX7_comeOf_47 : decode cX7_comeOf 47 = .ok (.iload_n 1, 1) := by decide +kernel
theorem dX7_comeOf_48 : decode cX7_comeOf 48 = .ok (.iaload, 1) := by decide +kernel
theorem dX7_comeOf_49 : decode cX7_comeOf 49 = .ok (.iconst (-1), 1) := by decide +kernel
theorem dX7_comeOf_50 : decode cX7_comeOf 50 = .ok (.if_icmp .eq 24, 3) := by decide +kernel
theorem dX7_comeOf_53 : decode cX7_comeOf 53 = .ok (.iload 4, 2) := by decide +kernel
theorem dX7_comeOf_55 : decode cX7_comeOf 55 = .ok (.iconst (-1), 1) := by decide +kernel
theorem dX7_comeOf_56 : decode cX7_comeOf 56 = .ok (.if_icmp .eq 14, 3) := by decide +kernel
theorem dX7_comeOf_59 : decode cX7_comeOf 59 = .ok (.aload_n 0, 1) := by decide +kernel
theorem dX7_comeOf_60 : decode cX7_comeOf 60 = .ok (.getfield 58, 3) := by decide +kernel
theorem dX7_comeOf_63 : decode cX7_comeOf 63 = .ok (.iload_n 1, 1) := by decide +kernel
theorem dX7_comeOf_64 : decode cX7_comeOf 64 = .ok (.iaload, 1) := by decide +kernel
theorem dX7_comeOf_65 : decode cX7_comeOf 65 = .ok (.iload 5, 2) := by decide +kernel
theorem dX7_comeOf_67 : decode cX7_comeOf 67 = .ok (.if_icmp .ge 7, 3) := by decide +kernel
theorem dX7_comeOf_70 : decode cX7_comeOf 70 = .ok (.iconst 1, 1) := by decide +kernel
theorem dX7_comeOf_71 : decode cX7_comeOf 71 = .ok (.goto 4, 3) := by decide +kernel
theorem dX7_comeOf_74 : decode cX7_comeOf 74 = .ok (.iconst 0, 1) := by decide +kernel
theorem dX7_comeOf_75 : decode cX7_comeOf 75 = .ok (.istore 7, 2) := by decide +kernel
theorem dX7_comeOf_77 : decode cX7_comeOf 77 = .ok (.iload 7, 2) := by decide +kernel
theorem dX7_comeOf_79 : decode cX7_comeOf 79 = .ok (.ifCond .eq 8, 3) := by decide +kernel
theorem dX7_comeOf_82 : decode cX7_comeOf 82 = .ok (.iload 6, 2) := by decide +kernel
theorem dX7_comeOf_84 : decode cX7_comeOf 84 = .ok (.goto 5, 3) := by decide +kernel
theorem dX7_comeOf_87 : decode cX7_comeOf 87 = .ok (.iload 4, 2) := by decide +kernel
theorem dX7_comeOf_89 : decode cX7_comeOf 89 = .ok (.istore 4, 2) := by decide +kernel
theorem dX7_comeOf_91 : decode cX7_comeOf 91 = .ok (.iload 7, 2) := by decide +kernel
theorem dX7_comeOf_93 : decode cX7_comeOf 93 = .ok (.ifCond .eq 12, 3) := by decide +kernel
theorem dX7_comeOf_96 : decode cX7_comeOf 96 = .ok (.aload_n 0, 1) := by decide +kernel
theorem dX7_comeOf_97 : decode cX7_comeOf 97 = .ok (.getfield 58, 3) := by decide +kernel
theorem dX7_comeOf_100 : decode cX7_comeOf 100 = .ok (.iload_n 1, 1) := by decide +kernel
theorem dX7_comeOf_101 : decode cX7_comeOf 101 = .ok (.iaload, 1) := by decide +kernel
theorem dX7_comeOf_102 : decode cX7_comeOf 102 = .ok (.goto 5, 3) := by decide +kernel
theorem dX7_comeOf_105 : decode cX7_comeOf 105 = .ok (.iload 5, 2) := by decide +kernel
theorem dX7_comeOf_107 : decode cX7_comeOf 107 = .ok (.istore 5, 2) := by decide +kernel
theorem dX7_comeOf_109 : decode cX7_comeOf 109 = .ok (.iinc 6 1, 3) := by decide +kernel
theorem dX7_comeOf_112 : decode cX7_comeOf 112 = .ok (.goto (-92), 3) := by decide +kernel
theorem dX7_comeOf_115 : decode cX7_comeOf 115 = .ok (.aload_n 0, 1) := by decide +kernel
theorem dX7_comeOf_116 : decode cX7_comeOf 116 = .ok (.getfield 31, 3) := by decide +kernel
theorem dX7_comeOf_119 : decode cX7_comeOf 119 = .ok (.iconst 3, 1) := by decide +kernel
theorem dX7_comeOf_120 : decode cX7_comeOf 120 = .ok (.iload_n 1, 1) := by decide +kernel
theorem dX7_comeOf_121 : decode cX7_comeOf 121 = .ok (.imul, 1) := by decide +kernel
theorem dX7_comeOf_122 : decode cX7_comeOf 122 = .ok (.iconst 1, 1) := by decide +kernel
theorem dX7_comeOf_123 : decode cX7_comeOf 123 = .ok (.iadd, 1) := by decide +kernel
theorem dX7_comeOf_124 : decode cX7_comeOf 124 = .ok (.iload_n 3, 1) := by decide +kernel
theorem dX7_comeOf_125 : decode cX7_comeOf 125 = .ok (.iastore, 1) := by decide +kernel
theorem dX7_comeOf_126 : decode cX7_comeOf 126 = .ok (.iload_n 2, 1) := by decide +kernel
theorem dX7_comeOf_127 : decode cX7_comeOf 127 = .ok (.ifCond .ne 8, 3) := by decide +kernel
theorem dX7_comeOf_130 : decode cX7_comeOf 130 = .ok (.iload 4, 2) := by decide +kernel
theorem dX7_comeOf_132 : decode cX7_comeOf 132 = .ok (.goto 5, 3) := by decide +kernel
theorem dX7_comeOf_135 : decode cX7_comeOf 135 = .ok (.iload 5, 2) := by decide +kernel
theorem dX7_comeOf_137 : decode cX7_comeOf 137 = .ok (.ireturn, 1) := by decide +kernel
theorem dX7_come_0 : decode cX7_come 0 = .ok (.aload_n 0, 1) := by decide +kernel
theorem dX7_come_1 : decode cX7_come 1 = .ok (.invokevirtual 200, 3) := by decide +kernel
theorem dX7_come_4 : decode cX7_come 4 = .ok (.aload_n 0, 1) := by decide +kernel
theorem dX7_come_5 : decode cX7_come 5 = .ok (.iload_n 1, 1) := by decide +kernel
theorem dX7_come_6 : decode cX7_come 6 = .ok (.invokevirtual 139, 3) := by decide +kernel
theorem dX7_come_9 : decode cX7_come 9 = .ok (.ifCond .eq 19, 3) := by decide +kernel
theorem dX7_come_12 : decode cX7_come 12 = .ok (.iload_n 2, 1) := by decide +kernel
theorem dX7_come_13 : decode cX7_come 13 = .ok (.invokestatic 107, 3) := by decide +kernel
theorem dX7_come_16 : decode cX7_come 16 = .ok (.ifCond .eq 12, 3) := by decide +kernel
theorem dX7_come_19 : decode cX7_come 19 = .ok (.aload_n 0, 1) := by decide +kernel
theorem dX7_come_20 : decode cX7_come 20 = .ok (.iload_n 1, 1) := by decide +kernel
theorem dX7_come_21 : decode cX7_come 21 = .ok (.iload_n 2, 1) := by decide +kernel
theorem dX7_come_22 : decode cX7_come 22 = .ok (.invokevirtual 241, 3) := by decide +kernel
theorem dX7_come_25 : decode cX7_come 25 = .ok (.goto 5, 3) := by decide +kernel
theorem dX7_come_28 : decode cX7_come 28 = .ok (.bipush (-2), 2) := by decide +kernel
theorem dX7_come_30 : decode cX7_come 30 = .ok (.ireturn, 1) := by decide +kernel
theorem dX7_seen_0 : decode cX7_seen 0 = .ok (.iload_n 1, 1) := by decide +kernel
theorem dX7_seen_1 : decode cX7_seen 1 = .ok (.i2l, 1) := by decide +kernel
theorem dX7_seen_2 : decode cX7_seen 2 = .ok (.lconst 0, 1) := by decide +kernel
theorem dX7_seen_3 : decode cX7_seen 3 = .ok (.ldc2_w 147, 3) := by decide +kernel
theorem dX7_seen_6 : decode cX7_seen 6 = .ok (.invokestatic 79, 3) := by decide +kernel
theorem dX7_seen_9 : decode cX7_seen 9 = .ok (.ifCond .eq 15, 3) := by decide +kernel
theorem dX7_seen_12 : decode cX7_seen 12 = .ok (.iload_n 2, 1) := by decide +kernel
theorem dX7_seen_13 : decode cX7_seen 13 = .ok (.i2l, 1) := by decide +kernel
theorem dX7_seen_14 : decode cX7_seen 14 = .ok (.lconst 0, 1) := by decide +kernel
theorem dX7_seen_15 : decode cX7_seen 15 = .ok (.ldc2_w 244, 3) := by decide +kernel
theorem dX7_seen_18 : decode cX7_seen 18 = .ok (.invokestatic 79, 3) := by decide +kernel
theorem dX7_seen_21 : decode cX7_seen 21 = .ok (.ifCond .ne 6, 3) := by decide +kernel
theorem dX7_seen_24 : decode cX7_seen 24 = .ok (.bipush (-2), 2) := by decide +kernel
theorem dX7_seen_26 : decode cX7_seen 26 = .ok (.ireturn, 1) := by decide +kernel
theorem dX7_seen_27 : decode cX7_seen 27 = .ok (.aload_n 0, 1) := by decide +kernel
theorem dX7_seen_28 : decode cX7_seen 28 = .ok (.getfield 246, 3) := by decide +kernel
theorem dX7_seen_31 : decode cX7_seen 31 = .ok (.bipush 8, 2) := by decide +kernel
theorem dX7_seen_33 : decode cX7_seen 33 = .ok (.if_icmp .ne 6, 3) := by decide +kernel
theorem dX7_seen_36 : decode cX7_seen 36 = .ok (.bipush (-4), 2) := by decide +kernel
theorem dX7_seen_38 : decode cX7_seen 38 = .ok (.ireturn, 1) := by decide +kernel
theorem dX7_seen_39 : decode cX7_seen 39 = .ok (.aload_n 0, 1) := by decide +kernel
theorem dX7_seen_40 : decode cX7_seen 40 = .ok (.getfield 67, 3) := by decide +kernel
theorem dX7_seen_43 : decode cX7_seen 43 = .ok (.iconst 2, 1) := by decide +kernel
theorem dX7_seen_44 : decode cX7_seen 44 = .ok (.aload_n 0, 1) := by decide +kernel
theorem dX7_seen_45 : decode cX7_seen 45 = .ok (.getfield 246, 3) := by decide +kernel
theorem dX7_seen_48 : decode cX7_seen 48 = .ok (.imul, 1) := by decide +kernel
theorem dX7_seen_49 : decode cX7_seen 49 = .ok (.iload_n 1, 1) := by decide +kernel
theorem dX7_seen_50 : decode cX7_seen 50 = .ok (.iastore, 1) := by decide +kernel
theorem dX7_seen_51 : decode cX7_seen 51 = .ok (.aload_n 0, 1) := by decide +kernel
theorem dX7_seen_52 : decode cX7_seen 52 = .ok (.getfield 67, 3) := by decide +kernel
theorem dX7_seen_55 : decode cX7_seen 55 = .ok (.iconst 2, 1) := by decide +kernel
theorem dX7_seen_56 : decode cX7_seen 56 = .ok (.aload_n 0, 1) := by decide +kernel
theorem dX7_seen_57 : decode cX7_seen 57 = .ok (.getfield 246, 3) := by decide +kernel
theorem dX7_seen_60 : decode cX7_seen 60 = .ok (.imul, 1) := by decide +kernel
theorem dX7_seen_61 : decode cX7_seen 61 = .ok (.iconst 1, 1) := by decide +kernel
theorem dX7_seen_62 : decode cX7_seen 62 = .ok (.iadd, 1) := by decide +kernel
theorem dX7_seen_63 : decode cX7_seen 63 = .ok (.iload_n 2, 1) := by decide +kernel
theorem dX7_seen_64 : decode cX7_seen 64 = .ok (.iastore, 1) := by decide +kernel
theorem dX7_seen_65 : decode cX7_seen 65 = .ok (.aload_n 0, 1) := by decide +kernel
theorem dX7_seen_66 : decode cX7_seen 66 = .ok (.dup, 1) := by decide +kernel
theorem dX7_seen_67 : decode cX7_seen 67 = .ok (.getfield 246, 3) := by decide +kernel
theorem dX7_seen_70 : decode cX7_seen 70 = .ok (.iconst 1, 1) := by decide +kernel
theorem dX7_seen_71 : decode cX7_seen 71 = .ok (.iadd, 1) := by decide +kernel
theorem dX7_seen_72 : decode cX7_seen 72 = .ok (.putfield 246, 3) := by decide +kernel
theorem dX7_seen_75 : decode cX7_seen 75 = .ok (.aload_n 0, 1) := by decide +kernel
theorem dX7_seen_76 : decode cX7_seen 76 = .ok (.getfield 246, 3) := by decide +kernel
theorem dX7_seen_79 : decode cX7_seen 79 = .ok (.ireturn, 1) := by decide +kernel
theorem dX7_forget_0 : decode cX7_forget 0 = .ok (.aload_n 0, 1) := by decide +kernel
theorem dX7_forget_1 : decode cX7_forget 1 = .ok (.getfield 246, 3) := by decide +kernel
theorem dX7_forget_4 : decode cX7_forget 4 = .ok (.istore_n 1, 1) := by decide +kernel
theorem dX7_forget_5 : decode cX7_forget 5 = .ok (.aload_n 0, 1) := by decide +kernel
theorem dX7_forget_6 : decode cX7_forget 6 = .ok (.iconst 0, 1) := by decide +kernel
theorem dX7_forget_7 : decode cX7_forget 7 = .ok (.putfield 246, 3) := by decide +kernel
theorem dX7_forget_10 : decode cX7_forget 10 = .ok (.iload_n 1, 1) := by decide +kernel
theorem dX7_forget_11 : decode cX7_forget 11 = .ok (.ireturn, 1) := by decide +kernel
theorem dX7_isSeen_0 : decode cX7_isSeen 0 = .ok (.aload_n 0, 1) := by decide +kernel
theorem dX7_isSeen_1 : decode cX7_isSeen 1 = .ok (.invokevirtual 194, 3) := by decide +kernel
theorem dX7_isSeen_4 : decode cX7_isSeen 4 = .ok (.iconst 1, 1) := by decide +kernel
theorem dX7_isSeen_5 : decode cX7_isSeen 5 = .ok (.istore_n 1, 1) := by decide +kernel
theorem dX7_isSeen_6 : decode cX7_isSeen 6 = .ok (.iconst 0, 1) := by decide +kernel
theorem dX7_isSeen_7 : decode cX7_isSeen 7 = .ok (.istore_n 2, 1) := by decide +kernel
theorem dX7_isSeen_8 : decode cX7_isSeen 8 = .ok (.iload_n 2, 1) := by decide +kernel
theorem dX7_isSeen_9 : decode cX7_isSeen 9 = .ok (.aload_n 0, 1) := by decide +kernel
theorem dX7_isSeen_10 : decode cX7_isSeen 10 = .ok (.getfield 246, 3) := by decide +kernel
theorem dX7_isSeen_13 : decode cX7_isSeen 13 = .ok (.if_icmp .ge 74, 3) := by decide +kernel
theorem dX7_isSeen_16 : decode cX7_isSeen 16 = .ok (.iload_n 1, 1) := by decide +kernel
theorem dX7_isSeen_17 : decode cX7_isSeen 17 = .ok (.ifCond .eq 70, 3) := by decide +kernel
theorem dX7_isSeen_20 : decode cX7_isSeen 20 = .ok (.aload_n 0, 1) := by decide +kernel
theorem dX7_isSeen_21 : decode cX7_isSeen 21 = .ok (.getfield 67, 3) := by decide +kernel
theorem dX7_isSeen_24 : decode cX7_isSeen 24 = .ok (.iconst 2, 1) := by decide +kernel
theorem dX7_isSeen_25 : decode cX7_isSeen 25 = .ok (.iload_n 2, 1) := by decide +kernel
theorem dX7_isSeen_26 : decode cX7_isSeen 26 = .ok (.imul, 1) := by decide +kernel
theorem dX7_isSeen_27 : decode cX7_isSeen 27 = .ok (.iaload, 1) := by decide +kernel
theorem dX7_isSeen_28 : decode cX7_isSeen 28 = .ok (.istore_n 3, 1) := by decide +kernel
theorem dX7_isSeen_29 : decode cX7_isSeen 29 = .ok (.aload_n 0, 1) := by decide +kernel
theorem dX7_isSeen_30 : decode cX7_isSeen 30 = .ok (.iload_n 3, 1) := by decide +kernel
theorem dX7_isSeen_31 : decode cX7_isSeen 31 = .ok (.invokevirtual 139, 3) := by decide +kernel
theorem dX7_isSeen_34 : decode cX7_isSeen 34 = .ok (.ifCond .eq 45, 3) := by decide +kernel
theorem dX7_isSeen_37 : decode cX7_isSeen 37 = .ok (.aload_n 0, 1) := by decide +kernel
theorem dX7_isSeen_38 : decode cX7_isSeen 38 = .ok (.getfield 55, 3) := by decide +kernel
theorem dX7_isSeen_41 : decode cX7_isSeen 41 = .ok (.iload_n 3, 1) := by decide +kernel
theorem dX7_isSeen_42 : decode cX7_isSeen 42 = .ok (.iaload, 1) := by decide +kernel
theorem dX7_isSeen_43 : decode cX7_isSeen 43 = .ok (.aload_n 0, 1) := by decide +kernel
theorem dX7_isSeen_44 : decode cX7_isSeen 44 = .ok (.getfield 67, 3) := by decide +kernel
theorem dX7_isSeen_47 : decode cX7_isSeen 47 = .ok (.iconst 2, 1) := by decide +kernel
theorem dX7_isSeen_48 : decode cX7_isSeen 48 = .ok (.iload_n 2, 1) := by decide +kernel
theorem dX7_isSeen_49 : decode cX7_isSeen 49 = .ok (.imul, 1) := by decide +kernel
theorem dX7_isSeen_50 : decode cX7_isSeen 50 = .ok (.iconst 1, 1) := by decide +kernel
theorem dX7_isSeen_51 : decode cX7_isSeen 51 = .ok (.iadd, 1) := by decide +kernel
theorem dX7_isSeen_52 : decode cX7_isSeen 52 = .ok (.iaload, 1) := by decide +kernel
theorem dX7_isSeen_53 : decode cX7_isSeen 53 = .ok (.bipush 8, 2) := by decide +kernel
theorem dX7_isSeen_55 : decode cX7_isSeen 55 = .ok (.if_icmp .ne 7, 3) := by decide +kernel
theorem dX7_isSeen_58 : decode cX7_isSeen 58 = .ok (.iconst (-1), 1) := by decide +kernel
theorem dX7_isSeen_59 : decode cX7_isSeen 59 = .ok (.goto 13, 3) := by decide +kernel
theorem dX7_isSeen_62 : decode cX7_isSeen 62 = .ok (.aload_n 0, 1) := by decide +kernel
theorem dX7_isSeen_63 : decode cX7_isSeen 63 = .ok (.getfield 67, 3) := by decide +kernel
theorem dX7_isSeen_66 : decode cX7_isSeen 66 = .ok (.iconst 2, 1) := by decide +kernel
theorem dX7_isSeen_67 : decode cX7_isSeen 67 = .ok (.iload_n 2, 1) := by decide +kernel
theorem dX7_isSeen_68 : decode cX7_isSeen 68 = .ok (.imul, 1) := by decide +kernel
theorem dX7_isSeen_69 : decode cX7_isSeen 69 = .ok (.iconst 1, 1) := by decide +kernel
theorem dX7_isSeen_70 : decode cX7_isSeen 70 = .ok (.iadd, 1) := by decide +kernel
theorem dX7_isSeen_71 : decode cX7_isSeen 71 = .ok (.iaload, 1) := by decide +kernel
theorem dX7_isSeen_72 : decode cX7_isSeen 72 = .ok (.if_icmp .ne 7, 3) := by decide +kernel
theorem dX7_isSeen_75 : decode cX7_isSeen 75 = .ok (.iconst 1, 1) := by decide +kernel
theorem dX7_isSeen_76 : decode cX7_isSeen 76 = .ok (.goto 4, 3) := by decide +kernel
theorem dX7_isSeen_79 : decode cX7_isSeen 79 = .ok (.iconst 0, 1) := by decide +kernel
theorem dX7_isSeen_80 : decode cX7_isSeen 80 = .ok (.istore_n 1, 1) := by decide +kernel
theorem dX7_isSeen_81 : decode cX7_isSeen 81 = .ok (.iinc 2 1, 3) := by decide +kernel
theorem dX7_isSeen_84 : decode cX7_isSeen 84 = .ok (.goto (-76), 3) := by decide +kernel
theorem dX7_isSeen_87 : decode cX7_isSeen 87 = .ok (.iload_n 1, 1) := by decide +kernel
theorem dX7_isSeen_88 : decode cX7_isSeen 88 = .ok (.ireturn, 1) := by decide +kernel
theorem dX7_neverNow_0 : decode cX7_neverNow 0 = .ok (.iconst 0, 1) := by decide +kernel
theorem dX7_neverNow_1 : decode cX7_neverNow 1 = .ok (.istore_n 1, 1) := by decide +kernel
theorem dX7_neverNow_2 : decode cX7_neverNow 2 = .ok (.iconst 0, 1) := by decide +kernel
theorem dX7_neverNow_3 : decode cX7_neverNow 3 = .ok (.istore_n 2, 1) := by decide +kernel
theorem dX7_neverNow_4 : decode cX7_neverNow 4 = .ok (.iload_n 2, 1) := by decide +kernel
theorem dX7_neverNow_5 : decode cX7_neverNow 5 = .ok (.aload_n 0, 1) := by decide +kernel
theorem dX7_neverNow_6 : decode cX7_neverNow 6 = .ok (.getfield 149, 3) := by decide +kernel
theorem dX7_neverNow_9 : decode cX7_neverNow 9 = .ok (.if_icmp .ge 33, 3) := by decide +kernel
theorem dX7_neverNow_12 : decode cX7_neverNow 12 = .ok (.aload_n 0, 1) := by decide +kernel
theorem dX7_neverNow_13 : decode cX7_neverNow 13 = .ok (.iconst 1, 1) := by decide +kernel
theorem dX7_neverNow_14 : decode cX7_neverNow 14 = .ok (.iload_n 2, 1) := by decide +kernel
theorem dX7_neverNow_15 : decode cX7_neverNow 15 = .ok (.ishl, 1) := by decide +kernel
theorem dX7_neverNow_16 : decode cX7_neverNow 16 = .ok (.putfield 161, 3) := by decide +kernel
theorem dX7_neverNow_19 : decode cX7_neverNow 19 = .ok (.iload_n 1, 1) := by decide +kernel
theorem dX7_neverNow_20 : decode cX7_neverNow 20 = .ok (.aload_n 0, 1) := by decide +kernel
theorem dX7_neverNow_21 : decode cX7_neverNow 21 = .ok (.invokevirtual 249, 3) := by decide +kernel
theorem dX7_neverNow_24 : decode cX7_neverNow 24 = .ok (.ifCond .eq 9, 3) := by decide +kernel
theorem dX7_neverNow_27 : decode cX7_neverNow 27 = .ok (.iconst 1, 1) := by decide +kernel
theorem dX7_neverNow_28 : decode cX7_neverNow 28 = .ok (.iload_n 2, 1) := by decide +kernel
theorem dX7_neverNow_29 : decode cX7_neverNow 29 = .ok (.ishl, 1) := by decide +kernel
theorem dX7_neverNow_30 : decode cX7_neverNow 30 = .ok (.goto 4, 3) := by decide +kernel
theorem dX7_neverNow_33 : decode cX7_neverNow 33 = .ok (.iconst 0, 1) := by decide +kernel
theorem dX7_neverNow_34 : decode cX7_neverNow 34 = .ok (.ior, 1) := by decide +kernel
theorem dX7_neverNow_35 : decode cX7_neverNow 35 = .ok (.istore_n 1, 1) := by decide +kernel
theorem dX7_neverNow_36 : decode cX7_neverNow 36 = .ok (.iinc 2 1, 3) := by decide +kernel
theorem dX7_neverNow_39 : decode cX7_neverNow 39 = .ok (.goto (-35), 3) := by decide +kernel
theorem dX7_neverNow_42 : decode cX7_neverNow 42 = .ok (.aload_n 0, 1) := by decide +kernel
theorem dX7_neverNow_43 : decode cX7_neverNow 43 = .ok (.iconst 0, 1) := by decide +kernel
theorem dX7_neverNow_44 : decode cX7_neverNow 44 = .ok (.putfield 161, 3) := by decide +kernel
theorem dX7_neverNow_47 : decode cX7_neverNow 47 = .ok (.iload_n 1, 1) := by decide +kernel
theorem dX7_neverNow_48 : decode cX7_neverNow 48 = .ok (.ireturn, 1) := by decide +kernel
theorem dX7_never_0 : decode cX7_never 0 = .ok (.aload_n 0, 1) := by decide +kernel
theorem dX7_never_1 : decode cX7_never 1 = .ok (.invokevirtual 200, 3) := by decide +kernel
theorem dX7_never_4 : decode cX7_never 4 = .ok (.aload_n 0, 1) := by decide +kernel
theorem dX7_never_5 : decode cX7_never 5 = .ok (.invokevirtual 253, 3) := by decide +kernel
theorem dX7_never_8 : decode cX7_never 8 = .ok (.ireturn, 1) := by decide +kernel
theorem dX7_wasOf_0 : decode cX7_wasOf 0 = .ok (.aload_n 0, 1) := by decide +kernel
theorem dX7_wasOf_1 : decode cX7_wasOf 1 = .ok (.getfield 28, 3) := by decide +kernel
theorem dX7_wasOf_4 : decode cX7_wasOf 4 = .ok (.iconst 2, 1) := by decide +kernel
theorem dX7_wasOf_5 : decode cX7_wasOf 5 = .ok (.iload_n 1, 1) := by decide +kernel
theorem dX7_wasOf_6 : decode cX7_wasOf 6 = .ok (.imul, 1) := by decide +kernel
theorem dX7_wasOf_7 : decode cX7_wasOf 7 = .ok (.iload_n 2, 1) := by decide +kernel
theorem dX7_wasOf_8 : decode cX7_wasOf 8 = .ok (.iadd, 1) := by decide +kernel
theorem dX7_wasOf_9 : decode cX7_wasOf 9 = .ok (.iaload, 1) := by decide +kernel
theorem dX7_wasOf_10 : decode cX7_wasOf 10 = .ok (.istore_n 3, 1) := by decide +kernel
theorem dX7_wasOf_11 : decode cX7_wasOf 11 = .ok (.iconst 0, 1) := by decide +kernel
theorem dX7_wasOf_12 : decode cX7_wasOf 12 = .ok (.istore 4, 2) := by decide +kernel
theorem dX7_wasOf_14 : decode cX7_wasOf 14 = .ok (.iconst 0, 1) := by decide +kernel
theorem dX7_wasOf_15 : decode cX7_wasOf 15 = .ok (.istore 5, 2) := by decide +kernel
theorem dX7_wasOf_17 : decode cX7_wasOf 17 = .ok (.iload 5, 2) := by decide +kernel
theorem dX7_wasOf_19 : decode cX7_wasOf 19 = .ok (.iload_n 2, 1) := by decide +kernel
theorem dX7_wasOf_20 : decode cX7_wasOf 20 = .ok (.ifCond .ne 7, 3) := by decide +kernel
theorem dX7_wasOf_23 : decode cX7_wasOf 23 = .ok (.iconst 3, 1) := by decide +kernel
theorem dX7_wasOf_24 : decode cX7_wasOf 24 = .ok (.goto 5, 3) := by decide +kernel
theorem dX7_wasOf_27 : decode cX7_wasOf 27 = .ok (.bipush 30, 2) := by decide +kernel
theorem dX7_wasOf_29 : decode cX7_wasOf 29 = .ok (.if_icmp .ge 41, 3) := by decide +kernel
theorem dX7_wasOf_32 : decode cX7_wasOf 32 = .ok (.aload_n 0, 1) := by decide +kernel
theorem dX7_wasOf_33 : decode cX7_wasOf 33 = .ok (.getfield 28, 3) := by decide +kernel
theorem dX7_wasOf_36 : decode cX7_wasOf 36 = .ok (.iconst 2, 1) := by decide +kernel
theorem dX7_wasOf_37 : decode cX7_wasOf 37 = .ok (.iload_n 1, 1) := by decide +kernel
theorem dX7_wasOf_38 : decode cX7_wasOf 38 = .ok (.imul, 1) := by decide +kernel
theorem dX7_wasOf_39 : decode cX7_wasOf 39 = .ok (.iload_n 2, 1) := by decide +kernel
theorem dX7_wasOf_40 : decode cX7_wasOf 40 = .ok (.iadd, 1) := by decide +kernel
theorem dX7_wasOf_41 : decode cX7_wasOf 41 = .ok (.iload 5, 2) := by decide +kernel
theorem dX7_wasOf_43 : decode cX7_wasOf 43 = .ok (.iastore, 1) := by decide +kernel
theorem dX7_wasOf_44 : decode cX7_wasOf 44 = .ok (.iload 4, 2) := by decide +kernel
theorem dX7_wasOf_46 : decode cX7_wasOf 46 = .ok (.aload_n 0, 1) := by decide +kernel
theorem dX7_wasOf_47 : decode cX7_wasOf 47 = .ok (.invokevirtual 249, 3) := by decide +kernel
theorem dX7_wasOf_50 : decode cX7_wasOf 50 = .ok (.ifCond .eq 10, 3) := by decide +kernel
theorem dX7_wasOf_53 : decode cX7_wasOf 53 = .ok (.iconst 1, 1) := by decide +kernel
theorem dX7_wasOf_54 : decode cX7_wasOf 54 = .ok (.iload 5, 2) := by decide +kernel
theorem dX7_wasOf_56 : decode cX7_wasOf 56 = .ok (.ishl, 1) := by decide +kernel
theorem dX7_wasOf_57 : decode cX7_wasOf 57 = .ok (.goto 4, 3) := by decide +kernel
theorem dX7_wasOf_60 : decode cX7_wasOf 60 = .ok (.iconst 0, 1) := by decide +kernel
theorem dX7_wasOf_61 : decode cX7_wasOf 61 = .ok (.ior, 1) := by decide +kernel
theorem dX7_wasOf_62 : decode cX7_wasOf 62 = .ok (.istore 4, 2) := by decide +kernel
theorem dX7_wasOf_64 : decode cX7_wasOf 64 = .ok (.iinc 5 1, 3) := by decide +kernel
theorem dX7_wasOf_67 : decode cX7_wasOf 67 = .ok (.goto (-50), 3) := by decide +kernel
theorem dX7_wasOf_70 : decode cX7_wasOf 70 = .ok (.aload_n 0, 1) := by decide +kernel
theorem dX7_wasOf_71 : decode cX7_wasOf 71 = .ok (.getfield 28, 3) := by decide +kernel
theorem dX7_wasOf_74 : decode cX7_wasOf 74 = .ok (.iconst 2, 1) := by decide +kernel
theorem dX7_wasOf_75 : decode cX7_wasOf 75 = .ok (.iload_n 1, 1) := by decide +kernel
theorem dX7_wasOf_76 : decode cX7_wasOf 76 = .ok (.imul, 1) := by decide +kernel
theorem dX7_wasOf_77 : decode cX7_wasOf 77 = .ok (.iload_n 2, 1) := by decide +kernel
theorem dX7_wasOf_78 : decode cX7_wasOf 78 = .ok (.iadd, 1) := by decide +kernel
theorem dX7_wasOf_79 : decode cX7_wasOf 79 = .ok (.iload_n 3, 1) := by decide +kernel
theorem dX7_wasOf_80 : decode cX7_wasOf 80 = .ok (.iastore, 1) := by decide +kernel
theorem dX7_wasOf_81 : decode cX7_wasOf 81 = .ok (.iload 4, 2) := by decide +kernel
theorem dX7_wasOf_83 : decode cX7_wasOf 83 = .ok (.ireturn, 1) := by decide +kernel
theorem dX7_was_0 : decode cX7_was 0 = .ok (.aload_n 0, 1) := by decide +kernel
theorem dX7_was_1 : decode cX7_was 1 = .ok (.invokevirtual 200, 3) := by decide +kernel
theorem dX7_was_4 : decode cX7_was 4 = .ok (.aload_n 0, 1) := by decide +kernel
theorem dX7_was_5 : decode cX7_was 5 = .ok (.iload_n 1, 1) := by decide +kernel
theorem dX7_was_6 : decode cX7_was 6 = .ok (.invokevirtual 136, 3) := by decide +kernel
theorem dX7_was_9 : decode cX7_was 9 = .ok (.ifCond .eq 19, 3) := by decide +kernel
theorem dX7_was_12 : decode cX7_was 12 = .ok (.iload_n 2, 1) := by decide +kernel
theorem dX7_was_13 : decode cX7_was 13 = .ok (.invokestatic 107, 3) := by decide +kernel
theorem dX7_was_16 : decode cX7_was 16 = .ok (.ifCond .eq 12, 3) := by decide +kernel
theorem dX7_was_19 : decode cX7_was 19 = .ok (.aload_n 0, 1) := by decide +kernel
theorem dX7_was_20 : decode cX7_was 20 = .ok (.iload_n 1, 1) := by decide +kernel
theorem dX7_was_21 : decode cX7_was 21 = .ok (.iload_n 2, 1) := by decide +kernel
theorem dX7_was_22 : decode cX7_was 22 = .ok (.invokevirtual 256, 3) := by decide +kernel
theorem dX7_was_25 : decode cX7_was 25 = .ok (.goto 5, 3) := by decide +kernel
theorem dX7_was_28 : decode cX7_was 28 = .ok (.bipush (-2), 2) := by decide +kernel
theorem dX7_was_30 : decode cX7_was 30 = .ok (.ireturn, 1) := by decide +kernel
theorem dX7_askOf_0 : decode cX7_askOf 0 = .ok (.aload_n 0, 1) := by decide +kernel
theorem dX7_askOf_1 : decode cX7_askOf 1 = .ok (.iload_n 1, 1) := by decide +kernel
theorem dX7_askOf_2 : decode cX7_askOf 2 = .ok (.iconst 1, 1) := by decide +kernel
theorem dX7_askOf_3 : decode cX7_askOf 3 = .ok (.invokevirtual 256, 3) := by decide +kernel
theorem dX7_askOf_6 : decode cX7_askOf 6 = .ok (.istore_n 2, 1) := by decide +kernel
theorem dX7_askOf_7 : decode cX7_askOf 7 = .ok (.aload_n 0, 1) := by decide +kernel
theorem dX7_askOf_8 : decode cX7_askOf 8 = .ok (.getfield 28, 3) := by decide +kernel
theorem dX7_askOf_11 : decode cX7_askOf 11 = .ok (.iconst 2, 1) := by decide +kernel
theorem dX7_askOf_12 : decode cX7_askOf 12 = .ok (.iload_n 1, 1) := by decide +kernel
theorem dX7_askOf_13 : decode cX7_askOf 13 = .ok (.imul, 1) := by decide +kernel
theorem dX7_askOf_14 : decode cX7_askOf 14 = .ok (.iconst 1, 1) := by decide +kernel
theorem dX7_askOf_15 : decode cX7_askOf 15 = .ok (.iadd, 1) := by decide +kernel
theorem dX7_askOf_16 : decode cX7_askOf 16 = .ok (.iaload, 1) := by decide +kernel
theorem dX7_askOf_17 : decode cX7_askOf 17 = .ok (.istore_n 3, 1) := by decide +kernel
theorem dX7_askOf_18 : decode cX7_askOf 18 = .ok (.iconst 0, 1) := by decide +kernel
theorem dX7_askOf_19 : decode cX7_askOf 19 = .ok (.istore 4, 2) := by decide +kernel
theorem dX7_askOf_21 : decode cX7_askOf 21 = .ok (.iload 4, 2) := by decide +kernel
theorem dX7_askOf_23 : decode cX7_askOf 23 = .ok (.bipush 72, 2) := by decide +kernel
theorem dX7_askOf_25 : decode cX7_askOf 25 = .ok (.if_icmp .ge 17, 3) := by decide +kernel
theorem dX7_askOf_28 : decode cX7_askOf 28 = .ok (.aload_n 0, 1) := by decide +kernel
theorem dX7_askOf_29 : decode cX7_askOf 29 = .ok (.getfield 70, 3) := by decide +kernel
theorem dX7_askOf_32 : decode cX7_askOf 32 = .ok (.iload 4, 2) := by decide +kernel
theorem dX7_askOf_34 : decode cX7_askOf 34 = .ok (.iconst 0, 1) := by decide +kernel
theorem dX7_askOf_35 : decode cX7_askOf 35 = .ok (.iastore, 1) := by decide +kernel
theorem dX7_askOf_36 : decode cX7_askOf 36 = .ok (.iinc 4 1, 3) := by decide +kernel
theorem dX7_askOf_39 : decode cX7_askOf 39 = .ok (.goto (-18), 3) := by decide +kernel
theorem dX7_askOf_42 : decode cX7_askOf 42 = .ok (.iconst 0, 1) := by decide +kernel
theorem dX7_askOf_43 : decode cX7_askOf 43 = .ok (.istore 4, 2) := by decide +kernel
theorem dX7_askOf_45 : decode cX7_askOf 45 = .ok (.iload 4, 2) := by decide +kernel
theorem dX7_askOf_47 : decode cX7_askOf 47 = .ok (.bipush 30, 2) := by decide +kernel
theorem dX7_askOf_49 : decode cX7_askOf 49 = .ok (.if_icmp .ge 76, 3) := by decide +kernel
theorem dX7_askOf_52 : decode cX7_askOf 52 = .ok (.iload_n 2, 1) := by decide +kernel
theorem dX7_askOf_53 : decode cX7_askOf 53 = .ok (.iload 4, 2) := by decide +kernel
theorem dX7_askOf_55 : decode cX7_askOf 55 = .ok (.invokestatic 154, 3) := by decide +kernel
theorem dX7_askOf_58 : decode cX7_askOf 58 = .ok (.ifCond .eq 61, 3) := by decide +kernel
theorem dX7_askOf_61 : decode cX7_askOf 61 = .ok (.aload_n 0, 1) := by decide +kernel
theorem dX7_askOf_62 : decode cX7_askOf 62 = .ok (.getfield 28, 3) := by decide +kernel
theorem dX7_askOf_65 : decode cX7_askOf 65 = .ok (.iconst 2, 1) := by decide +kernel
theorem dX7_askOf_66 : decode cX7_askOf 66 = .ok (.iload_n 1, 1) := by decide +kernel
theorem dX7_askOf_67 : decode cX7_askOf 67 = .ok (.imul, 1) := by decide +kernel
theorem dX7_askOf_68 : decode cX7_askOf 68 = .ok (.iconst 1, 1) := by decide +kernel
theorem dX7_askOf_69 : decode cX7_askOf 69 = .ok (.iadd, 1) := by decide +kernel
theorem dX7_askOf_70 : decode cX7_askOf 70 = .ok (.iload 4, 2) := by decide +kernel
theorem dX7_askOf_72 : decode cX7_askOf 72 = .ok (.iastore, 1) := by decide +kernel
theorem dX7_askOf_73 : decode cX7_askOf 73 = .ok (.aload_n 0, 1) := by decide +kernel
theorem dX7_askOf_74 : decode cX7_askOf 74 = .ok (.invokevirtual 194, 3) := by decide +kernel
theorem dX7_askOf_77 : decode cX7_askOf 77 = .ok (.iconst 0, 1) := by decide +kernel
theorem dX7_askOf_78 : decode cX7_askOf 78 = .ok (.istore 5, 2) := by decide +kernel
theorem dX7_askOf_80 : decode cX7_askOf 80 = .ok (.iload 5, 2) := by decide +kernel
theorem dX7_askOf_82 : decode cX7_askOf 82 = .ok (.aload_n 0, 1) := by decide +kernel
theorem dX7_askOf_83 : decode cX7_askOf 83 = .ok (.getfield 124, 3) := by decide +kernel
theorem dX7_askOf_86 : decode cX7_askOf 86 = .ok (.if_icmp .ge 33, 3) := by decide +kernel
theorem dX7_askOf_89 : decode cX7_askOf 89 = .ok (.aload_n 0, 1) := by decide +kernel
theorem dX7_askOf_90 : decode cX7_askOf 90 = .ok (.getfield 70, 3) := by decide +kernel
theorem dX7_askOf_93 : decode cX7_askOf 93 = .ok (.bipush 9, 2) := by decide +kernel
theorem dX7_askOf_95 : decode cX7_askOf 95 = .ok (.iload 5, 2) := by decide +kernel
theorem dX7_askOf_97 : decode cX7_askOf 97 = .ok (.imul, 1) := by decide +kernel
theorem dX7_askOf_98 : decode cX7_askOf 98 = .ok (.aload_n 0, 1) := by decide +kernel
theorem dX7_askOf_99 : decode cX7_askOf 99 = .ok (.getfield 55, 3) := by decide +kernel
theorem dX7_askOf_102 : decode cX7_askOf 102 = .ok (.iload 5, 2) := by decide +kernel
theorem dX7_askOf_104 : decode cX7_askOf 104 = .ok (.iaload, 1) := by decide +kernel
theorem dX7_askOf_105 : decode cX7_askOf 105 = .ok (.iadd, 1) := by decide +kernel
theorem dX7_askOf_106 : decode cX7_askOf 106 = .ok (.iconst 1, 1) := by decide +kernel
theorem dX7_askOf_107 : decode cX7_askOf 107 = .ok (.iadd, 1) := by decide +kernel
theorem dX7_askOf_108 : decode cX7_askOf 108 = .ok (.dup2, 1) := by decide +kernel
theorem dX7_askOf_109 : decode cX7_askOf 109 = .ok (.iaload, 1) := by decide +kernel
theorem dX7_askOf_110 : decode cX7_askOf 110 = .ok (.iconst 1, 1) := by decide +kernel
theorem dX7_askOf_111 : decode cX7_askOf 111 = .ok (.iadd, 1) := by decide +kernel
theorem dX7_askOf_112 : decode cX7_askOf 112 = .ok (.iastore, 1) := by decide +kernel
theorem dX7_askOf_113 : decode cX7_askOf 113 = .ok (.iinc 5 1, 3) := by decide +kernel
theorem dX7_askOf_116 : decode cX7_askOf 116 = .ok (.goto (-36), 3) := by decide +kernel
theorem dX7_askOf_119 : decode cX7_askOf 119 = .ok (.iinc 4 1, 3) := by decide +kernel
theorem dX7_askOf_122 : decode cX7_askOf 122 = .ok (.goto (-77), 3) := by decide +kernel
theorem dX7_askOf_125 : decode cX7_askOf 125 = .ok (.aload_n 0, 1) := by decide +kernel
theorem dX7_askOf_126 : decode cX7_askOf 126 = .ok (.getfield 28, 3) := by decide +kernel
theorem dX7_askOf_129 : decode cX7_askOf 129 = .ok (.iconst 2, 1) := by decide +kernel
theorem dX7_askOf_130 : decode cX7_askOf 130 = .ok (.iload_n 1, 1) := by decide +kernel
theorem dX7_askOf_131 : decode cX7_askOf 131 = .ok (.imul, 1) := by decide +kernel
theorem dX7_askOf_132 : decode cX7_askOf 132 = .ok (.iconst 1, 1) := by decide +kernel
theorem dX7_askOf_133 : decode cX7_askOf 133 = .ok (.iadd, 1) := by decide +kernel
theorem dX7_askOf_134 : decode cX7_askOf 134 = .ok (.iload_n 3, 1) := by decide +kernel
theorem dX7_askOf_135 : decode cX7_askOf 135 = .ok (.iastore, 1) := by decide +kernel
theorem dX7_askOf_136 : decode cX7_askOf 136 = .ok (.iconst (-1), 1) := by decide +kernel
theorem dX7_askOf_137 : decode cX7_askOf 137 = .ok (.istore 4, 2) := by decide +kernel
theorem dX7_askOf_139 : decode cX7_askOf 139 = .ok (.iconst 0, 1) := by decide +kernel
theorem dX7_askOf_140 : decode cX7_askOf 140 = .ok (.istore 5, 2) := by decide +kernel
theorem dX7_askOf_142 : decode cX7_askOf 142 = .ok (.iconst 0, 1) := by decide +kernel
theorem dX7_askOf_143 : decode cX7_askOf 143 = .ok (.istore 6, 2) := by decide +kernel
theorem dX7_askOf_145 : decode cX7_askOf 145 = .ok (.iload 6, 2) := by decide +kernel
theorem dX7_askOf_147 : decode cX7_askOf 147 = .ok (.aload_n 0, 1) := by decide +kernel
theorem dX7_askOf_148 : decode cX7_askOf 148 = .ok (.getfield 124, 3) := by decide +kernel
theorem dX7_askOf_151 : decode cX7_askOf 151 = .ok (.if_icmp .ge 96, 3) := by decide +kernel
theorem dX7_askOf_154 : decode cX7_askOf 154 = .ok (.iconst 0, 1) := by decide +kernel
theorem dX7_askOf_155 : decode cX7_askOf 155 = .ok (.istore 7, 2) := by decide +kernel
theorem dX7_askOf_157 : decode cX7_askOf 157 = .ok (.iconst 0, 1) := by decide +kernel
theorem dX7_askOf_158 : decode cX7_askOf 158 = .ok (.istore 8, 2) := by decide +kernel
theorem dX7_askOf_160 : decode cX7_askOf 160 = .ok (.iload 8, 2) := by decide +kernel
theorem dX7_askOf_162 : decode cX7_askOf 162 = .ok (.bipush 9, 2) := by decide +kernel
theorem dX7_askOf_164 : decode cX7_askOf 164 = .ok (.if_icmp .ge 29, 3) := by decide +kernel
theorem dX7_askOf_167 : decode cX7_askOf 167 = .ok (.aload_n 0, 1) := by decide +kernel
theorem dX7_askOf_168 : decode cX7_askOf 168 = .ok (.getfield 70, 3) := by decide +kernel
theorem dX7_askOf_171 : decode cX7_askOf 171 = .ok (.bipush 9, 2) := by decide +kernel
theorem dX7_askOf_173 : decode cX7_askOf 173 = .ok (.iload 6, 2) := by decide +kernel
theorem dX7_askOf_175 : decode cX7_askOf 175 = .ok (.imul, 1) := by decide +kernel
theorem dX7_askOf_176 : decode cX7_askOf 176 = .ok (.iload 8, 2) := by decide +kernel
theorem dX7_askOf_178 : decode cX7_askOf 178 = .ok (.iadd, 1) := by decide +kernel
theorem dX7_askOf_179 : decode cX7_askOf 179 = .ok (.iaload, 1) := by decide +kernel
theorem dX7_askOf_180 : decode cX7_askOf 180 = .ok (.iload 7, 2) := by decide +kernel
theorem dX7_askOf_182 : decode cX7_askOf 182 = .ok (.invokestatic 221, 3) := by decide +kernel
theorem dX7_askOf_185 : decode cX7_askOf 185 = .ok (.istore 7, 2) := by decide +kernel
theorem dX7_askOf_187 : decode cX7_askOf 187 = .ok (.iinc 8 1, 3) := by decide +kernel
theorem dX7_askOf_190 : decode cX7_askOf 190 = .ok (.goto (-30), 3) := by decide +kernel
theorem dX7_askOf_193 : decode cX7_askOf 193 = .ok (.iload 4, 2) := by decide +kernel
theorem dX7_askOf_195 : decode cX7_askOf 195 = .ok (.iconst (-1), 1) := by decide +kernel
theorem dX7_askOf_196 : decode cX7_askOf 196 = .ok (.if_icmp .eq 10, 3) := by decide +kernel
theorem dX7_askOf_199 : decode cX7_askOf 199 = .ok (.iload 7, 2) := by decide +kernel
theorem dX7_askOf_201 : decode cX7_askOf 201 = .ok (.iload 5, 2) := by decide +kernel
theorem dX7_askOf_203 : decode cX7_askOf 203 = .ok (.if_icmp .ge 7, 3) := by decide +kernel
theorem dX7_askOf_206 : decode cX7_askOf 206 = .ok (.iconst 1, 1) := by decide +kernel
theorem dX7_askOf_207 : decode cX7_askOf 207 = .ok (.goto 4, 3) := by decide +kernel
theorem dX7_askOf_210 : decode cX7_askOf 210 = .ok (.iconst 0, 1) := by decide +kernel
theorem dX7_askOf_211 : decode cX7_askOf 211 = .ok (.istore 8, 2) := by decide +kernel
theorem dX7_askOf_213 : decode cX7_askOf 213 = .ok (.iload 8, 2) := by decide +kernel
theorem dX7_askOf_215 : decode cX7_askOf 215 = .ok (.ifCond .eq 8, 3) := by decide +kernel
theorem dX7_askOf_218 : decode cX7_askOf 218 = .ok (.iload 6, 2) := by decide +kernel
theorem dX7_askOf_220 : decode cX7_askOf 220 = .ok (.goto 5, 3) := by decide +kernel
theorem dX7_askOf_223 : decode cX7_askOf 223 = .ok (.iload 4, 2) := by decide +kernel
theorem dX7_askOf_225 : decode cX7_askOf 225 = .ok (.istore 4, 2) := by decide +kernel
theorem dX7_askOf_227 : decode cX7_askOf 227 = .ok (.iload 8, 2) := by decide +kernel
theorem dX7_askOf_229 : decode cX7_askOf 229 = .ok (.ifCond .eq 8, 3) := by decide +kernel
theorem dX7_askOf_232 : decode cX7_askOf 232 = .ok (.iload 7, 2) := by decide +kernel
theorem dX7_askOf_234 : decode cX7_askOf 234 = .ok (.goto 5, 3) := by decide +kernel
theorem dX7_askOf_237 : decode cX7_askOf 237 = .ok (.iload 5, 2) := by decide +kernel
theorem dX7_askOf_239 : decode cX7_askOf 239 = .ok (.istore 5, 2) := by decide +kernel
theorem dX7_askOf_241 : decode cX7_askOf 241 = .ok (.iinc 6 1, 3) := by decide +kernel
theorem dX7_askOf_244 : decode cX7_askOf 244 = .ok (.goto (-99), 3) := by decide +kernel
theorem dX7_askOf_247 : decode cX7_askOf 247 = .ok (.iload 4, 2) := by decide +kernel
theorem dX7_askOf_249 : decode cX7_askOf 249 = .ok (.ireturn, 1) := by decide +kernel
theorem dX7_ask_0 : decode cX7_ask 0 = .ok (.aload_n 0, 1) := by decide +kernel
theorem dX7_ask_1 : decode cX7_ask 1 = .ok (.invokevirtual 200, 3) := by decide +kernel
theorem dX7_ask_4 : decode cX7_ask 4 = .ok (.aload_n 0, 1) := by decide +kernel
theorem dX7_ask_5 : decode cX7_ask 5 = .ok (.iload_n 1, 1) := by decide +kernel
theorem dX7_ask_6 : decode cX7_ask 6 = .ok (.invokevirtual 136, 3) := by decide +kernel
theorem dX7_ask_9 : decode cX7_ask 9 = .ok (.ifCond .eq 11, 3) := by decide +kernel
theorem dX7_ask_12 : decode cX7_ask 12 = .ok (.aload_n 0, 1) := by decide +kernel
theorem dX7_ask_13 : decode cX7_ask 13 = .ok (.iload_n 1, 1) := by decide +kernel
theorem dX7_ask_14 : decode cX7_ask 14 = .ok (.invokevirtual 259, 3) := by decide +kernel
theorem dX7_ask_17 : decode cX7_ask 17 = .ok (.goto 5, 3) := by decide +kernel
theorem dX7_ask_20 : decode cX7_ask 20 = .ok (.bipush (-2), 2) := by decide +kernel
theorem dX7_ask_22 : decode cX7_ask 22 = .ok (.ireturn, 1) := by decide +kernel
theorem dX7_chillOf_0 : decode cX7_chillOf 0 = .ok (.lconst 0, 1) := by decide +kernel
theorem dX7_chillOf_1 : decode cX7_chillOf 1 = .ok (.lstore 5, 2) := by decide +kernel
theorem dX7_chillOf_3 : decode cX7_chillOf 3 = .ok (.iconst 0, 1) := by decide +kernel
theorem dX7_chillOf_4 : decode cX7_chillOf 4 = .ok (.istore 7, 2) := by decide +kernel
theorem dX7_chillOf_6 : decode cX7_chillOf 6 = .ok (.iload 7, 2) := by decide +kernel
theorem dX7_chillOf_8 : decode cX7_chillOf 8 = .ok (.iconst 2, 1) := by decide +kernel
theorem dX7_chillOf_9 : decode cX7_chillOf 9 = .ok (.iload_n 2, 1) := by decide +kernel
theorem dX7_chillOf_10 : decode cX7_chillOf 10 = .ok (.ishl, 1) := by decide +kernel
theorem dX7_chillOf_11 : decode cX7_chillOf 11 = .ok (.if_icmp .ge 79, 3) := by decide +kernel
theorem dX7_chillOf_14 : decode cX7_chillOf 14 = .ok (.aload_n 0, 1) := by decide +kernel
theorem dX7_chillOf_15 : decode cX7_chillOf 15 = .ok (.iload 7, 2) := by decide +kernel
theorem dX7_chillOf_17 : decode cX7_chillOf 17 = .ok (.putfield 73, 3) := by decide +kernel
theorem dX7_chillOf_20 : decode cX7_chillOf 20 = .ok (.aload_n 0, 1) := by decide +kernel
theorem dX7_chillOf_21 : decode cX7_chillOf 21 = .ok (.invokevirtual 194, 3) := by decide +kernel
theorem dX7_chillOf_24 : decode cX7_chillOf 24 = .ok (.aload_n 0, 1) := by decide +kernel
theorem dX7_chillOf_25 : decode cX7_chillOf 25 = .ok (.getfield 55, 3) := by decide +kernel
theorem dX7_chillOf_28 : decode cX7_chillOf 28 = .ok (.iload_n 3, 1) := by decide +kernel
theorem dX7_chillOf_29 : decode cX7_chillOf 29 = .ok (.iaload, 1) := by decide +kernel
theorem dX7_chillOf_30 : decode cX7_chillOf 30 = .ok (.iconst (-1), 1) := by decide +kernel
theorem dX7_chillOf_31 : decode cX7_chillOf 31 = .ok (.if_icmp .eq 53, 3) := by decide +kernel
theorem dX7_chillOf_34 : decode cX7_chillOf 34 = .ok (.lconst 1, 1) := by decide +kernel
theorem dX7_chillOf_35 : decode cX7_chillOf 35 = .ok (.lstore 8, 2) := by decide +kernel
theorem dX7_chillOf_37 : decode cX7_chillOf 37 = .ok (.iconst 0, 1) := by decide +kernel
theorem dX7_chillOf_38 : decode cX7_chillOf 38 = .ok (.istore 10, 2) := by decide +kernel
theorem dX7_chillOf_40 : decode cX7_chillOf 40 = .ok (.iload 10, 2) := by decide +kernel
theorem dX7_chillOf_42 : decode cX7_chillOf 42 = .ok (.iload_n 2, 1) := by decide +kernel
theorem dX7_chillOf_43 : decode cX7_chillOf 43 = .ok (.if_icmp .gt 34, 3) := by decide +kernel
theorem dX7_chillOf_46 : decode cX7_chillOf 46 = .ok (.lload 8, 2) := by decide +kernel
theorem dX7_chillOf_48 : decode cX7_chillOf 48 = .ok (.iload 7, 2) := by decide +kernel
theorem dX7_chillOf_50 : decode cX7_chillOf 50 = .ok (.iload 10, 2) := by decide +kernel
theorem dX7_chillOf_52 : decode cX7_chillOf 52 = .ok (.invokestatic 154, 3) := by decide +kernel
theorem dX7_chillOf_55 : decode cX7_chillOf 55 = .ok (.ifCond .eq 8, 3) := by decide +kernel
theorem dX7_chillOf_58 : decode cX7_chillOf 58 = .ok (.iload_n 1, 1) := by decide +kernel
theorem dX7_chillOf_59 : decode cX7_chillOf 59 = .ok (.i2l, 1) := by decide +kernel
theorem dX7_chillOf_60 : decode cX7_chillOf 60 = .ok (.goto 8, 3) := by decide +kernel
theorem dX7_chillOf_63 : decode cX7_chillOf 63 = .ok (.bipush 16, 2) := by decide +kernel
theorem dX7_chillOf_65 : decode cX7_chillOf 65 = .ok (.iload_n 1, 1) := by decide +kernel
theorem dX7_chillOf_66 : decode cX7_chillOf 66 = .ok (.isub, 1) := by decide +kernel
theorem dX7_chillOf_67 : decode cX7_chillOf 67 = .ok (.i2l, 1) := by decide +kernel
theorem dX7_chillOf_68 : decode cX7_chillOf 68 = .ok (.lmul, 1) := by decide +kernel
theorem dX7_chillOf_69 : decode cX7_chillOf 69 = .ok (.lstore 8, 2) := by decide +kernel
theorem dX7_chillOf_71 : decode cX7_chillOf 71 = .ok (.iinc 10 1, 3) := by decide +kernel
theorem dX7_chillOf_74 : decode cX7_chillOf 74 = .ok (.goto (-34), 3) := by decide +kernel
theorem dX7_chillOf_77 : decode cX7_chillOf 77 = .ok (.lload 5, 2) := by decide +kernel
theorem dX7_chillOf_79 : decode cX7_chillOf 79 = .ok (.lload 8, 2) := by decide +kernel
theorem dX7_chillOf_81 : decode cX7_chillOf 81 = .ok (.ladd, 1) := by decide +kernel
theorem dX7_chillOf_82 : decode cX7_chillOf 82 = .ok (.lstore 5, 2) := by decide +kernel
theorem dX7_chillOf_84 : decode cX7_chillOf 84 = .ok (.iinc 7 1, 3) := by decide +kernel
theorem dX7_chillOf_87 : decode cX7_chillOf 87 = .ok (.goto (-81), 3) := by decide +kernel
theorem dX7_chillOf_90 : decode cX7_chillOf 90 = .ok (.aload_n 0, 1) := by decide +kernel
theorem dX7_chillOf_91 : decode cX7_chillOf 91 = .ok (.iconst (-1), 1) := by decide +kernel
theorem dX7_chillOf_92 : decode cX7_chillOf 92 = .ok (.putfield 73, 3) := by decide +kernel
theorem dX7_chillOf_95 : decode cX7_chillOf 95 = .ok (.lload 5, 2) := by decide +kernel
theorem dX7_chillOf_97 : decode cX7_chillOf 97 = .ok (.lconst 1, 1) := by decide +kernel
theorem dX7_chillOf_98 : decode cX7_chillOf 98 = .ok (.iconst 4, 1) := by decide +kernel
theorem dX7_chillOf_99 : decode cX7_chillOf 99 = .ok (.iload_n 2, 1) := by decide +kernel
theorem dX7_chillOf_100 : decode cX7_chillOf 100 = .ok (.iconst 1, 1) := by decide +kernel
theorem dX7_chillOf_101 : decode cX7_chillOf 101 = .ok (.iadd, 1) := by decide +kernel
theorem dX7_chillOf_102 : decode cX7_chillOf 102 = .ok (.imul, 1) := by decide +kernel
theorem dX7_chillOf_103 : decode cX7_chillOf 103 = .ok (.lshl, 1) := by decide +kernel
theorem dX7_chillOf_104 : decode cX7_chillOf 104 = .ok (.iload 4, 2) := by decide +kernel
theorem dX7_chillOf_106 : decode cX7_chillOf 106 = .ok (.invokestatic 262, 3) := by decide +kernel
theorem dX7_chillOf_109 : decode cX7_chillOf 109 = .ok (.lreturn, 1) := by decide +kernel
theorem dX7_chill_0 : decode cX7_chill 0 = .ok (.aload_n 0, 1) := by decide +kernel
theorem dX7_chill_1 : decode cX7_chill 1 = .ok (.invokevirtual 200, 3) := by decide +kernel
theorem dX7_chill_4 : decode cX7_chill 4 = .ok (.iload_n 1, 1) := by decide +kernel
theorem dX7_chill_5 : decode cX7_chill 5 = .ok (.i2l, 1) := by decide +kernel
theorem dX7_chill_6 : decode cX7_chill 6 = .ok (.lconst 0, 1) := by decide +kernel
theorem dX7_chill_7 : decode cX7_chill 7 = .ok (.ldc2_w 266, 3) := by decide +kernel
theorem dX7_chill_10 : decode cX7_chill 10 = .ok (.invokestatic 79, 3) := by decide +kernel
theorem dX7_chill_13 : decode cX7_chill 13 = .ok (.ifCond .eq 43, 3) := by decide +kernel
theorem dX7_chill_16 : decode cX7_chill 16 = .ok (.iload_n 2, 1) := by decide +kernel
theorem dX7_chill_17 : decode cX7_chill 17 = .ok (.i2l, 1) := by decide +kernel
theorem dX7_chill_18 : decode cX7_chill 18 = .ok (.lconst 0, 1) := by decide +kernel
theorem dX7_chill_19 : decode cX7_chill 19 = .ok (.ldc2_w 268, 3) := by decide +kernel
theorem dX7_chill_22 : decode cX7_chill 22 = .ok (.invokestatic 79, 3) := by decide +kernel
theorem dX7_chill_25 : decode cX7_chill 25 = .ok (.ifCond .eq 31, 3) := by decide +kernel
theorem dX7_chill_28 : decode cX7_chill 28 = .ok (.aload_n 0, 1) := by decide +kernel
theorem dX7_chill_29 : decode cX7_chill 29 = .ok (.iload_n 3, 1) := by decide +kernel
theorem dX7_chill_30 : decode cX7_chill 30 = .ok (.invokevirtual 139, 3) := by decide +kernel
theorem dX7_chill_33 : decode cX7_chill 33 = .ok (.ifCond .eq 23, 3) := by decide +kernel
theorem dX7_chill_36 : decode cX7_chill 36 = .ok (.iload 4, 2) := by decide +kernel
theorem dX7_chill_38 : decode cX7_chill 38 = .ok (.invokestatic 107, 3) := by decide +kernel
theorem dX7_chill_41 : decode cX7_chill 41 = .ok (.ifCond .eq 15, 3) := by decide +kernel
theorem dX7_chill_44 : decode cX7_chill 44 = .ok (.aload_n 0, 1) := by decide +kernel
theorem dX7_chill_45 : decode cX7_chill 45 = .ok (.iload_n 1, 1) := by decide +kernel
theorem dX7_chill_46 : decode cX7_chill 46 = .ok (.iload_n 2, 1) := by decide +kernel
theorem dX7_chill_47 : decode cX7_chill 47 = .ok (.iload_n 3, 1) := by decide +kernel
theorem dX7_chill_48 : decode cX7_chill 48 = .ok (.iload 4, 2) := by decide +kernel
theorem dX7_chill_50 : decode cX7_chill 50 = .ok (.invokevirtual 270, 3) := by decide +kernel
theorem dX7_chill_53 : decode cX7_chill 53 = .ok (.goto 8, 3) := by decide +kernel
theorem dX7_chill_56 : decode cX7_chill 56 = .ok (.bipush (-2), 2) := by decide +kernel
theorem dX7_chill_58 : decode cX7_chill 58 = .ok (.invokestatic 274, 3) := by decide +kernel
theorem dX7_chill_61 : decode cX7_chill 61 = .ok (.lreturn, 1) := by decide +kernel
theorem dX7_lot_0 : decode cX7_lot 0 = .ok (.aload_n 0, 1) := by decide +kernel
theorem dX7_lot_1 : decode cX7_lot 1 = .ok (.ldc_w 278, 3) := by decide +kernel
theorem dX7_lot_4 : decode cX7_lot 4 = .ok (.aload_n 0, 1) := by decide +kernel
theorem dX7_lot_5 : decode cX7_lot 5 = .ok (.getfield 279, 3) := by decide +kernel
theorem dX7_lot_8 : decode cX7_lot 8 = .ok (.imul, 1) := by decide +kernel
theorem dX7_lot_9 : decode cX7_lot 9 = .ok (.sipush 12345, 3) := by decide +kernel
theorem dX7_lot_12 : decode cX7_lot 12 = .ok (.iadd, 1) := by decide +kernel
theorem dX7_lot_13 : decode cX7_lot 13 = .ok (.putfield 279, 3) := by decide +kernel
theorem dX7_lot_16 : decode cX7_lot 16 = .ok (.aload_n 0, 1) := by decide +kernel
theorem dX7_lot_17 : decode cX7_lot 17 = .ok (.getfield 279, 3) := by decide +kernel
theorem dX7_lot_20 : decode cX7_lot 20 = .ok (.bipush 16, 2) := by decide +kernel
theorem dX7_lot_22 : decode cX7_lot 22 = .ok (.iushr, 1) := by decide +kernel
theorem dX7_lot_23 : decode cX7_lot 23 = .ok (.iload_n 1, 1) := by decide +kernel
theorem dX7_lot_24 : decode cX7_lot 24 = .ok (.irem, 1) := by decide +kernel
theorem dX7_lot_25 : decode cX7_lot 25 = .ok (.ireturn, 1) := by decide +kernel
theorem dX7_yearOf_0 : decode cX7_yearOf 0 = .ok (.aload_n 0, 1) := by decide +kernel
theorem dX7_yearOf_1 : decode cX7_yearOf 1 = .ok (.iload_n 1, 1) := by decide +kernel
theorem dX7_yearOf_2 : decode cX7_yearOf 2 = .ok (.putfield 279, 3) := by decide +kernel
theorem dX7_yearOf_5 : decode cX7_yearOf 5 = .ok (.iconst 0, 1) := by decide +kernel
theorem dX7_yearOf_6 : decode cX7_yearOf 6 = .ok (.istore_n 3, 1) := by decide +kernel
theorem dX7_yearOf_7 : decode cX7_yearOf 7 = .ok (.iload_n 3, 1) := by decide +kernel
theorem dX7_yearOf_8 : decode cX7_yearOf 8 = .ok (.aload_n 0, 1) := by decide +kernel
theorem dX7_yearOf_9 : decode cX7_yearOf 9 = .ok (.getfield 118, 3) := by decide +kernel
theorem dX7_yearOf_12 : decode cX7_yearOf 12 = .ok (.if_icmp .ge 25, 3) := by decide +kernel
theorem dX7_yearOf_15 : decode cX7_yearOf 15 = .ok (.aload_n 0, 1) := by decide +kernel
theorem dX7_yearOf_16 : decode cX7_yearOf 16 = .ok (.getfield 28, 3) := by decide +kernel
theorem dX7_yearOf_19 : decode cX7_yearOf 19 = .ok (.iconst 2, 1) := by decide +kernel
theorem dX7_yearOf_20 : decode cX7_yearOf 20 = .ok (.iload_n 3, 1) := by decide +kernel
theorem dX7_yearOf_21 : decode cX7_yearOf 21 = .ok (.imul, 1) := by decide +kernel
theorem dX7_yearOf_22 : decode cX7_yearOf 22 = .ok (.iconst 1, 1) := by decide +kernel
theorem dX7_yearOf_23 : decode cX7_yearOf 23 = .ok (.iadd, 1) := by decide +kernel
theorem dX7_yearOf_24 : decode cX7_yearOf 24 = .ok (.aload_n 0, 1) := by decide +kernel
theorem dX7_yearOf_25 : decode cX7_yearOf 25 = .ok (.bipush 30, 2) := by decide +kernel
theorem dX7_yearOf_27 : decode cX7_yearOf 27 = .ok (.invokevirtual 282, 3) := by decide +kernel
theorem dX7_yearOf_30 : decode cX7_yearOf 30 = .ok (.iastore, 1) := by decide +kernel
theorem dX7_yearOf_31 : decode cX7_yearOf 31 = .ok (.iinc 3 1, 3) := by decide +kernel
theorem dX7_yearOf_34 : decode cX7_yearOf 34 = .ok (.goto (-27), 3) := by decide +kernel
theorem dX7_yearOf_37 : decode cX7_yearOf 37 = .ok (.aload_n 0, 1) := by decide +kernel
theorem dX7_yearOf_38 : decode cX7_yearOf 38 = .ok (.invokevirtual 194, 3) := by decide +kernel
theorem dX7_yearOf_41 : decode cX7_yearOf 41 = .ok (.aload_n 0, 1) := by decide +kernel
theorem dX7_yearOf_42 : decode cX7_yearOf 42 = .ok (.invokevirtual 127, 3) := by decide +kernel
theorem dX7_yearOf_45 : decode cX7_yearOf 45 = .ok (.pop, 1) := by decide +kernel
theorem dX7_yearOf_46 : decode cX7_yearOf 46 = .ok (.iload_n 2, 1) := by decide +kernel
theorem dX7_yearOf_47 : decode cX7_yearOf 47 = .ok (.ifCond .ne 12, 3) := by decide +kernel
theorem dX7_yearOf_50 : decode cX7_yearOf 50 = .ok (.aload_n 0, 1) := by decide +kernel
theorem dX7_yearOf_51 : decode cX7_yearOf 51 = .ok (.bipush 39, 2) := by decide +kernel
theorem dX7_yearOf_53 : decode cX7_yearOf 53 = .ok (.invokevirtual 212, 3) := by decide +kernel
theorem dX7_yearOf_56 : decode cX7_yearOf 56 = .ok (.goto 10, 3) := by decide +kernel
theorem dX7_yearOf_59 : decode cX7_yearOf 59 = .ok (.aload_n 0, 1) := by decide +kernel
theorem dX7_yearOf_60 : decode cX7_yearOf 60 = .ok (.invokevirtual 215, 3) := by decide +kernel
theorem dX7_yearOf_63 : decode cX7_yearOf 63 = .ok (.invokestatic 235, 3) := by decide +kernel
theorem dX7_yearOf_66 : decode cX7_yearOf 66 = .ok (.ireturn, 1) := by decide +kernel
theorem dX7_year_0 : decode cX7_year 0 = .ok (.aload_n 0, 1) := by decide +kernel
theorem dX7_year_1 : decode cX7_year 1 = .ok (.invokevirtual 200, 3) := by decide +kernel
theorem dX7_year_4 : decode cX7_year 4 = .ok (.iload_n 2, 1) := by decide +kernel
theorem dX7_year_5 : decode cX7_year 5 = .ok (.invokestatic 107, 3) := by decide +kernel
theorem dX7_year_8 : decode cX7_year 8 = .ok (.ifCond .eq 12, 3) := by decide +kernel
theorem dX7_year_11 : decode cX7_year 11 = .ok (.aload_n 0, 1) := by decide +kernel
theorem dX7_year_12 : decode cX7_year 12 = .ok (.iload_n 1, 1) := by decide +kernel
theorem dX7_year_13 : decode cX7_year 13 = .ok (.iload_n 2, 1) := by decide +kernel
theorem dX7_year_14 : decode cX7_year 14 = .ok (.invokevirtual 285, 3) := by decide +kernel
theorem dX7_year_17 : decode cX7_year 17 = .ok (.goto 5, 3) := by decide +kernel
theorem dX7_year_20 : decode cX7_year 20 = .ok (.bipush (-2), 2) := by decide +kernel
theorem dX7_year_22 : decode cX7_year 22 = .ok (.ireturn, 1) := by decide +kernel
theorem dX7_write_0 : decode cX7_write 0 = .ok (.iload_n 1, 1) := by decide +kernel
theorem dX7_write_1 : decode cX7_write 1 = .ok (.invokestatic 144, 3) := by decide +kernel
theorem dX7_write_4 : decode cX7_write 4 = .ok (.ifCond .eq 10, 3) := by decide +kernel
theorem dX7_write_7 : decode cX7_write 7 = .ok (.iload_n 2, 1) := by decide +kernel
theorem dX7_write_8 : decode cX7_write 8 = .ok (.invokestatic 88, 3) := by decide +kernel
theorem dX7_write_11 : decode cX7_write 11 = .ok (.ifCond .ne 6, 3) := by decide +kernel
theorem dX7_write_14 : decode cX7_write 14 = .ok (.bipush (-2), 2) := by decide +kernel
theorem dX7_write_16 : decode cX7_write 16 = .ok (.ireturn, 1) := by decide +kernel
theorem dX7_write_17 : decode cX7_write 17 = .ok (.aload_n 0, 1) := by decide +kernel
theorem dX7_write_18 : decode cX7_write 18 = .ok (.getfield 7, 3) := by decide +kernel
theorem dX7_write_21 : decode cX7_write 21 = .ok (.iload_n 2, 1) := by decide +kernel
theorem dX7_write_22 : decode cX7_write 22 = .ok (.iaload, 1) := by decide +kernel
theorem dX7_write_23 : decode cX7_write 23 = .ok (.ifCond .ge 9, 3) := by decide +kernel
theorem dX7_write_26 : decode cX7_write 26 = .ok (.aload_n 0, 1) := by decide +kernel
theorem dX7_write_27 : decode cX7_write 27 = .ok (.iconst 1, 1) := by decide +kernel
theorem dX7_write_28 : decode cX7_write 28 = .ok (.invokevirtual 94, 3) := by decide +kernel
theorem dX7_write_31 : decode cX7_write 31 = .ok (.ireturn, 1) := by decide +kernel
theorem dX7_write_32 : decode cX7_write 32 = .ok (.aload_n 0, 1) := by decide +kernel
theorem dX7_write_33 : decode cX7_write 33 = .ok (.invokevirtual 200, 3) := by decide +kernel
theorem dX7_write_36 : decode cX7_write 36 = .ok (.aload_n 0, 1) := by decide +kernel
theorem dX7_write_37 : decode cX7_write 37 = .ok (.getfield 13, 3) := by decide +kernel
theorem dX7_write_40 : decode cX7_write 40 = .ok (.iload_n 2, 1) := by decide +kernel
theorem dX7_write_41 : decode cX7_write 41 = .ok (.iaload, 1) := by decide +kernel
theorem dX7_write_42 : decode cX7_write 42 = .ok (.aload_n 0, 1) := by decide +kernel
theorem dX7_write_43 : decode cX7_write 43 = .ok (.getfield 118, 3) := by decide +kernel
theorem dX7_write_46 : decode cX7_write 46 = .ok (.invokestatic 288, 3) := by decide +kernel
theorem dX7_write_49 : decode cX7_write 49 = .ok (.istore_n 3, 1) := by decide +kernel
theorem dX7_write_50 : decode cX7_write 50 = .ok (.iconst 0, 1) := by decide +kernel
theorem dX7_write_51 : decode cX7_write 51 = .ok (.istore 4, 2) := by decide +kernel
theorem dX7_write_53 : decode cX7_write 53 = .ok (.iload 4, 2) := by decide +kernel
theorem dX7_write_55 : decode cX7_write 55 = .ok (.iload_n 3, 1) := by decide +kernel
theorem dX7_write_56 : decode cX7_write 56 = .ok (.if_icmp .ge 37, 3) := by decide +kernel
theorem dX7_write_59 : decode cX7_write 59 = .ok (.aload_n 0, 1) := by decide +kernel
theorem dX7_write_60 : decode cX7_write 60 = .ok (.getfield 16, 3) := by decide +kernel
theorem dX7_write_63 : decode cX7_write 63 = .ok (.bipush 60, 2) := by decide +kernel
theorem dX7_write_65 : decode cX7_write 65 = .ok (.iload_n 2, 1) := by decide +kernel
theorem dX7_write_66 : decode cX7_write 66 = .ok (.imul, 1) := by decide +kernel
theorem dX7_write_67 : decode cX7_write 67 = .ok (.iload 4, 2) := by decide +kernel
theorem dX7_write_69 : decode cX7_write 69 = .ok (.iadd, 1) := by decide +kernel
theorem dX7_write_70 : decode cX7_write 70 = .ok (.aload_n 0, 1) := by decide +kernel
theorem dX7_write_71 : decode cX7_write 71 = .ok (.getfield 7, 3) := by decide +kernel
theorem dX7_write_74 : decode cX7_write 74 = .ok (.iload_n 2, 1) := by decide +kernel
theorem dX7_write_75 : decode cX7_write 75 = .ok (.iaload, 1) := by decide +kernel
theorem dX7_write_76 : decode cX7_write 76 = .ok (.aload_n 0, 1) := by decide +kernel
theorem dX7_write_77 : decode cX7_write 77 = .ok (.iload_n 1, 1) := by decide +kernel
theorem dX7_write_78 : decode cX7_write 78 = .ok (.iload 4, 2) := by decide +kernel
theorem dX7_write_80 : decode cX7_write 80 = .ok (.invokevirtual 203, 3) := by decide +kernel
theorem dX7_write_83 : decode cX7_write 83 = .ok (.invokestatic 102, 3) := by decide +kernel
theorem dX7_write_86 : decode cX7_write 86 = .ok (.iastore, 1) := by decide +kernel
theorem dX7_write_87 : decode cX7_write 87 = .ok (.iinc 4 1, 3) := by decide +kernel
theorem dX7_write_90 : decode cX7_write 90 = .ok (.goto (-37), 3) := by decide +kernel
theorem dX7_write_93 : decode cX7_write 93 = .ok (.iload_n 3, 1) := by decide +kernel
theorem dX7_write_94 : decode cX7_write 94 = .ok (.ireturn, 1) := by decide +kernel
theorem dX7_count_0 : decode cX7_count 0 = .ok (.aload_n 0, 1) := by decide +kernel
theorem dX7_count_1 : decode cX7_count 1 = .ok (.invokevirtual 200, 3) := by decide +kernel
theorem dX7_count_4 : decode cX7_count 4 = .ok (.iload_n 1, 1) := by decide +kernel
theorem dX7_count_5 : decode cX7_count 5 = .ok (.tableswitch 106 0 8 #[51, 56, 61, 61, 70, 84, 89, 96, 101], 51) := by decide +kernel
theorem dX7_count_56 : decode cX7_count 56 = .ok (.aload_n 0, 1) := by decide +kernel
theorem dX7_count_57 : decode cX7_count 57 = .ok (.getfield 118, 3) := by decide +kernel
theorem dX7_count_60 : decode cX7_count 60 = .ok (.ireturn, 1) := by decide +kernel
theorem dX7_count_61 : decode cX7_count 61 = .ok (.aload_n 0, 1) := by decide +kernel
theorem dX7_count_62 : decode cX7_count 62 = .ok (.getfield 124, 3) := by decide +kernel
theorem dX7_count_65 : decode cX7_count 65 = .ok (.ireturn, 1) := by decide +kernel
theorem dX7_count_66 : decode cX7_count 66 = .ok (.aload_n 0, 1) := by decide +kernel
theorem dX7_count_67 : decode cX7_count 67 = .ok (.getfield 25, 3) := by decide +kernel
theorem dX7_count_70 : decode cX7_count 70 = .ok (.iload_n 1, 1) := by decide +kernel
theorem dX7_count_71 : decode cX7_count 71 = .ok (.iconst 2, 1) := by decide +kernel
theorem dX7_count_72 : decode cX7_count 72 = .ok (.isub, 1) := by decide +kernel
theorem dX7_count_73 : decode cX7_count 73 = .ok (.iaload, 1) := by decide +kernel
theorem dX7_count_74 : decode cX7_count 74 = .ok (.ireturn, 1) := by decide +kernel
theorem dX7_count_75 : decode cX7_count 75 = .ok (.aload_n 0, 1) := by decide +kernel
theorem dX7_count_76 : decode cX7_count 76 = .ok (.getfield 34, 3) := by decide +kernel
theorem dX7_count_79 : decode cX7_count 79 = .ok (.iconst 0, 1) := by decide +kernel
theorem dX7_count_80 : decode cX7_count 80 = .ok (.iaload, 1) := by decide +kernel
theorem dX7_count_81 : decode cX7_count 81 = .ok (.aload_n 0, 1) := by decide +kernel
theorem dX7_count_82 : decode cX7_count 82 = .ok (.getfield 34, 3) := by decide +kernel
theorem dX7_count_85 : decode cX7_count 85 = .ok (.iconst 1, 1) := by decide +kernel
theorem dX7_count_86 : decode cX7_count 86 = .ok (.iaload, 1) := by decide +kernel
theorem dX7_count_87 : decode cX7_count 87 = .ok (.iadd, 1) := by decide +kernel
theorem dX7_count_88 : decode cX7_count 88 = .ok (.ireturn, 1) := by decide +kernel
theorem dX7_count_89 : decode cX7_count 89 = .ok (.aload_n 0, 1) := by decide +kernel
theorem dX7_count_90 : decode cX7_count 90 = .ok (.getfield 149, 3) := by decide +kernel
theorem dX7_count_93 : decode cX7_count 93 = .ok (.ireturn, 1) := by decide +kernel
theorem dX7_count_94 : decode cX7_count 94 = .ok (.aload_n 0, 1) := by decide +kernel
theorem dX7_count_95 : decode cX7_count 95 = .ok (.bipush 39, 2) := by decide +kernel
theorem dX7_count_97 : decode cX7_count 97 = .ok (.invokevirtual 212, 3) := by decide +kernel
theorem dX7_count_100 : decode cX7_count 100 = .ok (.ireturn, 1) := by decide +kernel
theorem dX7_count_101 : decode cX7_count 101 = .ok (.aload_n 0, 1) := by decide +kernel
theorem dX7_count_102 : decode cX7_count 102 = .ok (.getfield 246, 3) := by decide +kernel
theorem dX7_count_105 : decode cX7_count 105 = .ok (.ireturn, 1) := by decide +kernel
theorem dX7_count_106 : decode cX7_count 106 = .ok (.aload_n 0, 1) := by decide +kernel
theorem dX7_count_107 : decode cX7_count 107 = .ok (.getfield 83, 3) := by decide +kernel
theorem dX7_count_110 : decode cX7_count 110 = .ok (.ireturn, 1) := by decide +kernel
theorem dX7_count_111 : decode cX7_count 111 = .ok (.bipush (-2), 2) := by decide +kernel
theorem dX7_count_113 : decode cX7_count 113 = .ok (.ireturn, 1) := by decide +kernel
theorem dX7_tellsHead_0 : decode cX7_tellsHead 0 = .ok (.aload_n 0, 1) := by decide +kernel
theorem dX7_tellsHead_1 : decode cX7_tellsHead 1 = .ok (.invokevirtual 194, 3) := by decide +kernel
theorem dX7_tellsHead_4 : decode cX7_tellsHead 4 = .ok (.ldc2_w 291, 3) := by decide +kernel
theorem dX7_tellsHead_7 : decode cX7_tellsHead 7 = .ok (.lload_n 1, 1) := by decide +kernel
theorem dX7_tellsHead_8 : decode cX7_tellsHead 8 = .ok (.lmul, 1) := by decide +kernel
theorem dX7_tellsHead_9 : decode cX7_tellsHead 9 = .ok (.aload_n 0, 1) := by decide +kernel
theorem dX7_tellsHead_10 : decode cX7_tellsHead 10 = .ok (.getfield 28, 3) := by decide +kernel
theorem dX7_tellsHead_13 : decode cX7_tellsHead 13 = .ok (.iconst 2, 1) := by decide +kernel
theorem dX7_tellsHead_14 : decode cX7_tellsHead 14 = .ok (.iload_n 3, 1) := by decide +kernel
theorem dX7_tellsHead_15 : decode cX7_tellsHead 15 = .ok (.imul, 1) := by decide +kernel
theorem dX7_tellsHead_16 : decode cX7_tellsHead 16 = .ok (.iaload, 1) := by decide +kernel
theorem dX7_tellsHead_17 : decode cX7_tellsHead 17 = .ok (.i2l, 1) := by decide +kernel
theorem dX7_tellsHead_18 : decode cX7_tellsHead 18 = .ok (.ladd, 1) := by decide +kernel
theorem dX7_tellsHead_19 : decode cX7_tellsHead 19 = .ok (.lstore 4, 2) := by decide +kernel
theorem dX7_tellsHead_21 : decode cX7_tellsHead 21 = .ok (.ldc2_w 291, 3) := by decide +kernel
theorem dX7_tellsHead_24 : decode cX7_tellsHead 24 = .ok (.lload 4, 2) := by decide +kernel
theorem dX7_tellsHead_26 : decode cX7_tellsHead 26 = .ok (.lmul, 1) := by decide +kernel
theorem dX7_tellsHead_27 : decode cX7_tellsHead 27 = .ok (.aload_n 0, 1) := by decide +kernel
theorem dX7_tellsHead_28 : decode cX7_tellsHead 28 = .ok (.getfield 28, 3) := by decide +kernel
theorem dX7_tellsHead_31 : decode cX7_tellsHead 31 = .ok (.iconst 2, 1) := by decide +kernel
theorem dX7_tellsHead_32 : decode cX7_tellsHead 32 = .ok (.iload_n 3, 1) := by decide +kernel
theorem dX7_tellsHead_33 : decode cX7_tellsHead 33 = .ok (.imul, 1) := by decide +kernel
theorem dX7_tellsHead_34 : decode cX7_tellsHead 34 = .ok (.iconst 1, 1) := by decide +kernel
theorem dX7_tellsHead_35 : decode cX7_tellsHead 35 = .ok (.iadd, 1) := by decide +kernel
theorem dX7_tellsHead_36 : decode cX7_tellsHead 36 = .ok (.iaload, 1) := by decide +kernel
theorem dX7_tellsHead_37 : decode cX7_tellsHead 37 = .ok (.i2l, 1) := by decide +kernel
theorem dX7_tellsHead_38 : decode cX7_tellsHead 38 = .ok (.ladd, 1) := by decide +kernel
theorem dX7_tellsHead_39 : decode cX7_tellsHead 39 = .ok (.lstore 4, 2) := by decide +kernel
theorem dX7_tellsHead_41 : decode cX7_tellsHead 41 = .ok (.ldc2_w 291, 3) := by decide +kernel
theorem dX7_tellsHead_44 : decode cX7_tellsHead 44 = .ok (.lload 4, 2) := by decide +kernel
theorem dX7_tellsHead_46 : decode cX7_tellsHead 46 = .ok (.lmul, 1) := by decide +kernel
theorem dX7_tellsHead_47 : decode cX7_tellsHead 47 = .ok (.aload_n 0, 1) := by decide +kernel
theorem dX7_tellsHead_48 : decode cX7_tellsHead 48 = .ok (.bipush 9, 2) := by decide +kernel
theorem dX7_tellsHead_50 : decode cX7_tellsHead 50 = .ok (.iload_n 3, 1) := by decide +kernel
theorem dX7_tellsHead_51 : decode cX7_tellsHead 51 = .ok (.invokevirtual 203, 3) := by decide +kernel
theorem dX7_tellsHead_54 : decode cX7_tellsHead 54 = .ok (.i2l, 1) := by decide +kernel
theorem dX7_tellsHead_55 : decode cX7_tellsHead 55 = .ok (.ladd, 1) := by decide +kernel
theorem dX7_tellsHead_56 : decode cX7_tellsHead 56 = .ok (.lstore 4, 2) := by decide +kernel
theorem dX7_tellsHead_58 : decode cX7_tellsHead 58 = .ok (.ldc2_w 291, 3) := by decide +kernel
theorem dX7_tellsHead_61 : decode cX7_tellsHead 61 = .ok (.lload 4, 2) := by decide +kernel
theorem dX7_tellsHead_63 : decode cX7_tellsHead 63 = .ok (.lmul, 1) := by decide +kernel
theorem dX7_tellsHead_64 : decode cX7_tellsHead 64 = .ok (.aload_n 0, 1) := by decide +kernel
theorem dX7_tellsHead_65 : decode cX7_tellsHead 65 = .ok (.bipush 39, 2) := by decide +kernel
theorem dX7_tellsHead_67 : decode cX7_tellsHead 67 = .ok (.iload_n 3, 1) := by decide +kernel
theorem dX7_tellsHead_68 : decode cX7_tellsHead 68 = .ok (.invokevirtual 203, 3) := by decide +kernel
theorem dX7_tellsHead_71 : decode cX7_tellsHead 71 = .ok (.i2l, 1) := by decide +kernel
theorem dX7_tellsHead_72 : decode cX7_tellsHead 72 = .ok (.ladd, 1) := by decide +kernel
theorem dX7_tellsHead_73 : decode cX7_tellsHead 73 = .ok (.lstore 4, 2) := by decide +kernel
theorem dX7_tellsHead_75 : decode cX7_tellsHead 75 = .ok (.iconst 0, 1) := by decide +kernel
theorem dX7_tellsHead_76 : decode cX7_tellsHead 76 = .ok (.istore 6, 2) := by decide +kernel
theorem dX7_tellsHead_78 : decode cX7_tellsHead 78 = .ok (.iload 6, 2) := by decide +kernel
theorem dX7_tellsHead_80 : decode cX7_tellsHead 80 = .ok (.iconst 3, 1) := by decide +kernel
theorem dX7_tellsHead_81 : decode cX7_tellsHead 81 = .ok (.if_icmp .ge 26, 3) := by decide +kernel
theorem dX7_tellsHead_84 : decode cX7_tellsHead 84 = .ok (.ldc2_w 291, 3) := by decide +kernel
theorem dX7_tellsHead_87 : decode cX7_tellsHead 87 = .ok (.lload 4, 2) := by decide +kernel
theorem dX7_tellsHead_89 : decode cX7_tellsHead 89 = .ok (.lmul, 1) := by decide +kernel
theorem dX7_tellsHead_90 : decode cX7_tellsHead 90 = .ok (.aload_n 0, 1) := by decide +kernel
theorem dX7_tellsHead_91 : decode cX7_tellsHead 91 = .ok (.iload_n 3, 1) := by decide +kernel
theorem dX7_tellsHead_92 : decode cX7_tellsHead 92 = .ok (.iload 6, 2) := by decide +kernel
theorem dX7_tellsHead_94 : decode cX7_tellsHead 94 = .ok (.invokevirtual 206, 3) := by decide +kernel
theorem dX7_tellsHead_97 : decode cX7_tellsHead 97 = .ok (.i2l, 1) := by decide +kernel
theorem dX7_tellsHead_98 : decode cX7_tellsHead 98 = .ok (.ladd, 1) := by decide +kernel
theorem dX7_tellsHead_99 : decode cX7_tellsHead 99 = .ok (.lstore 4, 2) := by decide +kernel
theorem dX7_tellsHead_101 : decode cX7_tellsHead 101 = .ok (.iinc 6 1, 3) := by decide +kernel
theorem dX7_tellsHead_104 : decode cX7_tellsHead 104 = .ok (.goto (-26), 3) := by decide +kernel
theorem dX7_tellsHead_107 : decode cX7_tellsHead 107 = .ok (.ldc2_w 291, 3) := by decide +kernel
theorem dX7_tellsHead_110 : decode cX7_tellsHead 110 = .ok (.lload 4, 2) := by decide +kernel
theorem dX7_tellsHead_112 : decode cX7_tellsHead 112 = .ok (.lmul, 1) := by decide +kernel
theorem dX7_tellsHead_113 : decode cX7_tellsHead 113 = .ok (.aload_n 0, 1) := by decide +kernel
theorem dX7_tellsHead_114 : decode cX7_tellsHead 114 = .ok (.iload_n 3, 1) := by decide +kernel
theorem dX7_tellsHead_115 : decode cX7_tellsHead 115 = .ok (.iconst 0, 1) := by decide +kernel
theorem dX7_tellsHead_116 : decode cX7_tellsHead 116 = .ok (.invokevirtual 238, 3) := by decide +kernel
theorem dX7_tellsHead_119 : decode cX7_tellsHead 119 = .ok (.i2l, 1) := by decide +kernel
theorem dX7_tellsHead_120 : decode cX7_tellsHead 120 = .ok (.ladd, 1) := by decide +kernel
theorem dX7_tellsHead_121 : decode cX7_tellsHead 121 = .ok (.lstore 4, 2) := by decide +kernel
theorem dX7_tellsHead_123 : decode cX7_tellsHead 123 = .ok (.ldc2_w 291, 3) := by decide +kernel
theorem dX7_tellsHead_126 : decode cX7_tellsHead 126 = .ok (.lload 4, 2) := by decide +kernel
theorem dX7_tellsHead_128 : decode cX7_tellsHead 128 = .ok (.lmul, 1) := by decide +kernel
theorem dX7_tellsHead_129 : decode cX7_tellsHead 129 = .ok (.aload_n 0, 1) := by decide +kernel
theorem dX7_tellsHead_130 : decode cX7_tellsHead 130 = .ok (.iload_n 3, 1) := by decide +kernel
theorem dX7_tellsHead_131 : decode cX7_tellsHead 131 = .ok (.iconst 1, 1) := by decide +kernel
theorem dX7_tellsHead_132 : decode cX7_tellsHead 132 = .ok (.invokevirtual 238, 3) := by decide +kernel
theorem dX7_tellsHead_135 : decode cX7_tellsHead 135 = .ok (.i2l, 1) := by decide +kernel
theorem dX7_tellsHead_136 : decode cX7_tellsHead 136 = .ok (.ladd, 1) := by decide +kernel
theorem dX7_tellsHead_137 : decode cX7_tellsHead 137 = .ok (.lstore 4, 2) := by decide +kernel
theorem dX7_tellsHead_139 : decode cX7_tellsHead 139 = .ok (.ldc2_w 291, 3) := by decide +kernel
theorem dX7_tellsHead_142 : decode cX7_tellsHead 142 = .ok (.lload 4, 2) := by decide +kernel
theorem dX7_tellsHead_144 : decode cX7_tellsHead 144 = .ok (.lmul, 1) := by decide +kernel
theorem dX7_tellsHead_145 : decode cX7_tellsHead 145 = .ok (.aload_n 0, 1) := by decide +kernel
theorem dX7_tellsHead_146 : decode cX7_tellsHead 146 = .ok (.iload_n 3, 1) := by decide +kernel
theorem dX7_tellsHead_147 : decode cX7_tellsHead 147 = .ok (.iconst 0, 1) := by decide +kernel
theorem dX7_tellsHead_148 : decode cX7_tellsHead 148 = .ok (.invokevirtual 256, 3) := by decide +kernel
theorem dX7_tellsHead_151 : decode cX7_tellsHead 151 = .ok (.i2l, 1) := by decide +kernel
theorem dX7_tellsHead_152 : decode cX7_tellsHead 152 = .ok (.ladd, 1) := by decide +kernel
theorem dX7_tellsHead_153 : decode cX7_tellsHead 153 = .ok (.lstore 4, 2) := by decide +kernel
theorem dX7_tellsHead_155 : decode cX7_tellsHead 155 = .ok (.ldc2_w 291, 3) := by decide +kernel
theorem dX7_tellsHead_158 : decode cX7_tellsHead 158 = .ok (.lload 4, 2) := by decide +kernel
theorem dX7_tellsHead_160 : decode cX7_tellsHead 160 = .ok (.lmul, 1) := by decide +kernel
theorem dX7_tellsHead_161 : decode cX7_tellsHead 161 = .ok (.aload_n 0, 1) := by decide +kernel
theorem dX7_tellsHead_162 : decode cX7_tellsHead 162 = .ok (.iload_n 3, 1) := by decide +kernel
theorem dX7_tellsHead_163 : decode cX7_tellsHead 163 = .ok (.iconst 1, 1) := by decide +kernel
theorem dX7_tellsHead_164 : decode cX7_tellsHead 164 = .ok (.invokevirtual 256, 3) := by decide +kernel
theorem dX7_tellsHead_167 : decode cX7_tellsHead 167 = .ok (.i2l, 1) := by decide +kernel
theorem dX7_tellsHead_168 : decode cX7_tellsHead 168 = .ok (.ladd, 1) := by decide +kernel
theorem dX7_tellsHead_169 : decode cX7_tellsHead 169 = .ok (.lstore 4, 2) := by decide +kernel
theorem dX7_tellsHead_171 : decode cX7_tellsHead 171 = .ok (.ldc2_w 291, 3) := by decide +kernel
theorem dX7_tellsHead_174 : decode cX7_tellsHead 174 = .ok (.lload 4, 2) := by decide +kernel
theorem dX7_tellsHead_176 : decode cX7_tellsHead 176 = .ok (.lmul, 1) := by decide +kernel
theorem dX7_tellsHead_177 : decode cX7_tellsHead 177 = .ok (.aload_n 0, 1) := by decide +kernel
theorem dX7_tellsHead_178 : decode cX7_tellsHead 178 = .ok (.iload_n 3, 1) := by decide +kernel
theorem dX7_tellsHead_179 : decode cX7_tellsHead 179 = .ok (.invokevirtual 259, 3) := by decide +kernel
theorem dX7_tellsHead_182 : decode cX7_tellsHead 182 = .ok (.i2l, 1) := by decide +kernel
theorem dX7_tellsHead_183 : decode cX7_tellsHead 183 = .ok (.ladd, 1) := by decide +kernel
theorem dX7_tellsHead_184 : decode cX7_tellsHead 184 = .ok (.lreturn, 1) := by decide +kernel
theorem dX7_tellsCouple_0 : decode cX7_tellsCouple 0 = .ok (.aload_n 0, 1) := by decide +kernel
theorem dX7_tellsCouple_1 : decode cX7_tellsCouple 1 = .ok (.invokevirtual 194, 3) := by decide +kernel
theorem dX7_tellsCouple_4 : decode cX7_tellsCouple 4 = .ok (.lload_n 1, 1) := by decide +kernel
theorem dX7_tellsCouple_5 : decode cX7_tellsCouple 5 = .ok (.lstore 4, 2) := by decide +kernel
theorem dX7_tellsCouple_7 : decode cX7_tellsCouple 7 = .ok (.iconst 0, 1) := by decide +kernel
theorem dX7_tellsCouple_8 : decode cX7_tellsCouple 8 = .ok (.istore 6, 2) := by decide +kernel
theorem dX7_tellsCouple_10 : decode cX7_tellsCouple 10 = .ok (.iload 6, 2) := by decide +kernel
theorem dX7_tellsCouple_12 : decode cX7_tellsCouple 12 = .ok (.iconst 3, 1) := by decide +kernel
theorem dX7_tellsCouple_13 : decode cX7_tellsCouple 13 = .ok (.if_icmp .ge 30, 3) := by decide +kernel
theorem dX7_tellsCouple_16 : decode cX7_tellsCouple 16 = .ok (.ldc2_w 291, 3) := by decide +kernel
theorem dX7_tellsCouple_19 : decode cX7_tellsCouple 19 = .ok (.lload 4, 2) := by decide +kernel
theorem dX7_tellsCouple_21 : decode cX7_tellsCouple 21 = .ok (.lmul, 1) := by decide +kernel
theorem dX7_tellsCouple_22 : decode cX7_tellsCouple 22 = .ok (.aload_n 0, 1) := by decide +kernel
theorem dX7_tellsCouple_23 : decode cX7_tellsCouple 23 = .ok (.getfield 31, 3) := by decide +kernel
theorem dX7_tellsCouple_26 : decode cX7_tellsCouple 26 = .ok (.iconst 3, 1) := by decide +kernel
theorem dX7_tellsCouple_27 : decode cX7_tellsCouple 27 = .ok (.iload_n 3, 1) := by decide +kernel
theorem dX7_tellsCouple_28 : decode cX7_tellsCouple 28 = .ok (.imul, 1) := by decide +kernel
theorem dX7_tellsCouple_29 : decode cX7_tellsCouple 29 = .ok (.iload 6, 2) := by decide +kernel
theorem dX7_tellsCouple_31 : decode cX7_tellsCouple 31 = .ok (.iadd, 1) := by decide +kernel
theorem dX7_tellsCouple_32 : decode cX7_tellsCouple 32 = .ok (.iaload, 1) := by decide +kernel
theorem dX7_tellsCouple_33 : decode cX7_tellsCouple 33 = .ok (.i2l, 1) := by decide +kernel
theorem dX7_tellsCouple_34 : decode cX7_tellsCouple 34 = .ok (.ladd, 1) := by decide +kernel
theorem dX7_tellsCouple_35 : decode cX7_tellsCouple 35 = .ok (.lstore 4, 2) := by decide +kernel
theorem dX7_tellsCouple_37 : decode cX7_tellsCouple 37 = .ok (.iinc 6 1, 3) := by decide +kernel
theorem dX7_tellsCouple_40 : decode cX7_tellsCouple 40 = .ok (.goto (-30), 3) := by decide +kernel
theorem dX7_tellsCouple_43 : decode cX7_tellsCouple 43 = .ok (.iconst 0, 1) := by decide +kernel
theorem dX7_tellsCouple_44 : decode cX7_tellsCouple 44 = .ok (.istore 6, 2) := by decide +kernel
theorem dX7_tellsCouple_46 : decode cX7_tellsCouple 46 = .ok (.iload 6, 2) := by decide +kernel
theorem dX7_tellsCouple_48 : decode cX7_tellsCouple 48 = .ok (.iconst 3, 1) := by decide +kernel
theorem dX7_tellsCouple_49 : decode cX7_tellsCouple 49 = .ok (.if_icmp .ge 26, 3) := by decide +kernel
theorem dX7_tellsCouple_52 : decode cX7_tellsCouple 52 = .ok (.ldc2_w 291, 3) := by decide +kernel
theorem dX7_tellsCouple_55 : decode cX7_tellsCouple 55 = .ok (.lload 4, 2) := by decide +kernel
theorem dX7_tellsCouple_57 : decode cX7_tellsCouple 57 = .ok (.lmul, 1) := by decide +kernel
theorem dX7_tellsCouple_58 : decode cX7_tellsCouple 58 = .ok (.aload_n 0, 1) := by decide +kernel
theorem dX7_tellsCouple_59 : decode cX7_tellsCouple 59 = .ok (.iload_n 3, 1) := by decide +kernel
theorem dX7_tellsCouple_60 : decode cX7_tellsCouple 60 = .ok (.iload 6, 2) := by decide +kernel
theorem dX7_tellsCouple_62 : decode cX7_tellsCouple 62 = .ok (.invokevirtual 209, 3) := by decide +kernel
theorem dX7_tellsCouple_65 : decode cX7_tellsCouple 65 = .ok (.i2l, 1) := by decide +kernel
theorem dX7_tellsCouple_66 : decode cX7_tellsCouple 66 = .ok (.ladd, 1) := by decide +kernel
theorem dX7_tellsCouple_67 : decode cX7_tellsCouple 67 = .ok (.lstore 4, 2) := by decide +kernel
theorem dX7_tellsCouple_69 : decode cX7_tellsCouple 69 = .ok (.iinc 6 1, 3) := by decide +kernel
theorem dX7_tellsCouple_72 : decode cX7_tellsCouple 72 = .ok (.goto (-26), 3) := by decide +kernel
theorem dX7_tellsCouple_75 : decode cX7_tellsCouple 75 = .ok (.ldc2_w 291, 3) := by decide +kernel
theorem dX7_tellsCouple_78 : decode cX7_tellsCouple 78 = .ok (.lload 4, 2) := by decide +kernel
theorem dX7_tellsCouple_80 : decode cX7_tellsCouple 80 = .ok (.lmul, 1) := by decide +kernel
theorem dX7_tellsCouple_81 : decode cX7_tellsCouple 81 = .ok (.aload_n 0, 1) := by decide +kernel
theorem dX7_tellsCouple_82 : decode cX7_tellsCouple 82 = .ok (.iload_n 3, 1) := by decide +kernel
theorem dX7_tellsCouple_83 : decode cX7_tellsCouple 83 = .ok (.iconst (-1), 1) := by decide +kernel
theorem dX7_tellsCouple_84 : decode cX7_tellsCouple 84 = .ok (.invokevirtual 232, 3) := by decide +kernel
theorem dX7_tellsCouple_87 : decode cX7_tellsCouple 87 = .ok (.i2l, 1) := by decide +kernel
theorem dX7_tellsCouple_88 : decode cX7_tellsCouple 88 = .ok (.ladd, 1) := by decide +kernel
theorem dX7_tellsCouple_89 : decode cX7_tellsCouple 89 = .ok (.lstore 4, 2) := by decide +kernel
theorem dX7_tellsCouple_91 : decode cX7_tellsCouple 91 = .ok (.ldc2_w 291, 3) := by decide +kernel
theorem dX7_tellsCouple_94 : decode cX7_tellsCouple 94 = .ok (.lload 4, 2) := by decide +kernel
theorem dX7_tellsCouple_96 : decode cX7_tellsCouple 96 = .ok (.lmul, 1) := by decide +kernel
theorem dX7_tellsCouple_97 : decode cX7_tellsCouple 97 = .ok (.aload_n 0, 1) := by decide +kernel
theorem dX7_tellsCouple_98 : decode cX7_tellsCouple 98 = .ok (.iload_n 3, 1) := by decide +kernel
theorem dX7_tellsCouple_99 : decode cX7_tellsCouple 99 = .ok (.iconst 0, 1) := by decide +kernel
theorem dX7_tellsCouple_100 : decode cX7_tellsCouple 100 = .ok (.invokevirtual 232, 3) := by decide +kernel
theorem dX7_tellsCouple_103 : decode cX7_tellsCouple 103 = .ok (.i2l, 1) := by decide +kernel
theorem dX7_tellsCouple_104 : decode cX7_tellsCouple 104 = .ok (.ladd, 1) := by decide +kernel
theorem dX7_tellsCouple_105 : decode cX7_tellsCouple 105 = .ok (.lstore 4, 2) := by decide +kernel
theorem dX7_tellsCouple_107 : decode cX7_tellsCouple 107 = .ok (.ldc2_w 291, 3) := by decide +kernel
theorem dX7_tellsCouple_110 : decode cX7_tellsCouple 110 = .ok (.lload 4, 2) := by decide +kernel
theorem dX7_tellsCouple_112 : decode cX7_tellsCouple 112 = .ok (.lmul, 1) := by decide +kernel
theorem dX7_tellsCouple_113 : decode cX7_tellsCouple 113 = .ok (.aload_n 0, 1) := by decide +kernel
theorem dX7_tellsCouple_114 : decode cX7_tellsCouple 114 = .ok (.iload_n 3, 1) := by decide +kernel
theorem dX7_tellsCouple_115 : decode cX7_tellsCouple 115 = .ok (.iconst 0, 1) := by decide +kernel
theorem dX7_tellsCouple_116 : decode cX7_tellsCouple 116 = .ok (.invokevirtual 241, 3) := by decide +kernel
theorem dX7_tellsCouple_119 : decode cX7_tellsCouple 119 = .ok (.i2l, 1) := by decide +kernel
theorem dX7_tellsCouple_120 : decode cX7_tellsCouple 120 = .ok (.ladd, 1) := by decide +kernel
theorem dX7_tellsCouple_121 : decode cX7_tellsCouple 121 = .ok (.lstore 4, 2) := by decide +kernel
theorem dX7_tellsCouple_123 : decode cX7_tellsCouple 123 = .ok (.ldc2_w 291, 3) := by decide +kernel
theorem dX7_tellsCouple_126 : decode cX7_tellsCouple 126 = .ok (.lload 4, 2) := by decide +kernel
theorem dX7_tellsCouple_128 : decode cX7_tellsCouple 128 = .ok (.lmul, 1) := by decide +kernel
theorem dX7_tellsCouple_129 : decode cX7_tellsCouple 129 = .ok (.aload_n 0, 1) := by decide +kernel
theorem dX7_tellsCouple_130 : decode cX7_tellsCouple 130 = .ok (.iload_n 3, 1) := by decide +kernel
theorem dX7_tellsCouple_131 : decode cX7_tellsCouple 131 = .ok (.iconst 1, 1) := by decide +kernel
theorem dX7_tellsCouple_132 : decode cX7_tellsCouple 132 = .ok (.invokevirtual 241, 3) := by decide +kernel
theorem dX7_tellsCouple_135 : decode cX7_tellsCouple 135 = .ok (.i2l, 1) := by decide +kernel
theorem dX7_tellsCouple_136 : decode cX7_tellsCouple 136 = .ok (.ladd, 1) := by decide +kernel
theorem dX7_tellsCouple_137 : decode cX7_tellsCouple 137 = .ok (.lstore 4, 2) := by decide +kernel
theorem dX7_tellsCouple_139 : decode cX7_tellsCouple 139 = .ok (.ldc2_w 291, 3) := by decide +kernel
theorem dX7_tellsCouple_142 : decode cX7_tellsCouple 142 = .ok (.lload 4, 2) := by decide +kernel
theorem dX7_tellsCouple_144 : decode cX7_tellsCouple 144 = .ok (.lmul, 1) := by decide +kernel
theorem dX7_tellsCouple_145 : decode cX7_tellsCouple 145 = .ok (.aload_n 0, 1) := by decide +kernel
theorem dX7_tellsCouple_146 : decode cX7_tellsCouple 146 = .ok (.iconst 5, 1) := by decide +kernel
theorem dX7_tellsCouple_147 : decode cX7_tellsCouple 147 = .ok (.bipush 7, 2) := by decide +kernel
theorem dX7_tellsCouple_149 : decode cX7_tellsCouple 149 = .ok (.iload_n 3, 1) := by decide +kernel
theorem dX7_tellsCouple_150 : decode cX7_tellsCouple 150 = .ok (.iconst 0, 1) := by decide +kernel
theorem dX7_tellsCouple_151 : decode cX7_tellsCouple 151 = .ok (.invokevirtual 270, 3) := by decide +kernel
theorem dX7_tellsCouple_154 : decode cX7_tellsCouple 154 = .ok (.ladd, 1) := by decide +kernel
theorem dX7_tellsCouple_155 : decode cX7_tellsCouple 155 = .ok (.lstore 4, 2) := by decide +kernel
theorem dX7_tellsCouple_157 : decode cX7_tellsCouple 157 = .ok (.ldc2_w 291, 3) := by decide +kernel
theorem dX7_tellsCouple_160 : decode cX7_tellsCouple 160 = .ok (.lload 4, 2) := by decide +kernel
theorem dX7_tellsCouple_162 : decode cX7_tellsCouple 162 = .ok (.lmul, 1) := by decide +kernel
theorem dX7_tellsCouple_163 : decode cX7_tellsCouple 163 = .ok (.aload_n 0, 1) := by decide +kernel
theorem dX7_tellsCouple_164 : decode cX7_tellsCouple 164 = .ok (.iconst 5, 1) := by decide +kernel
theorem dX7_tellsCouple_165 : decode cX7_tellsCouple 165 = .ok (.bipush 7, 2) := by decide +kernel
theorem dX7_tellsCouple_167 : decode cX7_tellsCouple 167 = .ok (.iload_n 3, 1) := by decide +kernel
theorem dX7_tellsCouple_168 : decode cX7_tellsCouple 168 = .ok (.iconst 1, 1) := by decide +kernel
theorem dX7_tellsCouple_169 : decode cX7_tellsCouple 169 = .ok (.invokevirtual 270, 3) := by decide +kernel
theorem dX7_tellsCouple_172 : decode cX7_tellsCouple 172 = .ok (.ladd, 1) := by decide +kernel
theorem dX7_tellsCouple_173 : decode cX7_tellsCouple 173 = .ok (.lreturn, 1) := by decide +kernel
theorem dX7_digest_0 : decode cX7_digest 0 = .ok (.ldc2_w 293, 3) := by decide +kernel
theorem dX7_digest_3 : decode cX7_digest 3 = .ok (.lstore_n 1, 1) := by decide +kernel
theorem dX7_digest_4 : decode cX7_digest 4 = .ok (.iconst 0, 1) := by decide +kernel
theorem dX7_digest_5 : decode cX7_digest 5 = .ok (.istore_n 3, 1) := by decide +kernel
theorem dX7_digest_6 : decode cX7_digest 6 = .ok (.iload_n 3, 1) := by decide +kernel
theorem dX7_digest_7 : decode cX7_digest 7 = .ok (.bipush 8, 2) := by decide +kernel
theorem dX7_digest_9 : decode cX7_digest 9 = .ok (.if_icmp .ge 22, 3) := by decide +kernel
theorem dX7_digest_12 : decode cX7_digest 12 = .ok (.ldc2_w 291, 3) := by decide +kernel
theorem dX7_digest_15 : decode cX7_digest 15 = .ok (.lload_n 1, 1) := by decide +kernel
theorem dX7_digest_16 : decode cX7_digest 16 = .ok (.lmul, 1) := by decide +kernel
theorem dX7_digest_17 : decode cX7_digest 17 = .ok (.aload_n 0, 1) := by decide +kernel
theorem dX7_digest_18 : decode cX7_digest 18 = .ok (.iload_n 3, 1) := by decide +kernel
theorem dX7_digest_19 : decode cX7_digest 19 = .ok (.invokevirtual 295, 3) := by decide +kernel
theorem dX7_digest_22 : decode cX7_digest 22 = .ok (.i2l, 1) := by decide +kernel
theorem dX7_digest_23 : decode cX7_digest 23 = .ok (.ladd, 1) := by decide +kernel
theorem dX7_digest_24 : decode cX7_digest 24 = .ok (.lstore_n 1, 1) := by decide +kernel
theorem dX7_digest_25 : decode cX7_digest 25 = .ok (.iinc 3 1, 3) := by decide +kernel
theorem dX7_digest_28 : decode cX7_digest 28 = .ok (.goto (-22), 3) := by decide +kernel
theorem dX7_digest_31 : decode cX7_digest 31 = .ok (.ldc2_w 291, 3) := by decide +kernel
theorem dX7_digest_34 : decode cX7_digest 34 = .ok (.lload_n 1, 1) := by decide +kernel
theorem dX7_digest_35 : decode cX7_digest 35 = .ok (.lmul, 1) := by decide +kernel
theorem dX7_digest_36 : decode cX7_digest 36 = .ok (.aload_n 0, 1) := by decide +kernel
theorem dX7_digest_37 : decode cX7_digest 37 = .ok (.invokevirtual 127, 3) := by decide +kernel
theorem dX7_digest_40 : decode cX7_digest 40 = .ok (.i2l, 1) := by decide +kernel
theorem dX7_digest_41 : decode cX7_digest 41 = .ok (.ladd, 1) := by decide +kernel
theorem dX7_digest_42 : decode cX7_digest 42 = .ok (.lstore_n 1, 1) := by decide +kernel
theorem dX7_digest_43 : decode cX7_digest 43 = .ok (.ldc2_w 291, 3) := by decide +kernel
theorem dX7_digest_46 : decode cX7_digest 46 = .ok (.lload_n 1, 1) := by decide +kernel
theorem dX7_digest_47 : decode cX7_digest 47 = .ok (.lmul, 1) := by decide +kernel
theorem dX7_digest_48 : decode cX7_digest 48 = .ok (.aload_n 0, 1) := by decide +kernel
theorem dX7_digest_49 : decode cX7_digest 49 = .ok (.invokevirtual 131, 3) := by decide +kernel
theorem dX7_digest_52 : decode cX7_digest 52 = .ok (.i2l, 1) := by decide +kernel
theorem dX7_digest_53 : decode cX7_digest 53 = .ok (.ladd, 1) := by decide +kernel
theorem dX7_digest_54 : decode cX7_digest 54 = .ok (.lstore_n 1, 1) := by decide +kernel
theorem dX7_digest_55 : decode cX7_digest 55 = .ok (.iconst 0, 1) := by decide +kernel
theorem dX7_digest_56 : decode cX7_digest 56 = .ok (.istore_n 3, 1) := by decide +kernel
theorem dX7_digest_57 : decode cX7_digest 57 = .ok (.iload_n 3, 1) := by decide +kernel
theorem dX7_digest_58 : decode cX7_digest 58 = .ok (.aload_n 0, 1) := by decide +kernel
theorem dX7_digest_59 : decode cX7_digest 59 = .ok (.getfield 118, 3) := by decide +kernel
theorem dX7_digest_62 : decode cX7_digest 62 = .ok (.if_icmp .ge 16, 3) := by decide +kernel
theorem dX7_digest_65 : decode cX7_digest 65 = .ok (.aload_n 0, 1) := by decide +kernel
theorem dX7_digest_66 : decode cX7_digest 66 = .ok (.lload_n 1, 1) := by decide +kernel
theorem dX7_digest_67 : decode cX7_digest 67 = .ok (.iload_n 3, 1) := by decide +kernel
theorem dX7_digest_68 : decode cX7_digest 68 = .ok (.invokevirtual 298, 3) := by decide +kernel
theorem dX7_digest_71 : decode cX7_digest 71 = .ok (.lstore_n 1, 1) := by decide +kernel
theorem dX7_digest_72 : decode cX7_digest 72 = .ok (.iinc 3 1, 3) := by decide +kernel
theorem dX7_digest_75 : decode cX7_digest 75 = .ok (.goto (-18), 3) := by decide +kernel
theorem dX7_digest_78 : decode cX7_digest 78 = .ok (.iconst 0, 1) := by decide +kernel
theorem dX7_digest_79 : decode cX7_digest 79 = .ok (.istore_n 3, 1) := by decide +kernel
theorem dX7_digest_80 : decode cX7_digest 80 = .ok (.iload_n 3, 1) := by decide +kernel
theorem dX7_digest_81 : decode cX7_digest 81 = .ok (.aload_n 0, 1) := by decide +kernel
theorem dX7_digest_82 : decode cX7_digest 82 = .ok (.getfield 124, 3) := by decide +kernel
theorem dX7_digest_85 : decode cX7_digest 85 = .ok (.if_icmp .ge 16, 3) := by decide +kernel
theorem dX7_digest_88 : decode cX7_digest 88 = .ok (.aload_n 0, 1) := by decide +kernel
theorem dX7_digest_89 : decode cX7_digest 89 = .ok (.lload_n 1, 1) := by decide +kernel
theorem dX7_digest_90 : decode cX7_digest 90 = .ok (.iload_n 3, 1) := by decide +kernel
theorem dX7_digest_91 : decode cX7_digest 91 = .ok (.invokevirtual 302, 3) := by decide +kernel
theorem dX7_digest_94 : decode cX7_digest 94 = .ok (.lstore_n 1, 1) := by decide +kernel
theorem dX7_digest_95 : decode cX7_digest 95 = .ok (.iinc 3 1, 3) := by decide +kernel
theorem dX7_digest_98 : decode cX7_digest 98 = .ok (.goto (-18), 3) := by decide +kernel
theorem dX7_digest_101 : decode cX7_digest 101 = .ok (.aload_n 0, 1) := by decide +kernel
theorem dX7_digest_102 : decode cX7_digest 102 = .ok (.invokevirtual 194, 3) := by decide +kernel
theorem dX7_digest_105 : decode cX7_digest 105 = .ok (.ldc2_w 291, 3) := by decide +kernel
theorem dX7_digest_108 : decode cX7_digest 108 = .ok (.lload_n 1, 1) := by decide +kernel
theorem dX7_digest_109 : decode cX7_digest 109 = .ok (.lmul, 1) := by decide +kernel
theorem dX7_digest_110 : decode cX7_digest 110 = .ok (.aload_n 0, 1) := by decide +kernel
theorem dX7_digest_111 : decode cX7_digest 111 = .ok (.bipush 9, 2) := by decide +kernel
theorem dX7_digest_113 : decode cX7_digest 113 = .ok (.invokevirtual 212, 3) := by decide +kernel
theorem dX7_digest_116 : decode cX7_digest 116 = .ok (.i2l, 1) := by decide +kernel
theorem dX7_digest_117 : decode cX7_digest 117 = .ok (.ladd, 1) := by decide +kernel
theorem dX7_digest_118 : decode cX7_digest 118 = .ok (.lstore_n 1, 1) := by decide +kernel
theorem dX7_digest_119 : decode cX7_digest 119 = .ok (.ldc2_w 291, 3) := by decide +kernel
theorem dX7_digest_122 : decode cX7_digest 122 = .ok (.lload_n 1, 1) := by decide +kernel
theorem dX7_digest_123 : decode cX7_digest 123 = .ok (.lmul, 1) := by decide +kernel
theorem dX7_digest_124 : decode cX7_digest 124 = .ok (.aload_n 0, 1) := by decide +kernel
theorem dX7_digest_125 : decode cX7_digest 125 = .ok (.invokevirtual 215, 3) := by decide +kernel
theorem dX7_digest_128 : decode cX7_digest 128 = .ok (.i2l, 1) := by decide +kernel
theorem dX7_digest_129 : decode cX7_digest 129 = .ok (.ladd, 1) := by decide +kernel
theorem dX7_digest_130 : decode cX7_digest 130 = .ok (.lstore_n 1, 1) := by decide +kernel
theorem dX7_digest_131 : decode cX7_digest 131 = .ok (.ldc2_w 291, 3) := by decide +kernel
theorem dX7_digest_134 : decode cX7_digest 134 = .ok (.lload_n 1, 1) := by decide +kernel
theorem dX7_digest_135 : decode cX7_digest 135 = .ok (.lmul, 1) := by decide +kernel
theorem dX7_digest_136 : decode cX7_digest 136 = .ok (.aload_n 0, 1) := by decide +kernel
theorem dX7_digest_137 : decode cX7_digest 137 = .ok (.getfield 167, 3) := by decide +kernel
theorem dX7_digest_140 : decode cX7_digest 140 = .ok (.i2l, 1) := by decide +kernel
theorem dX7_digest_141 : decode cX7_digest 141 = .ok (.ladd, 1) := by decide +kernel
theorem dX7_digest_142 : decode cX7_digest 142 = .ok (.lstore_n 1, 1) := by decide +kernel
theorem dX7_digest_143 : decode cX7_digest 143 = .ok (.ldc2_w 291, 3) := by decide +kernel
theorem dX7_digest_146 : decode cX7_digest 146 = .ok (.lload_n 1, 1) := by decide +kernel
theorem dX7_digest_147 : decode cX7_digest 147 = .ok (.lmul, 1) := by decide +kernel
theorem dX7_digest_148 : decode cX7_digest 148 = .ok (.aload_n 0, 1) := by decide +kernel
theorem dX7_digest_149 : decode cX7_digest 149 = .ok (.getfield 176, 3) := by decide +kernel
theorem dX7_digest_152 : decode cX7_digest 152 = .ok (.i2l, 1) := by decide +kernel
theorem dX7_digest_153 : decode cX7_digest 153 = .ok (.ladd, 1) := by decide +kernel
theorem dX7_digest_154 : decode cX7_digest 154 = .ok (.lstore_n 1, 1) := by decide +kernel
theorem dX7_digest_155 : decode cX7_digest 155 = .ok (.ldc2_w 291, 3) := by decide +kernel
theorem dX7_digest_158 : decode cX7_digest 158 = .ok (.lload_n 1, 1) := by decide +kernel
theorem dX7_digest_159 : decode cX7_digest 159 = .ok (.lmul, 1) := by decide +kernel
theorem dX7_digest_160 : decode cX7_digest 160 = .ok (.aload_n 0, 1) := by decide +kernel
theorem dX7_digest_161 : decode cX7_digest 161 = .ok (.invokevirtual 224, 3) := by decide +kernel
theorem dX7_digest_164 : decode cX7_digest 164 = .ok (.i2l, 1) := by decide +kernel
theorem dX7_digest_165 : decode cX7_digest 165 = .ok (.ladd, 1) := by decide +kernel
theorem dX7_digest_166 : decode cX7_digest 166 = .ok (.lstore_n 1, 1) := by decide +kernel
theorem dX7_digest_167 : decode cX7_digest 167 = .ok (.ldc2_w 291, 3) := by decide +kernel
theorem dX7_digest_170 : decode cX7_digest 170 = .ok (.lload_n 1, 1) := by decide +kernel
theorem dX7_digest_171 : decode cX7_digest 171 = .ok (.lmul, 1) := by decide +kernel
theorem dX7_digest_172 : decode cX7_digest 172 = .ok (.aload_n 0, 1) := by decide +kernel
theorem dX7_digest_173 : decode cX7_digest 173 = .ok (.invokevirtual 253, 3) := by decide +kernel
theorem dX7_digest_176 : decode cX7_digest 176 = .ok (.i2l, 1) := by decide +kernel
theorem dX7_digest_177 : decode cX7_digest 177 = .ok (.ladd, 1) := by decide +kernel
theorem dX7_digest_178 : decode cX7_digest 178 = .ok (.lstore_n 1, 1) := by decide +kernel
theorem dX7_digest_179 : decode cX7_digest 179 = .ok (.ldc2_w 291, 3) := by decide +kernel
theorem dX7_digest_182 : decode cX7_digest 182 = .ok (.lload_n 1, 1) := by decide +kernel
theorem dX7_digest_183 : decode cX7_digest 183 = .ok (.lmul, 1) := by decide +kernel
theorem dX7_digest_184 : decode cX7_digest 184 = .ok (.aload_n 0, 1) := by decide +kernel
theorem dX7_digest_185 : decode cX7_digest 185 = .ok (.bipush 7, 2) := by decide +kernel
theorem dX7_digest_187 : decode cX7_digest 187 = .ok (.iconst 0, 1) := by decide +kernel
theorem dX7_digest_188 : decode cX7_digest 188 = .ok (.invokevirtual 285, 3) := by decide +kernel
theorem dX7_digest_191 : decode cX7_digest 191 = .ok (.i2l, 1) := by decide +kernel
theorem dX7_digest_192 : decode cX7_digest 192 = .ok (.ladd, 1) := by decide +kernel
theorem dX7_digest_193 : decode cX7_digest 193 = .ok (.lstore_n 1, 1) := by decide +kernel
theorem dX7_digest_194 : decode cX7_digest 194 = .ok (.ldc2_w 291, 3) := by decide +kernel
theorem dX7_digest_197 : decode cX7_digest 197 = .ok (.lload_n 1, 1) := by decide +kernel
theorem dX7_digest_198 : decode cX7_digest 198 = .ok (.lmul, 1) := by decide +kernel
theorem dX7_digest_199 : decode cX7_digest 199 = .ok (.aload_n 0, 1) := by decide +kernel
theorem dX7_digest_200 : decode cX7_digest 200 = .ok (.bipush 7, 2) := by decide +kernel
theorem dX7_digest_202 : decode cX7_digest 202 = .ok (.iconst 1, 1) := by decide +kernel
theorem dX7_digest_203 : decode cX7_digest 203 = .ok (.invokevirtual 285, 3) := by decide +kernel
theorem dX7_digest_206 : decode cX7_digest 206 = .ok (.i2l, 1) := by decide +kernel
theorem dX7_digest_207 : decode cX7_digest 207 = .ok (.ladd, 1) := by decide +kernel
theorem dX7_digest_208 : decode cX7_digest 208 = .ok (.lreturn, 1) := by decide +kernel
end
section
theorem dL_law_0 : decode cL_law 0 = .ok (.new 7, 3) := by decide +kernel
theorem dL_law_3 : decode cL_law 3 = .ok (.dup, 1) := by decide +kernel
theorem dL_law_4 : decode cL_law 4 = .ok (.invokespecial 9, 3) := by decide +kernel
theorem dL_law_7 : decode cL_law 7 = .ok (.astore_n 1, 1) := by decide +kernel
theorem dL_law_8 : decode cL_law 8 = .ok (.new 10, 3) := by decide +kernel
theorem dL_law_11 : decode cL_law 11 = .ok (.dup, 1) := by decide +kernel
theorem dL_law_12 : decode cL_law 12 = .ok (.invokespecial 12, 3) := by decide +kernel
theorem dL_law_15 : decode cL_law 15 = .ok (.astore_n 2, 1) := by decide +kernel
theorem dL_law_16 : decode cL_law 16 = .ok (.iconst 0, 1) := by decide +kernel
theorem dL_law_17 : decode cL_law 17 = .ok (.istore_n 3, 1) := by decide +kernel
theorem dL_law_18 : decode cL_law 18 = .ok (.iload_n 3, 1) := by decide +kernel
theorem dL_law_19 : decode cL_law 19 = .ok (.aload_n 0, 1) := by decide +kernel
theorem dL_law_20 : decode cL_law 20 = .ok (.arraylength, 1) := by decide +kernel
theorem dL_law_21 : decode cL_law 21 = .ok (.bipush 6, 2) := by decide +kernel
theorem dL_law_23 : decode cL_law 23 = .ok (.isub, 1) := by decide +kernel
theorem dL_law_24 : decode cL_law 24 = .ok (.if_icmp .gt 1217, 3) := by decide +kernel
theorem dL_law_27 : decode cL_law 27 = .ok (.aload_n 0, 1) := by decide +kernel
theorem dL_law_28 : decode cL_law 28 = .ok (.iload_n 3, 1) := by decide +kernel
theorem dL_law_29 : decode cL_law 29 = .ok (.iaload, 1) := by decide +kernel
theorem dL_law_30 : decode cL_law 30 = .ok (.bipush 63, 2) := by decide +kernel
theorem dL_law_32 : decode cL_law 32 = .ok (.iand, 1) := by decide +kernel
theorem dL_law_33 : decode cL_law 33 = .ok (.tableswitch 1202 0 34 #[155, 188, 211, 234, 257, 290, 323, 356, 389, 412, 435, 468, 501, 534, 557, 570, 593, 606, 639, 672, 705, 738, 751, 764, 797, 820, 874, 907, 950, 973, 1026, 1069, 1132, 1165, 1188], 155) := by decide +kernel
theorem dL_law_188 : decode cL_law 188 = .ok (.aload_n 1, 1) := by decide +kernel
theorem dL_law_189 : decode cL_law 189 = .ok (.aload_n 0, 1) := by decide +kernel
theorem dL_law_190 : decode cL_law 190 = .ok (.iload_n 3, 1) := by decide +kernel
theorem dL_law_191 : decode cL_law 191 = .ok (.iconst 1, 1) := by decide +kernel
theorem dL_law_192 : decode cL_law 192 = .ok (.iadd, 1) := by decide +kernel
theorem dL_law_193 : decode cL_law 193 = .ok (.iaload, 1) := by decide +kernel
theorem dL_law_194 : decode cL_law 194 = .ok (.aload_n 0, 1) := by decide +kernel
theorem dL_law_195 : decode cL_law 195 = .ok (.iload_n 3, 1) := by decide +kernel
theorem dL_law_196 : decode cL_law 196 = .ok (.iconst 2, 1) := by decide +kernel
theorem dL_law_197 : decode cL_law 197 = .ok (.iadd, 1) := by decide +kernel
theorem dL_law_198 : decode cL_law 198 = .ok (.iaload, 1) := by decide +kernel
theorem dL_law_199 : decode cL_law 199 = .ok (.invokevirtual 13, 3) := by decide +kernel
theorem dL_law_202 : decode cL_law 202 = .ok (.aload_n 2, 1) := by decide +kernel
theorem dL_law_203 : decode cL_law 203 = .ok (.aload_n 0, 1) := by decide +kernel
theorem dL_law_204 : decode cL_law 204 = .ok (.iload_n 3, 1) := by decide +kernel
theorem dL_law_205 : decode cL_law 205 = .ok (.iconst 1, 1) := by decide +kernel
theorem dL_law_206 : decode cL_law 206 = .ok (.iadd, 1) := by decide +kernel
theorem dL_law_207 : decode cL_law 207 = .ok (.iaload, 1) := by decide +kernel
theorem dL_law_208 : decode cL_law 208 = .ok (.aload_n 0, 1) := by decide +kernel
theorem dL_law_209 : decode cL_law 209 = .ok (.iload_n 3, 1) := by decide +kernel
theorem dL_law_210 : decode cL_law 210 = .ok (.iconst 2, 1) := by decide +kernel
theorem dL_law_211 : decode cL_law 211 = .ok (.iadd, 1) := by decide +kernel
theorem dL_law_212 : decode cL_law 212 = .ok (.iaload, 1) := by decide +kernel
theorem dL_law_213 : decode cL_law 213 = .ok (.invokevirtual 17, 3) := by decide +kernel
theorem dL_law_216 : decode cL_law 216 = .ok (.if_icmp .eq 1019, 3) := by decide +kernel
theorem dL_law_219 : decode cL_law 219 = .ok (.iconst 0, 1) := by decide +kernel
theorem dL_law_220 : decode cL_law 220 = .ok (.ireturn, 1) := by decide +kernel
theorem dL_law_221 : decode cL_law 221 = .ok (.aload_n 1, 1) := by decide +kernel
theorem dL_law_222 : decode cL_law 222 = .ok (.aload_n 0, 1) := by decide +kernel
theorem dL_law_223 : decode cL_law 223 = .ok (.iload_n 3, 1) := by decide +kernel
theorem dL_law_224 : decode cL_law 224 = .ok (.iconst 1, 1) := by decide +kernel
theorem dL_law_225 : decode cL_law 225 = .ok (.iadd, 1) := by decide +kernel
theorem dL_law_226 : decode cL_law 226 = .ok (.iaload, 1) := by decide +kernel
theorem dL_law_227 : decode cL_law 227 = .ok (.invokevirtual 18, 3) := by decide +kernel
theorem dL_law_230 : decode cL_law 230 = .ok (.aload_n 2, 1) := by decide +kernel
theorem dL_law_231 : decode cL_law 231 = .ok (.aload_n 0, 1) := by decide +kernel
theorem dL_law_232 : decode cL_law 232 = .ok (.iload_n 3, 1) := by decide +kernel
theorem dL_law_233 : decode cL_law 233 = .ok (.iconst 1, 1) := by decide +kernel
theorem dL_law_234 : decode cL_law 234 = .ok (.iadd, 1) := by decide +kernel
theorem dL_law_235 : decode cL_law 235 = .ok (.iaload, 1) := by decide +kernel
theorem dL_law_236 : decode cL_law 236 = .ok (.invokevirtual 22, 3) := by decide +kernel
theorem dL_law_239 : decode cL_law 239 = .ok (.if_icmp .eq 996, 3) := by decide +kernel
theorem dL_law_242 : decode cL_law 242 = .ok (.iconst 0, 1) := by decide +kernel
theorem dL_law_243 : decode cL_law 243 = .ok (.ireturn, 1) := by decide +kernel
theorem dL_law_244 : decode cL_law 244 = .ok (.aload_n 1, 1) := by decide +kernel
theorem dL_law_245 : decode cL_law 245 = .ok (.aload_n 0, 1) := by decide +kernel
theorem dL_law_246 : decode cL_law 246 = .ok (.iload_n 3, 1) := by decide +kernel
theorem dL_law_247 : decode cL_law 247 = .ok (.iconst 1, 1) := by decide +kernel
theorem dL_law_248 : decode cL_law 248 = .ok (.iadd, 1) := by decide +kernel
theorem dL_law_249 : decode cL_law 249 = .ok (.iaload, 1) := by decide +kernel
theorem dL_law_250 : decode cL_law 250 = .ok (.invokevirtual 23, 3) := by decide +kernel
theorem dL_law_253 : decode cL_law 253 = .ok (.aload_n 2, 1) := by decide +kernel
theorem dL_law_254 : decode cL_law 254 = .ok (.aload_n 0, 1) := by decide +kernel
theorem dL_law_255 : decode cL_law 255 = .ok (.iload_n 3, 1) := by decide +kernel
theorem dL_law_256 : decode cL_law 256 = .ok (.iconst 1, 1) := by decide +kernel
theorem dL_law_257 : decode cL_law 257 = .ok (.iadd, 1) := by decide +kernel
theorem dL_law_258 : decode cL_law 258 = .ok (.iaload, 1) := by decide +kernel
theorem dL_law_259 : decode cL_law 259 = .ok (.invokevirtual 26, 3) := by decide +kernel
theorem dL_law_262 : decode cL_law 262 = .ok (.if_icmp .eq 973, 3) := by decide +kernel
theorem dL_law_265 : decode cL_law 265 = .ok (.iconst 0, 1) := by decide +kernel
theorem dL_law_266 : decode cL_law 266 = .ok (.ireturn, 1) := by decide +kernel
theorem dL_law_267 : decode cL_law 267 = .ok (.aload_n 1, 1) := by decide +kernel
theorem dL_law_268 : decode cL_law 268 = .ok (.aload_n 0, 1) := by decide +kernel
theorem dL_law_269 : decode cL_law 269 = .ok (.iload_n 3, 1) := by decide +kernel
theorem dL_law_270 : decode cL_law 270 = .ok (.iconst 1, 1) := by decide +kernel
theorem dL_law_271 : decode cL_law 271 = .ok (.iadd, 1) := by decide +kernel
theorem dL_law_272 : decode cL_law 272 = .ok (.iaload, 1) := by decide +kernel
theorem dL_law_273 : decode cL_law 273 = .ok (.invokevirtual 27, 3) := by decide +kernel
theorem dL_law_276 : decode cL_law 276 = .ok (.aload_n 2, 1) := by decide +kernel
theorem dL_law_277 : decode cL_law 277 = .ok (.aload_n 0, 1) := by decide +kernel
theorem dL_law_278 : decode cL_law 278 = .ok (.iload_n 3, 1) := by decide +kernel
theorem dL_law_279 : decode cL_law 279 = .ok (.iconst 1, 1) := by decide +kernel
theorem dL_law_280 : decode cL_law 280 = .ok (.iadd, 1) := by decide +kernel
theorem dL_law_281 : decode cL_law 281 = .ok (.iaload, 1) := by decide +kernel
theorem dL_law_282 : decode cL_law 282 = .ok (.invokevirtual 30, 3) := by decide +kernel
theorem dL_law_285 : decode cL_law 285 = .ok (.if_icmp .eq 950, 3) := by decide +kernel
theorem dL_law_288 : decode cL_law 288 = .ok (.iconst 0, 1) := by decide +kernel
theorem dL_law_289 : decode cL_law 289 = .ok (.ireturn, 1) := by decide +kernel
theorem dL_law_290 : decode cL_law 290 = .ok (.aload_n 1, 1) := by decide +kernel
theorem dL_law_291 : decode cL_law 291 = .ok (.aload_n 0, 1) := by decide +kernel
theorem dL_law_292 : decode cL_law 292 = .ok (.iload_n 3, 1) := by decide +kernel
theorem dL_law_293 : decode cL_law 293 = .ok (.iconst 1, 1) := by decide +kernel
theorem dL_law_294 : decode cL_law 294 = .ok (.iadd, 1) := by decide +kernel
theorem dL_law_295 : decode cL_law 295 = .ok (.iaload, 1) := by decide +kernel
theorem dL_law_296 : decode cL_law 296 = .ok (.aload_n 0, 1) := by decide +kernel
theorem dL_law_297 : decode cL_law 297 = .ok (.iload_n 3, 1) := by decide +kernel
theorem dL_law_298 : decode cL_law 298 = .ok (.iconst 2, 1) := by decide +kernel
theorem dL_law_299 : decode cL_law 299 = .ok (.iadd, 1) := by decide +kernel
theorem dL_law_300 : decode cL_law 300 = .ok (.iaload, 1) := by decide +kernel
theorem dL_law_301 : decode cL_law 301 = .ok (.invokevirtual 31, 3) := by decide +kernel
theorem dL_law_304 : decode cL_law 304 = .ok (.aload_n 2, 1) := by decide +kernel
theorem dL_law_305 : decode cL_law 305 = .ok (.aload_n 0, 1) := by decide +kernel
theorem dL_law_306 : decode cL_law 306 = .ok (.iload_n 3, 1) := by decide +kernel
theorem dL_law_307 : decode cL_law 307 = .ok (.iconst 1, 1) := by decide +kernel
theorem dL_law_308 : decode cL_law 308 = .ok (.iadd, 1) := by decide +kernel
theorem dL_law_309 : decode cL_law 309 = .ok (.iaload, 1) := by decide +kernel
theorem dL_law_310 : decode cL_law 310 = .ok (.aload_n 0, 1) := by decide +kernel
theorem dL_law_311 : decode cL_law 311 = .ok (.iload_n 3, 1) := by decide +kernel
theorem dL_law_312 : decode cL_law 312 = .ok (.iconst 2, 1) := by decide +kernel
theorem dL_law_313 : decode cL_law 313 = .ok (.iadd, 1) := by decide +kernel
theorem dL_law_314 : decode cL_law 314 = .ok (.iaload, 1) := by decide +kernel
theorem dL_law_315 : decode cL_law 315 = .ok (.invokevirtual 34, 3) := by decide +kernel
theorem dL_law_318 : decode cL_law 318 = .ok (.if_icmp .eq 917, 3) := by decide +kernel
theorem dL_law_321 : decode cL_law 321 = .ok (.iconst 0, 1) := by decide +kernel
theorem dL_law_322 : decode cL_law 322 = .ok (.ireturn, 1) := by decide +kernel
theorem dL_law_323 : decode cL_law 323 = .ok (.aload_n 1, 1) := by decide +kernel
theorem dL_law_324 : decode cL_law 324 = .ok (.aload_n 0, 1) := by decide +kernel
theorem dL_law_325 : decode cL_law 325 = .ok (.iload_n 3, 1) := by decide +kernel
theorem dL_law_326 : decode cL_law 326 = .ok (.iconst 1, 1) := by decide +kernel
theorem dL_law_327 : decode cL_law 327 = .ok (.iadd, 1) := by decide +kernel
theorem dL_law_328 : decode cL_law 328 = .ok (.iaload, 1) := by decide +kernel
theorem dL_law_329 : decode cL_law 329 = .ok (.aload_n 0, 1) := by decide +kernel
theorem dL_law_330 : decode cL_law 330 = .ok (.iload_n 3, 1) := by decide +kernel
theorem dL_law_331 : decode cL_law 331 = .ok (.iconst 2, 1) := by decide +kernel
theorem dL_law_332 : decode cL_law 332 = .ok (.iadd, 1) := by decide +kernel
theorem dL_law_333 : decode cL_law 333 = .ok (.iaload, 1) := by decide +kernel
theorem dL_law_334 : decode cL_law 334 = .ok (.invokevirtual 35, 3) := by decide +kernel
theorem dL_law_337 : decode cL_law 337 = .ok (.aload_n 2, 1) := by decide +kernel
theorem dL_law_338 : decode cL_law 338 = .ok (.aload_n 0, 1) := by decide +kernel
theorem dL_law_339 : decode cL_law 339 = .ok (.iload_n 3, 1) := by decide +kernel
theorem dL_law_340 : decode cL_law 340 = .ok (.iconst 1, 1) := by decide +kernel
theorem dL_law_341 : decode cL_law 341 = .ok (.iadd, 1) := by decide +kernel
theorem dL_law_342 : decode cL_law 342 = .ok (.iaload, 1) := by decide +kernel
theorem dL_law_343 : decode cL_law 343 = .ok (.aload_n 0, 1) := by decide +kernel
theorem dL_law_344 : decode cL_law 344 = .ok (.iload_n 3, 1) := by decide +kernel
theorem dL_law_345 : decode cL_law 345 = .ok (.iconst 2, 1) := by decide +kernel
theorem dL_law_346 : decode cL_law 346 = .ok (.iadd, 1) := by decide +kernel
theorem dL_law_347 : decode cL_law 347 = .ok (.iaload, 1) := by decide +kernel
theorem dL_law_348 : decode cL_law 348 = .ok (.invokevirtual 38, 3) := by decide +kernel
theorem dL_law_351 : decode cL_law 351 = .ok (.if_icmp .eq 884, 3) := by decide +kernel
theorem dL_law_354 : decode cL_law 354 = .ok (.iconst 0, 1) := by decide +kernel
theorem dL_law_355 : decode cL_law 355 = .ok (.ireturn, 1) := by decide +kernel
theorem dL_law_356 : decode cL_law 356 = .ok (.aload_n 1, 1) := by decide +kernel
theorem dL_law_357 : decode cL_law 357 = .ok (.aload_n 0, 1) := by decide +kernel
theorem dL_law_358 : decode cL_law 358 = .ok (.iload_n 3, 1) := by decide +kernel
theorem dL_law_359 : decode cL_law 359 = .ok (.iconst 1, 1) := by decide +kernel
theorem dL_law_360 : decode cL_law 360 = .ok (.iadd, 1) := by decide +kernel
theorem dL_law_361 : decode cL_law 361 = .ok (.iaload, 1) := by decide +kernel
theorem dL_law_362 : decode cL_law 362 = .ok (.aload_n 0, 1) := by decide +kernel
theorem dL_law_363 : decode cL_law 363 = .ok (.iload_n 3, 1) := by decide +kernel
theorem dL_law_364 : decode cL_law 364 = .ok (.iconst 2, 1) := by decide +kernel
theorem dL_law_365 : decode cL_law 365 = .ok (.iadd, 1) := by decide +kernel
theorem dL_law_366 : decode cL_law 366 = .ok (.iaload, 1) := by decide +kernel
theorem dL_law_367 : decode cL_law 367 = .ok (.invokevirtual 39, 3) := by decide +kernel
theorem dL_law_370 : decode cL_law 370 = .ok (.aload_n 2, 1) := by decide +kernel
theorem dL_law_371 : decode cL_law 371 = .ok (.aload_n 0, 1) := by decide +kernel
theorem dL_law_372 : decode cL_law 372 = .ok (.iload_n 3, 1) := by decide +kernel
theorem dL_law_373 : decode cL_law 373 = .ok (.iconst 1, 1) := by decide +kernel
theorem dL_law_374 : decode cL_law 374 = .ok (.iadd, 1) := by decide +kernel
theorem dL_law_375 : decode cL_law 375 = .ok (.iaload, 1) := by decide +kernel
theorem dL_law_376 : decode cL_law 376 = .ok (.aload_n 0, 1) := by decide +kernel
theorem dL_law_377 : decode cL_law 377 = .ok (.iload_n 3, 1) := by decide +kernel
theorem dL_law_378 : decode cL_law 378 = .ok (.iconst 2, 1) := by decide +kernel
theorem dL_law_379 : decode cL_law 379 = .ok (.iadd, 1) := by decide +kernel
theorem dL_law_380 : decode cL_law 380 = .ok (.iaload, 1) := by decide +kernel
theorem dL_law_381 : decode cL_law 381 = .ok (.invokevirtual 42, 3) := by decide +kernel
theorem dL_law_384 : decode cL_law 384 = .ok (.if_icmp .eq 851, 3) := by decide +kernel
theorem dL_law_387 : decode cL_law 387 = .ok (.iconst 0, 1) := by decide +kernel
theorem dL_law_388 : decode cL_law 388 = .ok (.ireturn, 1) := by decide +kernel
theorem dL_law_389 : decode cL_law 389 = .ok (.aload_n 1, 1) := by decide +kernel
theorem dL_law_390 : decode cL_law 390 = .ok (.aload_n 0, 1) := by decide +kernel
theorem dL_law_391 : decode cL_law 391 = .ok (.iload_n 3, 1) := by decide +kernel
theorem dL_law_392 : decode cL_law 392 = .ok (.iconst 1, 1) := by decide +kernel
theorem dL_law_393 : decode cL_law 393 = .ok (.iadd, 1) := by decide +kernel
theorem dL_law_394 : decode cL_law 394 = .ok (.iaload, 1) := by decide +kernel
theorem dL_law_395 : decode cL_law 395 = .ok (.aload_n 0, 1) := by decide +kernel
theorem dL_law_396 : decode cL_law 396 = .ok (.iload_n 3, 1) := by decide +kernel
theorem dL_law_397 : decode cL_law 397 = .ok (.iconst 2, 1) := by decide +kernel
theorem dL_law_398 : decode cL_law 398 = .ok (.iadd, 1) := by decide +kernel
theorem dL_law_399 : decode cL_law 399 = .ok (.iaload, 1) := by decide +kernel
theorem dL_law_400 : decode cL_law 400 = .ok (.invokevirtual 43, 3) := by decide +kernel
theorem dL_law_403 : decode cL_law 403 = .ok (.aload_n 2, 1) := by decide +kernel
theorem dL_law_404 : decode cL_law 404 = .ok (.aload_n 0, 1) := by decide +kernel
theorem dL_law_405 : decode cL_law 405 = .ok (.iload_n 3, 1) := by decide +kernel
theorem dL_law_406 : decode cL_law 406 = .ok (.iconst 1, 1) := by decide +kernel
theorem dL_law_407 : decode cL_law 407 = .ok (.iadd, 1) := by decide +kernel
theorem dL_law_408 : decode cL_law 408 = .ok (.iaload, 1) := by decide +kernel
theorem dL_law_409 : decode cL_law 409 = .ok (.aload_n 0, 1) := by decide +kernel
theorem dL_law_410 : decode cL_law 410 = .ok (.iload_n 3, 1) := by decide +kernel
theorem dL_law_411 : decode cL_law 411 = .ok (.iconst 2, 1) := by decide +kernel
theorem dL_law_412 : decode cL_law 412 = .ok (.iadd, 1) := by decide +kernel
theorem dL_law_413 : decode cL_law 413 = .ok (.iaload, 1) := by decide +kernel
theorem dL_law_414 : decode cL_law 414 = .ok (.invokevirtual 46, 3) := by decide +kernel
theorem dL_law_417 : decode cL_law 417 = .ok (.if_icmp .eq 818, 3) := by decide +kernel
theorem dL_law_420 : decode cL_law 420 = .ok (.iconst 0, 1) := by decide +kernel
theorem dL_law_421 : decode cL_law 421 = .ok (.ireturn, 1) := by decide +kernel
theorem dL_law_422 : decode cL_law 422 = .ok (.aload_n 1, 1) := by decide +kernel
theorem dL_law_423 : decode cL_law 423 = .ok (.aload_n 0, 1) := by decide +kernel
theorem dL_law_424 : decode cL_law 424 = .ok (.iload_n 3, 1) := by decide +kernel
theorem dL_law_425 : decode cL_law 425 = .ok (.iconst 1, 1) := by decide +kernel
theorem dL_law_426 : decode cL_law 426 = .ok (.iadd, 1) := by decide +kernel
theorem dL_law_427 : decode cL_law 427 = .ok (.iaload, 1) := by decide +kernel
theorem dL_law_428 : decode cL_law 428 = .ok (.invokevirtual 47, 3) := by decide +kernel
theorem dL_law_431 : decode cL_law 431 = .ok (.aload_n 2, 1) := by decide +kernel
theorem dL_law_432 : decode cL_law 432 = .ok (.aload_n 0, 1) := by decide +kernel
theorem dL_law_433 : decode cL_law 433 = .ok (.iload_n 3, 1) := by decide +kernel
theorem dL_law_434 : decode cL_law 434 = .ok (.iconst 1, 1) := by decide +kernel
theorem dL_law_435 : decode cL_law 435 = .ok (.iadd, 1) := by decide +kernel
theorem dL_law_436 : decode cL_law 436 = .ok (.iaload, 1) := by decide +kernel
theorem dL_law_437 : decode cL_law 437 = .ok (.invokevirtual 50, 3) := by decide +kernel
theorem dL_law_440 : decode cL_law 440 = .ok (.if_icmp .eq 795, 3) := by decide +kernel
theorem dL_law_443 : decode cL_law 443 = .ok (.iconst 0, 1) := by decide +kernel
theorem dL_law_444 : decode cL_law 444 = .ok (.ireturn, 1) := by decide +kernel
theorem dL_law_445 : decode cL_law 445 = .ok (.aload_n 1, 1) := by decide +kernel
theorem dL_law_446 : decode cL_law 446 = .ok (.aload_n 0, 1) := by decide +kernel
theorem dL_law_447 : decode cL_law 447 = .ok (.iload_n 3, 1) := by decide +kernel
theorem dL_law_448 : decode cL_law 448 = .ok (.iconst 1, 1) := by decide +kernel
theorem dL_law_449 : decode cL_law 449 = .ok (.iadd, 1) := by decide +kernel
theorem dL_law_450 : decode cL_law 450 = .ok (.iaload, 1) := by decide +kernel
theorem dL_law_451 : decode cL_law 451 = .ok (.invokevirtual 51, 3) := by decide +kernel
theorem dL_law_454 : decode cL_law 454 = .ok (.aload_n 2, 1) := by decide +kernel
theorem dL_law_455 : decode cL_law 455 = .ok (.aload_n 0, 1) := by decide +kernel
theorem dL_law_456 : decode cL_law 456 = .ok (.iload_n 3, 1) := by decide +kernel
theorem dL_law_457 : decode cL_law 457 = .ok (.iconst 1, 1) := by decide +kernel
theorem dL_law_458 : decode cL_law 458 = .ok (.iadd, 1) := by decide +kernel
theorem dL_law_459 : decode cL_law 459 = .ok (.iaload, 1) := by decide +kernel
theorem dL_law_460 : decode cL_law 460 = .ok (.invokevirtual 54, 3) := by decide +kernel
theorem dL_law_463 : decode cL_law 463 = .ok (.if_icmp .eq 772, 3) := by decide +kernel
theorem dL_law_466 : decode cL_law 466 = .ok (.iconst 0, 1) := by decide +kernel
theorem dL_law_467 : decode cL_law 467 = .ok (.ireturn, 1) := by decide +kernel
theorem dL_law_468 : decode cL_law 468 = .ok (.aload_n 1, 1) := by decide +kernel
theorem dL_law_469 : decode cL_law 469 = .ok (.aload_n 0, 1) := by decide +kernel
theorem dL_law_470 : decode cL_law 470 = .ok (.iload_n 3, 1) := by decide +kernel
theorem dL_law_471 : decode cL_law 471 = .ok (.iconst 1, 1) := by decide +kernel
theorem dL_law_472 : decode cL_law 472 = .ok (.iadd, 1) := by decide +kernel
theorem dL_law_473 : decode cL_law 473 = .ok (.iaload, 1) := by decide +kernel
theorem dL_law_474 : decode cL_law 474 = .ok (.aload_n 0, 1) := by decide +kernel
theorem dL_law_475 : decode cL_law 475 = .ok (.iload_n 3, 1) := by decide +kernel
theorem dL_law_476 : decode cL_law 476 = .ok (.iconst 2, 1) := by decide +kernel
theorem dL_law_477 : decode cL_law 477 = .ok (.iadd, 1) := by decide +kernel
theorem dL_law_478 : decode cL_law 478 = .ok (.iaload, 1) := by decide +kernel
theorem dL_law_479 : decode cL_law 479 = .ok (.invokevirtual 55, 3) := by decide +kernel
theorem dL_law_482 : decode cL_law 482 = .ok (.aload_n 2, 1) := by decide +kernel
theorem dL_law_483 : decode cL_law 483 = .ok (.aload_n 0, 1) := by decide +kernel
theorem dL_law_484 : decode cL_law 484 = .ok (.iload_n 3, 1) := by decide +kernel
theorem dL_law_485 : decode cL_law 485 = .ok (.iconst 1, 1) := by decide +kernel
theorem dL_law_486 : decode cL_law 486 = .ok (.iadd, 1) := by decide +kernel
theorem dL_law_487 : decode cL_law 487 = .ok (.iaload, 1) := by decide +kernel
theorem dL_law_488 : decode cL_law 488 = .ok (.aload_n 0, 1) := by decide +kernel
theorem dL_law_489 : decode cL_law 489 = .ok (.iload_n 3, 1) := by decide +kernel
theorem dL_law_490 : decode cL_law 490 = .ok (.iconst 2, 1) := by decide +kernel
theorem dL_law_491 : decode cL_law 491 = .ok (.iadd, 1) := by decide +kernel
theorem dL_law_492 : decode cL_law 492 = .ok (.iaload, 1) := by decide +kernel
theorem dL_law_493 : decode cL_law 493 = .ok (.invokevirtual 58, 3) := by decide +kernel
theorem dL_law_496 : decode cL_law 496 = .ok (.if_icmp .eq 739, 3) := by decide +kernel
theorem dL_law_499 : decode cL_law 499 = .ok (.iconst 0, 1) := by decide +kernel
theorem dL_law_500 : decode cL_law 500 = .ok (.ireturn, 1) := by decide +kernel
theorem dL_law_501 : decode cL_law 501 = .ok (.aload_n 1, 1) := by decide +kernel
theorem dL_law_502 : decode cL_law 502 = .ok (.aload_n 0, 1) := by decide +kernel
theorem dL_law_503 : decode cL_law 503 = .ok (.iload_n 3, 1) := by decide +kernel
theorem dL_law_504 : decode cL_law 504 = .ok (.iconst 1, 1) := by decide +kernel
theorem dL_law_505 : decode cL_law 505 = .ok (.iadd, 1) := by decide +kernel
theorem dL_law_506 : decode cL_law 506 = .ok (.iaload, 1) := by decide +kernel
theorem dL_law_507 : decode cL_law 507 = .ok (.aload_n 0, 1) := by decide +kernel
theorem dL_law_508 : decode cL_law 508 = .ok (.iload_n 3, 1) := by decide +kernel
theorem dL_law_509 : decode cL_law 509 = .ok (.iconst 2, 1) := by decide +kernel
theorem dL_law_510 : decode cL_law 510 = .ok (.iadd, 1) := by decide +kernel
theorem dL_law_511 : decode cL_law 511 = .ok (.iaload, 1) := by decide +kernel
theorem dL_law_512 : decode cL_law 512 = .ok (.invokevirtual 59, 3) := by decide +kernel
theorem dL_law_515 : decode cL_law 515 = .ok (.aload_n 2, 1) := by decide +kernel
theorem dL_law_516 : decode cL_law 516 = .ok (.aload_n 0, 1) := by decide +kernel
theorem dL_law_517 : decode cL_law 517 = .ok (.iload_n 3, 1) := by decide +kernel
theorem dL_law_518 : decode cL_law 518 = .ok (.iconst 1, 1) := by decide +kernel
theorem dL_law_519 : decode cL_law 519 = .ok (.iadd, 1) := by decide +kernel
theorem dL_law_520 : decode cL_law 520 = .ok (.iaload, 1) := by decide +kernel
theorem dL_law_521 : decode cL_law 521 = .ok (.aload_n 0, 1) := by decide +kernel
theorem dL_law_522 : decode cL_law 522 = .ok (.iload_n 3, 1) := by decide +kernel
theorem dL_law_523 : decode cL_law 523 = .ok (.iconst 2, 1) := by decide +kernel
theorem dL_law_524 : decode cL_law 524 = .ok (.iadd, 1) := by decide +kernel
theorem dL_law_525 : decode cL_law 525 = .ok (.iaload, 1) := by decide +kernel
theorem dL_law_526 : decode cL_law 526 = .ok (.invokevirtual 62, 3) := by decide +kernel
theorem dL_law_529 : decode cL_law 529 = .ok (.if_icmp .eq 706, 3) := by decide +kernel
theorem dL_law_532 : decode cL_law 532 = .ok (.iconst 0, 1) := by decide +kernel
theorem dL_law_533 : decode cL_law 533 = .ok (.ireturn, 1) := by decide +kernel
theorem dL_law_534 : decode cL_law 534 = .ok (.aload_n 1, 1) := by decide +kernel
theorem dL_law_535 : decode cL_law 535 = .ok (.aload_n 0, 1) := by decide +kernel
theorem dL_law_536 : decode cL_law 536 = .ok (.iload_n 3, 1) := by decide +kernel
theorem dL_law_537 : decode cL_law 537 = .ok (.iconst 1, 1) := by decide +kernel
theorem dL_law_538 : decode cL_law 538 = .ok (.iadd, 1) := by decide +kernel
theorem dL_law_539 : decode cL_law 539 = .ok (.iaload, 1) := by decide +kernel
theorem dL_law_540 : decode cL_law 540 = .ok (.aload_n 0, 1) := by decide +kernel
theorem dL_law_541 : decode cL_law 541 = .ok (.iload_n 3, 1) := by decide +kernel
theorem dL_law_542 : decode cL_law 542 = .ok (.iconst 2, 1) := by decide +kernel
theorem dL_law_543 : decode cL_law 543 = .ok (.iadd, 1) := by decide +kernel
theorem dL_law_544 : decode cL_law 544 = .ok (.iaload, 1) := by decide +kernel
theorem dL_law_545 : decode cL_law 545 = .ok (.invokevirtual 63, 3) := by decide +kernel
theorem dL_law_548 : decode cL_law 548 = .ok (.aload_n 2, 1) := by decide +kernel
theorem dL_law_549 : decode cL_law 549 = .ok (.aload_n 0, 1) := by decide +kernel
theorem dL_law_550 : decode cL_law 550 = .ok (.iload_n 3, 1) := by decide +kernel
theorem dL_law_551 : decode cL_law 551 = .ok (.iconst 1, 1) := by decide +kernel
theorem dL_law_552 : decode cL_law 552 = .ok (.iadd, 1) := by decide +kernel
theorem dL_law_553 : decode cL_law 553 = .ok (.iaload, 1) := by decide +kernel
theorem dL_law_554 : decode cL_law 554 = .ok (.aload_n 0, 1) := by decide +kernel
theorem dL_law_555 : decode cL_law 555 = .ok (.iload_n 3, 1) := by decide +kernel
theorem dL_law_556 : decode cL_law 556 = .ok (.iconst 2, 1) := by decide +kernel
theorem dL_law_557 : decode cL_law 557 = .ok (.iadd, 1) := by decide +kernel
theorem dL_law_558 : decode cL_law 558 = .ok (.iaload, 1) := by decide +kernel
theorem dL_law_559 : decode cL_law 559 = .ok (.invokevirtual 66, 3) := by decide +kernel
theorem dL_law_562 : decode cL_law 562 = .ok (.if_icmp .eq 673, 3) := by decide +kernel
theorem dL_law_565 : decode cL_law 565 = .ok (.iconst 0, 1) := by decide +kernel
theorem dL_law_566 : decode cL_law 566 = .ok (.ireturn, 1) := by decide +kernel
theorem dL_law_567 : decode cL_law 567 = .ok (.aload_n 1, 1) := by decide +kernel
theorem dL_law_568 : decode cL_law 568 = .ok (.aload_n 0, 1) := by decide +kernel
theorem dL_law_569 : decode cL_law 569 = .ok (.iload_n 3, 1) := by decide +kernel
theorem dL_law_570 : decode cL_law 570 = .ok (.iconst 1, 1) := by decide +kernel
theorem dL_law_571 : decode cL_law 571 = .ok (.iadd, 1) := by decide +kernel
theorem dL_law_572 : decode cL_law 572 = .ok (.iaload, 1) := by decide +kernel
theorem dL_law_573 : decode cL_law 573 = .ok (.invokevirtual 67, 3) := by decide +kernel
theorem dL_law_576 : decode cL_law 576 = .ok (.aload_n 2, 1) := by decide +kernel
theorem dL_law_577 : decode cL_law 577 = .ok (.aload_n 0, 1) := by decide +kernel
theorem dL_law_578 : decode cL_law 578 = .ok (.iload_n 3, 1) := by decide +kernel
theorem dL_law_579 : decode cL_law 579 = .ok (.iconst 1, 1) := by decide +kernel
theorem dL_law_580 : decode cL_law 580 = .ok (.iadd, 1) := by decide +kernel
theorem dL_law_581 : decode cL_law 581 = .ok (.iaload, 1) := by decide +kernel
theorem dL_law_582 : decode cL_law 582 = .ok (.invokevirtual 70, 3) := by decide +kernel
theorem dL_law_585 : decode cL_law 585 = .ok (.if_icmp .eq 650, 3) := by decide +kernel
theorem dL_law_588 : decode cL_law 588 = .ok (.iconst 0, 1) := by decide +kernel
theorem dL_law_589 : decode cL_law 589 = .ok (.ireturn, 1) := by decide +kernel
theorem dL_law_590 : decode cL_law 590 = .ok (.aload_n 1, 1) := by decide +kernel
theorem dL_law_591 : decode cL_law 591 = .ok (.invokevirtual 71, 3) := by decide +kernel
theorem dL_law_594 : decode cL_law 594 = .ok (.aload_n 2, 1) := by decide +kernel
theorem dL_law_595 : decode cL_law 595 = .ok (.invokevirtual 75, 3) := by decide +kernel
theorem dL_law_598 : decode cL_law 598 = .ok (.if_icmp .eq 637, 3) := by decide +kernel
theorem dL_law_601 : decode cL_law 601 = .ok (.iconst 0, 1) := by decide +kernel
theorem dL_law_602 : decode cL_law 602 = .ok (.ireturn, 1) := by decide +kernel
theorem dL_law_603 : decode cL_law 603 = .ok (.aload_n 1, 1) := by decide +kernel
theorem dL_law_604 : decode cL_law 604 = .ok (.aload_n 0, 1) := by decide +kernel
theorem dL_law_605 : decode cL_law 605 = .ok (.iload_n 3, 1) := by decide +kernel
theorem dL_law_606 : decode cL_law 606 = .ok (.iconst 1, 1) := by decide +kernel
theorem dL_law_607 : decode cL_law 607 = .ok (.iadd, 1) := by decide +kernel
theorem dL_law_608 : decode cL_law 608 = .ok (.iaload, 1) := by decide +kernel
theorem dL_law_609 : decode cL_law 609 = .ok (.invokevirtual 76, 3) := by decide +kernel
theorem dL_law_612 : decode cL_law 612 = .ok (.aload_n 2, 1) := by decide +kernel
theorem dL_law_613 : decode cL_law 613 = .ok (.aload_n 0, 1) := by decide +kernel
theorem dL_law_614 : decode cL_law 614 = .ok (.iload_n 3, 1) := by decide +kernel
theorem dL_law_615 : decode cL_law 615 = .ok (.iconst 1, 1) := by decide +kernel
theorem dL_law_616 : decode cL_law 616 = .ok (.iadd, 1) := by decide +kernel
theorem dL_law_617 : decode cL_law 617 = .ok (.iaload, 1) := by decide +kernel
theorem dL_law_618 : decode cL_law 618 = .ok (.invokevirtual 79, 3) := by decide +kernel
theorem dL_law_621 : decode cL_law 621 = .ok (.if_icmp .eq 614, 3) := by decide +kernel
theorem dL_law_624 : decode cL_law 624 = .ok (.iconst 0, 1) := by decide +kernel
theorem dL_law_625 : decode cL_law 625 = .ok (.ireturn, 1) := by decide +kernel
theorem dL_law_626 : decode cL_law 626 = .ok (.aload_n 1, 1) := by decide +kernel
theorem dL_law_627 : decode cL_law 627 = .ok (.invokevirtual 80, 3) := by decide +kernel
theorem dL_law_630 : decode cL_law 630 = .ok (.aload_n 2, 1) := by decide +kernel
theorem dL_law_631 : decode cL_law 631 = .ok (.invokevirtual 83, 3) := by decide +kernel
theorem dL_law_634 : decode cL_law 634 = .ok (.if_icmp .eq 601, 3) := by decide +kernel
theorem dL_law_637 : decode cL_law 637 = .ok (.iconst 0, 1) := by decide +kernel
theorem dL_law_638 : decode cL_law 638 = .ok (.ireturn, 1) := by decide +kernel
theorem dL_law_639 : decode cL_law 639 = .ok (.aload_n 1, 1) := by decide +kernel
theorem dL_law_640 : decode cL_law 640 = .ok (.aload_n 0, 1) := by decide +kernel
theorem dL_law_641 : decode cL_law 641 = .ok (.iload_n 3, 1) := by decide +kernel
theorem dL_law_642 : decode cL_law 642 = .ok (.iconst 1, 1) := by decide +kernel
theorem dL_law_643 : decode cL_law 643 = .ok (.iadd, 1) := by decide +kernel
theorem dL_law_644 : decode cL_law 644 = .ok (.iaload, 1) := by decide +kernel
theorem dL_law_645 : decode cL_law 645 = .ok (.aload_n 0, 1) := by decide +kernel
theorem dL_law_646 : decode cL_law 646 = .ok (.iload_n 3, 1) := by decide +kernel
theorem dL_law_647 : decode cL_law 647 = .ok (.iconst 2, 1) := by decide +kernel
theorem dL_law_648 : decode cL_law 648 = .ok (.iadd, 1) := by decide +kernel
theorem dL_law_649 : decode cL_law 649 = .ok (.iaload, 1) := by decide +kernel
theorem dL_law_650 : decode cL_law 650 = .ok (.invokevirtual 84, 3) := by decide +kernel
theorem dL_law_653 : decode cL_law 653 = .ok (.aload_n 2, 1) := by decide +kernel
theorem dL_law_654 : decode cL_law 654 = .ok (.aload_n 0, 1) := by decide +kernel
theorem dL_law_655 : decode cL_law 655 = .ok (.iload_n 3, 1) := by decide +kernel
theorem dL_law_656 : decode cL_law 656 = .ok (.iconst 1, 1) := by decide +kernel
theorem dL_law_657 : decode cL_law 657 = .ok (.iadd, 1) := by decide +kernel
theorem dL_law_658 : decode cL_law 658 = .ok (.iaload, 1) := by decide +kernel
theorem dL_law_659 : decode cL_law 659 = .ok (.aload_n 0, 1) := by decide +kernel
theorem dL_law_660 : decode cL_law 660 = .ok (.iload_n 3, 1) := by decide +kernel
theorem dL_law_661 : decode cL_law 661 = .ok (.iconst 2, 1) := by decide +kernel
theorem dL_law_662 : decode cL_law 662 = .ok (.iadd, 1) := by decide +kernel
theorem dL_law_663 : decode cL_law 663 = .ok (.iaload, 1) := by decide +kernel
theorem dL_law_664 : decode cL_law 664 = .ok (.invokevirtual 87, 3) := by decide +kernel
theorem dL_law_667 : decode cL_law 667 = .ok (.if_icmp .eq 568, 3) := by decide +kernel
theorem dL_law_670 : decode cL_law 670 = .ok (.iconst 0, 1) := by decide +kernel
theorem dL_law_671 : decode cL_law 671 = .ok (.ireturn, 1) := by decide +kernel
theorem dL_law_672 : decode cL_law 672 = .ok (.aload_n 1, 1) := by decide +kernel
theorem dL_law_673 : decode cL_law 673 = .ok (.aload_n 0, 1) := by decide +kernel
theorem dL_law_674 : decode cL_law 674 = .ok (.iload_n 3, 1) := by decide +kernel
theorem dL_law_675 : decode cL_law 675 = .ok (.iconst 1, 1) := by decide +kernel
theorem dL_law_676 : decode cL_law 676 = .ok (.iadd, 1) := by decide +kernel
theorem dL_law_677 : decode cL_law 677 = .ok (.iaload, 1) := by decide +kernel
theorem dL_law_678 : decode cL_law 678 = .ok (.aload_n 0, 1) := by decide +kernel
theorem dL_law_679 : decode cL_law 679 = .ok (.iload_n 3, 1) := by decide +kernel
theorem dL_law_680 : decode cL_law 680 = .ok (.iconst 2, 1) := by decide +kernel
theorem dL_law_681 : decode cL_law 681 = .ok (.iadd, 1) := by decide +kernel
theorem dL_law_682 : decode cL_law 682 = .ok (.iaload, 1) := by decide +kernel
theorem dL_law_683 : decode cL_law 683 = .ok (.invokevirtual 88, 3) := by decide +kernel
theorem dL_law_686 : decode cL_law 686 = .ok (.aload_n 2, 1) := by decide +kernel
theorem dL_law_687 : decode cL_law 687 = .ok (.aload_n 0, 1) := by decide +kernel
theorem dL_law_688 : decode cL_law 688 = .ok (.iload_n 3, 1) := by decide +kernel
theorem dL_law_689 : decode cL_law 689 = .ok (.iconst 1, 1) := by decide +kernel
theorem dL_law_690 : decode cL_law 690 = .ok (.iadd, 1) := by decide +kernel
theorem dL_law_691 : decode cL_law 691 = .ok (.iaload, 1) := by decide +kernel
theorem dL_law_692 : decode cL_law 692 = .ok (.aload_n 0, 1) := by decide +kernel
theorem dL_law_693 : decode cL_law 693 = .ok (.iload_n 3, 1) := by decide +kernel
theorem dL_law_694 : decode cL_law 694 = .ok (.iconst 2, 1) := by decide +kernel
theorem dL_law_695 : decode cL_law 695 = .ok (.iadd, 1) := by decide +kernel
theorem dL_law_696 : decode cL_law 696 = .ok (.iaload, 1) := by decide +kernel
theorem dL_law_697 : decode cL_law 697 = .ok (.invokevirtual 91, 3) := by decide +kernel
theorem dL_law_700 : decode cL_law 700 = .ok (.if_icmp .eq 535, 3) := by decide +kernel
theorem dL_law_703 : decode cL_law 703 = .ok (.iconst 0, 1) := by decide +kernel
theorem dL_law_704 : decode cL_law 704 = .ok (.ireturn, 1) := by decide +kernel
theorem dL_law_705 : decode cL_law 705 = .ok (.aload_n 1, 1) := by decide +kernel
theorem dL_law_706 : decode cL_law 706 = .ok (.aload_n 0, 1) := by decide +kernel
theorem dL_law_707 : decode cL_law 707 = .ok (.iload_n 3, 1) := by decide +kernel
theorem dL_law_708 : decode cL_law 708 = .ok (.iconst 1, 1) := by decide +kernel
theorem dL_law_709 : decode cL_law 709 = .ok (.iadd, 1) := by decide +kernel
theorem dL_law_710 : decode cL_law 710 = .ok (.iaload, 1) := by decide +kernel
theorem dL_law_711 : decode cL_law 711 = .ok (.aload_n 0, 1) := by decide +kernel
theorem dL_law_712 : decode cL_law 712 = .ok (.iload_n 3, 1) := by decide +kernel
theorem dL_law_713 : decode cL_law 713 = .ok (.iconst 2, 1) := by decide +kernel
theorem dL_law_714 : decode cL_law 714 = .ok (.iadd, 1) := by decide +kernel
theorem dL_law_715 : decode cL_law 715 = .ok (.iaload, 1) := by decide +kernel
theorem dL_law_716 : decode cL_law 716 = .ok (.invokevirtual 92, 3) := by decide +kernel
theorem dL_law_719 : decode cL_law 719 = .ok (.aload_n 2, 1) := by decide +kernel
theorem dL_law_720 : decode cL_law 720 = .ok (.aload_n 0, 1) := by decide +kernel
theorem dL_law_721 : decode cL_law 721 = .ok (.iload_n 3, 1) := by decide +kernel
theorem dL_law_722 : decode cL_law 722 = .ok (.iconst 1, 1) := by decide +kernel
theorem dL_law_723 : decode cL_law 723 = .ok (.iadd, 1) := by decide +kernel
theorem dL_law_724 : decode cL_law 724 = .ok (.iaload, 1) := by decide +kernel
theorem dL_law_725 : decode cL_law 725 = .ok (.aload_n 0, 1) := by decide +kernel
theorem dL_law_726 : decode cL_law 726 = .ok (.iload_n 3, 1) := by decide +kernel
theorem dL_law_727 : decode cL_law 727 = .ok (.iconst 2, 1) := by decide +kernel
theorem dL_law_728 : decode cL_law 728 = .ok (.iadd, 1) := by decide +kernel
theorem dL_law_729 : decode cL_law 729 = .ok (.iaload, 1) := by decide +kernel
theorem dL_law_730 : decode cL_law 730 = .ok (.invokevirtual 95, 3) := by decide +kernel
theorem dL_law_733 : decode cL_law 733 = .ok (.if_icmp .eq 502, 3) := by decide +kernel
theorem dL_law_736 : decode cL_law 736 = .ok (.iconst 0, 1) := by decide +kernel
theorem dL_law_737 : decode cL_law 737 = .ok (.ireturn, 1) := by decide +kernel
theorem dL_law_738 : decode cL_law 738 = .ok (.aload_n 1, 1) := by decide +kernel
theorem dL_law_739 : decode cL_law 739 = .ok (.aload_n 0, 1) := by decide +kernel
theorem dL_law_740 : decode cL_law 740 = .ok (.iload_n 3, 1) := by decide +kernel
theorem dL_law_741 : decode cL_law 741 = .ok (.iconst 1, 1) := by decide +kernel
theorem dL_law_742 : decode cL_law 742 = .ok (.iadd, 1) := by decide +kernel
theorem dL_law_743 : decode cL_law 743 = .ok (.iaload, 1) := by decide +kernel
theorem dL_law_744 : decode cL_law 744 = .ok (.aload_n 0, 1) := by decide +kernel
theorem dL_law_745 : decode cL_law 745 = .ok (.iload_n 3, 1) := by decide +kernel
theorem dL_law_746 : decode cL_law 746 = .ok (.iconst 2, 1) := by decide +kernel
theorem dL_law_747 : decode cL_law 747 = .ok (.iadd, 1) := by decide +kernel
theorem dL_law_748 : decode cL_law 748 = .ok (.iaload, 1) := by decide +kernel
theorem dL_law_749 : decode cL_law 749 = .ok (.invokevirtual 96, 3) := by decide +kernel
theorem dL_law_752 : decode cL_law 752 = .ok (.aload_n 2, 1) := by decide +kernel
theorem dL_law_753 : decode cL_law 753 = .ok (.aload_n 0, 1) := by decide +kernel
theorem dL_law_754 : decode cL_law 754 = .ok (.iload_n 3, 1) := by decide +kernel
theorem dL_law_755 : decode cL_law 755 = .ok (.iconst 1, 1) := by decide +kernel
theorem dL_law_756 : decode cL_law 756 = .ok (.iadd, 1) := by decide +kernel
theorem dL_law_757 : decode cL_law 757 = .ok (.iaload, 1) := by decide +kernel
theorem dL_law_758 : decode cL_law 758 = .ok (.aload_n 0, 1) := by decide +kernel
theorem dL_law_759 : decode cL_law 759 = .ok (.iload_n 3, 1) := by decide +kernel
theorem dL_law_760 : decode cL_law 760 = .ok (.iconst 2, 1) := by decide +kernel
theorem dL_law_761 : decode cL_law 761 = .ok (.iadd, 1) := by decide +kernel
theorem dL_law_762 : decode cL_law 762 = .ok (.iaload, 1) := by decide +kernel
theorem dL_law_763 : decode cL_law 763 = .ok (.invokevirtual 99, 3) := by decide +kernel
theorem dL_law_766 : decode cL_law 766 = .ok (.if_icmp .eq 469, 3) := by decide +kernel
theorem dL_law_769 : decode cL_law 769 = .ok (.iconst 0, 1) := by decide +kernel
theorem dL_law_770 : decode cL_law 770 = .ok (.ireturn, 1) := by decide +kernel
theorem dL_law_771 : decode cL_law 771 = .ok (.aload_n 1, 1) := by decide +kernel
theorem dL_law_772 : decode cL_law 772 = .ok (.invokevirtual 100, 3) := by decide +kernel
theorem dL_law_775 : decode cL_law 775 = .ok (.aload_n 2, 1) := by decide +kernel
theorem dL_law_776 : decode cL_law 776 = .ok (.invokevirtual 103, 3) := by decide +kernel
theorem dL_law_779 : decode cL_law 779 = .ok (.if_icmp .eq 456, 3) := by decide +kernel
theorem dL_law_782 : decode cL_law 782 = .ok (.iconst 0, 1) := by decide +kernel
theorem dL_law_783 : decode cL_law 783 = .ok (.ireturn, 1) := by decide +kernel
theorem dL_law_784 : decode cL_law 784 = .ok (.aload_n 1, 1) := by decide +kernel
theorem dL_law_785 : decode cL_law 785 = .ok (.invokevirtual 104, 3) := by decide +kernel
theorem dL_law_788 : decode cL_law 788 = .ok (.aload_n 2, 1) := by decide +kernel
theorem dL_law_789 : decode cL_law 789 = .ok (.invokevirtual 107, 3) := by decide +kernel
theorem dL_law_792 : decode cL_law 792 = .ok (.if_icmp .eq 443, 3) := by decide +kernel
theorem dL_law_795 : decode cL_law 795 = .ok (.iconst 0, 1) := by decide +kernel
theorem dL_law_796 : decode cL_law 796 = .ok (.ireturn, 1) := by decide +kernel
theorem dL_law_797 : decode cL_law 797 = .ok (.aload_n 1, 1) := by decide +kernel
theorem dL_law_798 : decode cL_law 798 = .ok (.aload_n 0, 1) := by decide +kernel
theorem dL_law_799 : decode cL_law 799 = .ok (.iload_n 3, 1) := by decide +kernel
theorem dL_law_800 : decode cL_law 800 = .ok (.iconst 1, 1) := by decide +kernel
theorem dL_law_801 : decode cL_law 801 = .ok (.iadd, 1) := by decide +kernel
theorem dL_law_802 : decode cL_law 802 = .ok (.iaload, 1) := by decide +kernel
theorem dL_law_803 : decode cL_law 803 = .ok (.aload_n 0, 1) := by decide +kernel
theorem dL_law_804 : decode cL_law 804 = .ok (.iload_n 3, 1) := by decide +kernel
theorem dL_law_805 : decode cL_law 805 = .ok (.iconst 2, 1) := by decide +kernel
theorem dL_law_806 : decode cL_law 806 = .ok (.iadd, 1) := by decide +kernel
theorem dL_law_807 : decode cL_law 807 = .ok (.iaload, 1) := by decide +kernel
theorem dL_law_808 : decode cL_law 808 = .ok (.invokevirtual 108, 3) := by decide +kernel
theorem dL_law_811 : decode cL_law 811 = .ok (.aload_n 2, 1) := by decide +kernel
theorem dL_law_812 : decode cL_law 812 = .ok (.aload_n 0, 1) := by decide +kernel
theorem dL_law_813 : decode cL_law 813 = .ok (.iload_n 3, 1) := by decide +kernel
theorem dL_law_814 : decode cL_law 814 = .ok (.iconst 1, 1) := by decide +kernel
theorem dL_law_815 : decode cL_law 815 = .ok (.iadd, 1) := by decide +kernel
theorem dL_law_816 : decode cL_law 816 = .ok (.iaload, 1) := by decide +kernel
theorem dL_law_817 : decode cL_law 817 = .ok (.aload_n 0, 1) := by decide +kernel
theorem dL_law_818 : decode cL_law 818 = .ok (.iload_n 3, 1) := by decide +kernel
theorem dL_law_819 : decode cL_law 819 = .ok (.iconst 2, 1) := by decide +kernel
theorem dL_law_820 : decode cL_law 820 = .ok (.iadd, 1) := by decide +kernel
theorem dL_law_821 : decode cL_law 821 = .ok (.iaload, 1) := by decide +kernel
theorem dL_law_822 : decode cL_law 822 = .ok (.invokevirtual 111, 3) := by decide +kernel
theorem dL_law_825 : decode cL_law 825 = .ok (.if_icmp .eq 410, 3) := by decide +kernel
theorem dL_law_828 : decode cL_law 828 = .ok (.iconst 0, 1) := by decide +kernel
theorem dL_law_829 : decode cL_law 829 = .ok (.ireturn, 1) := by decide +kernel
theorem dL_law_830 : decode cL_law 830 = .ok (.aload_n 1, 1) := by decide +kernel
theorem dL_law_831 : decode cL_law 831 = .ok (.aload_n 0, 1) := by decide +kernel
theorem dL_law_832 : decode cL_law 832 = .ok (.iload_n 3, 1) := by decide +kernel
theorem dL_law_833 : decode cL_law 833 = .ok (.iconst 1, 1) := by decide +kernel
theorem dL_law_834 : decode cL_law 834 = .ok (.iadd, 1) := by decide +kernel
theorem dL_law_835 : decode cL_law 835 = .ok (.iaload, 1) := by decide +kernel
theorem dL_law_836 : decode cL_law 836 = .ok (.invokevirtual 112, 3) := by decide +kernel
theorem dL_law_839 : decode cL_law 839 = .ok (.aload_n 2, 1) := by decide +kernel
theorem dL_law_840 : decode cL_law 840 = .ok (.aload_n 0, 1) := by decide +kernel
theorem dL_law_841 : decode cL_law 841 = .ok (.iload_n 3, 1) := by decide +kernel
theorem dL_law_842 : decode cL_law 842 = .ok (.iconst 1, 1) := by decide +kernel
theorem dL_law_843 : decode cL_law 843 = .ok (.iadd, 1) := by decide +kernel
theorem dL_law_844 : decode cL_law 844 = .ok (.iaload, 1) := by decide +kernel
theorem dL_law_845 : decode cL_law 845 = .ok (.invokevirtual 115, 3) := by decide +kernel
theorem dL_law_848 : decode cL_law 848 = .ok (.if_icmp .eq 387, 3) := by decide +kernel
theorem dL_law_851 : decode cL_law 851 = .ok (.iconst 0, 1) := by decide +kernel
theorem dL_law_852 : decode cL_law 852 = .ok (.ireturn, 1) := by decide +kernel
theorem dL_law_853 : decode cL_law 853 = .ok (.aload_n 1, 1) := by decide +kernel
theorem dL_law_854 : decode cL_law 854 = .ok (.aload_n 0, 1) := by decide +kernel
theorem dL_law_855 : decode cL_law 855 = .ok (.iload_n 3, 1) := by decide +kernel
theorem dL_law_856 : decode cL_law 856 = .ok (.iconst 1, 1) := by decide +kernel
theorem dL_law_857 : decode cL_law 857 = .ok (.iadd, 1) := by decide +kernel
theorem dL_law_858 : decode cL_law 858 = .ok (.iaload, 1) := by decide +kernel
theorem dL_law_859 : decode cL_law 859 = .ok (.aload_n 0, 1) := by decide +kernel
theorem dL_law_860 : decode cL_law 860 = .ok (.iload_n 3, 1) := by decide +kernel
theorem dL_law_861 : decode cL_law 861 = .ok (.iconst 2, 1) := by decide +kernel
theorem dL_law_862 : decode cL_law 862 = .ok (.iadd, 1) := by decide +kernel
theorem dL_law_863 : decode cL_law 863 = .ok (.iaload, 1) := by decide +kernel
theorem dL_law_864 : decode cL_law 864 = .ok (.aload_n 0, 1) := by decide +kernel
theorem dL_law_865 : decode cL_law 865 = .ok (.iload_n 3, 1) := by decide +kernel
theorem dL_law_866 : decode cL_law 866 = .ok (.iconst 3, 1) := by decide +kernel
theorem dL_law_867 : decode cL_law 867 = .ok (.iadd, 1) := by decide +kernel
theorem dL_law_868 : decode cL_law 868 = .ok (.iaload, 1) := by decide +kernel
theorem dL_law_869 : decode cL_law 869 = .ok (.aload_n 0, 1) := by decide +kernel
theorem dL_law_870 : decode cL_law 870 = .ok (.iload_n 3, 1) := by decide +kernel
theorem dL_law_871 : decode cL_law 871 = .ok (.iconst 4, 1) := by decide +kernel
theorem dL_law_872 : decode cL_law 872 = .ok (.iadd, 1) := by decide +kernel
theorem dL_law_873 : decode cL_law 873 = .ok (.iaload, 1) := by decide +kernel
theorem dL_law_874 : decode cL_law 874 = .ok (.invokevirtual 116, 3) := by decide +kernel
theorem dL_law_877 : decode cL_law 877 = .ok (.aload_n 2, 1) := by decide +kernel
theorem dL_law_878 : decode cL_law 878 = .ok (.aload_n 0, 1) := by decide +kernel
theorem dL_law_879 : decode cL_law 879 = .ok (.iload_n 3, 1) := by decide +kernel
theorem dL_law_880 : decode cL_law 880 = .ok (.iconst 1, 1) := by decide +kernel
theorem dL_law_881 : decode cL_law 881 = .ok (.iadd, 1) := by decide +kernel
theorem dL_law_882 : decode cL_law 882 = .ok (.iaload, 1) := by decide +kernel
theorem dL_law_883 : decode cL_law 883 = .ok (.aload_n 0, 1) := by decide +kernel
theorem dL_law_884 : decode cL_law 884 = .ok (.iload_n 3, 1) := by decide +kernel
theorem dL_law_885 : decode cL_law 885 = .ok (.iconst 2, 1) := by decide +kernel
theorem dL_law_886 : decode cL_law 886 = .ok (.iadd, 1) := by decide +kernel
theorem dL_law_887 : decode cL_law 887 = .ok (.iaload, 1) := by decide +kernel
theorem dL_law_888 : decode cL_law 888 = .ok (.aload_n 0, 1) := by decide +kernel
theorem dL_law_889 : decode cL_law 889 = .ok (.iload_n 3, 1) := by decide +kernel
theorem dL_law_890 : decode cL_law 890 = .ok (.iconst 3, 1) := by decide +kernel
theorem dL_law_891 : decode cL_law 891 = .ok (.iadd, 1) := by decide +kernel
theorem dL_law_892 : decode cL_law 892 = .ok (.iaload, 1) := by decide +kernel
theorem dL_law_893 : decode cL_law 893 = .ok (.aload_n 0, 1) := by decide +kernel
theorem dL_law_894 : decode cL_law 894 = .ok (.iload_n 3, 1) := by decide +kernel
theorem dL_law_895 : decode cL_law 895 = .ok (.iconst 4, 1) := by decide +kernel
theorem dL_law_896 : decode cL_law 896 = .ok (.iadd, 1) := by decide +kernel
theorem dL_law_897 : decode cL_law 897 = .ok (.iaload, 1) := by decide +kernel
theorem dL_law_898 : decode cL_law 898 = .ok (.invokevirtual 120, 3) := by decide +kernel
theorem dL_law_901 : decode cL_law 901 = .ok (.lcmp, 1) := by decide +kernel
theorem dL_law_902 : decode cL_law 902 = .ok (.ifCond .eq 333, 3) := by decide +kernel
theorem dL_law_905 : decode cL_law 905 = .ok (.iconst 0, 1) := by decide +kernel
theorem dL_law_906 : decode cL_law 906 = .ok (.ireturn, 1) := by decide +kernel
theorem dL_law_907 : decode cL_law 907 = .ok (.aload_n 1, 1) := by decide +kernel
theorem dL_law_908 : decode cL_law 908 = .ok (.aload_n 0, 1) := by decide +kernel
theorem dL_law_909 : decode cL_law 909 = .ok (.iload_n 3, 1) := by decide +kernel
theorem dL_law_910 : decode cL_law 910 = .ok (.iconst 1, 1) := by decide +kernel
theorem dL_law_911 : decode cL_law 911 = .ok (.iadd, 1) := by decide +kernel
theorem dL_law_912 : decode cL_law 912 = .ok (.iaload, 1) := by decide +kernel
theorem dL_law_913 : decode cL_law 913 = .ok (.aload_n 0, 1) := by decide +kernel
theorem dL_law_914 : decode cL_law 914 = .ok (.iload_n 3, 1) := by decide +kernel
theorem dL_law_915 : decode cL_law 915 = .ok (.iconst 2, 1) := by decide +kernel
theorem dL_law_916 : decode cL_law 916 = .ok (.iadd, 1) := by decide +kernel
theorem dL_law_917 : decode cL_law 917 = .ok (.iaload, 1) := by decide +kernel
theorem dL_law_918 : decode cL_law 918 = .ok (.invokevirtual 121, 3) := by decide +kernel
theorem dL_law_921 : decode cL_law 921 = .ok (.aload_n 2, 1) := by decide +kernel
theorem dL_law_922 : decode cL_law 922 = .ok (.aload_n 0, 1) := by decide +kernel
theorem dL_law_923 : decode cL_law 923 = .ok (.iload_n 3, 1) := by decide +kernel
theorem dL_law_924 : decode cL_law 924 = .ok (.iconst 1, 1) := by decide +kernel
theorem dL_law_925 : decode cL_law 925 = .ok (.iadd, 1) := by decide +kernel
theorem dL_law_926 : decode cL_law 926 = .ok (.iaload, 1) := by decide +kernel
theorem dL_law_927 : decode cL_law 927 = .ok (.aload_n 0, 1) := by decide +kernel
theorem dL_law_928 : decode cL_law 928 = .ok (.iload_n 3, 1) := by decide +kernel
theorem dL_law_929 : decode cL_law 929 = .ok (.iconst 2, 1) := by decide +kernel
theorem dL_law_930 : decode cL_law 930 = .ok (.iadd, 1) := by decide +kernel
theorem dL_law_931 : decode cL_law 931 = .ok (.iaload, 1) := by decide +kernel
theorem dL_law_932 : decode cL_law 932 = .ok (.invokevirtual 124, 3) := by decide +kernel
theorem dL_law_935 : decode cL_law 935 = .ok (.if_icmp .eq 300, 3) := by decide +kernel
theorem dL_law_938 : decode cL_law 938 = .ok (.iconst 0, 1) := by decide +kernel
theorem dL_law_939 : decode cL_law 939 = .ok (.ireturn, 1) := by decide +kernel
theorem dL_law_940 : decode cL_law 940 = .ok (.aload_n 1, 1) := by decide +kernel
theorem dL_law_941 : decode cL_law 941 = .ok (.aload_n 0, 1) := by decide +kernel
theorem dL_law_942 : decode cL_law 942 = .ok (.iload_n 3, 1) := by decide +kernel
theorem dL_law_943 : decode cL_law 943 = .ok (.iconst 1, 1) := by decide +kernel
theorem dL_law_944 : decode cL_law 944 = .ok (.iadd, 1) := by decide +kernel
theorem dL_law_945 : decode cL_law 945 = .ok (.iaload, 1) := by decide +kernel
theorem dL_law_946 : decode cL_law 946 = .ok (.aload_n 0, 1) := by decide +kernel
theorem dL_law_947 : decode cL_law 947 = .ok (.iload_n 3, 1) := by decide +kernel
theorem dL_law_948 : decode cL_law 948 = .ok (.iconst 2, 1) := by decide +kernel
theorem dL_law_949 : decode cL_law 949 = .ok (.iadd, 1) := by decide +kernel
theorem dL_law_950 : decode cL_law 950 = .ok (.iaload, 1) := by decide +kernel
theorem dL_law_951 : decode cL_law 951 = .ok (.aload_n 0, 1) := by decide +kernel
theorem dL_law_952 : decode cL_law 952 = .ok (.iload_n 3, 1) := by decide +kernel
theorem dL_law_953 : decode cL_law 953 = .ok (.iconst 3, 1) := by decide +kernel
theorem dL_law_954 : decode cL_law 954 = .ok (.iadd, 1) := by decide +kernel
theorem dL_law_955 : decode cL_law 955 = .ok (.iaload, 1) := by decide +kernel
theorem dL_law_956 : decode cL_law 956 = .ok (.invokevirtual 125, 3) := by decide +kernel
theorem dL_law_959 : decode cL_law 959 = .ok (.aload_n 2, 1) := by decide +kernel
theorem dL_law_960 : decode cL_law 960 = .ok (.aload_n 0, 1) := by decide +kernel
theorem dL_law_961 : decode cL_law 961 = .ok (.iload_n 3, 1) := by decide +kernel
theorem dL_law_962 : decode cL_law 962 = .ok (.iconst 1, 1) := by decide +kernel
theorem dL_law_963 : decode cL_law 963 = .ok (.iadd, 1) := by decide +kernel
theorem dL_law_964 : decode cL_law 964 = .ok (.iaload, 1) := by decide +kernel
theorem dL_law_965 : decode cL_law 965 = .ok (.aload_n 0, 1) := by decide +kernel
theorem dL_law_966 : decode cL_law 966 = .ok (.iload_n 3, 1) := by decide +kernel
theorem dL_law_967 : decode cL_law 967 = .ok (.iconst 2, 1) := by decide +kernel
theorem dL_law_968 : decode cL_law 968 = .ok (.iadd, 1) := by decide +kernel
theorem dL_law_969 : decode cL_law 969 = .ok (.iaload, 1) := by decide +kernel
theorem dL_law_970 : decode cL_law 970 = .ok (.aload_n 0, 1) := by decide +kernel
theorem dL_law_971 : decode cL_law 971 = .ok (.iload_n 3, 1) := by decide +kernel
theorem dL_law_972 : decode cL_law 972 = .ok (.iconst 3, 1) := by decide +kernel
theorem dL_law_973 : decode cL_law 973 = .ok (.iadd, 1) := by decide +kernel
theorem dL_law_974 : decode cL_law 974 = .ok (.iaload, 1) := by decide +kernel
theorem dL_law_975 : decode cL_law 975 = .ok (.invokevirtual 129, 3) := by decide +kernel
theorem dL_law_978 : decode cL_law 978 = .ok (.if_icmp .eq 257, 3) := by decide +kernel
theorem dL_law_981 : decode cL_law 981 = .ok (.iconst 0, 1) := by decide +kernel
theorem dL_law_982 : decode cL_law 982 = .ok (.ireturn, 1) := by decide +kernel
theorem dL_law_983 : decode cL_law 983 = .ok (.aload_n 1, 1) := by decide +kernel
theorem dL_law_984 : decode cL_law 984 = .ok (.aload_n 0, 1) := by decide +kernel
theorem dL_law_985 : decode cL_law 985 = .ok (.iload_n 3, 1) := by decide +kernel
theorem dL_law_986 : decode cL_law 986 = .ok (.iconst 1, 1) := by decide +kernel
theorem dL_law_987 : decode cL_law 987 = .ok (.iadd, 1) := by decide +kernel
theorem dL_law_988 : decode cL_law 988 = .ok (.iaload, 1) := by decide +kernel
theorem dL_law_989 : decode cL_law 989 = .ok (.invokevirtual 130, 3) := by decide +kernel
theorem dL_law_992 : decode cL_law 992 = .ok (.aload_n 2, 1) := by decide +kernel
theorem dL_law_993 : decode cL_law 993 = .ok (.aload_n 0, 1) := by decide +kernel
theorem dL_law_994 : decode cL_law 994 = .ok (.iload_n 3, 1) := by decide +kernel
theorem dL_law_995 : decode cL_law 995 = .ok (.iconst 1, 1) := by decide +kernel
theorem dL_law_996 : decode cL_law 996 = .ok (.iadd, 1) := by decide +kernel
theorem dL_law_997 : decode cL_law 997 = .ok (.iaload, 1) := by decide +kernel
theorem dL_law_998 : decode cL_law 998 = .ok (.invokevirtual 133, 3) := by decide +kernel
theorem dL_law_1001 : decode cL_law 1001 = .ok (.if_icmp .eq 234, 3) := by decide +kernel
theorem dL_law_1004 : decode cL_law 1004 = .ok (.iconst 0, 1) := by decide +kernel
theorem dL_law_1005 : decode cL_law 1005 = .ok (.ireturn, 1) := by decide +kernel
theorem dL_law_1006 : decode cL_law 1006 = .ok (.aload_n 1, 1) := by decide +kernel
theorem dL_law_1007 : decode cL_law 1007 = .ok (.aload_n 0, 1) := by decide +kernel
theorem dL_law_1008 : decode cL_law 1008 = .ok (.iload_n 3, 1) := by decide +kernel
theorem dL_law_1009 : decode cL_law 1009 = .ok (.iconst 1, 1) := by decide +kernel
theorem dL_law_1010 : decode cL_law 1010 = .ok (.iadd, 1) := by decide +kernel
theorem dL_law_1011 : decode cL_law 1011 = .ok (.iaload, 1) := by decide +kernel
theorem dL_law_1012 : decode cL_law 1012 = .ok (.aload_n 0, 1) := by decide +kernel
theorem dL_law_1013 : decode cL_law 1013 = .ok (.iload_n 3, 1) := by decide +kernel
theorem dL_law_1014 : decode cL_law 1014 = .ok (.iconst 2, 1) := by decide +kernel
theorem dL_law_1015 : decode cL_law 1015 = .ok (.iadd, 1) := by decide +kernel
theorem dL_law_1016 : decode cL_law 1016 = .ok (.iaload, 1) := by decide +kernel
theorem dL_law_1017 : decode cL_law 1017 = .ok (.aload_n 0, 1) := by decide +kernel
theorem dL_law_1018 : decode cL_law 1018 = .ok (.iload_n 3, 1) := by decide +kernel
theorem dL_law_1019 : decode cL_law 1019 = .ok (.iconst 3, 1) := by decide +kernel
theorem dL_law_1020 : decode cL_law 1020 = .ok (.iadd, 1) := by decide +kernel
theorem dL_law_1021 : decode cL_law 1021 = .ok (.iaload, 1) := by decide +kernel
theorem dL_law_1022 : decode cL_law 1022 = .ok (.aload_n 0, 1) := by decide +kernel
theorem dL_law_1023 : decode cL_law 1023 = .ok (.iload_n 3, 1) := by decide +kernel
theorem dL_law_1024 : decode cL_law 1024 = .ok (.iconst 4, 1) := by decide +kernel
theorem dL_law_1025 : decode cL_law 1025 = .ok (.iadd, 1) := by decide +kernel
theorem dL_law_1026 : decode cL_law 1026 = .ok (.iaload, 1) := by decide +kernel
theorem dL_law_1027 : decode cL_law 1027 = .ok (.invokevirtual 134, 3) := by decide +kernel
theorem dL_law_1030 : decode cL_law 1030 = .ok (.aload_n 2, 1) := by decide +kernel
theorem dL_law_1031 : decode cL_law 1031 = .ok (.aload_n 0, 1) := by decide +kernel
theorem dL_law_1032 : decode cL_law 1032 = .ok (.iload_n 3, 1) := by decide +kernel
theorem dL_law_1033 : decode cL_law 1033 = .ok (.iconst 1, 1) := by decide +kernel
theorem dL_law_1034 : decode cL_law 1034 = .ok (.iadd, 1) := by decide +kernel
theorem dL_law_1035 : decode cL_law 1035 = .ok (.iaload, 1) := by decide +kernel
theorem dL_law_1036 : decode cL_law 1036 = .ok (.aload_n 0, 1) := by decide +kernel
theorem dL_law_1037 : decode cL_law 1037 = .ok (.iload_n 3, 1) := by decide +kernel
theorem dL_law_1038 : decode cL_law 1038 = .ok (.iconst 2, 1) := by decide +kernel
theorem dL_law_1039 : decode cL_law 1039 = .ok (.iadd, 1) := by decide +kernel
theorem dL_law_1040 : decode cL_law 1040 = .ok (.iaload, 1) := by decide +kernel
theorem dL_law_1041 : decode cL_law 1041 = .ok (.aload_n 0, 1) := by decide +kernel
theorem dL_law_1042 : decode cL_law 1042 = .ok (.iload_n 3, 1) := by decide +kernel
theorem dL_law_1043 : decode cL_law 1043 = .ok (.iconst 3, 1) := by decide +kernel
theorem dL_law_1044 : decode cL_law 1044 = .ok (.iadd, 1) := by decide +kernel
theorem dL_law_1045 : decode cL_law 1045 = .ok (.iaload, 1) := by decide +kernel
theorem dL_law_1046 : decode cL_law 1046 = .ok (.aload_n 0, 1) := by decide +kernel
theorem dL_law_1047 : decode cL_law 1047 = .ok (.iload_n 3, 1) := by decide +kernel
theorem dL_law_1048 : decode cL_law 1048 = .ok (.iconst 4, 1) := by decide +kernel
theorem dL_law_1049 : decode cL_law 1049 = .ok (.iadd, 1) := by decide +kernel
theorem dL_law_1050 : decode cL_law 1050 = .ok (.iaload, 1) := by decide +kernel
theorem dL_law_1051 : decode cL_law 1051 = .ok (.invokevirtual 138, 3) := by decide +kernel
theorem dL_law_1054 : decode cL_law 1054 = .ok (.if_icmp .eq 181, 3) := by decide +kernel
theorem dL_law_1057 : decode cL_law 1057 = .ok (.iconst 0, 1) := by decide +kernel
theorem dL_law_1058 : decode cL_law 1058 = .ok (.ireturn, 1) := by decide +kernel
theorem dL_law_1059 : decode cL_law 1059 = .ok (.aload_n 1, 1) := by decide +kernel
theorem dL_law_1060 : decode cL_law 1060 = .ok (.aload_n 0, 1) := by decide +kernel
theorem dL_law_1061 : decode cL_law 1061 = .ok (.iload_n 3, 1) := by decide +kernel
theorem dL_law_1062 : decode cL_law 1062 = .ok (.iconst 1, 1) := by decide +kernel
theorem dL_law_1063 : decode cL_law 1063 = .ok (.iadd, 1) := by decide +kernel
theorem dL_law_1064 : decode cL_law 1064 = .ok (.iaload, 1) := by decide +kernel
theorem dL_law_1065 : decode cL_law 1065 = .ok (.aload_n 0, 1) := by decide +kernel
theorem dL_law_1066 : decode cL_law 1066 = .ok (.iload_n 3, 1) := by decide +kernel
theorem dL_law_1067 : decode cL_law 1067 = .ok (.iconst 2, 1) := by decide +kernel
theorem dL_law_1068 : decode cL_law 1068 = .ok (.iadd, 1) := by decide +kernel
theorem dL_law_1069 : decode cL_law 1069 = .ok (.iaload, 1) := by decide +kernel
theorem dL_law_1070 : decode cL_law 1070 = .ok (.aload_n 0, 1) := by decide +kernel
theorem dL_law_1071 : decode cL_law 1071 = .ok (.iload_n 3, 1) := by decide +kernel
theorem dL_law_1072 : decode cL_law 1072 = .ok (.iconst 3, 1) := by decide +kernel
theorem dL_law_1073 : decode cL_law 1073 = .ok (.iadd, 1) := by decide +kernel
theorem dL_law_1074 : decode cL_law 1074 = .ok (.iaload, 1) := by decide +kernel
theorem dL_law_1075 : decode cL_law 1075 = .ok (.invokevirtual 139, 3) := by decide +kernel
theorem dL_law_1078 : decode cL_law 1078 = .ok (.aload_n 2, 1) := by decide +kernel
theorem dL_law_1079 : decode cL_law 1079 = .ok (.aload_n 0, 1) := by decide +kernel
theorem dL_law_1080 : decode cL_law 1080 = .ok (.iload_n 3, 1) := by decide +kernel
theorem dL_law_1081 : decode cL_law 1081 = .ok (.iconst 1, 1) := by decide +kernel
theorem dL_law_1082 : decode cL_law 1082 = .ok (.iadd, 1) := by decide +kernel
theorem dL_law_1083 : decode cL_law 1083 = .ok (.iaload, 1) := by decide +kernel
theorem dL_law_1084 : decode cL_law 1084 = .ok (.aload_n 0, 1) := by decide +kernel
theorem dL_law_1085 : decode cL_law 1085 = .ok (.iload_n 3, 1) := by decide +kernel
theorem dL_law_1086 : decode cL_law 1086 = .ok (.iconst 2, 1) := by decide +kernel
theorem dL_law_1087 : decode cL_law 1087 = .ok (.iadd, 1) := by decide +kernel
theorem dL_law_1088 : decode cL_law 1088 = .ok (.iaload, 1) := by decide +kernel
theorem dL_law_1089 : decode cL_law 1089 = .ok (.aload_n 0, 1) := by decide +kernel
theorem dL_law_1090 : decode cL_law 1090 = .ok (.iload_n 3, 1) := by decide +kernel
theorem dL_law_1091 : decode cL_law 1091 = .ok (.iconst 3, 1) := by decide +kernel
theorem dL_law_1092 : decode cL_law 1092 = .ok (.iadd, 1) := by decide +kernel
theorem dL_law_1093 : decode cL_law 1093 = .ok (.iaload, 1) := by decide +kernel
theorem dL_law_1094 : decode cL_law 1094 = .ok (.invokevirtual 142, 3) := by decide +kernel
theorem dL_law_1097 : decode cL_law 1097 = .ok (.if_icmp .eq 138, 3) := by decide +kernel
theorem dL_law_1100 : decode cL_law 1100 = .ok (.iconst 0, 1) := by decide +kernel
theorem dL_law_1101 : decode cL_law 1101 = .ok (.ireturn, 1) := by decide +kernel
theorem dL_law_1102 : decode cL_law 1102 = .ok (.aload_n 1, 1) := by decide +kernel
theorem dL_law_1103 : decode cL_law 1103 = .ok (.aload_n 0, 1) := by decide +kernel
theorem dL_law_1104 : decode cL_law 1104 = .ok (.iload_n 3, 1) := by decide +kernel
theorem dL_law_1105 : decode cL_law 1105 = .ok (.iconst 1, 1) := by decide +kernel
theorem dL_law_1106 : decode cL_law 1106 = .ok (.iadd, 1) := by decide +kernel
theorem dL_law_1107 : decode cL_law 1107 = .ok (.iaload, 1) := by decide +kernel
theorem dL_law_1108 : decode cL_law 1108 = .ok (.aload_n 0, 1) := by decide +kernel
theorem dL_law_1109 : decode cL_law 1109 = .ok (.iload_n 3, 1) := by decide +kernel
theorem dL_law_1110 : decode cL_law 1110 = .ok (.iconst 2, 1) := by decide +kernel
theorem dL_law_1111 : decode cL_law 1111 = .ok (.iadd, 1) := by decide +kernel
theorem dL_law_1112 : decode cL_law 1112 = .ok (.iaload, 1) := by decide +kernel
theorem dL_law_1113 : decode cL_law 1113 = .ok (.aload_n 0, 1) := by decide +kernel
theorem dL_law_1114 : decode cL_law 1114 = .ok (.iload_n 3, 1) := by decide +kernel
theorem dL_law_1115 : decode cL_law 1115 = .ok (.iconst 3, 1) := by decide +kernel
theorem dL_law_1116 : decode cL_law 1116 = .ok (.iadd, 1) := by decide +kernel
theorem dL_law_1117 : decode cL_law 1117 = .ok (.iaload, 1) := by decide +kernel
theorem dL_law_1118 : decode cL_law 1118 = .ok (.aload_n 0, 1) := by decide +kernel
theorem dL_law_1119 : decode cL_law 1119 = .ok (.iload_n 3, 1) := by decide +kernel
theorem dL_law_1120 : decode cL_law 1120 = .ok (.iconst 4, 1) := by decide +kernel
theorem dL_law_1121 : decode cL_law 1121 = .ok (.iadd, 1) := by decide +kernel
theorem dL_law_1122 : decode cL_law 1122 = .ok (.iaload, 1) := by decide +kernel
theorem dL_law_1123 : decode cL_law 1123 = .ok (.aload_n 0, 1) := by decide +kernel
theorem dL_law_1124 : decode cL_law 1124 = .ok (.iload_n 3, 1) := by decide +kernel
theorem dL_law_1125 : decode cL_law 1125 = .ok (.iconst 5, 1) := by decide +kernel
theorem dL_law_1126 : decode cL_law 1126 = .ok (.iadd, 1) := by decide +kernel
theorem dL_law_1127 : decode cL_law 1127 = .ok (.iaload, 1) := by decide +kernel
theorem dL_law_1128 : decode cL_law 1128 = .ok (.invokevirtual 143, 3) := by decide +kernel
theorem dL_law_1131 : decode cL_law 1131 = .ok (.aload_n 2, 1) := by decide +kernel
theorem dL_law_1132 : decode cL_law 1132 = .ok (.aload_n 0, 1) := by decide +kernel
theorem dL_law_1133 : decode cL_law 1133 = .ok (.iload_n 3, 1) := by decide +kernel
theorem dL_law_1134 : decode cL_law 1134 = .ok (.iconst 1, 1) := by decide +kernel
theorem dL_law_1135 : decode cL_law 1135 = .ok (.iadd, 1) := by decide +kernel
theorem dL_law_1136 : decode cL_law 1136 = .ok (.iaload, 1) := by decide +kernel
theorem dL_law_1137 : decode cL_law 1137 = .ok (.aload_n 0, 1) := by decide +kernel
theorem dL_law_1138 : decode cL_law 1138 = .ok (.iload_n 3, 1) := by decide +kernel
theorem dL_law_1139 : decode cL_law 1139 = .ok (.iconst 2, 1) := by decide +kernel
theorem dL_law_1140 : decode cL_law 1140 = .ok (.iadd, 1) := by decide +kernel
theorem dL_law_1141 : decode cL_law 1141 = .ok (.iaload, 1) := by decide +kernel
theorem dL_law_1142 : decode cL_law 1142 = .ok (.aload_n 0, 1) := by decide +kernel
theorem dL_law_1143 : decode cL_law 1143 = .ok (.iload_n 3, 1) := by decide +kernel
theorem dL_law_1144 : decode cL_law 1144 = .ok (.iconst 3, 1) := by decide +kernel
theorem dL_law_1145 : decode cL_law 1145 = .ok (.iadd, 1) := by decide +kernel
theorem dL_law_1146 : decode cL_law 1146 = .ok (.iaload, 1) := by decide +kernel
theorem dL_law_1147 : decode cL_law 1147 = .ok (.aload_n 0, 1) := by decide +kernel
theorem dL_law_1148 : decode cL_law 1148 = .ok (.iload_n 3, 1) := by decide +kernel
theorem dL_law_1149 : decode cL_law 1149 = .ok (.iconst 4, 1) := by decide +kernel
theorem dL_law_1150 : decode cL_law 1150 = .ok (.iadd, 1) := by decide +kernel
theorem dL_law_1151 : decode cL_law 1151 = .ok (.iaload, 1) := by decide +kernel
theorem dL_law_1152 : decode cL_law 1152 = .ok (.aload_n 0, 1) := by decide +kernel
theorem dL_law_1153 : decode cL_law 1153 = .ok (.iload_n 3, 1) := by decide +kernel
theorem dL_law_1154 : decode cL_law 1154 = .ok (.iconst 5, 1) := by decide +kernel
theorem dL_law_1155 : decode cL_law 1155 = .ok (.iadd, 1) := by decide +kernel
theorem dL_law_1156 : decode cL_law 1156 = .ok (.iaload, 1) := by decide +kernel
theorem dL_law_1157 : decode cL_law 1157 = .ok (.invokevirtual 147, 3) := by decide +kernel
theorem dL_law_1160 : decode cL_law 1160 = .ok (.if_icmp .eq 75, 3) := by decide +kernel
theorem dL_law_1163 : decode cL_law 1163 = .ok (.iconst 0, 1) := by decide +kernel
theorem dL_law_1164 : decode cL_law 1164 = .ok (.ireturn, 1) := by decide +kernel
theorem dL_law_1165 : decode cL_law 1165 = .ok (.aload_n 1, 1) := by decide +kernel
theorem dL_law_1166 : decode cL_law 1166 = .ok (.aload_n 0, 1) := by decide +kernel
theorem dL_law_1167 : decode cL_law 1167 = .ok (.iload_n 3, 1) := by decide +kernel
theorem dL_law_1168 : decode cL_law 1168 = .ok (.iconst 1, 1) := by decide +kernel
theorem dL_law_1169 : decode cL_law 1169 = .ok (.iadd, 1) := by decide +kernel
theorem dL_law_1170 : decode cL_law 1170 = .ok (.iaload, 1) := by decide +kernel
theorem dL_law_1171 : decode cL_law 1171 = .ok (.aload_n 0, 1) := by decide +kernel
theorem dL_law_1172 : decode cL_law 1172 = .ok (.iload_n 3, 1) := by decide +kernel
theorem dL_law_1173 : decode cL_law 1173 = .ok (.iconst 2, 1) := by decide +kernel
theorem dL_law_1174 : decode cL_law 1174 = .ok (.iadd, 1) := by decide +kernel
theorem dL_law_1175 : decode cL_law 1175 = .ok (.iaload, 1) := by decide +kernel
theorem dL_law_1176 : decode cL_law 1176 = .ok (.invokevirtual 148, 3) := by decide +kernel
theorem dL_law_1179 : decode cL_law 1179 = .ok (.aload_n 2, 1) := by decide +kernel
theorem dL_law_1180 : decode cL_law 1180 = .ok (.aload_n 0, 1) := by decide +kernel
theorem dL_law_1181 : decode cL_law 1181 = .ok (.iload_n 3, 1) := by decide +kernel
theorem dL_law_1182 : decode cL_law 1182 = .ok (.iconst 1, 1) := by decide +kernel
theorem dL_law_1183 : decode cL_law 1183 = .ok (.iadd, 1) := by decide +kernel
theorem dL_law_1184 : decode cL_law 1184 = .ok (.iaload, 1) := by decide +kernel
theorem dL_law_1185 : decode cL_law 1185 = .ok (.aload_n 0, 1) := by decide +kernel
theorem dL_law_1186 : decode cL_law 1186 = .ok (.iload_n 3, 1) := by decide +kernel
theorem dL_law_1187 : decode cL_law 1187 = .ok (.iconst 2, 1) := by decide +kernel
theorem dL_law_1188 : decode cL_law 1188 = .ok (.iadd, 1) := by decide +kernel
theorem dL_law_1189 : decode cL_law 1189 = .ok (.iaload, 1) := by decide +kernel
theorem dL_law_1190 : decode cL_law 1190 = .ok (.invokevirtual 151, 3) := by decide +kernel
theorem dL_law_1193 : decode cL_law 1193 = .ok (.if_icmp .eq 42, 3) := by decide +kernel
theorem dL_law_1196 : decode cL_law 1196 = .ok (.iconst 0, 1) := by decide +kernel
theorem dL_law_1197 : decode cL_law 1197 = .ok (.ireturn, 1) := by decide +kernel
theorem dL_law_1198 : decode cL_law 1198 = .ok (.aload_n 1, 1) := by decide +kernel
theorem dL_law_1199 : decode cL_law 1199 = .ok (.aload_n 0, 1) := by decide +kernel
theorem dL_law_1200 : decode cL_law 1200 = .ok (.iload_n 3, 1) := by decide +kernel
theorem dL_law_1201 : decode cL_law 1201 = .ok (.iconst 1, 1) := by decide +kernel
theorem dL_law_1202 : decode cL_law 1202 = .ok (.iadd, 1) := by decide +kernel
theorem dL_law_1203 : decode cL_law 1203 = .ok (.iaload, 1) := by decide +kernel
theorem dL_law_1204 : decode cL_law 1204 = .ok (.invokevirtual 152, 3) := by decide +kernel
theorem dL_law_1207 : decode cL_law 1207 = .ok (.aload_n 2, 1) := by decide +kernel
theorem dL_law_1208 : decode cL_law 1208 = .ok (.aload_n 0, 1) := by decide +kernel
theorem dL_law_1209 : decode cL_law 1209 = .ok (.iload_n 3, 1) := by decide +kernel
theorem dL_law_1210 : decode cL_law 1210 = .ok (.iconst 1, 1) := by decide +kernel
theorem dL_law_1211 : decode cL_law 1211 = .ok (.iadd, 1) := by decide +kernel
theorem dL_law_1212 : decode cL_law 1212 = .ok (.iaload, 1) := by decide +kernel
theorem dL_law_1213 : decode cL_law 1213 = .ok (.invokevirtual 155, 3) := by decide +kernel
theorem dL_law_1216 : decode cL_law 1216 = .ok (.if_icmp .eq 19, 3) := by decide +kernel
theorem dL_law_1219 : decode cL_law 1219 = .ok (.iconst 0, 1) := by decide +kernel
theorem dL_law_1220 : decode cL_law 1220 = .ok (.ireturn, 1) := by decide +kernel
theorem dL_law_1221 : decode cL_law 1221 = .ok (.aload_n 1, 1) := by decide +kernel
theorem dL_law_1222 : decode cL_law 1222 = .ok (.invokevirtual 156, 3) := by decide +kernel
theorem dL_law_1225 : decode cL_law 1225 = .ok (.aload_n 2, 1) := by decide +kernel
theorem dL_law_1226 : decode cL_law 1226 = .ok (.invokevirtual 160, 3) := by decide +kernel
theorem dL_law_1229 : decode cL_law 1229 = .ok (.lcmp, 1) := by decide +kernel
theorem dL_law_1230 : decode cL_law 1230 = .ok (.ifCond .eq 5, 3) := by decide +kernel
theorem dL_law_1233 : decode cL_law 1233 = .ok (.iconst 0, 1) := by decide +kernel
theorem dL_law_1234 : decode cL_law 1234 = .ok (.ireturn, 1) := by decide +kernel
theorem dL_law_1235 : decode cL_law 1235 = .ok (.iinc 3 6, 3) := by decide +kernel
theorem dL_law_1238 : decode cL_law 1238 = .ok (.goto (-1220), 3) := by decide +kernel
theorem dL_law_1241 : decode cL_law 1241 = .ok (.iconst 1, 1) := by decide +kernel
theorem dL_law_1242 : decode cL_law 1242 = .ok (.ireturn, 1) := by decide +kernel
end
section
/-! MY OWN LAYER: a fixed world of cells, whose ints are the memory M : cell -> place -> Int32; a judgement cb_J over it, one row an instruction. -/
abbrev cb_Geo : Type := va_G × (Nat → Nat) × (Nat → ClassId) × (Nat → Nat)
abbrev cb_Mem : Type := Nat → Nat → Int32
/-- a world: how many cells, what each is, the array classes -/
abbrev cb_Wd : Type := Nat × (cb_Geo → Nat → (Nat → Int32) → va_E) × (cb_Geo → List (ClassId × FieldType))
def cb_wl (w : cb_Wd) (g : cb_Geo) (M : cb_Mem) : va_W := (List.range w.1).map fun k => (g.2.1 k, w.2.1 g k (M k))
def cb_A (w : cb_Wd) (g : cb_Geo) : Nat → Prop := fun q => ∃ k, k < w.1 ∧ q = g.2.1 k
def cb_row (M : cb_Mem) (q : Nat) (r : Nat → Int32) : cb_Mem := fun k => if k = q then r else M k
def cb_up (M : cb_Mem) (q j : Nat) (v : Int32) : cb_Mem := cb_row M q (upd (M q) j v)
theorem cb_wl_get (w : cb_Wd) (g : cb_Geo) (M : cb_Mem) {q : Nat} (h : q < w.1) : (cb_wl w g M)[q]? = some (g.2.1 q, w.2.1 g q (M q)) := by
  unfold cb_wl
  rw [List.getElem?_map, List.getElem?_range h]
  rfl
theorem cb_wl_len (w : cb_Wd) (g : cb_Geo) (M : cb_Mem) : (cb_wl w g M).length = w.1 := by
  unfold cb_wl
  rw [List.length_map, List.length_range]
theorem cb_wl_set (w : cb_Wd) (g : cb_Geo) (M : cb_Mem) {q : Nat} (h : q < w.1) (r : Nat → Int32) : (cb_wl w g M).set q (g.2.1 q, w.2.1 g q r) = cb_wl w g (cb_row M q r) := by
  apply List.ext_getElem?
  intro i
  rw [List.getElem?_set]
  by_cases e : q = i
  · subst e
    rw [if_pos rfl, if_pos (by rw [cb_wl_len]; exact h), cb_wl_get w g _ h]
    simp [cb_row]
  · rw [if_neg e]
    by_cases hi : i < w.1
    · rw [cb_wl_get w g _ hi, cb_wl_get w g _ hi]
      simp [cb_row, Ne.symm e]
    · rw [List.getElem?_eq_none (by rw [cb_wl_len]; omega), List.getElem?_eq_none (by rw [cb_wl_len]; omega)]
theorem cb_wl_D {w : cb_Wd} {g : cb_Geo} {M : cb_Mem} (h : ∀ i j, i < w.1 → j < w.1 → g.2.1 i = g.2.1 j → i = j) : va_D (cb_A w g) (cb_wl w g M) := by
  have key : ∀ (k : Nat) (x : Nat × va_E), (cb_wl w g M)[k]? = some x → k < w.1 ∧ x.1 = g.2.1 k := by
    intro k x hx
    have hk : k < w.1 := by
      have := (List.getElem?_eq_some_iff.mp hx).1
      rw [cb_wl_len] at this
      exact this
    rw [cb_wl_get w g M hk] at hx
    exact ⟨hk, by rw [← Option.some.inj hx]⟩
  refine ⟨fun i j x y hi hj hxy => ?_, fun k x hx => ?_⟩
  · obtain ⟨h1, h2⟩ := key i x hi
    obtain ⟨h3, h4⟩ := key j y hj
    exact h i j h1 h3 (by rw [← h2, ← h4]; exact hxy)
  · obtain ⟨h1, h2⟩ := key k x hx
    exact ⟨k, h1, h2⟩
/-! words: one list for all methods -/
def cb_ws : List Cond := lw_tbl.filter goodWord
theorem cb_wm (i : Nat) {c : Cond} (h : lw_tbl[i]? = some c) (hg : goodWord c = true) : c ∈ cb_ws := List.mem_filter.mpr ⟨List.mem_of_getElem? h, hg⟩
theorem cb_good {big : List Cond} (hb : ∀ x ∈ cb_ws, x ∈ big) {ws : List Cond} (h : ∀ x ∈ ws, x ∈ cb_ws) : GoodIn big ws := fun x hx => ⟨hb x (h x hx), good_of_word (List.mem_filter.mp (h x hx)).2⟩
theorem cb_in_cons {c : Cond} (hc : c ∈ cb_ws) : ∀ x ∈ c :: cb_ws, x ∈ cb_ws := fun x hx => (List.mem_cons.mp hx).elim (fun e => e ▸ hc) id
def cb_rm (d : Nat) : Room := { frames := d, cells := 0, slots := 0, locals := 38 * d }
theorem cb_rm_ok {d d' nL : Nat} (h : d' < d) (hn : nL ≤ 19) : (cb_rm d').frames + 1 ≤ (cb_rm d).frames ∧ 8 + (nL + 11) + (cb_rm d').locals ≤ (cb_rm d).locals := by
  refine ⟨h, ?_⟩
  show 8 + (nL + 11) + 38 * d' ≤ 38 * d
  omega
/-! constants outside the world: strings, static arrays -/
def cb_kept : List Int32 := [0, 1, 2, 4, 8, 16, 32, 64, 128, 3, 5, 9, 17, 33, 65, 129, 6, 10, 18, 34, 66, 130, 12, 20, 36, 68, 132, 24, 40, 72, 136, 48, 80, 144, 96, 160, 192]
def cb_ripe : List Int32 := [3, 5, 1]
def cb_byt : List (List Int32) := [[115, 114, 112], [115, 114, 112, 97]]
def cb_nest : List Cond := lw_tbl.filter fun c => match c with
  | .methodLinkNest _ _ _ _ => true
  | .fieldLinkNest _ _ _ _ _ _ => true
  | _ => false
def cb_X (g : cb_Geo) (A : Nat → Prop) (U : State) (H : Heap) : Prop :=
  va_Z RX6 "KEPT_OFF" "[I" (.ref (g.2.2.2 4)) A U H ∧ va_T .int (g.2.2.2 4) 37 (fun j => .int (cb_kept.getD j 0)) A U H ∧
  va_Z RX6 "RIPE_DAYS" "[I" (.ref (g.2.2.2 5)) A U H ∧ va_T .int (g.2.2.2 5) 3 (fun j => .int (cb_ripe.getD j 0)) A U H ∧
  va_Z "java/lang/String" "COMPACT_STRINGS" "Z" (.int 1) A U H ∧
  vk_S 2 [3, 4] cb_byt (fun i => g.2.2.2 (2 * i)) (fun i => g.2.2.2 (2 * i + 1)) A U H
theorem cb_X.moved {g : cb_Geo} {A : Nat → Prop} {u U : State} {H : Heap} (hvm : u.vm.Alike U.vm) (h : cb_X g A u H) : cb_X g A U H :=
  ⟨va_Z.moved hvm h.1, va_T.moved hvm h.2.1, va_Z.moved hvm h.2.2.1, va_T.moved hvm h.2.2.2.1, va_Z.moved hvm h.2.2.2.2.1, vk_S.moved hvm h.2.2.2.2.2⟩
theorem cb_X.kept {g : cb_Geo} {A : Nat → Prop} {U : State} {H H1 : Heap} (h : cb_X g A U H) (hq : ∀ a : Nat, a < H.size → ¬ A a → H1[a]? = H[a]?) : cb_X g A U H1 :=
  ⟨h.1.kept hq, h.2.1.kept hq, h.2.2.1.kept hq, h.2.2.2.1.kept hq, h.2.2.2.2.1.kept hq, h.2.2.2.2.2.kept hq⟩
theorem cb_X.narrow {g : cb_Geo} {A B : Nat → Prop} {U : State} {H : Heap} (h : cb_X g A U H) (hAB : ∀ q, B q → A q) : cb_X g B U H :=
  ⟨h.1.narrow hAB, h.2.1.narrow hAB, h.2.2.1.narrow hAB, h.2.2.2.1.narrow hAB, h.2.2.2.2.1.narrow hAB, h.2.2.2.2.2.narrow hAB⟩
/-- what holds of a state at every entry -/
def cb_B (w : cb_Wd) (g : cb_Geo) (U : State) : Prop := va_K g.1 vwCl (w.2.2 g) U ∧ (∀ x ∈ cb_nest, va_Nw x U) ∧ cb_X g (cb_A w g) U U.heap ∧ ∀ i j, i < w.1 → j < w.1 → g.2.1 i = g.2.1 j → i = j
theorem cb_nest_kind {x : Cond} (h : x ∈ cb_nest) : (∃ a i y b, x = .methodLinkNest a i y b) ∨ ∃ a i b n d k, x = .fieldLinkNest a i b n d k := by
  have h2 := (List.mem_filter.mp h).2
  cases x <;> first | exact Or.inl ⟨_, _, _, _, rfl⟩ | exact Or.inr ⟨_, _, _, _, _, _, rfl⟩ | (simp at h2)
theorem cb_B.warm {w : cb_Wd} {g : cb_Geo} {s U : State} {locs : List Loc} (hB : cb_B w g s) (hS : va_S (cb_A w g) s.heap U.heap locs) (hW : s.WarmedH U.vm) : cb_B w g U := by
  refine ⟨va_K.moved hW.alike hB.1, fun x hx => ?_, cb_X.kept (cb_X.moved hW.alike hB.2.2.1) hS.2.1, hB.2.2.2⟩
  have h := hB.2.1 x hx
  rcases cb_nest_kind hx with ⟨a, i, y, b, rfl⟩ | ⟨a, i, b, n, d, k, rfl⟩
  · exact va_Nw.warmM hW h
  · exact va_Nw.warmF hW h
theorem cb_B.calling {w : cb_Wd} {g : cb_Geo} {U : State} (h : cb_B w g U) (f : JFrame) (mk : MethodId) (a : Array Value) : cb_B w g (U.calling f mk a) := by
  refine ⟨va_K.moved (u := U) (U := U.calling f mk a) (Vm.Alike.refl U.vm) h.1, fun x hx => ?_, cb_X.moved (u := U) (U := U.calling f mk a) (Vm.Alike.refl U.vm) h.2.2.1, h.2.2.2⟩
  have h1 := h.2.1 x hx
  rcases cb_nest_kind hx with ⟨_, _, _, _, rfl⟩ | ⟨_, _, _, _, _, _, rfl⟩
  · exact va_Nw.same rfl (u := U) rfl h1
  · exact va_Nw.same rfl (u := U) rfl h1
def cb_Pc (w : cb_Wd) (g : cb_Geo) (As : List Value) (M : cb_Mem) : Array Value → State → Prop := va_Pc As (fun U => cb_B w g U ∧ va_P g.1 vwCl (cb_wl w g M) U.heap)
theorem cb_Pc.blind {w : cb_Wd} {g : cb_Geo} {As : List Value} {M : cb_Mem} : FrameBlind (cb_Pc w g As M) := fun a U f mk q => ⟨q.1, q.2.1.calling f mk a, q.2.2⟩
def cb_Qi (w : cb_Wd) (g : cb_Geo) (r : Int32) (M : cb_Mem) : Array Value → State → Outcome → State → Prop := va_Qi (fun x (_ : Unit) => x = r) (fun _ t => va_P g.1 vwCl (cb_wl w g M) t.heap) (cb_A w g)
def cb_Ql (w : cb_Wd) (g : cb_Geo) (r : Int64) (M : cb_Mem) : Array Value → State → Outcome → State → Prop := va_Ql (fun x (_ : Unit) => x = r) (fun _ t => va_P g.1 vwCl (cb_wl w g M) t.heap) (cb_A w g)
def cb_Qv (w : cb_Wd) (g : cb_Geo) (M : cb_Mem) : Array Value → State → Outcome → State → Prop := va_Qv (fun (_ : Unit) => True) (fun _ t => va_P g.1 vwCl (cb_wl w g M) t.heap) (cb_A w g)
/-- the machine at a method, as one thing -/
abbrev cb_Gam : Type := (Program × Launch × Env × Room) × (State × MethodId × Array Value × List Frame) × Method × Code × (State → Prop)
def cb_C (w : cb_Wd) (g : cb_Geo) (γ : cb_Gam) (own : String) (cc : ByteArray) (nL : Nat) (ret : Option FieldType) (d : Nat) (l : Launch) (Qc : Array Value → State → Outcome → State → Prop) : Prop :=
  γ.1.1.tables.exec = Jvm.exec ∧ γ.2.2.2.1.code = cc ∧ γ.2.2.2.1.maxLocals = nL ∧ γ.2.1.1.vm.findClass own = some γ.2.1.2.1.cls ∧ (∀ x ∈ cb_ws, x.before γ.2.1.2.2.1 γ.2.1.1 = true) ∧ cb_B w g γ.2.1.1 ∧ γ.2.2.1.sig.returnType = ret ∧ γ.2.2.1.locks = false ∧ γ.1.2.2.2 = cb_rm d ∧ γ.1.2.1 = l ∧
  γ.2.2.2.2 = MQ γ.2.1.2.2.2 Qc γ.2.1.2.2.1 γ.2.1.1 0 0 (cb_A w g)
def cb_J (w : cb_Wd) (g : cb_Geo) (γ : cb_Gam) (nL : Nat) (M : cb_Mem) (pc : Nat) (lv : List (Nat × Value)) (st : List Value) : Prop :=
  ∀ (H : Heap) (locs : List Loc) (ls : Array Slot), va_P g.1 vwCl (cb_wl w g M) H → va_S (cb_A w g) γ.2.1.1.heap H locs → lv_has ls nL lv →
    W γ.1.1 γ.1.2.1 γ.1.2.2.1 γ.1.2.2.2 γ.2.1.1 γ.2.1.2.1 γ.2.1.2.2.1 γ.2.1.2.2.2 γ.2.2.1 γ.2.2.2.1 H locs 0 0 γ.2.2.2.2 (F0 γ.2.1.2.1 pc ls st)
theorem cb_met {l : Launch} {w : cb_Wd} {g : cb_Geo} {y : MethodName} {cc : ByteArray} {nL d : Nat} {ret : Option FieldType} {As : List Value} {M : cb_Mem} {Qc : Array Value → State → Outcome → State → Prop} (hy : plainName y.cls = true) (hc : Cond.code y cc nL ret ∈ cb_ws) (hlen : (lg_sl As).length ≤ nL)
    (k : ∀ γ : cb_Gam, cb_C w g γ y.cls cc nL ret d l Qc → cb_J w g γ nL M 0 (lv_args 0 As) []) : Met l y (.code y cc nL ret :: cb_ws) (cb_rm d) (cb_Pc w g As M) Qc 0 0 (cb_A w g) := by
  refine Met.ofW (cc := cc) (maxL := nL) (ret := ret) hy rfl ?_
  intro p e s m args below meth c s₁ B hml hv
  obtain ⟨rfl, hB, hP⟩ := hv
  have hts := atoms_spec (ws := Cond.code y cc nL ret :: cb_ws) B.pre
  have hown : s.vm.findClass y.cls = some m.cls := findClass_of_methodNamed B.named
  have K := k ((p, l, e, cb_rm d), (s, m, As.toArray, below), meth, c, MQ below Qc As.toArray s 0 0 (cb_A w g)) ⟨B.exec, B.bytes, hml, hown, fun x hx => hts x (List.mem_cons_of_mem _ hx), hB, B.returns, B.notSynchronized, rfl, rfl, rfl⟩
  rw [lg_entry_eq]
  exact K s.heap [] _ hP va_S.rf (lv_entry As hlen)
end
section
section CBR
variable {w : cb_Wd} {g : cb_Geo} {γ : cb_Gam} {own : String} {cc : ByteArray} {nL : Nat} {ret : Option FieldType} {dp : Nat} {l : Launch} {Qc : Array Value → State → Outcome → State → Prop} {M : cb_Mem} {pc : Nat} {lv lv' : List (Nat × Value)} {st : List Value}
theorem cj_iconst (hC : cb_C w g γ own cc nL ret dp l Qc) {n : Int} {v : Int32} (d : decode cc pc = .ok (.iconst n, 1)) (hv : Int32.ofInt n = v) (k : cb_J w g γ nL M (pc + 1) lv (.int v :: st)) : cb_J w g γ nL M pc lv st := fun H locs ls hP hS hl => lv_iconst hC.1 hC.2.1 d hv (k H locs ls hP hS hl)
theorem cj_bipush (hC : cb_C w g γ own cc nL ret dp l Qc) {n : Int} {v : Int32} (d : decode cc pc = .ok (.bipush n, 2)) (hv : (Int8.ofInt n).toInt32 = v) (k : cb_J w g γ nL M (pc + 2) lv (.int v :: st)) : cb_J w g γ nL M pc lv st := fun H locs ls hP hS hl => lv_bipush hC.1 hC.2.1 d hv (k H locs ls hP hS hl)
theorem cj_sipush (hC : cb_C w g γ own cc nL ret dp l Qc) {n : Int} {v : Int32} (d : decode cc pc = .ok (.sipush n, 3)) (hv : (Int16.ofInt n).toInt32 = v) (k : cb_J w g γ nL M (pc + 3) lv (.int v :: st)) : cb_J w g γ nL M pc lv st := fun H locs ls hP hS hl => lv_sipush hC.1 hC.2.1 d hv (k H locs ls hP hS hl)
theorem cj_lconst (hC : cb_C w g γ own cc nL ret dp l Qc) {n : Fin 2} {v : Int64} (d : decode cc pc = .ok (.lconst n, 1)) (hv : Int64.ofNat (n : Nat) = v) (k : cb_J w g γ nL M (pc + 1) lv (.long v :: st)) : cb_J w g γ nL M pc lv st := fun H locs ls hP hS hl => lv_lconst hC.1 hC.2.1 d hv (k H locs ls hP hS hl)
theorem cj_iload_n (hC : cb_C w g γ own cc nL ret dp l Qc) {f : Fin 4} {i : Nat} {x : Int32} (d : decode cc pc = .ok (.iload_n f, 1)) (hi : (f : Nat) = i) (q : Nat) (hq : lv[q]? = some (i, .int x)) (k : cb_J w g γ nL M (pc + 1) lv (.int x :: st)) : cb_J w g γ nL M pc lv st := fun H locs ls hP hS hl => lv_iload_n hC.1 hC.2.1 d hi (lv_at hl q hq) (k H locs ls hP hS hl)
theorem cj_iload (hC : cb_C w g γ own cc nL ret dp l Qc) {i : Nat} {x : Int32} (d : decode cc pc = .ok (.iload i, 2)) (q : Nat) (hq : lv[q]? = some (i, .int x)) (k : cb_J w g γ nL M (pc + 2) lv (.int x :: st)) : cb_J w g γ nL M pc lv st := fun H locs ls hP hS hl => lv_iload hC.1 hC.2.1 d (lv_at hl q hq) (k H locs ls hP hS hl)
theorem cj_istore_n (hC : cb_C w g γ own cc nL ret dp l Qc) {f : Fin 4} {i : Nat} {x : Int32} (d : decode cc pc = .ok (.istore_n f, 1)) (hi : (f : Nat) = i) (hn : i < nL) (hl' : (i, Value.int x) :: lv.filter (fun q => !(q.1 == i) && !(q.1 + 1 == i && q.2.category == 2)) = lv') (k : cb_J w g γ nL M (pc + 1) lv' st) : cb_J w g γ nL M pc lv (.int x :: st) := fun H locs ls hP hS hl => lv_istore_n hC.1 hC.2.1 d hi hl hn hl' (fun ls' h => k H locs ls' hP hS h)
theorem cj_istore (hC : cb_C w g γ own cc nL ret dp l Qc) {i : Nat} {x : Int32} (d : decode cc pc = .ok (.istore i, 2)) (hn : i < nL) (hl' : (i, Value.int x) :: lv.filter (fun q => !(q.1 == i) && !(q.1 + 1 == i && q.2.category == 2)) = lv') (k : cb_J w g γ nL M (pc + 2) lv' st) : cb_J w g γ nL M pc lv (.int x :: st) := fun H locs ls hP hS hl => lv_istore hC.1 hC.2.1 d hl hn hl' (fun ls' h => k H locs ls' hP hS h)
theorem cj_lload_n (hC : cb_C w g γ own cc nL ret dp l Qc) {f : Fin 4} {i : Nat} {x : Int64} (d : decode cc pc = .ok (.lload_n f, 1)) (hi : (f : Nat) = i) (q : Nat) (hq : lv[q]? = some (i, .long x)) (k : cb_J w g γ nL M (pc + 1) lv (.long x :: st)) : cb_J w g γ nL M pc lv st := fun H locs ls hP hS hl => lv_lload_n hC.1 hC.2.1 d hi (lv_at hl q hq) (k H locs ls hP hS hl)
theorem cj_lload (hC : cb_C w g γ own cc nL ret dp l Qc) {i : Nat} {x : Int64} (d : decode cc pc = .ok (.lload i, 2)) (q : Nat) (hq : lv[q]? = some (i, .long x)) (k : cb_J w g γ nL M (pc + 2) lv (.long x :: st)) : cb_J w g γ nL M pc lv st := fun H locs ls hP hS hl => lv_lload hC.1 hC.2.1 d (lv_at hl q hq) (k H locs ls hP hS hl)
theorem cj_lstore_n (hC : cb_C w g γ own cc nL ret dp l Qc) {f : Fin 4} {i : Nat} {x : Int64} (d : decode cc pc = .ok (.lstore_n f, 1)) (hi : (f : Nat) = i) (hn : i + 1 < nL) (hl' : (i, Value.long x) :: lv.filter (fun q => !(q.1 == i) && (!(q.1 == i + 1) && !(q.1 + 1 == i && q.2.category == 2))) = lv') (k : cb_J w g γ nL M (pc + 1) lv' st) : cb_J w g γ nL M pc lv (.long x :: st) := fun H locs ls hP hS hl => lv_lstore_n hC.1 hC.2.1 d hi hl hn hl' (fun ls' h => k H locs ls' hP hS h)
theorem cj_lstore (hC : cb_C w g γ own cc nL ret dp l Qc) {i : Nat} {x : Int64} (d : decode cc pc = .ok (.lstore i, 2)) (hn : i + 1 < nL) (hl' : (i, Value.long x) :: lv.filter (fun q => !(q.1 == i) && (!(q.1 == i + 1) && !(q.1 + 1 == i && q.2.category == 2))) = lv') (k : cb_J w g γ nL M (pc + 2) lv' st) : cb_J w g γ nL M pc lv (.long x :: st) := fun H locs ls hP hS hl => lv_lstore hC.1 hC.2.1 d hl hn hl' (fun ls' h => k H locs ls' hP hS h)
theorem cj_aload_n (hC : cb_C w g γ own cc nL ret dp l Qc) {f : Fin 4} {i : Nat} {x : Nat} (d : decode cc pc = .ok (.aload_n f, 1)) (hi : (f : Nat) = i) (q : Nat) (hq : lv[q]? = some (i, .ref x)) (k : cb_J w g γ nL M (pc + 1) lv (.ref x :: st)) : cb_J w g γ nL M pc lv st := fun H locs ls hP hS hl => lv_aload_n hC.1 hC.2.1 d hi (lv_at hl q hq) (k H locs ls hP hS hl)
theorem cj_aload (hC : cb_C w g γ own cc nL ret dp l Qc) {i : Nat} {x : Nat} (d : decode cc pc = .ok (.aload i, 2)) (q : Nat) (hq : lv[q]? = some (i, .ref x)) (k : cb_J w g γ nL M (pc + 2) lv (.ref x :: st)) : cb_J w g γ nL M pc lv st := fun H locs ls hP hS hl => lv_aload hC.1 hC.2.1 d (lv_at hl q hq) (k H locs ls hP hS hl)
theorem cj_astore_n (hC : cb_C w g γ own cc nL ret dp l Qc) {f : Fin 4} {i : Nat} {x : Nat} (d : decode cc pc = .ok (.astore_n f, 1)) (hi : (f : Nat) = i) (hn : i < nL) (hl' : (i, Value.ref x) :: lv.filter (fun q => !(q.1 == i) && !(q.1 + 1 == i && q.2.category == 2)) = lv') (k : cb_J w g γ nL M (pc + 1) lv' st) : cb_J w g γ nL M pc lv (.ref x :: st) := fun H locs ls hP hS hl => lv_astore_n hC.1 hC.2.1 d hi hl hn hl' (fun ls' h => k H locs ls' hP hS h)
theorem cj_astore (hC : cb_C w g γ own cc nL ret dp l Qc) {i : Nat} {x : Nat} (d : decode cc pc = .ok (.astore i, 2)) (hn : i < nL) (hl' : (i, Value.ref x) :: lv.filter (fun q => !(q.1 == i) && !(q.1 + 1 == i && q.2.category == 2)) = lv') (k : cb_J w g γ nL M (pc + 2) lv' st) : cb_J w g γ nL M pc lv (.ref x :: st) := fun H locs ls hP hS hl => lv_astore hC.1 hC.2.1 d hl hn hl' (fun ls' h => k H locs ls' hP hS h)
theorem cj_iinc (hC : cb_C w g γ own cc nL ret dp l Qc) {i q : Nat} {n : Int} {x v : Int32} (d : decode cc pc = .ok (.iinc i n, 3)) (hq : lv[q]? = some (i, .int x)) (hv : x + Int32.ofInt n = v) (hn : i < nL) (hl' : (i, Value.int v) :: lv.filter (fun q => !(q.1 == i) && !(q.1 + 1 == i && q.2.category == 2)) = lv') (k : cb_J w g γ nL M (pc + 3) lv' st) : cb_J w g γ nL M pc lv st := fun H locs ls hP hS hl => lv_iinc hC.1 hC.2.1 d hl hq hv hn hl' (fun ls' h => k H locs ls' hP hS h)
theorem cj_pick (ks : List Nat) (h : lv_pick lv ks = lv') (k : cb_J w g γ nL M pc lv' st) : cb_J w g γ nL M pc lv st := fun H locs ls hP hS hl => k H locs ls hP hS (lv_sub hl ks h)
theorem cj_iadd (hC : cb_C w g γ own cc nL ret dp l Qc) {x y : Int32} (d : decode cc pc = .ok (.iadd, 1))  (k : cb_J w g γ nL M (pc + 1) lv (.int (x + y) :: st)) : cb_J w g γ nL M pc lv (.int y :: .int x :: st) := fun H locs ls hP hS hl => lv_iadd hC.1 hC.2.1 d  (k H locs ls hP hS hl)
theorem cj_isub (hC : cb_C w g γ own cc nL ret dp l Qc) {x y : Int32} (d : decode cc pc = .ok (.isub, 1))  (k : cb_J w g γ nL M (pc + 1) lv (.int (x - y) :: st)) : cb_J w g γ nL M pc lv (.int y :: .int x :: st) := fun H locs ls hP hS hl => lv_isub hC.1 hC.2.1 d  (k H locs ls hP hS hl)
theorem cj_imul (hC : cb_C w g γ own cc nL ret dp l Qc) {x y : Int32} (d : decode cc pc = .ok (.imul, 1))  (k : cb_J w g γ nL M (pc + 1) lv (.int (x * y) :: st)) : cb_J w g γ nL M pc lv (.int y :: .int x :: st) := fun H locs ls hP hS hl => lv_imul hC.1 hC.2.1 d  (k H locs ls hP hS hl)
theorem cj_iand (hC : cb_C w g γ own cc nL ret dp l Qc) {x y : Int32} (d : decode cc pc = .ok (.iand, 1))  (k : cb_J w g γ nL M (pc + 1) lv (.int (x &&& y) :: st)) : cb_J w g γ nL M pc lv (.int y :: .int x :: st) := fun H locs ls hP hS hl => lv_iand hC.1 hC.2.1 d  (k H locs ls hP hS hl)
theorem cj_ior (hC : cb_C w g γ own cc nL ret dp l Qc) {x y : Int32} (d : decode cc pc = .ok (.ior, 1))  (k : cb_J w g γ nL M (pc + 1) lv (.int (x ||| y) :: st)) : cb_J w g γ nL M pc lv (.int y :: .int x :: st) := fun H locs ls hP hS hl => lv_ior hC.1 hC.2.1 d  (k H locs ls hP hS hl)
theorem cj_ixor (hC : cb_C w g γ own cc nL ret dp l Qc) {x y : Int32} (d : decode cc pc = .ok (.ixor, 1))  (k : cb_J w g γ nL M (pc + 1) lv (.int (x ^^^ y) :: st)) : cb_J w g γ nL M pc lv (.int y :: .int x :: st) := fun H locs ls hP hS hl => lv_ixor hC.1 hC.2.1 d  (k H locs ls hP hS hl)
theorem cj_ishl (hC : cb_C w g γ own cc nL ret dp l Qc) {x y : Int32} (d : decode cc pc = .ok (.ishl, 1))  (k : cb_J w g γ nL M (pc + 1) lv (.int (x <<< (y &&& 31)) :: st)) : cb_J w g γ nL M pc lv (.int y :: .int x :: st) := fun H locs ls hP hS hl => lv_ishl hC.1 hC.2.1 d  (k H locs ls hP hS hl)
theorem cj_ishr (hC : cb_C w g γ own cc nL ret dp l Qc) {x y : Int32} (d : decode cc pc = .ok (.ishr, 1))  (k : cb_J w g γ nL M (pc + 1) lv (.int (x >>> (y &&& 31)) :: st)) : cb_J w g γ nL M pc lv (.int y :: .int x :: st) := fun H locs ls hP hS hl => lv_ishr hC.1 hC.2.1 d  (k H locs ls hP hS hl)
theorem cj_ladd (hC : cb_C w g γ own cc nL ret dp l Qc) {x y : Int64} (d : decode cc pc = .ok (.ladd, 1))  (k : cb_J w g γ nL M (pc + 1) lv (.long (x + y) :: st)) : cb_J w g γ nL M pc lv (.long y :: .long x :: st) := fun H locs ls hP hS hl => lv_ladd hC.1 hC.2.1 d  (k H locs ls hP hS hl)
theorem cj_lsub (hC : cb_C w g γ own cc nL ret dp l Qc) {x y : Int64} (d : decode cc pc = .ok (.lsub, 1))  (k : cb_J w g γ nL M (pc + 1) lv (.long (x - y) :: st)) : cb_J w g γ nL M pc lv (.long y :: .long x :: st) := fun H locs ls hP hS hl => lv_lsub hC.1 hC.2.1 d  (k H locs ls hP hS hl)
theorem cj_lmul (hC : cb_C w g γ own cc nL ret dp l Qc) {x y : Int64} (d : decode cc pc = .ok (.lmul, 1))  (k : cb_J w g γ nL M (pc + 1) lv (.long (x * y) :: st)) : cb_J w g γ nL M pc lv (.long y :: .long x :: st) := fun H locs ls hP hS hl => lv_lmul hC.1 hC.2.1 d  (k H locs ls hP hS hl)
theorem cj_land (hC : cb_C w g γ own cc nL ret dp l Qc) {x y : Int64} (d : decode cc pc = .ok (.land, 1))  (k : cb_J w g γ nL M (pc + 1) lv (.long (x &&& y) :: st)) : cb_J w g γ nL M pc lv (.long y :: .long x :: st) := fun H locs ls hP hS hl => lv_land hC.1 hC.2.1 d  (k H locs ls hP hS hl)
theorem cj_idiv (hC : cb_C w g γ own cc nL ret dp l Qc) {x y : Int32} (d : decode cc pc = .ok (.idiv, 1)) (hne : ¬ y = 0) (k : cb_J w g γ nL M (pc + 1) lv (.int (x / y) :: st)) : cb_J w g γ nL M pc lv (.int y :: .int x :: st) := fun H locs ls hP hS hl => lv_idiv hC.1 hC.2.1 d hne (k H locs ls hP hS hl)
theorem cj_irem (hC : cb_C w g γ own cc nL ret dp l Qc) {x y : Int32} (d : decode cc pc = .ok (.irem, 1)) (hne : ¬ y = 0) (k : cb_J w g γ nL M (pc + 1) lv (.int (x - x / y * y) :: st)) : cb_J w g γ nL M pc lv (.int y :: .int x :: st) := fun H locs ls hP hS hl => lv_irem hC.1 hC.2.1 d hne (k H locs ls hP hS hl)
theorem cj_ldiv (hC : cb_C w g γ own cc nL ret dp l Qc) {x y : Int64} (d : decode cc pc = .ok (.ldiv, 1)) (hne : ¬ y = 0) (k : cb_J w g γ nL M (pc + 1) lv (.long (x / y) :: st)) : cb_J w g γ nL M pc lv (.long y :: .long x :: st) := fun H locs ls hP hS hl => lv_ldiv hC.1 hC.2.1 d hne (k H locs ls hP hS hl)
theorem cj_lrem (hC : cb_C w g γ own cc nL ret dp l Qc) {x y : Int64} (d : decode cc pc = .ok (.lrem, 1)) (hne : ¬ y = 0) (k : cb_J w g γ nL M (pc + 1) lv (.long (x - x / y * y) :: st)) : cb_J w g γ nL M pc lv (.long y :: .long x :: st) := fun H locs ls hP hS hl => lv_lrem hC.1 hC.2.1 d hne (k H locs ls hP hS hl)
theorem cj_i2l (hC : cb_C w g γ own cc nL ret dp l Qc) {x : Int32} (d : decode cc pc = .ok (.i2l, 1))  (k : cb_J w g γ nL M (pc + 1) lv (.long (x.toInt64) :: st)) : cb_J w g γ nL M pc lv (.int x :: st) := fun H locs ls hP hS hl => lv_i2l hC.1 hC.2.1 d rfl (k H locs ls hP hS hl)
theorem cj_l2i (hC : cb_C w g γ own cc nL ret dp l Qc) {x : Int64} (d : decode cc pc = .ok (.l2i, 1))  (k : cb_J w g γ nL M (pc + 1) lv (.int (x.toInt32) :: st)) : cb_J w g γ nL M pc lv (.long x :: st) := fun H locs ls hP hS hl => lv_l2i hC.1 hC.2.1 d rfl (k H locs ls hP hS hl)
theorem cj_i2b (hC : cb_C w g γ own cc nL ret dp l Qc) {x : Int32} (d : decode cc pc = .ok (.i2b, 1))  (k : cb_J w g γ nL M (pc + 1) lv (.int (x.toInt8.toInt32) :: st)) : cb_J w g γ nL M pc lv (.int x :: st) := fun H locs ls hP hS hl => lv_i2b hC.1 hC.2.1 d rfl (k H locs ls hP hS hl)
theorem cj_i2s (hC : cb_C w g γ own cc nL ret dp l Qc) {x : Int32} (d : decode cc pc = .ok (.i2s, 1))  (k : cb_J w g γ nL M (pc + 1) lv (.int (x.toInt16.toInt32) :: st)) : cb_J w g γ nL M pc lv (.int x :: st) := fun H locs ls hP hS hl => lv_i2s hC.1 hC.2.1 d rfl (k H locs ls hP hS hl)
theorem cj_i2c (hC : cb_C w g γ own cc nL ret dp l Qc) {x : Int32} (d : decode cc pc = .ok (.i2c, 1))  (k : cb_J w g γ nL M (pc + 1) lv (.int ((x.toUInt32 % 65536).toInt32) :: st)) : cb_J w g γ nL M pc lv (.int x :: st) := fun H locs ls hP hS hl => lv_i2c hC.1 hC.2.1 d rfl (k H locs ls hP hS hl)
theorem cj_iushr (hC : cb_C w g γ own cc nL ret dp l Qc) {x y : Int32} (d : decode cc pc = .ok (.iushr, 1))  (k : cb_J w g γ nL M (pc + 1) lv (.int ((x.toUInt32 >>> (y.toUInt32 &&& Int32.toUInt32 31)).toInt32) :: st)) : cb_J w g γ nL M pc lv (.int y :: .int x :: st) := fun H locs ls hP hS hl => lv_iushr hC.1 hC.2.1 d rfl (k H locs ls hP hS hl)
theorem cj_lshl (hC : cb_C w g γ own cc nL ret dp l Qc) {x : Int64} {y : Int32} (d : decode cc pc = .ok (.lshl, 1))  (k : cb_J w g γ nL M (pc + 1) lv (.long (x <<< (y.toInt64 &&& 63)) :: st)) : cb_J w g γ nL M pc lv (.int y :: .long x :: st) := fun H locs ls hP hS hl => lv_lshl hC.1 hC.2.1 d rfl (k H locs ls hP hS hl)
theorem cj_lshr (hC : cb_C w g γ own cc nL ret dp l Qc) {x : Int64} {y : Int32} (d : decode cc pc = .ok (.lshr, 1))  (k : cb_J w g γ nL M (pc + 1) lv (.long (x >>> (y.toInt64 &&& 63)) :: st)) : cb_J w g γ nL M pc lv (.int y :: .long x :: st) := fun H locs ls hP hS hl => lv_lshr hC.1 hC.2.1 d rfl (k H locs ls hP hS hl)
theorem cj_lcmp (hC : cb_C w g γ own cc nL ret dp l Qc) {x y : Int64} (d : decode cc pc = .ok (.lcmp, 1))  (k : cb_J w g γ nL M (pc + 1) lv (.int (lg_cmp x y) :: st)) : cb_J w g γ nL M pc lv (.long y :: .long x :: st) := fun H locs ls hP hS hl => W.lcmp hC.1 hC.2.1 d  (k H locs ls hP hS hl)
theorem cj_dup (hC : cb_C w g γ own cc nL ret dp l Qc) {va : Value} (d : decode cc pc = .ok (.dup, 1)) (hv : va.category = 1) (k : cb_J w g γ nL M (pc + 1) lv (va :: va :: st)) : cb_J w g γ nL M pc lv (va :: st) := fun H locs ls hP hS hl => lv_dup hC.1 hC.2.1 d hv (k H locs ls hP hS hl)
theorem cj_pop (hC : cb_C w g γ own cc nL ret dp l Qc) {va : Value} (d : decode cc pc = .ok (.pop, 1)) (hv : va.category = 1) (k : cb_J w g γ nL M (pc + 1) lv st) : cb_J w g γ nL M pc lv (va :: st) := fun H locs ls hP hS hl => lv_pop hC.1 hC.2.1 d hv (k H locs ls hP hS hl)
theorem cj_dup2 (hC : cb_C w g γ own cc nL ret dp l Qc) {va vb : Value} (d : decode cc pc = .ok (.dup2, 1)) (hv : va.category = 1) (hv2 : vb.category = 1) (k : cb_J w g γ nL M (pc + 1) lv (va :: vb :: va :: vb :: st)) : cb_J w g γ nL M pc lv (va :: vb :: st) := fun H locs ls hP hS hl => lv_dup2_11 hC.1 hC.2.1 d hv hv2 (k H locs ls hP hS hl)
theorem cj_dup_x1 (hC : cb_C w g γ own cc nL ret dp l Qc) {va vb : Value} (d : decode cc pc = .ok (.dup_x1, 1)) (hv : va.category = 1) (hv2 : vb.category = 1) (k : cb_J w g γ nL M (pc + 1) lv (va :: vb :: va :: st)) : cb_J w g γ nL M pc lv (va :: vb :: st) := fun H locs ls hP hS hl => lv_dup_x1 hC.1 hC.2.1 d hv hv2 (k H locs ls hP hS hl)
theorem cj_if_eq (hC : cb_C w g γ own cc nL ret dp l Qc) {x : Int32} {off : Int} {tgt : Nat} (d : decode cc pc = .ok (.ifCond .eq off, 3)) (ht : (pc : Int) + off = (tgt : Int)) (kt : x = 0 → cb_J w g γ nL M tgt lv st) (kf : ¬ x = 0 → cb_J w g γ nL M (pc + 3) lv st) : cb_J w g γ nL M pc lv (.int x :: st) := fun H locs ls hP hS hl => lv_if_eq hC.1 hC.2.1 d ht (fun h => kt h H locs ls hP hS hl) (fun h => kf h H locs ls hP hS hl)
theorem cj_if_ne (hC : cb_C w g γ own cc nL ret dp l Qc) {x : Int32} {off : Int} {tgt : Nat} (d : decode cc pc = .ok (.ifCond .ne off, 3)) (ht : (pc : Int) + off = (tgt : Int)) (kt : ¬ x = 0 → cb_J w g γ nL M tgt lv st) (kf : x = 0 → cb_J w g γ nL M (pc + 3) lv st) : cb_J w g γ nL M pc lv (.int x :: st) := fun H locs ls hP hS hl => lv_if_ne hC.1 hC.2.1 d ht (fun h => kt h H locs ls hP hS hl) (fun h => kf h H locs ls hP hS hl)
theorem cj_if_lt (hC : cb_C w g γ own cc nL ret dp l Qc) {x : Int32} {off : Int} {tgt : Nat} (d : decode cc pc = .ok (.ifCond .lt off, 3)) (ht : (pc : Int) + off = (tgt : Int)) (kt : x < 0 → cb_J w g γ nL M tgt lv st) (kf : ¬ x < 0 → cb_J w g γ nL M (pc + 3) lv st) : cb_J w g γ nL M pc lv (.int x :: st) := fun H locs ls hP hS hl => lv_if_lt hC.1 hC.2.1 d ht (fun h => kt h H locs ls hP hS hl) (fun h => kf h H locs ls hP hS hl)
theorem cj_if_ge (hC : cb_C w g γ own cc nL ret dp l Qc) {x : Int32} {off : Int} {tgt : Nat} (d : decode cc pc = .ok (.ifCond .ge off, 3)) (ht : (pc : Int) + off = (tgt : Int)) (kt : 0 ≤ x → cb_J w g γ nL M tgt lv st) (kf : ¬ 0 ≤ x → cb_J w g γ nL M (pc + 3) lv st) : cb_J w g γ nL M pc lv (.int x :: st) := fun H locs ls hP hS hl => lv_if_ge hC.1 hC.2.1 d ht (fun h => kt h H locs ls hP hS hl) (fun h => kf h H locs ls hP hS hl)
theorem cj_if_gt (hC : cb_C w g γ own cc nL ret dp l Qc) {x : Int32} {off : Int} {tgt : Nat} (d : decode cc pc = .ok (.ifCond .gt off, 3)) (ht : (pc : Int) + off = (tgt : Int)) (kt : 0 < x → cb_J w g γ nL M tgt lv st) (kf : ¬ 0 < x → cb_J w g γ nL M (pc + 3) lv st) : cb_J w g γ nL M pc lv (.int x :: st) := fun H locs ls hP hS hl => lv_if_gt hC.1 hC.2.1 d ht (fun h => kt h H locs ls hP hS hl) (fun h => kf h H locs ls hP hS hl)
theorem cj_if_le (hC : cb_C w g γ own cc nL ret dp l Qc) {x : Int32} {off : Int} {tgt : Nat} (d : decode cc pc = .ok (.ifCond .le off, 3)) (ht : (pc : Int) + off = (tgt : Int)) (kt : x ≤ 0 → cb_J w g γ nL M tgt lv st) (kf : ¬ x ≤ 0 → cb_J w g γ nL M (pc + 3) lv st) : cb_J w g γ nL M pc lv (.int x :: st) := fun H locs ls hP hS hl => lv_if_le hC.1 hC.2.1 d ht (fun h => kt h H locs ls hP hS hl) (fun h => kf h H locs ls hP hS hl)
theorem cj_icmp_eq (hC : cb_C w g γ own cc nL ret dp l Qc) {x y : Int32} {off : Int} {tgt : Nat} (d : decode cc pc = .ok (.if_icmp .eq off, 3)) (ht : (pc : Int) + off = (tgt : Int)) (kt : x = y → cb_J w g γ nL M tgt lv st) (kf : ¬ x = y → cb_J w g γ nL M (pc + 3) lv st) : cb_J w g γ nL M pc lv (.int y :: .int x :: st) := fun H locs ls hP hS hl => lv_icmp_eq hC.1 hC.2.1 d ht (fun h => kt h H locs ls hP hS hl) (fun h => kf h H locs ls hP hS hl)
theorem cj_icmp_ne (hC : cb_C w g γ own cc nL ret dp l Qc) {x y : Int32} {off : Int} {tgt : Nat} (d : decode cc pc = .ok (.if_icmp .ne off, 3)) (ht : (pc : Int) + off = (tgt : Int)) (kt : ¬ x = y → cb_J w g γ nL M tgt lv st) (kf : x = y → cb_J w g γ nL M (pc + 3) lv st) : cb_J w g γ nL M pc lv (.int y :: .int x :: st) := fun H locs ls hP hS hl => lv_icmp_ne hC.1 hC.2.1 d ht (fun h => kt h H locs ls hP hS hl) (fun h => kf h H locs ls hP hS hl)
theorem cj_icmp_lt (hC : cb_C w g γ own cc nL ret dp l Qc) {x y : Int32} {off : Int} {tgt : Nat} (d : decode cc pc = .ok (.if_icmp .lt off, 3)) (ht : (pc : Int) + off = (tgt : Int)) (kt : x < y → cb_J w g γ nL M tgt lv st) (kf : ¬ x < y → cb_J w g γ nL M (pc + 3) lv st) : cb_J w g γ nL M pc lv (.int y :: .int x :: st) := fun H locs ls hP hS hl => lv_icmp_lt hC.1 hC.2.1 d ht (fun h => kt h H locs ls hP hS hl) (fun h => kf h H locs ls hP hS hl)
theorem cj_icmp_ge (hC : cb_C w g γ own cc nL ret dp l Qc) {x y : Int32} {off : Int} {tgt : Nat} (d : decode cc pc = .ok (.if_icmp .ge off, 3)) (ht : (pc : Int) + off = (tgt : Int)) (kt : y ≤ x → cb_J w g γ nL M tgt lv st) (kf : ¬ y ≤ x → cb_J w g γ nL M (pc + 3) lv st) : cb_J w g γ nL M pc lv (.int y :: .int x :: st) := fun H locs ls hP hS hl => lv_icmp_ge hC.1 hC.2.1 d ht (fun h => kt h H locs ls hP hS hl) (fun h => kf h H locs ls hP hS hl)
theorem cj_icmp_gt (hC : cb_C w g γ own cc nL ret dp l Qc) {x y : Int32} {off : Int} {tgt : Nat} (d : decode cc pc = .ok (.if_icmp .gt off, 3)) (ht : (pc : Int) + off = (tgt : Int)) (kt : y < x → cb_J w g γ nL M tgt lv st) (kf : ¬ y < x → cb_J w g γ nL M (pc + 3) lv st) : cb_J w g γ nL M pc lv (.int y :: .int x :: st) := fun H locs ls hP hS hl => lv_icmp_gt hC.1 hC.2.1 d ht (fun h => kt h H locs ls hP hS hl) (fun h => kf h H locs ls hP hS hl)
theorem cj_icmp_le (hC : cb_C w g γ own cc nL ret dp l Qc) {x y : Int32} {off : Int} {tgt : Nat} (d : decode cc pc = .ok (.if_icmp .le off, 3)) (ht : (pc : Int) + off = (tgt : Int)) (kt : x ≤ y → cb_J w g γ nL M tgt lv st) (kf : ¬ x ≤ y → cb_J w g γ nL M (pc + 3) lv st) : cb_J w g γ nL M pc lv (.int y :: .int x :: st) := fun H locs ls hP hS hl => lv_icmp_le hC.1 hC.2.1 d ht (fun h => kt h H locs ls hP hS hl) (fun h => kf h H locs ls hP hS hl)
theorem cj_goto (hC : cb_C w g γ own cc nL ret dp l Qc) {off : Int} {tgt : Nat} (d : decode cc pc = .ok (.goto off, 3)) (ht : (pc : Int) + off = (tgt : Int)) (k : cb_J w g γ nL M tgt lv st) : cb_J w g γ nL M pc lv st := fun H locs ls hP hS hl => lv_goto hC.1 hC.2.1 d ht (k H locs ls hP hS hl)
theorem cj_ldc (hC : cb_C w g γ own cc nL ret dp l Qc) {i : Nat} {v : Int32} (hw : Cond.constant own i v ∈ cb_ws) (d : decode cc pc = .ok (.ldc i, 2)) (k : cb_J w g γ nL M (pc + 2) lv (.int v :: st)) : cb_J w g γ nL M pc lv st := fun H locs ls hP hS hl => lv_ldc hC.1 hC.2.1 hC.2.2.2.1 (hC.2.2.2.2.1 _ hw) d (k H locs ls hP hS hl)
theorem cj_ldc_w (hC : cb_C w g γ own cc nL ret dp l Qc) {i : Nat} {v : Int32} (hw : Cond.constant own i v ∈ cb_ws) (d : decode cc pc = .ok (.ldc_w i, 3)) (k : cb_J w g γ nL M (pc + 3) lv (.int v :: st)) : cb_J w g γ nL M pc lv st := fun H locs ls hP hS hl => lv_ldcw hC.1 hC.2.1 hC.2.2.2.1 (hC.2.2.2.2.1 _ hw) d (k H locs ls hP hS hl)
theorem cj_ldc2_w (hC : cb_C w g γ own cc nL ret dp l Qc) {i : Nat} {v : Int64} (hw : Cond.constantLong own i v ∈ cb_ws) (d : decode cc pc = .ok (.ldc2_w i, 3)) (k : cb_J w g γ nL M (pc + 3) lv (.long v :: st)) : cb_J w g γ nL M pc lv st := fun H locs ls hP hS hl => lv_ldc2 hC.1 hC.2.1 hC.2.2.2.1 (hC.2.2.2.2.1 _ hw) d (k H locs ls hP hS hl)
theorem cj_tableIn (hC : cb_C w g γ own cc nL ret dp l Qc) {dflt lo hi : Int} {offs : Array Int} {len : Nat} {x : Int32} {off : Int} {tgt : Nat} (d : decode cc pc = .ok (.tableswitch dflt lo hi offs, len)) (h1 : ¬ x.toInt < lo) (h2 : ¬ hi < x.toInt) (ho : offs[(x.toInt - lo).toNat]? = some off) (ht : (pc : Int) + off = (tgt : Int)) (k : cb_J w g γ nL M tgt lv st) : cb_J w g γ nL M pc lv (.int x :: st) := fun H locs ls hP hS hl => lv_tableIn hC.1 hC.2.1 d h1 h2 ho ht (k H locs ls hP hS hl)
theorem cj_tableOut (hC : cb_C w g γ own cc nL ret dp l Qc) {dflt lo hi : Int} {offs : Array Int} {len : Nat} {x : Int32} {tgt : Nat} (d : decode cc pc = .ok (.tableswitch dflt lo hi offs, len)) (h : x.toInt < lo ∨ hi < x.toInt) (ht : (pc : Int) + dflt = (tgt : Int)) (k : cb_J w g γ nL M tgt lv st) : cb_J w g γ nL M pc lv (.int x :: st) := fun H locs ls hP hS hl => lv_tableOut hC.1 hC.2.1 d h ht (k H locs ls hP hS hl)
def cb_FA (own : String) (idx ci j : Nat) : Prop := ∃ (C : String) (T : u_T) (N : Nat), vwCl[ci]? = some (C, T, N) ∧ j < N ∧ (∀ x ∈ u_ws C T N, x ∈ cb_ws) ∧ Cond.fieldLink own idx (T j).1 (T j).2.1 (T j).2.2.1 ∈ cb_ws
def cb_FP (own : String) (idx ci j : Nat) : Prop := ∃ (C : String) (T : u_T) (N : Nat) (ty : Nat → FieldType), vwCl[ci]? = some (C, T, N) ∧ j < N ∧ (∀ x ∈ u_ws C T N, x ∈ cb_ws) ∧ Cond.fieldLink own idx (T j).1 (T j).2.1 (T j).2.2.1 ∈ cb_ws ∧ (∀ k, k < N → parseFieldDescriptor (T k).2.2.1 = some (ty k)) ∧ (∀ a, a < N → ∀ b, b < N → a ≠ b → (T a).2.1 ≠ (T b).2.1) ∧ (T j).2.2.2 = false ∧ parseFieldDescriptor (T j).2.2.1 = some .int
theorem cj_get (hC : cb_C w g γ own cc nL ret dp l Qc) {idx ci j : Nat} (fa : cb_FA own idx ci j) {q : Nat} (hq : q < w.1) {fs : List Value} (hE : w.2.1 g q (M q) = .inr (ci, fs)) {v : Value} (hv : fs[j]? = some v) (d : decode cc pc = .ok (.getfield idx, 3)) (k : cb_J w g γ nL M (pc + 3) lv (v :: st)) : cb_J w g γ nL M pc lv (.ref (g.2.1 q) :: st) := by
  intro H locs ls hP hS hl
  obtain ⟨C, T, N, hc, hj, hin, hlk⟩ := fa
  exact va_get hC.1 hC.2.1 hC.2.2.2.2.1 hin hC.2.2.2.1 hC.2.2.2.2.2.1.1 hP q (by rw [cb_wl_get w g M hq, hE]) hc j hj (hC.2.2.2.2.1 _ hlk) (fun _ h => h) hv d (k H locs ls hP hS hl)
theorem cj_put (hC : cb_C w g γ own cc nL ret dp l Qc) {idx ci j : Nat} (fa : cb_FP own idx ci j) {q : Nat} (hq : q < w.1) {fs : List Value} (hE : w.2.1 g q (M q) = .inr (ci, fs)) {x : Int32} (hE2 : w.2.1 g q (upd (M q) j x) = .inr (ci, fs.set j (.int x))) (hlen : j < fs.length) {M' : cb_Mem} (hM : M' = cb_up M q j x) (d : decode cc pc = .ok (.putfield idx, 3)) (k : cb_J w g γ nL M' (pc + 3) lv st) : cb_J w g γ nL M pc lv (.int x :: .ref (g.2.1 q) :: st) := by
  intro H locs ls hP hS hl
  obtain ⟨C, T, N, ty, hc, hj, hin, hlk, hty, hnm, hfin, hd⟩ := fa
  refine va_put hC.1 hC.2.1 hC.2.2.2.2.1 hin ty hty hnm hC.2.2.2.1 hC.2.2.2.2.2.1.1 hP (cb_wl_D hC.2.2.2.2.2.1.2.2.2) hS q (by rw [cb_wl_get w g M hq, hE]) hc j hj (hC.2.2.2.2.1 _ hlk) (fun _ h => h) hfin hd (vp_nar_int x) rfl hlen d (fun H1 locs1 hP1 _ hS1 => ?_)
  rw [← hE2, cb_wl_set w g M hq] at hP1
  subst hM
  exact k H1 locs1 ls hP1 hS1 hl
theorem cj_iald (hC : cb_C w g γ own cc nL ret dp l Qc) {q n : Nat} (hq : q < w.1) (hE : w.2.1 g q (M q) = .inl (g.2.2.1 0, n, .inl (M q))) (ht : (w.2.2 g)[0]? = some (g.2.2.1 0, .int)) {i : Int32} (hi : vp_in i n) (d : decode cc pc = .ok (.iaload, 1)) (k : cb_J w g γ nL M (pc + 1) lv (.int (M q i.toNatClampNeg) :: st)) : cb_J w g γ nL M pc lv (.int i :: .ref (g.2.1 q) :: st) := fun H locs ls hP hS hl => va_iald hC.1 hC.2.1 hC.2.2.2.2.2.1.1 hP q 0 (by rw [cb_wl_get w g M hq, hE]) ht hi d (k H locs ls hP hS hl)
theorem cj_iast (hC : cb_C w g γ own cc nL ret dp l Qc) {q n : Nat} (hq : q < w.1) (hE : ∀ r, w.2.1 g q r = .inl (g.2.2.1 0, n, .inl r)) (ht : (w.2.2 g)[0]? = some (g.2.2.1 0, .int)) {i x : Int32} (hi : vp_in i n) {M' : cb_Mem} (hM : M' = cb_up M q i.toNatClampNeg x) (d : decode cc pc = .ok (.iastore, 1)) (k : cb_J w g γ nL M' (pc + 1) lv st) : cb_J w g γ nL M pc lv (.int x :: .int i :: .ref (g.2.1 q) :: st) := by
  intro H locs ls hP hS hl
  refine va_iast hC.1 hC.2.1 hC.2.2.2.2.2.1.1 hP (cb_wl_D hC.2.2.2.2.2.1.2.2.2) hS q 0 (by rw [cb_wl_get w g M hq, hE]) ht hi d (fun H1 locs1 hP1 _ hS1 => ?_)
  rw [← hE, cb_wl_set w g M hq] at hP1
  subst hM
  exact k H1 locs1 ls hP1 hS1 hl
theorem cj_alen (hC : cb_C w g γ own cc nL ret dp l Qc) {q n : Nat} (hq : q < w.1) {r : Nat → Int32} (hE : w.2.1 g q (M q) = .inl (g.2.2.1 0, n, .inl r)) (ht : (w.2.2 g)[0]? = some (g.2.2.1 0, .int)) {v : Int32} (hv : Int32.ofNat n = v) (d : decode cc pc = .ok (.arraylength, 1)) (k : cb_J w g γ nL M (pc + 1) lv (.int v :: st)) : cb_J w g γ nL M pc lv (.ref (g.2.1 q) :: st) := fun H locs ls hP hS hl => va_alen hC.1 hC.2.1 hC.2.2.2.2.2.1.1 hP q 0 (by rw [cb_wl_get w g M hq, hE]) ht hv d (k H locs ls hP hS hl)
theorem cj_aald (hC : cb_C w g γ own cc nL ret dp l Qc) {q n t0 : Nat} (hq : q < w.1) {cA : ClassId} {ty : FieldType} {f : Nat → Option Nat} (hE : w.2.1 g q (M q) = .inl (cA, n, .inr (.inr (.inr (.inr f))))) (ht : (w.2.2 g)[t0]? = some (cA, ty)) (hty : ty.isReference = true) {i : Int32} (hi : vp_in i n) {a : Nat} (ha : f i.toNatClampNeg = some a) (d : decode cc pc = .ok (.aaload, 1)) (k : cb_J w g γ nL M (pc + 1) lv (.ref a :: st)) : cb_J w g γ nL M pc lv (.int i :: .ref (g.2.1 q) :: st) := by
  intro H locs ls hP hS hl
  have hlt : i.toNatClampNeg < n := Nat.not_le.mp fun q => hi (Or.inr q)
  have hc := hP q _ (by rw [cb_wl_get w g M hq, hE])
  exact W.aald (v := .ref a) (ty := ty) hC.1 hC.2.1 hc ((hC.2.2.2.2.2.1.1.2 t0 _ ht).1 n (fun j => va_rf (f j))) hty (fun q => by cases q) (by show ¬ (i < 0 ∨ (arrV _ _ _).slots.size ≤ _); rw [arrV_size]; exact hi) (by show (arrV _ _ _).slots[_]? = _; rw [arrV_read _ _ hlt, ha]; rfl) rfl rfl d (k H locs ls hP hS hl)
theorem cj_iret {r : Int32} (hC : cb_C w g γ own cc nL (some .int) dp l (cb_Qi w g r M)) (d : decode cc pc = .ok (.ireturn, 1)) : cb_J w g γ nL M pc lv [.int r] := by
  intro H locs ls hP hS hl
  rw [hC.2.2.2.2.2.2.2.2.2.2]
  have hlocks := hC.2.2.2.2.2.2.2.1
  exact W.iret (v := r) hC.1 hC.2.1 hC.2.2.2.2.2.2.1 (fun t ht hW => ⟨⟨r, (), rfl, rfl, (by show va_P _ _ _ t.heap; rw [ht]; exact hP)⟩, hS.F ht⟩) hS.2.2 d
theorem cj_zret {r : Int32} (hC : cb_C w g γ own cc nL (some .boolean) dp l (cb_Qi w g r M)) (hr : r = 0 ∨ r = 1) (d : decode cc pc = .ok (.ireturn, 1)) : cb_J w g γ nL M pc lv [.int r] := by
  intro H locs ls hP hS hl
  rw [hC.2.2.2.2.2.2.2.2.2.2]
  have hlocks := hC.2.2.2.2.2.2.2.1
  exact W.zret (v := r) hC.1 hC.2.1 hC.2.2.2.2.2.2.1 (by rcases hr with rfl | rfl <;> rfl) (fun t ht hW => ⟨⟨r, (), rfl, rfl, (by show va_P _ _ _ t.heap; rw [ht]; exact hP)⟩, hS.F ht⟩) hS.2.2 d
theorem cj_lret {r : Int64} (hC : cb_C w g γ own cc nL (some .long) dp l (cb_Ql w g r M)) (d : decode cc pc = .ok (.lreturn, 1)) : cb_J w g γ nL M pc lv [.long r] := by
  intro H locs ls hP hS hl
  rw [hC.2.2.2.2.2.2.2.2.2.2]
  have hlocks := hC.2.2.2.2.2.2.2.1
  exact W.lret (v := r) hC.1 hC.2.1 hC.2.2.2.2.2.2.1 (fun t ht hW => ⟨⟨r, (), rfl, rfl, (by show va_P _ _ _ t.heap; rw [ht]; exact hP)⟩, hS.F ht⟩) hS.2.2 d
theorem cj_vret (hC : cb_C w g γ own cc nL none dp l (cb_Qv w g M)) (d : decode cc pc = .ok (.return_, 1)) : cb_J w g γ nL M pc lv [] := by
  intro H locs ls hP hS hl
  rw [hC.2.2.2.2.2.2.2.2.2.2]
  have hlocks := hC.2.2.2.2.2.2.2.1
  exact W.vret hC.1 hC.2.1 hC.2.2.2.2.2.2.1 (fun t ht hW => ⟨⟨(), rfl, trivial, (by show va_P _ _ _ t.heap; rw [ht]; exact hP)⟩, hS.F ht⟩) hS.2.2 d
/-- what a call's place rests on: an instance method, a static one, a static one of a nest mate's -/
def cb_CV (own : String) (idx : Nat) (y : MethodName) (c2 : ByteArray) (n2 : Nat) (ret2 : Option FieldType) (n : Nat) : Prop := Cond.code y c2 n2 ret2 ∈ cb_ws ∧ Cond.methodLink own idx y ∈ cb_ws ∧ Cond.instanceMethod y ∈ cb_ws ∧ Cond.selects y.cls y y ∈ cb_ws ∧ Cond.initialized y.cls ∈ cb_ws ∧ (y.cls ≠ "java/lang/invoke/MethodHandle" ∧ y.cls ≠ "java/lang/invoke/VarHandle" ∧ (parseMethodDescriptor y.desc).map (fun d => d.parameters.length) = some n) ∧ n2 ≤ 19
def cb_CS (own : String) (idx : Nat) (y : MethodName) (c2 : ByteArray) (n2 : Nat) (ret2 : Option FieldType) (n : Nat) : Prop := Cond.code y c2 n2 ret2 ∈ cb_ws ∧ Cond.methodLink own idx y ∈ cb_ws ∧ Cond.static y ∈ cb_ws ∧ Cond.initialized y.cls ∈ cb_ws ∧ (y.cls ≠ "java/lang/invoke/MethodHandle" ∧ y.cls ≠ "java/lang/invoke/VarHandle" ∧ (parseMethodDescriptor y.desc).map (fun d => d.parameters.length) = some n) ∧ n2 ≤ 19
def cb_CN (own : String) (idx : Nat) (y : MethodName) (c2 : ByteArray) (n2 : Nat) (ret2 : Option FieldType) (n : Nat) (host : String) : Prop := Cond.code y c2 n2 ret2 ∈ cb_ws ∧ Cond.methodLinkNest own idx y host ∈ cb_nest ∧ Cond.static y ∈ cb_ws ∧ Cond.initialized y.cls ∈ cb_ws ∧ (y.cls ≠ "java/lang/invoke/MethodHandle" ∧ y.cls ≠ "java/lang/invoke/VarHandle" ∧ (parseMethodDescriptor y.desc).map (fun d => d.parameters.length) = some n) ∧ n2 ≤ 19
theorem cj_callVi (hC : cb_C w g γ own cc nL ret dp l Qc) {idx n2 n d2 : Nat} {y : MethodName} {c2 : ByteArray} {ret2 : Option FieldType} (cv : cb_CV own idx y c2 n2 ret2 n) {q ci : Nat} (hq : q < w.1) {fs : List Value} (hE : w.2.1 g q (M q) = .inr (ci, fs)) {T : u_T} {Nf : Nat} (hcl : vwCl[ci]? = some (y.cls, T, Nf)) {As : List Value} {r : Int32} {M2 : cb_Mem} (hM : Met l y (.code y c2 n2 ret2 :: cb_ws) (cb_rm d2) (cb_Pc w g (.ref (g.2.1 q) :: As) M) (cb_Qi w g r M2) 0 0 (cb_A w g)) (hd : d2 < dp) (hn : As.length = n) {st0 : List Value} (hst : st0 = As.reverse ++ .ref (g.2.1 q) :: st) (hr : (st.map fun v => v.category).sum ≤ 8) (d : decode cc pc = .ok (.invokevirtual idx, 3)) (k : cb_J w g γ nL M2 (pc + 3) lv (.int r :: st)) : cb_J w g γ nL M pc lv st0 := by
  intro H locs ls hP hS hl
  obtain ⟨hx, hb, hml, hown, hts, hB, -, -, hR, hL, -⟩ := hC
  obtain ⟨v1, v2, v3, v4, v5, v6, v7⟩ := cv
  have G : GoodIn cb_ws (wsV own idx y.cls y (.code y c2 n2 ret2 :: cb_ws)) := cb_good (fun _ h => h) (fun x hx => by
    rcases List.mem_append.mp hx with h | h
    · simp only [List.mem_cons, List.not_mem_nil, or_false] at h
      rcases h with rfl | rfl | rfl | rfl <;> assumption
    · exact cb_in_cons v1 x h)
  subst hL
  subst hst
  refine va_calli (va_runV (nL := nL) (As := As) (rest := st) (n := n) ⟨hx, hb, hml, hown, hts⟩ hM (cwV n hts G rfl rfl rfl ⟨rfl, v6⟩ (by rw [hR]; exact cb_rm_ok hd v7)) ⟨cb_Pc.blind, va_recv hB.1 hP hcl (by rw [cb_wl_get w g M hq, hE]), fun U hU hW => ⟨rfl, hB.warm (by rw [hU]; exact hS) hW, by rw [hU]; exact hP⟩⟩ rfl hn hl.1 rfl (lv_room hr) d ⟨by rw [hR]; exact Nat.le_refl 0, by rw [hR]; exact Nat.le_refl 0⟩) hS (fun q _ h => h) (fun q h => h) (fun x u t H1 locs1 ht _ hx hB9 _ _ hS1 => ?_)
  subst hx
  exact k H1 locs1 ls (by rw [← ht]; exact hB9) hS1 hl
theorem cj_callSi (hC : cb_C w g γ own cc nL ret dp l Qc) {idx n2 n d2 : Nat} {y : MethodName} {c2 : ByteArray} {ret2 : Option FieldType} (cv : cb_CS own idx y c2 n2 ret2 n) {As : List Value} {r : Int32} {M2 : cb_Mem} (hM : Met l y (.code y c2 n2 ret2 :: cb_ws) (cb_rm d2) (cb_Pc w g As M) (cb_Qi w g r M2) 0 0 (cb_A w g)) (hd : d2 < dp) (hn : As.length = n) {st0 : List Value} (hst : st0 = As.reverse ++ st) (hr : (st.map fun v => v.category).sum ≤ 8) (d : decode cc pc = .ok (.invokestatic idx, 3)) (k : cb_J w g γ nL M2 (pc + 3) lv (.int r :: st)) : cb_J w g γ nL M pc lv st0 := by
  intro H locs ls hP hS hl
  obtain ⟨hx, hb, hml, hown, hts, hB, -, -, hR, hL, -⟩ := hC
  obtain ⟨v1, v2, v3, v5, v6, v7⟩ := cv
  have G : GoodIn cb_ws (va_wsS own idx y (.code y c2 n2 ret2 :: cb_ws)) := cb_good (fun _ h => h) (fun x hx => by
    rcases List.mem_append.mp hx with h | h
    · simp only [List.mem_cons, List.not_mem_nil, or_false] at h
      rcases h with rfl | rfl | rfl <;> assumption
    · exact cb_in_cons v1 x h)
  subst hL
  subst hst
  refine va_calli (va_runS (nL := nL) (As := As) (rest := st) (n := n) ⟨hx, hb, hml, hown, hts⟩ hM (va_cwS n hts G rfl rfl rfl v6 (by rw [hR]; exact cb_rm_ok hd v7)) ⟨cb_Pc.blind, fun U hU hW => ⟨rfl, hB.warm (by rw [hU]; exact hS) hW, by rw [hU]; exact hP⟩⟩ rfl hn hl.1 rfl (lv_room hr) d ⟨by rw [hR]; exact Nat.le_refl 0, by rw [hR]; exact Nat.le_refl 0⟩) hS (fun q _ h => h) (fun q h => h) (fun x u t H1 locs1 ht _ hx hB9 _ _ hS1 => ?_)
  subst hx
  exact k H1 locs1 ls (by rw [← ht]; exact hB9) hS1 hl
theorem cj_callNi (hC : cb_C w g γ own cc nL ret dp l Qc) {idx n2 n d2 : Nat} {y : MethodName} {c2 : ByteArray} {ret2 : Option FieldType} {host : String} (cv : cb_CN own idx y c2 n2 ret2 n host) {As : List Value} {r : Int32} {M2 : cb_Mem} (hM : Met l y (.code y c2 n2 ret2 :: cb_ws) (cb_rm d2) (cb_Pc w g As M) (cb_Qi w g r M2) 0 0 (cb_A w g)) (hd : d2 < dp) (hn : As.length = n) {st0 : List Value} (hst : st0 = As.reverse ++ st) (hr : (st.map fun v => v.category).sum ≤ 8) (d : decode cc pc = .ok (.invokestatic idx, 3)) (k : cb_J w g γ nL M2 (pc + 3) lv (.int r :: st)) : cb_J w g γ nL M pc lv st0 := by
  intro H locs ls hP hS hl
  obtain ⟨hx, hb, hml, hown, hts, hB, -, -, hR, hL, -⟩ := hC
  obtain ⟨v1, v2, v3, v5, v6, v7⟩ := cv
  have G : GoodIn cb_ws (.code y c2 n2 ret2 :: cb_ws) := cb_good (fun _ h => h) (cb_in_cons v1)
  subst hL
  subst hst
  refine va_calli (va_runSN (nL := nL) (As := As) (rest := st) (n := n) ⟨hx, hb, hml, hown, hts⟩ hM ⟨va_cnB n hts G rfl rfl rfl (hB.2.1 _ v2) (hts _ v5) v6 (by rw [hR]; exact cb_rm_ok hd v7), hts _ v3, trivial⟩ ⟨cb_Pc.blind, fun U hU hW => ⟨rfl, hB.warm (by rw [hU]; exact hS) hW, by rw [hU]; exact hP⟩⟩ rfl hn hl.1 rfl (lv_room hr) d ⟨by rw [hR]; exact Nat.le_refl 0, by rw [hR]; exact Nat.le_refl 0⟩) hS (fun q _ h => h) (fun q h => h) (fun x u t H1 locs1 ht _ hx hB9 _ _ hS1 => ?_)
  subst hx
  exact k H1 locs1 ls (by rw [← ht]; exact hB9) hS1 hl
theorem cj_callVl (hC : cb_C w g γ own cc nL ret dp l Qc) {idx n2 n d2 : Nat} {y : MethodName} {c2 : ByteArray} {ret2 : Option FieldType} (cv : cb_CV own idx y c2 n2 ret2 n) {q ci : Nat} (hq : q < w.1) {fs : List Value} (hE : w.2.1 g q (M q) = .inr (ci, fs)) {T : u_T} {Nf : Nat} (hcl : vwCl[ci]? = some (y.cls, T, Nf)) {As : List Value} {r : Int64} {M2 : cb_Mem} (hM : Met l y (.code y c2 n2 ret2 :: cb_ws) (cb_rm d2) (cb_Pc w g (.ref (g.2.1 q) :: As) M) (cb_Ql w g r M2) 0 0 (cb_A w g)) (hd : d2 < dp) (hn : As.length = n) {st0 : List Value} (hst : st0 = As.reverse ++ .ref (g.2.1 q) :: st) (hr : (st.map fun v => v.category).sum ≤ 8) (d : decode cc pc = .ok (.invokevirtual idx, 3)) (k : cb_J w g γ nL M2 (pc + 3) lv (.long r :: st)) : cb_J w g γ nL M pc lv st0 := by
  intro H locs ls hP hS hl
  obtain ⟨hx, hb, hml, hown, hts, hB, -, -, hR, hL, -⟩ := hC
  obtain ⟨v1, v2, v3, v4, v5, v6, v7⟩ := cv
  have G : GoodIn cb_ws (wsV own idx y.cls y (.code y c2 n2 ret2 :: cb_ws)) := cb_good (fun _ h => h) (fun x hx => by
    rcases List.mem_append.mp hx with h | h
    · simp only [List.mem_cons, List.not_mem_nil, or_false] at h
      rcases h with rfl | rfl | rfl | rfl <;> assumption
    · exact cb_in_cons v1 x h)
  subst hL
  subst hst
  refine va_calll (va_runV (nL := nL) (As := As) (rest := st) (n := n) ⟨hx, hb, hml, hown, hts⟩ hM (cwV n hts G rfl rfl rfl ⟨rfl, v6⟩ (by rw [hR]; exact cb_rm_ok hd v7)) ⟨cb_Pc.blind, va_recv hB.1 hP hcl (by rw [cb_wl_get w g M hq, hE]), fun U hU hW => ⟨rfl, hB.warm (by rw [hU]; exact hS) hW, by rw [hU]; exact hP⟩⟩ rfl hn hl.1 rfl (lv_room hr) d ⟨by rw [hR]; exact Nat.le_refl 0, by rw [hR]; exact Nat.le_refl 0⟩) hS (fun q _ h => h) (fun q h => h) (fun x u t H1 locs1 ht _ hx hB9 _ _ hS1 => ?_)
  subst hx
  exact k H1 locs1 ls (by rw [← ht]; exact hB9) hS1 hl
theorem cj_callSl (hC : cb_C w g γ own cc nL ret dp l Qc) {idx n2 n d2 : Nat} {y : MethodName} {c2 : ByteArray} {ret2 : Option FieldType} (cv : cb_CS own idx y c2 n2 ret2 n) {As : List Value} {r : Int64} {M2 : cb_Mem} (hM : Met l y (.code y c2 n2 ret2 :: cb_ws) (cb_rm d2) (cb_Pc w g As M) (cb_Ql w g r M2) 0 0 (cb_A w g)) (hd : d2 < dp) (hn : As.length = n) {st0 : List Value} (hst : st0 = As.reverse ++ st) (hr : (st.map fun v => v.category).sum ≤ 8) (d : decode cc pc = .ok (.invokestatic idx, 3)) (k : cb_J w g γ nL M2 (pc + 3) lv (.long r :: st)) : cb_J w g γ nL M pc lv st0 := by
  intro H locs ls hP hS hl
  obtain ⟨hx, hb, hml, hown, hts, hB, -, -, hR, hL, -⟩ := hC
  obtain ⟨v1, v2, v3, v5, v6, v7⟩ := cv
  have G : GoodIn cb_ws (va_wsS own idx y (.code y c2 n2 ret2 :: cb_ws)) := cb_good (fun _ h => h) (fun x hx => by
    rcases List.mem_append.mp hx with h | h
    · simp only [List.mem_cons, List.not_mem_nil, or_false] at h
      rcases h with rfl | rfl | rfl <;> assumption
    · exact cb_in_cons v1 x h)
  subst hL
  subst hst
  refine va_calll (va_runS (nL := nL) (As := As) (rest := st) (n := n) ⟨hx, hb, hml, hown, hts⟩ hM (va_cwS n hts G rfl rfl rfl v6 (by rw [hR]; exact cb_rm_ok hd v7)) ⟨cb_Pc.blind, fun U hU hW => ⟨rfl, hB.warm (by rw [hU]; exact hS) hW, by rw [hU]; exact hP⟩⟩ rfl hn hl.1 rfl (lv_room hr) d ⟨by rw [hR]; exact Nat.le_refl 0, by rw [hR]; exact Nat.le_refl 0⟩) hS (fun q _ h => h) (fun q h => h) (fun x u t H1 locs1 ht _ hx hB9 _ _ hS1 => ?_)
  subst hx
  exact k H1 locs1 ls (by rw [← ht]; exact hB9) hS1 hl
theorem cj_callNl (hC : cb_C w g γ own cc nL ret dp l Qc) {idx n2 n d2 : Nat} {y : MethodName} {c2 : ByteArray} {ret2 : Option FieldType} {host : String} (cv : cb_CN own idx y c2 n2 ret2 n host) {As : List Value} {r : Int64} {M2 : cb_Mem} (hM : Met l y (.code y c2 n2 ret2 :: cb_ws) (cb_rm d2) (cb_Pc w g As M) (cb_Ql w g r M2) 0 0 (cb_A w g)) (hd : d2 < dp) (hn : As.length = n) {st0 : List Value} (hst : st0 = As.reverse ++ st) (hr : (st.map fun v => v.category).sum ≤ 8) (d : decode cc pc = .ok (.invokestatic idx, 3)) (k : cb_J w g γ nL M2 (pc + 3) lv (.long r :: st)) : cb_J w g γ nL M pc lv st0 := by
  intro H locs ls hP hS hl
  obtain ⟨hx, hb, hml, hown, hts, hB, -, -, hR, hL, -⟩ := hC
  obtain ⟨v1, v2, v3, v5, v6, v7⟩ := cv
  have G : GoodIn cb_ws (.code y c2 n2 ret2 :: cb_ws) := cb_good (fun _ h => h) (cb_in_cons v1)
  subst hL
  subst hst
  refine va_calll (va_runSN (nL := nL) (As := As) (rest := st) (n := n) ⟨hx, hb, hml, hown, hts⟩ hM ⟨va_cnB n hts G rfl rfl rfl (hB.2.1 _ v2) (hts _ v5) v6 (by rw [hR]; exact cb_rm_ok hd v7), hts _ v3, trivial⟩ ⟨cb_Pc.blind, fun U hU hW => ⟨rfl, hB.warm (by rw [hU]; exact hS) hW, by rw [hU]; exact hP⟩⟩ rfl hn hl.1 rfl (lv_room hr) d ⟨by rw [hR]; exact Nat.le_refl 0, by rw [hR]; exact Nat.le_refl 0⟩) hS (fun q _ h => h) (fun q h => h) (fun x u t H1 locs1 ht _ hx hB9 _ _ hS1 => ?_)
  subst hx
  exact k H1 locs1 ls (by rw [← ht]; exact hB9) hS1 hl
theorem cj_callVv (hC : cb_C w g γ own cc nL ret dp l Qc) {idx n2 n d2 : Nat} {y : MethodName} {c2 : ByteArray} {ret2 : Option FieldType} (cv : cb_CV own idx y c2 n2 ret2 n) {q ci : Nat} (hq : q < w.1) {fs : List Value} (hE : w.2.1 g q (M q) = .inr (ci, fs)) {T : u_T} {Nf : Nat} (hcl : vwCl[ci]? = some (y.cls, T, Nf)) {As : List Value}  {M2 : cb_Mem} (hM : Met l y (.code y c2 n2 ret2 :: cb_ws) (cb_rm d2) (cb_Pc w g (.ref (g.2.1 q) :: As) M) (cb_Qv w g M2) 0 0 (cb_A w g)) (hd : d2 < dp) (hn : As.length = n) {st0 : List Value} (hst : st0 = As.reverse ++ .ref (g.2.1 q) :: st) (hr : (st.map fun v => v.category).sum ≤ 8) (d : decode cc pc = .ok (.invokevirtual idx, 3)) (k : cb_J w g γ nL M2 (pc + 3) lv st) : cb_J w g γ nL M pc lv st0 := by
  intro H locs ls hP hS hl
  obtain ⟨hx, hb, hml, hown, hts, hB, -, -, hR, hL, -⟩ := hC
  obtain ⟨v1, v2, v3, v4, v5, v6, v7⟩ := cv
  have G : GoodIn cb_ws (wsV own idx y.cls y (.code y c2 n2 ret2 :: cb_ws)) := cb_good (fun _ h => h) (fun x hx => by
    rcases List.mem_append.mp hx with h | h
    · simp only [List.mem_cons, List.not_mem_nil, or_false] at h
      rcases h with rfl | rfl | rfl | rfl <;> assumption
    · exact cb_in_cons v1 x h)
  subst hL
  subst hst
  refine va_callv (va_runV (nL := nL) (As := As) (rest := st) (n := n) ⟨hx, hb, hml, hown, hts⟩ hM (cwV n hts G rfl rfl rfl ⟨rfl, v6⟩ (by rw [hR]; exact cb_rm_ok hd v7)) ⟨cb_Pc.blind, va_recv hB.1 hP hcl (by rw [cb_wl_get w g M hq, hE]), fun U hU hW => ⟨rfl, hB.warm (by rw [hU]; exact hS) hW, by rw [hU]; exact hP⟩⟩ rfl hn hl.1 rfl (lv_room hr) d ⟨by rw [hR]; exact Nat.le_refl 0, by rw [hR]; exact Nat.le_refl 0⟩) hS (fun q _ h => h) (fun q h => h) (fun u t H1 locs1 ht _ _ hB9 _ _ hS1 => ?_)
  skip
  exact k H1 locs1 ls (by rw [← ht]; exact hB9) hS1 hl
theorem cj_callSv (hC : cb_C w g γ own cc nL ret dp l Qc) {idx n2 n d2 : Nat} {y : MethodName} {c2 : ByteArray} {ret2 : Option FieldType} (cv : cb_CS own idx y c2 n2 ret2 n) {As : List Value}  {M2 : cb_Mem} (hM : Met l y (.code y c2 n2 ret2 :: cb_ws) (cb_rm d2) (cb_Pc w g As M) (cb_Qv w g M2) 0 0 (cb_A w g)) (hd : d2 < dp) (hn : As.length = n) {st0 : List Value} (hst : st0 = As.reverse ++ st) (hr : (st.map fun v => v.category).sum ≤ 8) (d : decode cc pc = .ok (.invokestatic idx, 3)) (k : cb_J w g γ nL M2 (pc + 3) lv st) : cb_J w g γ nL M pc lv st0 := by
  intro H locs ls hP hS hl
  obtain ⟨hx, hb, hml, hown, hts, hB, -, -, hR, hL, -⟩ := hC
  obtain ⟨v1, v2, v3, v5, v6, v7⟩ := cv
  have G : GoodIn cb_ws (va_wsS own idx y (.code y c2 n2 ret2 :: cb_ws)) := cb_good (fun _ h => h) (fun x hx => by
    rcases List.mem_append.mp hx with h | h
    · simp only [List.mem_cons, List.not_mem_nil, or_false] at h
      rcases h with rfl | rfl | rfl <;> assumption
    · exact cb_in_cons v1 x h)
  subst hL
  subst hst
  refine va_callv (va_runS (nL := nL) (As := As) (rest := st) (n := n) ⟨hx, hb, hml, hown, hts⟩ hM (va_cwS n hts G rfl rfl rfl v6 (by rw [hR]; exact cb_rm_ok hd v7)) ⟨cb_Pc.blind, fun U hU hW => ⟨rfl, hB.warm (by rw [hU]; exact hS) hW, by rw [hU]; exact hP⟩⟩ rfl hn hl.1 rfl (lv_room hr) d ⟨by rw [hR]; exact Nat.le_refl 0, by rw [hR]; exact Nat.le_refl 0⟩) hS (fun q _ h => h) (fun q h => h) (fun u t H1 locs1 ht _ _ hB9 _ _ hS1 => ?_)
  skip
  exact k H1 locs1 ls (by rw [← ht]; exact hB9) hS1 hl
theorem cj_callNv (hC : cb_C w g γ own cc nL ret dp l Qc) {idx n2 n d2 : Nat} {y : MethodName} {c2 : ByteArray} {ret2 : Option FieldType} {host : String} (cv : cb_CN own idx y c2 n2 ret2 n host) {As : List Value}  {M2 : cb_Mem} (hM : Met l y (.code y c2 n2 ret2 :: cb_ws) (cb_rm d2) (cb_Pc w g As M) (cb_Qv w g M2) 0 0 (cb_A w g)) (hd : d2 < dp) (hn : As.length = n) {st0 : List Value} (hst : st0 = As.reverse ++ st) (hr : (st.map fun v => v.category).sum ≤ 8) (d : decode cc pc = .ok (.invokestatic idx, 3)) (k : cb_J w g γ nL M2 (pc + 3) lv st) : cb_J w g γ nL M pc lv st0 := by
  intro H locs ls hP hS hl
  obtain ⟨hx, hb, hml, hown, hts, hB, -, -, hR, hL, -⟩ := hC
  obtain ⟨v1, v2, v3, v5, v6, v7⟩ := cv
  have G : GoodIn cb_ws (.code y c2 n2 ret2 :: cb_ws) := cb_good (fun _ h => h) (cb_in_cons v1)
  subst hL
  subst hst
  refine va_callv (va_runSN (nL := nL) (As := As) (rest := st) (n := n) ⟨hx, hb, hml, hown, hts⟩ hM ⟨va_cnB n hts G rfl rfl rfl (hB.2.1 _ v2) (hts _ v5) v6 (by rw [hR]; exact cb_rm_ok hd v7), hts _ v3, trivial⟩ ⟨cb_Pc.blind, fun U hU hW => ⟨rfl, hB.warm (by rw [hU]; exact hS) hW, by rw [hU]; exact hP⟩⟩ rfl hn hl.1 rfl (lv_room hr) d ⟨by rw [hR]; exact Nat.le_refl 0, by rw [hR]; exact Nat.le_refl 0⟩) hS (fun q _ h => h) (fun q h => h) (fun u t H1 locs1 ht _ _ hB9 _ _ hS1 => ?_)
  skip
  exact k H1 locs1 ls (by rw [← ht]; exact hB9) hS1 hl
end CBR
/-! the pure side: guards, names, binds -/
def cb_let {α β : Type} (x : β) (f : β → α) : α := f x
theorem cb_t {α : Type} {c : Prop} [Decidable c] {a b : Option α} {o : α} (hc : c) (h : (if c then a else b) = some o) : a = some o := by rw [if_pos hc] at h; exact h
theorem cb_f {α : Type} {c : Prop} [Decidable c] {a b : Option α} {o : α} (hc : ¬ c) (h : (if c then a else b) = some o) : b = some o := by rw [if_neg hc] at h; exact h
theorem cb_b {α β : Type} {x : Option β} {f : β → Option α} {o : α} (h : x.bind f = some o) : ∃ v, x = some v ∧ f v = some o := by
  cases x with
  | none => cases h
  | some v => exact ⟨v, rfl, h⟩
theorem cb_l {α β : Type} {x : β} {f : β → Option α} {o : α} (h : cb_let x f = some o) : ∃ v, v = x ∧ f v = some o := ⟨x, rfl, h⟩
/-- an index in its row, as it is decided -/
def cb_in (i : Int32) (n : Nat) : Bool := decide (0 ≤ i.toInt) && decide (i.toInt < n)
theorem cb_in_iff {i : Int32} {n : Nat} : cb_in i n = true ↔ vp_in i n := by
  unfold cb_in
  rw [vp_in_iff, Bool.and_eq_true, decide_eq_true_eq, decide_eq_true_eq]
theorem cb_g {α : Type} {i : Int32} {n : Nat} {a : Option α} {o : α} (h : (if cb_in i n = true then a else none) = some o) : vp_in i n ∧ a = some o := by
  by_cases hc : cb_in i n = true
  · rw [if_pos hc] at h; exact ⟨cb_in_iff.mp hc, h⟩
  · rw [if_neg hc] at h; cases h
theorem cb_gn {α β : Type} {x y : β} [DecidableEq β] {a : Option α} {o : α} (h : (if x = y then none else a) = some o) : ¬ x = y ∧ a = some o := by
  by_cases hc : x = y
  · rw [if_pos hc] at h; cases h
  · rw [if_neg hc] at h; exact ⟨hc, h⟩
theorem cb_gp {α : Type} {c : Prop} [Decidable c] {a : Option α} {o : α} (h : (if c then a else none) = some o) : c ∧ a = some o := by
  by_cases hc : c
  · rw [if_pos hc] at h; exact ⟨hc, h⟩
  · rw [if_neg hc] at h; cases h
def cb_bs {α ρ τ : Type} (x : Option (ρ ⊕ τ)) (f : ρ → Option α) (k : τ → Option α) : Option α := x.bind fun z => match z with
  | .inl r => f r
  | .inr t => k t
theorem cb_s {α ρ τ : Type} {x : Option (ρ ⊕ τ)} {f : ρ → Option α} {k : τ → Option α} {o : α} (h : cb_bs x f k = some o) : ∃ z, x = some z ∧ (∀ r, z = .inl r → f r = some o) ∧ ∀ t, z = .inr t → k t = some o := by
  cases x with
  | none => cases h
  | some z =>
    refine ⟨z, rfl, fun r hr => ?_, fun t ht => ?_⟩
    · subst hr; exact h
    · subst ht; exact h
end
