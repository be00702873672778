theorem dX6_init_0 : decode cX6_init 0 = .ok (.aload_n 0, 1) := by decide +kernel
theorem dX6_init_1 : decode cX6_init 1 = .ok (.invokespecial 1, 3) := by decide +kernel
theorem dX6_init_4 : decode cX6_init 4 = .ok (.aload_n 0, 1) := by decide +kernel
theorem dX6_init_5 : decode cX6_init 5 = .ok (.iconst 2, 1) := by decide +kernel
theorem dX6_init_6 : decode cX6_init 6 = .ok (.anewarray 7, 3) := by decide +kernel
theorem dX6_init_9 : decode cX6_init 9 = .ok (.dup, 1) := by decide +kernel
theorem dX6_init_10 : decode cX6_init 10 = .ok (.iconst 0, 1) := by decide +kernel
theorem dX6_init_11 : decode cX6_init 11 = .ok (.new 7, 3) := by decide +kernel
theorem dX6_init_14 : decode cX6_init 14 = .ok (.dup, 1) := by decide +kernel
theorem dX6_init_15 : decode cX6_init 15 = .ok (.ldc 9, 2) := by decide +kernel
theorem dX6_init_17 : decode cX6_init 17 = .ok (.iconst 2, 1) := by decide +kernel
theorem dX6_init_18 : decode cX6_init 18 = .ok (.invokespecial 11, 3) := by decide +kernel
theorem dX6_init_21 : decode cX6_init 21 = .ok (.aastore, 1) := by decide +kernel
theorem dX6_init_22 : decode cX6_init 22 = .ok (.dup, 1) := by decide +kernel
theorem dX6_init_23 : decode cX6_init 23 = .ok (.iconst 1, 1) := by decide +kernel
theorem dX6_init_24 : decode cX6_init 24 = .ok (.new 7, 3) := by decide +kernel
theorem dX6_init_27 : decode cX6_init 27 = .ok (.dup, 1) := by decide +kernel
theorem dX6_init_28 : decode cX6_init 28 = .ok (.ldc 14, 2) := by decide +kernel
theorem dX6_init_30 : decode cX6_init 30 = .ok (.iconst 3, 1) := by decide +kernel
theorem dX6_init_31 : decode cX6_init 31 = .ok (.invokespecial 11, 3) := by decide +kernel
theorem dX6_init_34 : decode cX6_init 34 = .ok (.aastore, 1) := by decide +kernel
theorem dX6_init_35 : decode cX6_init 35 = .ok (.putfield 16, 3) := by decide +kernel
theorem dX6_init_38 : decode cX6_init 38 = .ok (.aload_n 0, 1) := by decide +kernel
theorem dX6_init_39 : decode cX6_init 39 = .ok (.new 22, 3) := by decide +kernel
theorem dX6_init_42 : decode cX6_init 42 = .ok (.dup, 1) := by decide +kernel
theorem dX6_init_43 : decode cX6_init 43 = .ok (.bipush 6, 2) := by decide +kernel
theorem dX6_init_45 : decode cX6_init 45 = .ok (.invokespecial 24, 3) := by decide +kernel
theorem dX6_init_48 : decode cX6_init 48 = .ok (.putfield 27, 3) := by decide +kernel
theorem dX6_init_51 : decode cX6_init 51 = .ok (.aload_n 0, 1) := by decide +kernel
theorem dX6_init_52 : decode cX6_init 52 = .ok (.new 22, 3) := by decide +kernel
theorem dX6_init_55 : decode cX6_init 55 = .ok (.dup, 1) := by decide +kernel
theorem dX6_init_56 : decode cX6_init 56 = .ok (.bipush 6, 2) := by decide +kernel
theorem dX6_init_58 : decode cX6_init 58 = .ok (.invokespecial 24, 3) := by decide +kernel
theorem dX6_init_61 : decode cX6_init 61 = .ok (.putfield 31, 3) := by decide +kernel
theorem dX6_init_64 : decode cX6_init 64 = .ok (.aload_n 0, 1) := by decide +kernel
theorem dX6_init_65 : decode cX6_init 65 = .ok (.new 22, 3) := by decide +kernel
theorem dX6_init_68 : decode cX6_init 68 = .ok (.dup, 1) := by decide +kernel
theorem dX6_init_69 : decode cX6_init 69 = .ok (.bipush 8, 2) := by decide +kernel
theorem dX6_init_71 : decode cX6_init 71 = .ok (.invokespecial 24, 3) := by decide +kernel
theorem dX6_init_74 : decode cX6_init 74 = .ok (.putfield 34, 3) := by decide +kernel
theorem dX6_init_77 : decode cX6_init 77 = .ok (.aload_n 0, 1) := by decide +kernel
theorem dX6_init_78 : decode cX6_init 78 = .ok (.new 22, 3) := by decide +kernel
theorem dX6_init_81 : decode cX6_init 81 = .ok (.dup, 1) := by decide +kernel
theorem dX6_init_82 : decode cX6_init 82 = .ok (.bipush 8, 2) := by decide +kernel
theorem dX6_init_84 : decode cX6_init 84 = .ok (.invokespecial 24, 3) := by decide +kernel
theorem dX6_init_87 : decode cX6_init 87 = .ok (.putfield 37, 3) := by decide +kernel
theorem dX6_init_90 : decode cX6_init 90 = .ok (.aload_n 0, 1) := by decide +kernel
theorem dX6_init_91 : decode cX6_init 91 = .ok (.iconst 4, 1) := by decide +kernel
theorem dX6_init_92 : decode cX6_init 92 = .ok (.anewarray 40, 3) := by decide +kernel
theorem dX6_init_95 : decode cX6_init 95 = .ok (.dup, 1) := by decide +kernel
theorem dX6_init_96 : decode cX6_init 96 = .ok (.iconst 0, 1) := by decide +kernel
theorem dX6_init_97 : decode cX6_init 97 = .ok (.new 40, 3) := by decide +kernel
theorem dX6_init_100 : decode cX6_init 100 = .ok (.dup, 1) := by decide +kernel
theorem dX6_init_101 : decode cX6_init 101 = .ok (.invokespecial 42, 3) := by decide +kernel
theorem dX6_init_104 : decode cX6_init 104 = .ok (.aastore, 1) := by decide +kernel
theorem dX6_init_105 : decode cX6_init 105 = .ok (.dup, 1) := by decide +kernel
theorem dX6_init_106 : decode cX6_init 106 = .ok (.iconst 1, 1) := by decide +kernel
theorem dX6_init_107 : decode cX6_init 107 = .ok (.new 40, 3) := by decide +kernel
theorem dX6_init_110 : decode cX6_init 110 = .ok (.dup, 1) := by decide +kernel
theorem dX6_init_111 : decode cX6_init 111 = .ok (.invokespecial 42, 3) := by decide +kernel
theorem dX6_init_114 : decode cX6_init 114 = .ok (.aastore, 1) := by decide +kernel
theorem dX6_init_115 : decode cX6_init 115 = .ok (.dup, 1) := by decide +kernel
theorem dX6_init_116 : decode cX6_init 116 = .ok (.iconst 2, 1) := by decide +kernel
theorem dX6_init_117 : decode cX6_init 117 = .ok (.new 40, 3) := by decide +kernel
theorem dX6_init_120 : decode cX6_init 120 = .ok (.dup, 1) := by decide +kernel
theorem dX6_init_121 : decode cX6_init 121 = .ok (.invokespecial 42, 3) := by decide +kernel
theorem dX6_init_124 : decode cX6_init 124 = .ok (.aastore, 1) := by decide +kernel
theorem dX6_init_125 : decode cX6_init 125 = .ok (.dup, 1) := by decide +kernel
theorem dX6_init_126 : decode cX6_init 126 = .ok (.iconst 3, 1) := by decide +kernel
theorem dX6_init_127 : decode cX6_init 127 = .ok (.new 40, 3) := by decide +kernel
theorem dX6_init_130 : decode cX6_init 130 = .ok (.dup, 1) := by decide +kernel
theorem dX6_init_131 : decode cX6_init 131 = .ok (.invokespecial 42, 3) := by decide +kernel
theorem dX6_init_134 : decode cX6_init 134 = .ok (.aastore, 1) := by decide +kernel
theorem dX6_init_135 : decode cX6_init 135 = .ok (.putfield 43, 3) := by decide +kernel
theorem dX6_init_138 : decode cX6_init 138 = .ok (.aload_n 0, 1) := by decide +kernel
theorem dX6_init_139 : decode cX6_init 139 = .ok (.new 47, 3) := by decide +kernel
theorem dX6_init_142 : decode cX6_init 142 = .ok (.dup, 1) := by decide +kernel
theorem dX6_init_143 : decode cX6_init 143 = .ok (.invokespecial 49, 3) := by decide +kernel
theorem dX6_init_146 : decode cX6_init 146 = .ok (.putfield 50, 3) := by decide +kernel
theorem dX6_init_149 : decode cX6_init 149 = .ok (.aload_n 0, 1) := by decide +kernel
theorem dX6_init_150 : decode cX6_init 150 = .ok (.new 54, 3) := by decide +kernel
theorem dX6_init_153 : decode cX6_init 153 = .ok (.dup, 1) := by decide +kernel
theorem dX6_init_154 : decode cX6_init 154 = .ok (.invokespecial 56, 3) := by decide +kernel
theorem dX6_init_157 : decode cX6_init 157 = .ok (.putfield 57, 3) := by decide +kernel
theorem dX6_init_160 : decode cX6_init 160 = .ok (.aload_n 0, 1) := by decide +kernel
theorem dX6_init_161 : decode cX6_init 161 = .ok (.new 61, 3) := by decide +kernel
theorem dX6_init_164 : decode cX6_init 164 = .ok (.dup, 1) := by decide +kernel
theorem dX6_init_165 : decode cX6_init 165 = .ok (.invokespecial 63, 3) := by decide +kernel
theorem dX6_init_168 : decode cX6_init 168 = .ok (.putfield 64, 3) := by decide +kernel
theorem dX6_init_171 : decode cX6_init 171 = .ok (.aload_n 0, 1) := by decide +kernel
theorem dX6_init_172 : decode cX6_init 172 = .ok (.bipush 8, 2) := by decide +kernel
theorem dX6_init_174 : decode cX6_init 174 = .ok (.bipush 9, 2) := by decide +kernel
theorem dX6_init_176 : decode cX6_init 176 = .ok (.multianewarray 68 2, 4) := by decide +kernel
theorem dX6_init_180 : decode cX6_init 180 = .ok (.putfield 70, 3) := by decide +kernel
theorem dX6_init_183 : decode cX6_init 183 = .ok (.aload_n 0, 1) := by decide +kernel
theorem dX6_init_184 : decode cX6_init 184 = .ok (.iconst 0, 1) := by decide +kernel
theorem dX6_init_185 : decode cX6_init 185 = .ok (.putfield 73, 3) := by decide +kernel
theorem dX6_init_188 : decode cX6_init 188 = .ok (.return_, 1) := by decide +kernel
theorem dX6_type_0 : decode cX6_type 0 = .ok (.iload_n 1, 1) := by decide +kernel
theorem dX6_type_1 : decode cX6_type 1 = .ok (.iconst 2, 1) := by decide +kernel
theorem dX6_type_2 : decode cX6_type 2 = .ok (.invokestatic 77, 3) := by decide +kernel
theorem dX6_type_5 : decode cX6_type 5 = .ok (.ifCond .ne 13, 3) := by decide +kernel
theorem dX6_type_8 : decode cX6_type 8 = .ok (.iload_n 2, 1) := by decide +kernel
theorem dX6_type_9 : decode cX6_type 9 = .ok (.sipush 256, 3) := by decide +kernel
theorem dX6_type_12 : decode cX6_type 12 = .ok (.invokestatic 77, 3) := by decide +kernel
theorem dX6_type_15 : decode cX6_type 15 = .ok (.ifCond .eq 6, 3) := by decide +kernel
theorem dX6_type_18 : decode cX6_type 18 = .ok (.bipush (-2), 2) := by decide +kernel
theorem dX6_type_20 : decode cX6_type 20 = .ok (.ireturn, 1) := by decide +kernel
theorem dX6_type_21 : decode cX6_type 21 = .ok (.aload_n 0, 1) := by decide +kernel
theorem dX6_type_22 : decode cX6_type 22 = .ok (.getfield 64, 3) := by decide +kernel
theorem dX6_type_25 : decode cX6_type 25 = .ok (.invokevirtual 81, 3) := by decide +kernel
theorem dX6_type_28 : decode cX6_type 28 = .ok (.aload_n 0, 1) := by decide +kernel
theorem dX6_type_29 : decode cX6_type 29 = .ok (.getfield 16, 3) := by decide +kernel
theorem dX6_type_32 : decode cX6_type 32 = .ok (.iload_n 1, 1) := by decide +kernel
theorem dX6_type_33 : decode cX6_type 33 = .ok (.aaload, 1) := by decide +kernel
theorem dX6_type_34 : decode cX6_type 34 = .ok (.iload_n 2, 1) := by decide +kernel
theorem dX6_type_35 : decode cX6_type 35 = .ok (.invokevirtual 84, 3) := by decide +kernel
theorem dX6_type_38 : decode cX6_type 38 = .ok (.ireturn, 1) := by decide +kernel
theorem dX6_wipe_0 : decode cX6_wipe 0 = .ok (.iload_n 1, 1) := by decide +kernel
theorem dX6_wipe_1 : decode cX6_wipe 1 = .ok (.iconst 2, 1) := by decide +kernel
theorem dX6_wipe_2 : decode cX6_wipe 2 = .ok (.invokestatic 77, 3) := by decide +kernel
theorem dX6_wipe_5 : decode cX6_wipe 5 = .ok (.ifCond .eq 6, 3) := by decide +kernel
theorem dX6_wipe_8 : decode cX6_wipe 8 = .ok (.bipush (-2), 2) := by decide +kernel
theorem dX6_wipe_10 : decode cX6_wipe 10 = .ok (.ireturn, 1) := by decide +kernel
theorem dX6_wipe_11 : decode cX6_wipe 11 = .ok (.aload_n 0, 1) := by decide +kernel
theorem dX6_wipe_12 : decode cX6_wipe 12 = .ok (.getfield 64, 3) := by decide +kernel
theorem dX6_wipe_15 : decode cX6_wipe 15 = .ok (.invokevirtual 81, 3) := by decide +kernel
theorem dX6_wipe_18 : decode cX6_wipe 18 = .ok (.aload_n 0, 1) := by decide +kernel
theorem dX6_wipe_19 : decode cX6_wipe 19 = .ok (.getfield 16, 3) := by decide +kernel
theorem dX6_wipe_22 : decode cX6_wipe 22 = .ok (.iload_n 1, 1) := by decide +kernel
theorem dX6_wipe_23 : decode cX6_wipe 23 = .ok (.aaload, 1) := by decide +kernel
theorem dX6_wipe_24 : decode cX6_wipe 24 = .ok (.invokevirtual 88, 3) := by decide +kernel
theorem dX6_wipe_27 : decode cX6_wipe 27 = .ok (.ireturn, 1) := by decide +kernel
theorem dX6_undo_0 : decode cX6_undo 0 = .ok (.iload_n 1, 1) := by decide +kernel
theorem dX6_undo_1 : decode cX6_undo 1 = .ok (.iconst 2, 1) := by decide +kernel
theorem dX6_undo_2 : decode cX6_undo 2 = .ok (.invokestatic 77, 3) := by decide +kernel
theorem dX6_undo_5 : decode cX6_undo 5 = .ok (.ifCond .eq 6, 3) := by decide +kernel
theorem dX6_undo_8 : decode cX6_undo 8 = .ok (.bipush (-2), 2) := by decide +kernel
theorem dX6_undo_10 : decode cX6_undo 10 = .ok (.ireturn, 1) := by decide +kernel
theorem dX6_undo_11 : decode cX6_undo 11 = .ok (.aload_n 0, 1) := by decide +kernel
theorem dX6_undo_12 : decode cX6_undo 12 = .ok (.getfield 64, 3) := by decide +kernel
theorem dX6_undo_15 : decode cX6_undo 15 = .ok (.invokevirtual 81, 3) := by decide +kernel
theorem dX6_undo_18 : decode cX6_undo 18 = .ok (.aload_n 0, 1) := by decide +kernel
theorem dX6_undo_19 : decode cX6_undo 19 = .ok (.getfield 16, 3) := by decide +kernel
theorem dX6_undo_22 : decode cX6_undo 22 = .ok (.iload_n 1, 1) := by decide +kernel
theorem dX6_undo_23 : decode cX6_undo 23 = .ok (.aaload, 1) := by decide +kernel
theorem dX6_undo_24 : decode cX6_undo 24 = .ok (.invokevirtual 92, 3) := by decide +kernel
theorem dX6_undo_27 : decode cX6_undo 27 = .ok (.ireturn, 1) := by decide +kernel
theorem dX6_fault_0 : decode cX6_fault 0 = .ok (.iload_n 1, 1) := by decide +kernel
theorem dX6_fault_1 : decode cX6_fault 1 = .ok (.iconst 2, 1) := by decide +kernel
theorem dX6_fault_2 : decode cX6_fault 2 = .ok (.invokestatic 77, 3) := by decide +kernel
theorem dX6_fault_5 : decode cX6_fault 5 = .ok (.ifCond .eq 6, 3) := by decide +kernel
theorem dX6_fault_8 : decode cX6_fault 8 = .ok (.bipush (-2), 2) := by decide +kernel
theorem dX6_fault_10 : decode cX6_fault 10 = .ok (.ireturn, 1) := by decide +kernel
theorem dX6_fault_11 : decode cX6_fault 11 = .ok (.aload_n 0, 1) := by decide +kernel
theorem dX6_fault_12 : decode cX6_fault 12 = .ok (.getfield 16, 3) := by decide +kernel
theorem dX6_fault_15 : decode cX6_fault 15 = .ok (.iload_n 1, 1) := by decide +kernel
theorem dX6_fault_16 : decode cX6_fault 16 = .ok (.aaload, 1) := by decide +kernel
theorem dX6_fault_17 : decode cX6_fault 17 = .ok (.getfield 95, 3) := by decide +kernel
theorem dX6_fault_20 : decode cX6_fault 20 = .ok (.ireturn, 1) := by decide +kernel
theorem dX6_head_0 : decode cX6_head 0 = .ok (.aload_n 0, 1) := by decide +kernel
theorem dX6_head_1 : decode cX6_head 1 = .ok (.iload_n 1, 1) := by decide +kernel
theorem dX6_head_2 : decode cX6_head 2 = .ok (.invokevirtual 98, 3) := by decide +kernel
theorem dX6_head_5 : decode cX6_head 5 = .ok (.ifCond .ne 11, 3) := by decide +kernel
theorem dX6_head_8 : decode cX6_head 8 = .ok (.iload_n 2, 1) := by decide +kernel
theorem dX6_head_9 : decode cX6_head 9 = .ok (.iconst 2, 1) := by decide +kernel
theorem dX6_head_10 : decode cX6_head 10 = .ok (.invokestatic 77, 3) := by decide +kernel
theorem dX6_head_13 : decode cX6_head 13 = .ok (.ifCond .eq 6, 3) := by decide +kernel
theorem dX6_head_16 : decode cX6_head 16 = .ok (.bipush (-2), 2) := by decide +kernel
theorem dX6_head_18 : decode cX6_head 18 = .ok (.ireturn, 1) := by decide +kernel
theorem dX6_head_19 : decode cX6_head 19 = .ok (.iload_n 2, 1) := by decide +kernel
theorem dX6_head_20 : decode cX6_head 20 = .ok (.ifCond .ne 17, 3) := by decide +kernel
theorem dX6_head_23 : decode cX6_head 23 = .ok (.aload_n 0, 1) := by decide +kernel
theorem dX6_head_24 : decode cX6_head 24 = .ok (.getfield 16, 3) := by decide +kernel
theorem dX6_head_27 : decode cX6_head 27 = .ok (.iconst 0, 1) := by decide +kernel
theorem dX6_head_28 : decode cX6_head 28 = .ok (.aaload, 1) := by decide +kernel
theorem dX6_head_29 : decode cX6_head 29 = .ok (.getfield 102, 3) := by decide +kernel
theorem dX6_head_32 : decode cX6_head 32 = .ok (.iload_n 1, 1) := by decide +kernel
theorem dX6_head_33 : decode cX6_head 33 = .ok (.iaload, 1) := by decide +kernel
theorem dX6_head_34 : decode cX6_head 34 = .ok (.goto 14, 3) := by decide +kernel
theorem dX6_head_37 : decode cX6_head 37 = .ok (.aload_n 0, 1) := by decide +kernel
theorem dX6_head_38 : decode cX6_head 38 = .ok (.getfield 16, 3) := by decide +kernel
theorem dX6_head_41 : decode cX6_head 41 = .ok (.iconst 0, 1) := by decide +kernel
theorem dX6_head_42 : decode cX6_head 42 = .ok (.aaload, 1) := by decide +kernel
theorem dX6_head_43 : decode cX6_head 43 = .ok (.getfield 106, 3) := by decide +kernel
theorem dX6_head_46 : decode cX6_head 46 = .ok (.iload_n 1, 1) := by decide +kernel
theorem dX6_head_47 : decode cX6_head 47 = .ok (.iaload, 1) := by decide +kernel
theorem dX6_head_48 : decode cX6_head 48 = .ok (.ireturn, 1) := by decide +kernel
theorem dX6_couple_0 : decode cX6_couple 0 = .ok (.aload_n 0, 1) := by decide +kernel
theorem dX6_couple_1 : decode cX6_couple 1 = .ok (.iload_n 1, 1) := by decide +kernel
theorem dX6_couple_2 : decode cX6_couple 2 = .ok (.invokevirtual 109, 3) := by decide +kernel
theorem dX6_couple_5 : decode cX6_couple 5 = .ok (.ifCond .ne 11, 3) := by decide +kernel
theorem dX6_couple_8 : decode cX6_couple 8 = .ok (.iload_n 2, 1) := by decide +kernel
theorem dX6_couple_9 : decode cX6_couple 9 = .ok (.iconst 3, 1) := by decide +kernel
theorem dX6_couple_10 : decode cX6_couple 10 = .ok (.invokestatic 77, 3) := by decide +kernel
theorem dX6_couple_13 : decode cX6_couple 13 = .ok (.ifCond .eq 6, 3) := by decide +kernel
theorem dX6_couple_16 : decode cX6_couple 16 = .ok (.bipush (-2), 2) := by decide +kernel
theorem dX6_couple_18 : decode cX6_couple 18 = .ok (.ireturn, 1) := by decide +kernel
theorem dX6_couple_19 : decode cX6_couple 19 = .ok (.iload_n 2, 1) := by decide +kernel
theorem dX6_couple_20 : decode cX6_couple 20 = .ok (.ifCond .ne 15, 3) := by decide +kernel
theorem dX6_couple_23 : decode cX6_couple 23 = .ok (.aload_n 0, 1) := by decide +kernel
theorem dX6_couple_24 : decode cX6_couple 24 = .ok (.getfield 16, 3) := by decide +kernel
theorem dX6_couple_27 : decode cX6_couple 27 = .ok (.iconst 1, 1) := by decide +kernel
theorem dX6_couple_28 : decode cX6_couple 28 = .ok (.aaload, 1) := by decide +kernel
theorem dX6_couple_29 : decode cX6_couple 29 = .ok (.getfield 102, 3) := by decide +kernel
theorem dX6_couple_32 : decode cX6_couple 32 = .ok (.iload_n 1, 1) := by decide +kernel
theorem dX6_couple_33 : decode cX6_couple 33 = .ok (.iaload, 1) := by decide +kernel
theorem dX6_couple_34 : decode cX6_couple 34 = .ok (.ireturn, 1) := by decide +kernel
theorem dX6_couple_35 : decode cX6_couple 35 = .ok (.iload_n 2, 1) := by decide +kernel
theorem dX6_couple_36 : decode cX6_couple 36 = .ok (.iconst 1, 1) := by decide +kernel
theorem dX6_couple_37 : decode cX6_couple 37 = .ok (.if_icmp .ne 17, 3) := by decide +kernel
theorem dX6_couple_40 : decode cX6_couple 40 = .ok (.aload_n 0, 1) := by decide +kernel
theorem dX6_couple_41 : decode cX6_couple 41 = .ok (.getfield 16, 3) := by decide +kernel
theorem dX6_couple_44 : decode cX6_couple 44 = .ok (.iconst 1, 1) := by decide +kernel
theorem dX6_couple_45 : decode cX6_couple 45 = .ok (.aaload, 1) := by decide +kernel
theorem dX6_couple_46 : decode cX6_couple 46 = .ok (.getfield 106, 3) := by decide +kernel
theorem dX6_couple_49 : decode cX6_couple 49 = .ok (.iload_n 1, 1) := by decide +kernel
theorem dX6_couple_50 : decode cX6_couple 50 = .ok (.iaload, 1) := by decide +kernel
theorem dX6_couple_51 : decode cX6_couple 51 = .ok (.goto 14, 3) := by decide +kernel
theorem dX6_couple_54 : decode cX6_couple 54 = .ok (.aload_n 0, 1) := by decide +kernel
theorem dX6_couple_55 : decode cX6_couple 55 = .ok (.getfield 16, 3) := by decide +kernel
theorem dX6_couple_58 : decode cX6_couple 58 = .ok (.iconst 1, 1) := by decide +kernel
theorem dX6_couple_59 : decode cX6_couple 59 = .ok (.aaload, 1) := by decide +kernel
theorem dX6_couple_60 : decode cX6_couple 60 = .ok (.getfield 112, 3) := by decide +kernel
theorem dX6_couple_63 : decode cX6_couple 63 = .ok (.iload_n 1, 1) := by decide +kernel
theorem dX6_couple_64 : decode cX6_couple 64 = .ok (.iaload, 1) := by decide +kernel
theorem dX6_couple_65 : decode cX6_couple 65 = .ok (.ireturn, 1) := by decide +kernel
theorem dX6_weather_0 : decode cX6_weather 0 = .ok (.iload_n 1, 1) := by decide +kernel
theorem dX6_weather_1 : decode cX6_weather 1 = .ok (.iconst 2, 1) := by decide +kernel
theorem dX6_weather_2 : decode cX6_weather 2 = .ok (.invokestatic 77, 3) := by decide +kernel
theorem dX6_weather_5 : decode cX6_weather 5 = .ok (.ifCond .ne 21, 3) := by decide +kernel
theorem dX6_weather_8 : decode cX6_weather 8 = .ok (.iload_n 2, 1) := by decide +kernel
theorem dX6_weather_9 : decode cX6_weather 9 = .ok (.iload_n 1, 1) := by decide +kernel
theorem dX6_weather_10 : decode cX6_weather 10 = .ok (.ifCond .ne 8, 3) := by decide +kernel
theorem dX6_weather_13 : decode cX6_weather 13 = .ok (.bipush 30, 2) := by decide +kernel
theorem dX6_weather_15 : decode cX6_weather 15 = .ok (.goto 5, 3) := by decide +kernel
theorem dX6_weather_18 : decode cX6_weather 18 = .ok (.bipush 40, 2) := by decide +kernel
theorem dX6_weather_20 : decode cX6_weather 20 = .ok (.invokestatic 77, 3) := by decide +kernel
theorem dX6_weather_23 : decode cX6_weather 23 = .ok (.ifCond .eq 6, 3) := by decide +kernel
theorem dX6_weather_26 : decode cX6_weather 26 = .ok (.bipush (-2), 2) := by decide +kernel
theorem dX6_weather_28 : decode cX6_weather 28 = .ok (.ireturn, 1) := by decide +kernel
theorem dX6_weather_29 : decode cX6_weather 29 = .ok (.iload_n 1, 1) := by decide +kernel
theorem dX6_weather_30 : decode cX6_weather 30 = .ok (.ifCond .ne 14, 3) := by decide +kernel
theorem dX6_weather_33 : decode cX6_weather 33 = .ok (.aload_n 0, 1) := by decide +kernel
theorem dX6_weather_34 : decode cX6_weather 34 = .ok (.getfield 27, 3) := by decide +kernel
theorem dX6_weather_37 : decode cX6_weather 37 = .ok (.iload_n 2, 1) := by decide +kernel
theorem dX6_weather_38 : decode cX6_weather 38 = .ok (.invokevirtual 115, 3) := by decide +kernel
theorem dX6_weather_41 : decode cX6_weather 41 = .ok (.goto 11, 3) := by decide +kernel
theorem dX6_weather_44 : decode cX6_weather 44 = .ok (.aload_n 0, 1) := by decide +kernel
theorem dX6_weather_45 : decode cX6_weather 45 = .ok (.getfield 31, 3) := by decide +kernel
theorem dX6_weather_48 : decode cX6_weather 48 = .ok (.iload_n 2, 1) := by decide +kernel
theorem dX6_weather_49 : decode cX6_weather 49 = .ok (.invokevirtual 115, 3) := by decide +kernel
theorem dX6_weather_52 : decode cX6_weather 52 = .ok (.ireturn, 1) := by decide +kernel
theorem dX6_rabbit_0 : decode cX6_rabbit 0 = .ok (.iload_n 1, 1) := by decide +kernel
theorem dX6_rabbit_1 : decode cX6_rabbit 1 = .ok (.bipush 40, 2) := by decide +kernel
theorem dX6_rabbit_3 : decode cX6_rabbit 3 = .ok (.invokestatic 77, 3) := by decide +kernel
theorem dX6_rabbit_6 : decode cX6_rabbit 6 = .ok (.ifCond .ne 12, 3) := by decide +kernel
theorem dX6_rabbit_9 : decode cX6_rabbit 9 = .ok (.iload_n 2, 1) := by decide +kernel
theorem dX6_rabbit_10 : decode cX6_rabbit 10 = .ok (.bipush 8, 2) := by decide +kernel
theorem dX6_rabbit_12 : decode cX6_rabbit 12 = .ok (.invokestatic 77, 3) := by decide +kernel
theorem dX6_rabbit_15 : decode cX6_rabbit 15 = .ok (.ifCond .eq 6, 3) := by decide +kernel
theorem dX6_rabbit_18 : decode cX6_rabbit 18 = .ok (.bipush (-2), 2) := by decide +kernel
theorem dX6_rabbit_20 : decode cX6_rabbit 20 = .ok (.ireturn, 1) := by decide +kernel
theorem dX6_rabbit_21 : decode cX6_rabbit 21 = .ok (.aload_n 0, 1) := by decide +kernel
theorem dX6_rabbit_22 : decode cX6_rabbit 22 = .ok (.getfield 64, 3) := by decide +kernel
theorem dX6_rabbit_25 : decode cX6_rabbit 25 = .ok (.invokevirtual 81, 3) := by decide +kernel
theorem dX6_rabbit_28 : decode cX6_rabbit 28 = .ok (.aload_n 0, 1) := by decide +kernel
theorem dX6_rabbit_29 : decode cX6_rabbit 29 = .ok (.getfield 34, 3) := by decide +kernel
theorem dX6_rabbit_32 : decode cX6_rabbit 32 = .ok (.iload_n 1, 1) := by decide +kernel
theorem dX6_rabbit_33 : decode cX6_rabbit 33 = .ok (.bipush 8, 2) := by decide +kernel
theorem dX6_rabbit_35 : decode cX6_rabbit 35 = .ok (.imul, 1) := by decide +kernel
theorem dX6_rabbit_36 : decode cX6_rabbit 36 = .ok (.iload_n 2, 1) := by decide +kernel
theorem dX6_rabbit_37 : decode cX6_rabbit 37 = .ok (.iadd, 1) := by decide +kernel
theorem dX6_rabbit_38 : decode cX6_rabbit 38 = .ok (.invokevirtual 115, 3) := by decide +kernel
theorem dX6_rabbit_41 : decode cX6_rabbit 41 = .ok (.ireturn, 1) := by decide +kernel
theorem dX6_back_0 : decode cX6_back 0 = .ok (.iload_n 1, 1) := by decide +kernel
theorem dX6_back_1 : decode cX6_back 1 = .ok (.iconst 3, 1) := by decide +kernel
theorem dX6_back_2 : decode cX6_back 2 = .ok (.invokestatic 77, 3) := by decide +kernel
theorem dX6_back_5 : decode cX6_back 5 = .ok (.ifCond .eq 6, 3) := by decide +kernel
theorem dX6_back_8 : decode cX6_back 8 = .ok (.bipush (-2), 2) := by decide +kernel
theorem dX6_back_10 : decode cX6_back 10 = .ok (.ireturn, 1) := by decide +kernel
theorem dX6_back_11 : decode cX6_back 11 = .ok (.iload_n 1, 1) := by decide +kernel
theorem dX6_back_12 : decode cX6_back 12 = .ok (.ifCond .ne 11, 3) := by decide +kernel
theorem dX6_back_15 : decode cX6_back 15 = .ok (.aload_n 0, 1) := by decide +kernel
theorem dX6_back_16 : decode cX6_back 16 = .ok (.getfield 27, 3) := by decide +kernel
theorem dX6_back_19 : decode cX6_back 19 = .ok (.invokevirtual 118, 3) := by decide +kernel
theorem dX6_back_22 : decode cX6_back 22 = .ok (.ireturn, 1) := by decide +kernel
theorem dX6_back_23 : decode cX6_back 23 = .ok (.iload_n 1, 1) := by decide +kernel
theorem dX6_back_24 : decode cX6_back 24 = .ok (.iconst 1, 1) := by decide +kernel
theorem dX6_back_25 : decode cX6_back 25 = .ok (.if_icmp .ne 11, 3) := by decide +kernel
theorem dX6_back_28 : decode cX6_back 28 = .ok (.aload_n 0, 1) := by decide +kernel
theorem dX6_back_29 : decode cX6_back 29 = .ok (.getfield 31, 3) := by decide +kernel
theorem dX6_back_32 : decode cX6_back 32 = .ok (.invokevirtual 118, 3) := by decide +kernel
theorem dX6_back_35 : decode cX6_back 35 = .ok (.ireturn, 1) := by decide +kernel
theorem dX6_back_36 : decode cX6_back 36 = .ok (.aload_n 0, 1) := by decide +kernel
theorem dX6_back_37 : decode cX6_back 37 = .ok (.getfield 64, 3) := by decide +kernel
theorem dX6_back_40 : decode cX6_back 40 = .ok (.invokevirtual 81, 3) := by decide +kernel
theorem dX6_back_43 : decode cX6_back 43 = .ok (.aload_n 0, 1) := by decide +kernel
theorem dX6_back_44 : decode cX6_back 44 = .ok (.getfield 34, 3) := by decide +kernel
theorem dX6_back_47 : decode cX6_back 47 = .ok (.invokevirtual 118, 3) := by decide +kernel
theorem dX6_back_50 : decode cX6_back 50 = .ok (.ireturn, 1) := by decide +kernel
theorem dX6_read_0 : decode cX6_read 0 = .ok (.iload_n 1, 1) := by decide +kernel
theorem dX6_read_1 : decode cX6_read 1 = .ok (.iconst 4, 1) := by decide +kernel
theorem dX6_read_2 : decode cX6_read 2 = .ok (.invokestatic 77, 3) := by decide +kernel
theorem dX6_read_5 : decode cX6_read 5 = .ok (.ifCond .eq 6, 3) := by decide +kernel
theorem dX6_read_8 : decode cX6_read 8 = .ok (.bipush (-2), 2) := by decide +kernel
theorem dX6_read_10 : decode cX6_read 10 = .ok (.ireturn, 1) := by decide +kernel
theorem dX6_read_11 : decode cX6_read 11 = .ok (.aload_n 0, 1) := by decide +kernel
theorem dX6_read_12 : decode cX6_read 12 = .ok (.getfield 43, 3) := by decide +kernel
theorem dX6_read_15 : decode cX6_read 15 = .ok (.iload_n 1, 1) := by decide +kernel
theorem dX6_read_16 : decode cX6_read 16 = .ok (.aaload, 1) := by decide +kernel
theorem dX6_read_17 : decode cX6_read 17 = .ok (.astore_n 2, 1) := by decide +kernel
theorem dX6_read_18 : decode cX6_read 18 = .ok (.aload_n 2, 1) := by decide +kernel
theorem dX6_read_19 : decode cX6_read 19 = .ok (.invokevirtual 119, 3) := by decide +kernel
theorem dX6_read_22 : decode cX6_read 22 = .ok (.ifCond .eq 9, 3) := by decide +kernel
theorem dX6_read_25 : decode cX6_read 25 = .ok (.aload_n 0, 1) := by decide +kernel
theorem dX6_read_26 : decode cX6_read 26 = .ok (.iconst 1, 1) := by decide +kernel
theorem dX6_read_27 : decode cX6_read 27 = .ok (.invokevirtual 123, 3) := by decide +kernel
theorem dX6_read_30 : decode cX6_read 30 = .ok (.ireturn, 1) := by decide +kernel
theorem dX6_read_31 : decode cX6_read 31 = .ok (.iconst 0, 1) := by decide +kernel
theorem dX6_read_32 : decode cX6_read 32 = .ok (.istore_n 3, 1) := by decide +kernel
theorem dX6_read_33 : decode cX6_read 33 = .ok (.iconst 0, 1) := by decide +kernel
theorem dX6_read_34 : decode cX6_read 34 = .ok (.istore 4, 2) := by decide +kernel
theorem dX6_read_36 : decode cX6_read 36 = .ok (.iload 4, 2) := by decide +kernel
theorem dX6_read_38 : decode cX6_read 38 = .ok (.iconst 1, 1) := by decide +kernel
theorem dX6_read_39 : decode cX6_read 39 = .ok (.iadd, 1) := by decide +kernel
theorem dX6_read_40 : decode cX6_read 40 = .ok (.aload_n 2, 1) := by decide +kernel
theorem dX6_read_41 : decode cX6_read 41 = .ok (.getfield 126, 3) := by decide +kernel
theorem dX6_read_44 : decode cX6_read 44 = .ok (.if_icmp .ge 35, 3) := by decide +kernel
theorem dX6_read_47 : decode cX6_read 47 = .ok (.aload_n 0, 1) := by decide +kernel
theorem dX6_read_48 : decode cX6_read 48 = .ok (.aload_n 2, 1) := by decide +kernel
theorem dX6_read_49 : decode cX6_read 49 = .ok (.iload 4, 2) := by decide +kernel
theorem dX6_read_51 : decode cX6_read 51 = .ok (.invokevirtual 129, 3) := by decide +kernel
theorem dX6_read_54 : decode cX6_read 54 = .ok (.aload_n 2, 1) := by decide +kernel
theorem dX6_read_55 : decode cX6_read 55 = .ok (.iload 4, 2) := by decide +kernel
theorem dX6_read_57 : decode cX6_read 57 = .ok (.iconst 1, 1) := by decide +kernel
theorem dX6_read_58 : decode cX6_read 58 = .ok (.iadd, 1) := by decide +kernel
theorem dX6_read_59 : decode cX6_read 59 = .ok (.invokevirtual 129, 3) := by decide +kernel
theorem dX6_read_62 : decode cX6_read 62 = .ok (.invokevirtual 132, 3) := by decide +kernel
theorem dX6_read_65 : decode cX6_read 65 = .ok (.ifCond .ge 5, 3) := by decide +kernel
theorem dX6_read_68 : decode cX6_read 68 = .ok (.iload_n 3, 1) := by decide +kernel
theorem dX6_read_69 : decode cX6_read 69 = .ok (.ireturn, 1) := by decide +kernel
theorem dX6_read_70 : decode cX6_read 70 = .ok (.iinc 3 1, 3) := by decide +kernel
theorem dX6_read_73 : decode cX6_read 73 = .ok (.iinc 4 2, 3) := by decide +kernel
theorem dX6_read_76 : decode cX6_read 76 = .ok (.goto (-40), 3) := by decide +kernel
theorem dX6_read_79 : decode cX6_read 79 = .ok (.iload_n 3, 1) := by decide +kernel
theorem dX6_read_80 : decode cX6_read 80 = .ok (.ireturn, 1) := by decide +kernel
theorem dX6_state_0 : decode cX6_state 0 = .ok (.iload_n 1, 1) := by decide +kernel
theorem dX6_state_1 : decode cX6_state 1 = .ok (.bipush 40, 2) := by decide +kernel
theorem dX6_state_3 : decode cX6_state 3 = .ok (.invokestatic 77, 3) := by decide +kernel
theorem dX6_state_6 : decode cX6_state 6 = .ok (.ifCond .ne 11, 3) := by decide +kernel
theorem dX6_state_9 : decode cX6_state 9 = .ok (.aload_n 0, 1) := by decide +kernel
theorem dX6_state_10 : decode cX6_state 10 = .ok (.iload_n 2, 1) := by decide +kernel
theorem dX6_state_11 : decode cX6_state 11 = .ok (.invokevirtual 98, 3) := by decide +kernel
theorem dX6_state_14 : decode cX6_state 14 = .ok (.ifCond .eq 6, 3) := by decide +kernel
theorem dX6_state_17 : decode cX6_state 17 = .ok (.bipush (-2), 2) := by decide +kernel
theorem dX6_state_19 : decode cX6_state 19 = .ok (.ireturn, 1) := by decide +kernel
theorem dX6_state_20 : decode cX6_state 20 = .ok (.aload_n 0, 1) := by decide +kernel
theorem dX6_state_21 : decode cX6_state 21 = .ok (.invokevirtual 136, 3) := by decide +kernel
theorem dX6_state_24 : decode cX6_state 24 = .ok (.aload_n 0, 1) := by decide +kernel
theorem dX6_state_25 : decode cX6_state 25 = .ok (.getfield 57, 3) := by decide +kernel
theorem dX6_state_28 : decode cX6_state 28 = .ok (.aload_n 0, 1) := by decide +kernel
theorem dX6_state_29 : decode cX6_state 29 = .ok (.getfield 50, 3) := by decide +kernel
theorem dX6_state_32 : decode cX6_state 32 = .ok (.iload_n 1, 1) := by decide +kernel
theorem dX6_state_33 : decode cX6_state 33 = .ok (.iload_n 2, 1) := by decide +kernel
theorem dX6_state_34 : decode cX6_state 34 = .ok (.invokevirtual 139, 3) := by decide +kernel
theorem dX6_state_37 : decode cX6_state 37 = .ok (.ireturn, 1) := by decide +kernel
theorem dX6_lifted_0 : decode cX6_lifted 0 = .ok (.aload_n 0, 1) := by decide +kernel
theorem dX6_lifted_1 : decode cX6_lifted 1 = .ok (.iload_n 1, 1) := by decide +kernel
theorem dX6_lifted_2 : decode cX6_lifted 2 = .ok (.invokevirtual 98, 3) := by decide +kernel
theorem dX6_lifted_5 : decode cX6_lifted 5 = .ok (.ifCond .ne 11, 3) := by decide +kernel
theorem dX6_lifted_8 : decode cX6_lifted 8 = .ok (.iload_n 2, 1) := by decide +kernel
theorem dX6_lifted_9 : decode cX6_lifted 9 = .ok (.iconst 3, 1) := by decide +kernel
theorem dX6_lifted_10 : decode cX6_lifted 10 = .ok (.invokestatic 77, 3) := by decide +kernel
theorem dX6_lifted_13 : decode cX6_lifted 13 = .ok (.ifCond .eq 6, 3) := by decide +kernel
theorem dX6_lifted_16 : decode cX6_lifted 16 = .ok (.bipush (-2), 2) := by decide +kernel
theorem dX6_lifted_18 : decode cX6_lifted 18 = .ok (.ireturn, 1) := by decide +kernel
theorem dX6_lifted_19 : decode cX6_lifted 19 = .ok (.aload_n 0, 1) := by decide +kernel
theorem dX6_lifted_20 : decode cX6_lifted 20 = .ok (.invokevirtual 136, 3) := by decide +kernel
theorem dX6_lifted_23 : decode cX6_lifted 23 = .ok (.iload_n 2, 1) := by decide +kernel
theorem dX6_lifted_24 : decode cX6_lifted 24 = .ok (.ifCond .ne 13, 3) := by decide +kernel
theorem dX6_lifted_27 : decode cX6_lifted 27 = .ok (.aload_n 0, 1) := by decide +kernel
theorem dX6_lifted_28 : decode cX6_lifted 28 = .ok (.getfield 57, 3) := by decide +kernel
theorem dX6_lifted_31 : decode cX6_lifted 31 = .ok (.getfield 143, 3) := by decide +kernel
theorem dX6_lifted_34 : decode cX6_lifted 34 = .ok (.iload_n 1, 1) := by decide +kernel
theorem dX6_lifted_35 : decode cX6_lifted 35 = .ok (.iaload, 1) := by decide +kernel
theorem dX6_lifted_36 : decode cX6_lifted 36 = .ok (.ireturn, 1) := by decide +kernel
theorem dX6_lifted_37 : decode cX6_lifted 37 = .ok (.aload_n 0, 1) := by decide +kernel
theorem dX6_lifted_38 : decode cX6_lifted 38 = .ok (.getfield 57, 3) := by decide +kernel
theorem dX6_lifted_41 : decode cX6_lifted 41 = .ok (.iload_n 1, 1) := by decide +kernel
theorem dX6_lifted_42 : decode cX6_lifted 42 = .ok (.invokevirtual 146, 3) := by decide +kernel
theorem dX6_lifted_45 : decode cX6_lifted 45 = .ok (.istore_n 3, 1) := by decide +kernel
theorem dX6_lifted_46 : decode cX6_lifted 46 = .ok (.iload_n 2, 1) := by decide +kernel
theorem dX6_lifted_47 : decode cX6_lifted 47 = .ok (.iconst 1, 1) := by decide +kernel
theorem dX6_lifted_48 : decode cX6_lifted 48 = .ok (.if_icmp .eq 8, 3) := by decide +kernel
theorem dX6_lifted_51 : decode cX6_lifted 51 = .ok (.iload_n 3, 1) := by decide +kernel
theorem dX6_lifted_52 : decode cX6_lifted 52 = .ok (.iconst (-1), 1) := by decide +kernel
theorem dX6_lifted_53 : decode cX6_lifted 53 = .ok (.if_icmp .ne 7, 3) := by decide +kernel
theorem dX6_lifted_56 : decode cX6_lifted 56 = .ok (.iload_n 3, 1) := by decide +kernel
theorem dX6_lifted_57 : decode cX6_lifted 57 = .ok (.goto 12, 3) := by decide +kernel
theorem dX6_lifted_60 : decode cX6_lifted 60 = .ok (.aload_n 0, 1) := by decide +kernel
theorem dX6_lifted_61 : decode cX6_lifted 61 = .ok (.getfield 57, 3) := by decide +kernel
theorem dX6_lifted_64 : decode cX6_lifted 64 = .ok (.getfield 149, 3) := by decide +kernel
theorem dX6_lifted_67 : decode cX6_lifted 67 = .ok (.iload_n 3, 1) := by decide +kernel
theorem dX6_lifted_68 : decode cX6_lifted 68 = .ok (.iaload, 1) := by decide +kernel
theorem dX6_lifted_69 : decode cX6_lifted 69 = .ok (.ireturn, 1) := by decide +kernel
theorem dX6_gets_0 : decode cX6_gets 0 = .ok (.aload_n 0, 1) := by decide +kernel
theorem dX6_gets_1 : decode cX6_gets 1 = .ok (.iload_n 1, 1) := by decide +kernel
theorem dX6_gets_2 : decode cX6_gets 2 = .ok (.invokevirtual 109, 3) := by decide +kernel
theorem dX6_gets_5 : decode cX6_gets 5 = .ok (.ifCond .ne 11, 3) := by decide +kernel
theorem dX6_gets_8 : decode cX6_gets 8 = .ok (.iload_n 2, 1) := by decide +kernel
theorem dX6_gets_9 : decode cX6_gets 9 = .ok (.iconst 3, 1) := by decide +kernel
theorem dX6_gets_10 : decode cX6_gets 10 = .ok (.invokestatic 77, 3) := by decide +kernel
theorem dX6_gets_13 : decode cX6_gets 13 = .ok (.ifCond .eq 6, 3) := by decide +kernel
theorem dX6_gets_16 : decode cX6_gets 16 = .ok (.bipush (-2), 2) := by decide +kernel
theorem dX6_gets_18 : decode cX6_gets 18 = .ok (.ireturn, 1) := by decide +kernel
theorem dX6_gets_19 : decode cX6_gets 19 = .ok (.aload_n 0, 1) := by decide +kernel
theorem dX6_gets_20 : decode cX6_gets 20 = .ok (.invokevirtual 136, 3) := by decide +kernel
theorem dX6_gets_23 : decode cX6_gets 23 = .ok (.iload_n 2, 1) := by decide +kernel
theorem dX6_gets_24 : decode cX6_gets 24 = .ok (.ifCond .ne 13, 3) := by decide +kernel
theorem dX6_gets_27 : decode cX6_gets 27 = .ok (.aload_n 0, 1) := by decide +kernel
theorem dX6_gets_28 : decode cX6_gets 28 = .ok (.getfield 57, 3) := by decide +kernel
theorem dX6_gets_31 : decode cX6_gets 31 = .ok (.getfield 152, 3) := by decide +kernel
theorem dX6_gets_34 : decode cX6_gets 34 = .ok (.iload_n 1, 1) := by decide +kernel
theorem dX6_gets_35 : decode cX6_gets 35 = .ok (.iaload, 1) := by decide +kernel
theorem dX6_gets_36 : decode cX6_gets 36 = .ok (.ireturn, 1) := by decide +kernel
theorem dX6_gets_37 : decode cX6_gets 37 = .ok (.iload_n 2, 1) := by decide +kernel
theorem dX6_gets_38 : decode cX6_gets 38 = .ok (.iconst 1, 1) := by decide +kernel
theorem dX6_gets_39 : decode cX6_gets 39 = .ok (.if_icmp .ne 15, 3) := by decide +kernel
theorem dX6_gets_42 : decode cX6_gets 42 = .ok (.aload_n 0, 1) := by decide +kernel
theorem dX6_gets_43 : decode cX6_gets 43 = .ok (.getfield 57, 3) := by decide +kernel
theorem dX6_gets_46 : decode cX6_gets 46 = .ok (.getfield 149, 3) := by decide +kernel
theorem dX6_gets_49 : decode cX6_gets 49 = .ok (.iload_n 1, 1) := by decide +kernel
theorem dX6_gets_50 : decode cX6_gets 50 = .ok (.iaload, 1) := by decide +kernel
theorem dX6_gets_51 : decode cX6_gets 51 = .ok (.goto 8, 3) := by decide +kernel
theorem dX6_gets_54 : decode cX6_gets 54 = .ok (.aload_n 0, 1) := by decide +kernel
theorem dX6_gets_55 : decode cX6_gets 55 = .ok (.iload_n 1, 1) := by decide +kernel
theorem dX6_gets_56 : decode cX6_gets 56 = .ok (.invokevirtual 155, 3) := by decide +kernel
theorem dX6_gets_59 : decode cX6_gets 59 = .ok (.ireturn, 1) := by decide +kernel
theorem dX6_children_0 : decode cX6_children 0 = .ok (.iload_n 1, 1) := by decide +kernel
theorem dX6_children_1 : decode cX6_children 1 = .ok (.bipush 40, 2) := by decide +kernel
theorem dX6_children_3 : decode cX6_children 3 = .ok (.invokestatic 77, 3) := by decide +kernel
theorem dX6_children_6 : decode cX6_children 6 = .ok (.ifCond .eq 6, 3) := by decide +kernel
theorem dX6_children_9 : decode cX6_children 9 = .ok (.bipush (-2), 2) := by decide +kernel
theorem dX6_children_11 : decode cX6_children 11 = .ok (.ireturn, 1) := by decide +kernel
theorem dX6_children_12 : decode cX6_children 12 = .ok (.aload_n 0, 1) := by decide +kernel
theorem dX6_children_13 : decode cX6_children 13 = .ok (.invokevirtual 136, 3) := by decide +kernel
theorem dX6_children_16 : decode cX6_children 16 = .ok (.aload_n 0, 1) := by decide +kernel
theorem dX6_children_17 : decode cX6_children 17 = .ok (.iload_n 1, 1) := by decide +kernel
theorem dX6_children_18 : decode cX6_children 18 = .ok (.invokevirtual 158, 3) := by decide +kernel
theorem dX6_children_21 : decode cX6_children 21 = .ok (.ireturn, 1) := by decide +kernel
theorem dX6_without_0 : decode cX6_without 0 = .ok (.aload_n 0, 1) := by decide +kernel
theorem dX6_without_1 : decode cX6_without 1 = .ok (.invokevirtual 136, 3) := by decide +kernel
theorem dX6_without_4 : decode cX6_without 4 = .ok (.aload_n 0, 1) := by decide +kernel
theorem dX6_without_5 : decode cX6_without 5 = .ok (.getfield 57, 3) := by decide +kernel
theorem dX6_without_8 : decode cX6_without 8 = .ok (.getfield 161, 3) := by decide +kernel
theorem dX6_without_11 : decode cX6_without 11 = .ok (.iconst (-1), 1) := by decide +kernel
theorem dX6_without_12 : decode cX6_without 12 = .ok (.ixor, 1) := by decide +kernel
theorem dX6_without_13 : decode cX6_without 13 = .ok (.iconst 1, 1) := by decide +kernel
theorem dX6_without_14 : decode cX6_without 14 = .ok (.aload_n 0, 1) := by decide +kernel
theorem dX6_without_15 : decode cX6_without 15 = .ok (.getfield 50, 3) := by decide +kernel
theorem dX6_without_18 : decode cX6_without 18 = .ok (.getfield 164, 3) := by decide +kernel
theorem dX6_without_21 : decode cX6_without 21 = .ok (.ishl, 1) := by decide +kernel
theorem dX6_without_22 : decode cX6_without 22 = .ok (.iconst 1, 1) := by decide +kernel
theorem dX6_without_23 : decode cX6_without 23 = .ok (.isub, 1) := by decide +kernel
theorem dX6_without_24 : decode cX6_without 24 = .ok (.iand, 1) := by decide +kernel
theorem dX6_without_25 : decode cX6_without 25 = .ok (.ireturn, 1) := by decide +kernel
theorem dX6_turn_0 : decode cX6_turn 0 = .ok (.iload_n 1, 1) := by decide +kernel
theorem dX6_turn_1 : decode cX6_turn 1 = .ok (.iconst 2, 1) := by decide +kernel
theorem dX6_turn_2 : decode cX6_turn 2 = .ok (.invokestatic 77, 3) := by decide +kernel
theorem dX6_turn_5 : decode cX6_turn 5 = .ok (.ifCond .eq 6, 3) := by decide +kernel
theorem dX6_turn_8 : decode cX6_turn 8 = .ok (.bipush (-2), 2) := by decide +kernel
theorem dX6_turn_10 : decode cX6_turn 10 = .ok (.ireturn, 1) := by decide +kernel
theorem dX6_turn_11 : decode cX6_turn 11 = .ok (.aload_n 0, 1) := by decide +kernel
theorem dX6_turn_12 : decode cX6_turn 12 = .ok (.invokevirtual 136, 3) := by decide +kernel
theorem dX6_turn_15 : decode cX6_turn 15 = .ok (.aload_n 0, 1) := by decide +kernel
theorem dX6_turn_16 : decode cX6_turn 16 = .ok (.getfield 57, 3) := by decide +kernel
theorem dX6_turn_19 : decode cX6_turn 19 = .ok (.aload_n 0, 1) := by decide +kernel
theorem dX6_turn_20 : decode cX6_turn 20 = .ok (.getfield 50, 3) := by decide +kernel
theorem dX6_turn_23 : decode cX6_turn 23 = .ok (.invokevirtual 167, 3) := by decide +kernel
theorem dX6_turn_26 : decode cX6_turn 26 = .ok (.istore_n 2, 1) := by decide +kernel
theorem dX6_turn_27 : decode cX6_turn 27 = .ok (.iload_n 1, 1) := by decide +kernel
theorem dX6_turn_28 : decode cX6_turn 28 = .ok (.ifCond .eq 8, 3) := by decide +kernel
theorem dX6_turn_31 : decode cX6_turn 31 = .ok (.iload_n 2, 1) := by decide +kernel
theorem dX6_turn_32 : decode cX6_turn 32 = .ok (.iconst (-1), 1) := by decide +kernel
theorem dX6_turn_33 : decode cX6_turn 33 = .ok (.if_icmp .ne 7, 3) := by decide +kernel
theorem dX6_turn_36 : decode cX6_turn 36 = .ok (.iload_n 2, 1) := by decide +kernel
theorem dX6_turn_37 : decode cX6_turn 37 = .ok (.goto 12, 3) := by decide +kernel
theorem dX6_turn_40 : decode cX6_turn 40 = .ok (.aload_n 0, 1) := by decide +kernel
theorem dX6_turn_41 : decode cX6_turn 41 = .ok (.getfield 57, 3) := by decide +kernel
theorem dX6_turn_44 : decode cX6_turn 44 = .ok (.getfield 149, 3) := by decide +kernel
theorem dX6_turn_47 : decode cX6_turn 47 = .ok (.iload_n 2, 1) := by decide +kernel
theorem dX6_turn_48 : decode cX6_turn 48 = .ok (.iaload, 1) := by decide +kernel
theorem dX6_turn_49 : decode cX6_turn 49 = .ok (.ireturn, 1) := by decide +kernel
theorem dX6_met_0 : decode cX6_met 0 = .ok (.aload_n 0, 1) := by decide +kernel
theorem dX6_met_1 : decode cX6_met 1 = .ok (.invokevirtual 136, 3) := by decide +kernel
theorem dX6_met_4 : decode cX6_met 4 = .ok (.aload_n 0, 1) := by decide +kernel
theorem dX6_met_5 : decode cX6_met 5 = .ok (.getfield 50, 3) := by decide +kernel
theorem dX6_met_8 : decode cX6_met 8 = .ok (.getfield 164, 3) := by decide +kernel
theorem dX6_met_11 : decode cX6_met 11 = .ok (.istore_n 1, 1) := by decide +kernel
theorem dX6_met_12 : decode cX6_met 12 = .ok (.iconst 0, 1) := by decide +kernel
theorem dX6_met_13 : decode cX6_met 13 = .ok (.istore_n 2, 1) := by decide +kernel
theorem dX6_met_14 : decode cX6_met 14 = .ok (.iload_n 2, 1) := by decide +kernel
theorem dX6_met_15 : decode cX6_met 15 = .ok (.iconst 1, 1) := by decide +kernel
theorem dX6_met_16 : decode cX6_met 16 = .ok (.aload_n 0, 1) := by decide +kernel
theorem dX6_met_17 : decode cX6_met 17 = .ok (.getfield 50, 3) := by decide +kernel
theorem dX6_met_20 : decode cX6_met 20 = .ok (.getfield 164, 3) := by decide +kernel
theorem dX6_met_23 : decode cX6_met 23 = .ok (.ishl, 1) := by decide +kernel
theorem dX6_met_24 : decode cX6_met 24 = .ok (.if_icmp .ge 37, 3) := by decide +kernel
theorem dX6_met_27 : decode cX6_met 27 = .ok (.aload_n 0, 1) := by decide +kernel
theorem dX6_met_28 : decode cX6_met 28 = .ok (.getfield 50, 3) := by decide +kernel
theorem dX6_met_31 : decode cX6_met 31 = .ok (.getfield 164, 3) := by decide +kernel
theorem dX6_met_34 : decode cX6_met 34 = .ok (.iload_n 2, 1) := by decide +kernel
theorem dX6_met_35 : decode cX6_met 35 = .ok (.invokestatic 171, 3) := by decide +kernel
theorem dX6_met_38 : decode cX6_met 38 = .ok (.isub, 1) := by decide +kernel
theorem dX6_met_39 : decode cX6_met 39 = .ok (.istore_n 3, 1) := by decide +kernel
theorem dX6_met_40 : decode cX6_met 40 = .ok (.iload_n 1, 1) := by decide +kernel
theorem dX6_met_41 : decode cX6_met 41 = .ok (.iload_n 3, 1) := by decide +kernel
theorem dX6_met_42 : decode cX6_met 42 = .ok (.aload_n 0, 1) := by decide +kernel
theorem dX6_met_43 : decode cX6_met 43 = .ok (.iload_n 2, 1) := by decide +kernel
theorem dX6_met_44 : decode cX6_met 44 = .ok (.invokevirtual 176, 3) := by decide +kernel
theorem dX6_met_47 : decode cX6_met 47 = .ok (.invokestatic 171, 3) := by decide +kernel
theorem dX6_met_50 : decode cX6_met 50 = .ok (.iadd, 1) := by decide +kernel
theorem dX6_met_51 : decode cX6_met 51 = .ok (.invokestatic 179, 3) := by decide +kernel
theorem dX6_met_54 : decode cX6_met 54 = .ok (.istore_n 1, 1) := by decide +kernel
theorem dX6_met_55 : decode cX6_met 55 = .ok (.iinc 2 1, 3) := by decide +kernel
theorem dX6_met_58 : decode cX6_met 58 = .ok (.goto (-44), 3) := by decide +kernel
theorem dX6_met_61 : decode cX6_met 61 = .ok (.iload_n 1, 1) := by decide +kernel
theorem dX6_met_62 : decode cX6_met 62 = .ok (.ireturn, 1) := by decide +kernel
theorem dX6_keep_0 : decode cX6_keep 0 = .ok (.aload_n 0, 1) := by decide +kernel
theorem dX6_keep_1 : decode cX6_keep 1 = .ok (.iload_n 1, 1) := by decide +kernel
theorem dX6_keep_2 : decode cX6_keep 2 = .ok (.invokevirtual 109, 3) := by decide +kernel
theorem dX6_keep_5 : decode cX6_keep 5 = .ok (.ifCond .ne 13, 3) := by decide +kernel
theorem dX6_keep_8 : decode cX6_keep 8 = .ok (.iload_n 2, 1) := by decide +kernel
theorem dX6_keep_9 : decode cX6_keep 9 = .ok (.iconst (-1), 1) := by decide +kernel
theorem dX6_keep_10 : decode cX6_keep 10 = .ok (.if_icmp .lt 8, 3) := by decide +kernel
theorem dX6_keep_13 : decode cX6_keep 13 = .ok (.iload_n 2, 1) := by decide +kernel
theorem dX6_keep_14 : decode cX6_keep 14 = .ok (.iconst 1, 1) := by decide +kernel
theorem dX6_keep_15 : decode cX6_keep 15 = .ok (.if_icmp .le 6, 3) := by decide +kernel
theorem dX6_keep_18 : decode cX6_keep 18 = .ok (.bipush (-2), 2) := by decide +kernel
theorem dX6_keep_20 : decode cX6_keep 20 = .ok (.ireturn, 1) := by decide +kernel
theorem dX6_keep_21 : decode cX6_keep 21 = .ok (.aload_n 0, 1) := by decide +kernel
theorem dX6_keep_22 : decode cX6_keep 22 = .ok (.invokevirtual 184, 3) := by decide +kernel
theorem dX6_keep_25 : decode cX6_keep 25 = .ok (.aload_n 0, 1) := by decide +kernel
theorem dX6_keep_26 : decode cX6_keep 26 = .ok (.iload_n 1, 1) := by decide +kernel
theorem dX6_keep_27 : decode cX6_keep 27 = .ok (.invokevirtual 187, 3) := by decide +kernel
theorem dX6_keep_30 : decode cX6_keep 30 = .ok (.istore_n 3, 1) := by decide +kernel
theorem dX6_keep_31 : decode cX6_keep 31 = .ok (.iload_n 3, 1) := by decide +kernel
theorem dX6_keep_32 : decode cX6_keep 32 = .ok (.iconst (-1), 1) := by decide +kernel
theorem dX6_keep_33 : decode cX6_keep 33 = .ok (.if_icmp .ne 5, 3) := by decide +kernel
theorem dX6_keep_36 : decode cX6_keep 36 = .ok (.iconst (-1), 1) := by decide +kernel
theorem dX6_keep_37 : decode cX6_keep 37 = .ok (.ireturn, 1) := by decide +kernel
theorem dX6_keep_38 : decode cX6_keep 38 = .ok (.iload_n 2, 1) := by decide +kernel
theorem dX6_keep_39 : decode cX6_keep 39 = .ok (.iconst (-1), 1) := by decide +kernel
theorem dX6_keep_40 : decode cX6_keep 40 = .ok (.if_icmp .ne 8, 3) := by decide +kernel
theorem dX6_keep_43 : decode cX6_keep 43 = .ok (.iload_n 3, 1) := by decide +kernel
theorem dX6_keep_44 : decode cX6_keep 44 = .ok (.invokestatic 171, 3) := by decide +kernel
theorem dX6_keep_47 : decode cX6_keep 47 = .ok (.ireturn, 1) := by decide +kernel
theorem dX6_keep_48 : decode cX6_keep 48 = .ok (.iload_n 2, 1) := by decide +kernel
theorem dX6_keep_49 : decode cX6_keep 49 = .ok (.ifCond .ne 10, 3) := by decide +kernel
theorem dX6_keep_52 : decode cX6_keep 52 = .ok (.iload_n 3, 1) := by decide +kernel
theorem dX6_keep_53 : decode cX6_keep 53 = .ok (.invokestatic 190, 3) := by decide +kernel
theorem dX6_keep_56 : decode cX6_keep 56 = .ok (.goto 11, 3) := by decide +kernel
theorem dX6_keep_59 : decode cX6_keep 59 = .ok (.iload_n 3, 1) := by decide +kernel
theorem dX6_keep_60 : decode cX6_keep 60 = .ok (.iload_n 3, 1) := by decide +kernel
theorem dX6_keep_61 : decode cX6_keep 61 = .ok (.iconst 1, 1) := by decide +kernel
theorem dX6_keep_62 : decode cX6_keep 62 = .ok (.isub, 1) := by decide +kernel
theorem dX6_keep_63 : decode cX6_keep 63 = .ok (.iand, 1) := by decide +kernel
theorem dX6_keep_64 : decode cX6_keep 64 = .ok (.invokestatic 190, 3) := by decide +kernel
theorem dX6_keep_67 : decode cX6_keep 67 = .ok (.ireturn, 1) := by decide +kernel
theorem dX6_sow_0 : decode cX6_sow 0 = .ok (.aload_n 0, 1) := by decide +kernel
theorem dX6_sow_1 : decode cX6_sow 1 = .ok (.iload_n 1, 1) := by decide +kernel
theorem dX6_sow_2 : decode cX6_sow 2 = .ok (.invokevirtual 98, 3) := by decide +kernel
theorem dX6_sow_5 : decode cX6_sow 5 = .ok (.ifCond .ne 11, 3) := by decide +kernel
theorem dX6_sow_8 : decode cX6_sow 8 = .ok (.iload_n 2, 1) := by decide +kernel
theorem dX6_sow_9 : decode cX6_sow 9 = .ok (.iconst 2, 1) := by decide +kernel
theorem dX6_sow_10 : decode cX6_sow 10 = .ok (.invokestatic 77, 3) := by decide +kernel
theorem dX6_sow_13 : decode cX6_sow 13 = .ok (.ifCond .eq 6, 3) := by decide +kernel
theorem dX6_sow_16 : decode cX6_sow 16 = .ok (.bipush (-2), 2) := by decide +kernel
theorem dX6_sow_18 : decode cX6_sow 18 = .ok (.ireturn, 1) := by decide +kernel
theorem dX6_sow_19 : decode cX6_sow 19 = .ok (.aload_n 0, 1) := by decide +kernel
theorem dX6_sow_20 : decode cX6_sow 20 = .ok (.invokevirtual 184, 3) := by decide +kernel
theorem dX6_sow_23 : decode cX6_sow 23 = .ok (.iconst (-1), 1) := by decide +kernel
theorem dX6_sow_24 : decode cX6_sow 24 = .ok (.istore_n 3, 1) := by decide +kernel
theorem dX6_sow_25 : decode cX6_sow 25 = .ok (.bipush 9, 2) := by decide +kernel
theorem dX6_sow_27 : decode cX6_sow 27 = .ok (.istore 4, 2) := by decide +kernel
theorem dX6_sow_29 : decode cX6_sow 29 = .ok (.iconst 0, 1) := by decide +kernel
theorem dX6_sow_30 : decode cX6_sow 30 = .ok (.istore 5, 2) := by decide +kernel
theorem dX6_sow_32 : decode cX6_sow 32 = .ok (.iload 5, 2) := by decide +kernel
theorem dX6_sow_34 : decode cX6_sow 34 = .ok (.bipush 30, 2) := by decide +kernel
theorem dX6_sow_36 : decode cX6_sow 36 = .ok (.if_icmp .ge 49, 3) := by decide +kernel
theorem dX6_sow_39 : decode cX6_sow 39 = .ok (.aload_n 0, 1) := by decide +kernel
theorem dX6_sow_40 : decode cX6_sow 40 = .ok (.getfield 50, 3) := by decide +kernel
theorem dX6_sow_43 : decode cX6_sow 43 = .ok (.getfield 193, 3) := by decide +kernel
theorem dX6_sow_46 : decode cX6_sow 46 = .ok (.iload_n 1, 1) := by decide +kernel
theorem dX6_sow_47 : decode cX6_sow 47 = .ok (.iload 5, 2) := by decide +kernel
theorem dX6_sow_49 : decode cX6_sow 49 = .ok (.iastore, 1) := by decide +kernel
theorem dX6_sow_50 : decode cX6_sow 50 = .ok (.aload_n 0, 1) := by decide +kernel
theorem dX6_sow_51 : decode cX6_sow 51 = .ok (.getfield 57, 3) := by decide +kernel
theorem dX6_sow_54 : decode cX6_sow 54 = .ok (.aload_n 0, 1) := by decide +kernel
theorem dX6_sow_55 : decode cX6_sow 55 = .ok (.getfield 50, 3) := by decide +kernel
theorem dX6_sow_58 : decode cX6_sow 58 = .ok (.invokevirtual 196, 3) := by decide +kernel
theorem dX6_sow_61 : decode cX6_sow 61 = .ok (.aload_n 0, 1) := by decide +kernel
theorem dX6_sow_62 : decode cX6_sow 62 = .ok (.invokevirtual 200, 3) := by decide +kernel
theorem dX6_sow_65 : decode cX6_sow 65 = .ok (.iload 4, 2) := by decide +kernel
theorem dX6_sow_67 : decode cX6_sow 67 = .ok (.if_icmp .ge 12, 3) := by decide +kernel
theorem dX6_sow_70 : decode cX6_sow 70 = .ok (.aload_n 0, 1) := by decide +kernel
theorem dX6_sow_71 : decode cX6_sow 71 = .ok (.invokevirtual 200, 3) := by decide +kernel
theorem dX6_sow_74 : decode cX6_sow 74 = .ok (.istore 4, 2) := by decide +kernel
theorem dX6_sow_76 : decode cX6_sow 76 = .ok (.iload 5, 2) := by decide +kernel
theorem dX6_sow_78 : decode cX6_sow 78 = .ok (.istore_n 3, 1) := by decide +kernel
theorem dX6_sow_79 : decode cX6_sow 79 = .ok (.iinc 5 1, 3) := by decide +kernel
theorem dX6_sow_82 : decode cX6_sow 82 = .ok (.goto (-50), 3) := by decide +kernel
theorem dX6_sow_85 : decode cX6_sow 85 = .ok (.iload_n 2, 1) := by decide +kernel
theorem dX6_sow_86 : decode cX6_sow 86 = .ok (.ifCond .ne 7, 3) := by decide +kernel
theorem dX6_sow_89 : decode cX6_sow 89 = .ok (.iload_n 3, 1) := by decide +kernel
theorem dX6_sow_90 : decode cX6_sow 90 = .ok (.goto 5, 3) := by decide +kernel
theorem dX6_sow_93 : decode cX6_sow 93 = .ok (.iload 4, 2) := by decide +kernel
theorem dX6_sow_95 : decode cX6_sow 95 = .ok (.ireturn, 1) := by decide +kernel
theorem dX6_come_0 : decode cX6_come 0 = .ok (.aload_n 0, 1) := by decide +kernel
theorem dX6_come_1 : decode cX6_come 1 = .ok (.iload_n 1, 1) := by decide +kernel
theorem dX6_come_2 : decode cX6_come 2 = .ok (.invokevirtual 109, 3) := by decide +kernel
theorem dX6_come_5 : decode cX6_come 5 = .ok (.ifCond .ne 11, 3) := by decide +kernel
theorem dX6_come_8 : decode cX6_come 8 = .ok (.iload_n 2, 1) := by decide +kernel
theorem dX6_come_9 : decode cX6_come 9 = .ok (.iconst 2, 1) := by decide +kernel
theorem dX6_come_10 : decode cX6_come 10 = .ok (.invokestatic 77, 3) := by decide +kernel
theorem dX6_come_13 : decode cX6_come 13 = .ok (.ifCond .eq 6, 3) := by decide +kernel
theorem dX6_come_16 : decode cX6_come 16 = .ok (.bipush (-2), 2) := by decide +kernel
theorem dX6_come_18 : decode cX6_come 18 = .ok (.ireturn, 1) := by decide +kernel
theorem dX6_come_19 : decode cX6_come 19 = .ok (.aload_n 0, 1) := by decide +kernel
theorem dX6_come_20 : decode cX6_come 20 = .ok (.invokevirtual 184, 3) := by decide +kernel
theorem dX6_come_23 : decode cX6_come 23 = .ok (.iconst (-1), 1) := by decide +kernel
theorem dX6_come_24 : decode cX6_come 24 = .ok (.istore_n 3, 1) := by decide +kernel
theorem dX6_come_25 : decode cX6_come 25 = .ok (.iconst (-1), 1) := by decide +kernel
theorem dX6_come_26 : decode cX6_come 26 = .ok (.istore 4, 2) := by decide +kernel
theorem dX6_come_28 : decode cX6_come 28 = .ok (.iconst 0, 1) := by decide +kernel
theorem dX6_come_29 : decode cX6_come 29 = .ok (.istore 5, 2) := by decide +kernel
theorem dX6_come_31 : decode cX6_come 31 = .ok (.iload 5, 2) := by decide +kernel
theorem dX6_come_33 : decode cX6_come 33 = .ok (.bipush 30, 2) := by decide +kernel
theorem dX6_come_35 : decode cX6_come 35 = .ok (.if_icmp .ge 68, 3) := by decide +kernel
theorem dX6_come_38 : decode cX6_come 38 = .ok (.aload_n 0, 1) := by decide +kernel
theorem dX6_come_39 : decode cX6_come 39 = .ok (.getfield 50, 3) := by decide +kernel
theorem dX6_come_42 : decode cX6_come 42 = .ok (.getfield 203, 3) := by decide +kernel
theorem dX6_come_45 : decode cX6_come 45 = .ok (.iload_n 1, 1) := by decide +kernel
theorem dX6_come_46 : decode cX6_come 46 = .ok (.iload 5, 2) := by decide +kernel
theorem dX6_come_48 : decode cX6_come 48 = .ok (.iastore, 1) := by decide +kernel
theorem dX6_come_49 : decode cX6_come 49 = .ok (.aload_n 0, 1) := by decide +kernel
theorem dX6_come_50 : decode cX6_come 50 = .ok (.getfield 57, 3) := by decide +kernel
theorem dX6_come_53 : decode cX6_come 53 = .ok (.aload_n 0, 1) := by decide +kernel
theorem dX6_come_54 : decode cX6_come 54 = .ok (.getfield 50, 3) := by decide +kernel
theorem dX6_come_57 : decode cX6_come 57 = .ok (.invokevirtual 196, 3) := by decide +kernel
theorem dX6_come_60 : decode cX6_come 60 = .ok (.aload_n 0, 1) := by decide +kernel
theorem dX6_come_61 : decode cX6_come 61 = .ok (.getfield 57, 3) := by decide +kernel
theorem dX6_come_64 : decode cX6_come 64 = .ok (.getfield 149, 3) := by decide +kernel
theorem dX6_come_67 : decode cX6_come 67 = .ok (.iload_n 1, 1) := by decide +kernel
theorem dX6_come_68 : decode cX6_come 68 = .ok (.iaload, 1) := by decide +kernel
theorem dX6_come_69 : decode cX6_come 69 = .ok (.istore 6, 2) := by decide +kernel
theorem dX6_come_71 : decode cX6_come 71 = .ok (.iload 6, 2) := by decide +kernel
theorem dX6_come_73 : decode cX6_come 73 = .ok (.iconst (-1), 1) := by decide +kernel
theorem dX6_come_74 : decode cX6_come 74 = .ok (.if_icmp .eq 23, 3) := by decide +kernel
theorem dX6_come_77 : decode cX6_come 77 = .ok (.iload 4, 2) := by decide +kernel
theorem dX6_come_79 : decode cX6_come 79 = .ok (.iconst (-1), 1) := by decide +kernel
theorem dX6_come_80 : decode cX6_come 80 = .ok (.if_icmp .eq 10, 3) := by decide +kernel
theorem dX6_come_83 : decode cX6_come 83 = .ok (.iload 6, 2) := by decide +kernel
theorem dX6_come_85 : decode cX6_come 85 = .ok (.iload 4, 2) := by decide +kernel
theorem dX6_come_87 : decode cX6_come 87 = .ok (.if_icmp .ge 10, 3) := by decide +kernel
theorem dX6_come_90 : decode cX6_come 90 = .ok (.iload 6, 2) := by decide +kernel
theorem dX6_come_92 : decode cX6_come 92 = .ok (.istore 4, 2) := by decide +kernel
theorem dX6_come_94 : decode cX6_come 94 = .ok (.iload 5, 2) := by decide +kernel
theorem dX6_come_96 : decode cX6_come 96 = .ok (.istore_n 3, 1) := by decide +kernel
theorem dX6_come_97 : decode cX6_come 97 = .ok (.iinc 5 1, 3) := by decide +kernel
theorem dX6_come_100 : decode cX6_come 100 = .ok (.goto (-69), 3) := by decide +kernel
theorem dX6_come_103 : decode cX6_come 103 = .ok (.iload_n 2, 1) := by decide +kernel
theorem dX6_come_104 : decode cX6_come 104 = .ok (.ifCond .ne 7, 3) := by decide +kernel
theorem dX6_come_107 : decode cX6_come 107 = .ok (.iload_n 3, 1) := by decide +kernel
theorem dX6_come_108 : decode cX6_come 108 = .ok (.goto 5, 3) := by decide +kernel
theorem dX6_come_111 : decode cX6_come 111 = .ok (.iload 4, 2) := by decide +kernel
theorem dX6_come_113 : decode cX6_come 113 = .ok (.ireturn, 1) := by decide +kernel
theorem dX6_seen_0 : decode cX6_seen 0 = .ok (.iload_n 1, 1) := by decide +kernel
theorem dX6_seen_1 : decode cX6_seen 1 = .ok (.bipush 8, 2) := by decide +kernel
theorem dX6_seen_3 : decode cX6_seen 3 = .ok (.invokestatic 77, 3) := by decide +kernel
theorem dX6_seen_6 : decode cX6_seen 6 = .ok (.ifCond .ne 12, 3) := by decide +kernel
theorem dX6_seen_9 : decode cX6_seen 9 = .ok (.iload_n 2, 1) := by decide +kernel
theorem dX6_seen_10 : decode cX6_seen 10 = .ok (.bipush 9, 2) := by decide +kernel
theorem dX6_seen_12 : decode cX6_seen 12 = .ok (.invokestatic 77, 3) := by decide +kernel
theorem dX6_seen_15 : decode cX6_seen 15 = .ok (.ifCond .eq 6, 3) := by decide +kernel
theorem dX6_seen_18 : decode cX6_seen 18 = .ok (.bipush (-2), 2) := by decide +kernel
theorem dX6_seen_20 : decode cX6_seen 20 = .ok (.ireturn, 1) := by decide +kernel
theorem dX6_seen_21 : decode cX6_seen 21 = .ok (.aload_n 0, 1) := by decide +kernel
theorem dX6_seen_22 : decode cX6_seen 22 = .ok (.getfield 37, 3) := by decide +kernel
theorem dX6_seen_25 : decode cX6_seen 25 = .ok (.iload_n 1, 1) := by decide +kernel
theorem dX6_seen_26 : decode cX6_seen 26 = .ok (.bipush 9, 2) := by decide +kernel
theorem dX6_seen_28 : decode cX6_seen 28 = .ok (.imul, 1) := by decide +kernel
theorem dX6_seen_29 : decode cX6_seen 29 = .ok (.iload_n 2, 1) := by decide +kernel
theorem dX6_seen_30 : decode cX6_seen 30 = .ok (.iadd, 1) := by decide +kernel
theorem dX6_seen_31 : decode cX6_seen 31 = .ok (.invokevirtual 115, 3) := by decide +kernel
theorem dX6_seen_34 : decode cX6_seen 34 = .ok (.ireturn, 1) := by decide +kernel
theorem dX6_forget_0 : decode cX6_forget 0 = .ok (.aload_n 0, 1) := by decide +kernel
theorem dX6_forget_1 : decode cX6_forget 1 = .ok (.getfield 37, 3) := by decide +kernel
theorem dX6_forget_4 : decode cX6_forget 4 = .ok (.invokevirtual 206, 3) := by decide +kernel
theorem dX6_forget_7 : decode cX6_forget 7 = .ok (.ireturn, 1) := by decide +kernel
theorem dX6_never_0 : decode cX6_never 0 = .ok (.aload_n 0, 1) := by decide +kernel
theorem dX6_never_1 : decode cX6_never 1 = .ok (.invokevirtual 184, 3) := by decide +kernel
theorem dX6_never_4 : decode cX6_never 4 = .ok (.iconst 0, 1) := by decide +kernel
theorem dX6_never_5 : decode cX6_never 5 = .ok (.istore_n 1, 1) := by decide +kernel
theorem dX6_never_6 : decode cX6_never 6 = .ok (.iconst 0, 1) := by decide +kernel
theorem dX6_never_7 : decode cX6_never 7 = .ok (.istore_n 2, 1) := by decide +kernel
theorem dX6_never_8 : decode cX6_never 8 = .ok (.iload_n 2, 1) := by decide +kernel
theorem dX6_never_9 : decode cX6_never 9 = .ok (.aload_n 0, 1) := by decide +kernel
theorem dX6_never_10 : decode cX6_never 10 = .ok (.getfield 34, 3) := by decide +kernel
theorem dX6_never_13 : decode cX6_never 13 = .ok (.getfield 209, 3) := by decide +kernel
theorem dX6_never_16 : decode cX6_never 16 = .ok (.if_icmp .ge 47, 3) := by decide +kernel
theorem dX6_never_19 : decode cX6_never 19 = .ok (.aload_n 0, 1) := by decide +kernel
theorem dX6_never_20 : decode cX6_never 20 = .ok (.getfield 50, 3) := by decide +kernel
theorem dX6_never_23 : decode cX6_never 23 = .ok (.aload_n 0, 1) := by decide +kernel
theorem dX6_never_24 : decode cX6_never 24 = .ok (.getfield 34, 3) := by decide +kernel
theorem dX6_never_27 : decode cX6_never 27 = .ok (.iconst 1, 1) := by decide +kernel
theorem dX6_never_28 : decode cX6_never 28 = .ok (.iload_n 2, 1) := by decide +kernel
theorem dX6_never_29 : decode cX6_never 29 = .ok (.ishl, 1) := by decide +kernel
theorem dX6_never_30 : decode cX6_never 30 = .ok (.invokevirtual 210, 3) := by decide +kernel
theorem dX6_never_33 : decode cX6_never 33 = .ok (.aload_n 0, 1) := by decide +kernel
theorem dX6_never_34 : decode cX6_never 34 = .ok (.getfield 57, 3) := by decide +kernel
theorem dX6_never_37 : decode cX6_never 37 = .ok (.aload_n 0, 1) := by decide +kernel
theorem dX6_never_38 : decode cX6_never 38 = .ok (.getfield 50, 3) := by decide +kernel
theorem dX6_never_41 : decode cX6_never 41 = .ok (.invokevirtual 196, 3) := by decide +kernel
theorem dX6_never_44 : decode cX6_never 44 = .ok (.aload_n 0, 1) := by decide +kernel
theorem dX6_never_45 : decode cX6_never 45 = .ok (.invokevirtual 214, 3) := by decide +kernel
theorem dX6_never_48 : decode cX6_never 48 = .ok (.ifCond .eq 9, 3) := by decide +kernel
theorem dX6_never_51 : decode cX6_never 51 = .ok (.iload_n 1, 1) := by decide +kernel
theorem dX6_never_52 : decode cX6_never 52 = .ok (.iconst 1, 1) := by decide +kernel
theorem dX6_never_53 : decode cX6_never 53 = .ok (.iload_n 2, 1) := by decide +kernel
theorem dX6_never_54 : decode cX6_never 54 = .ok (.ishl, 1) := by decide +kernel
theorem dX6_never_55 : decode cX6_never 55 = .ok (.ior, 1) := by decide +kernel
theorem dX6_never_56 : decode cX6_never 56 = .ok (.istore_n 1, 1) := by decide +kernel
theorem dX6_never_57 : decode cX6_never 57 = .ok (.iinc 2 1, 3) := by decide +kernel
theorem dX6_never_60 : decode cX6_never 60 = .ok (.goto (-52), 3) := by decide +kernel
theorem dX6_never_63 : decode cX6_never 63 = .ok (.iload_n 1, 1) := by decide +kernel
theorem dX6_never_64 : decode cX6_never 64 = .ok (.ireturn, 1) := by decide +kernel
theorem dX6_was_0 : decode cX6_was 0 = .ok (.aload_n 0, 1) := by decide +kernel
theorem dX6_was_1 : decode cX6_was 1 = .ok (.iload_n 1, 1) := by decide +kernel
theorem dX6_was_2 : decode cX6_was 2 = .ok (.invokevirtual 98, 3) := by decide +kernel
theorem dX6_was_5 : decode cX6_was 5 = .ok (.ifCond .ne 11, 3) := by decide +kernel
theorem dX6_was_8 : decode cX6_was 8 = .ok (.iload_n 2, 1) := by decide +kernel
theorem dX6_was_9 : decode cX6_was 9 = .ok (.iconst 2, 1) := by decide +kernel
theorem dX6_was_10 : decode cX6_was 10 = .ok (.invokestatic 77, 3) := by decide +kernel
theorem dX6_was_13 : decode cX6_was 13 = .ok (.ifCond .eq 6, 3) := by decide +kernel
theorem dX6_was_16 : decode cX6_was 16 = .ok (.bipush (-2), 2) := by decide +kernel
theorem dX6_was_18 : decode cX6_was 18 = .ok (.ireturn, 1) := by decide +kernel
theorem dX6_was_19 : decode cX6_was 19 = .ok (.aload_n 0, 1) := by decide +kernel
theorem dX6_was_20 : decode cX6_was 20 = .ok (.invokevirtual 184, 3) := by decide +kernel
theorem dX6_was_23 : decode cX6_was 23 = .ok (.iload_n 2, 1) := by decide +kernel
theorem dX6_was_24 : decode cX6_was 24 = .ok (.ifCond .ne 11, 3) := by decide +kernel
theorem dX6_was_27 : decode cX6_was 27 = .ok (.aload_n 0, 1) := by decide +kernel
theorem dX6_was_28 : decode cX6_was 28 = .ok (.iload_n 1, 1) := by decide +kernel
theorem dX6_was_29 : decode cX6_was 29 = .ok (.invokevirtual 217, 3) := by decide +kernel
theorem dX6_was_32 : decode cX6_was 32 = .ok (.goto 8, 3) := by decide +kernel
theorem dX6_was_35 : decode cX6_was 35 = .ok (.aload_n 0, 1) := by decide +kernel
theorem dX6_was_36 : decode cX6_was 36 = .ok (.iload_n 1, 1) := by decide +kernel
theorem dX6_was_37 : decode cX6_was 37 = .ok (.invokevirtual 220, 3) := by decide +kernel
theorem dX6_was_40 : decode cX6_was 40 = .ok (.ireturn, 1) := by decide +kernel
theorem dX6_ask_0 : decode cX6_ask 0 = .ok (.aload_n 0, 1) := by decide +kernel
theorem dX6_ask_1 : decode cX6_ask 1 = .ok (.iload_n 1, 1) := by decide +kernel
theorem dX6_ask_2 : decode cX6_ask 2 = .ok (.invokevirtual 98, 3) := by decide +kernel
theorem dX6_ask_5 : decode cX6_ask 5 = .ok (.ifCond .eq 6, 3) := by decide +kernel
theorem dX6_ask_8 : decode cX6_ask 8 = .ok (.bipush (-2), 2) := by decide +kernel
theorem dX6_ask_10 : decode cX6_ask 10 = .ok (.ireturn, 1) := by decide +kernel
theorem dX6_ask_11 : decode cX6_ask 11 = .ok (.aload_n 0, 1) := by decide +kernel
theorem dX6_ask_12 : decode cX6_ask 12 = .ok (.invokevirtual 184, 3) := by decide +kernel
theorem dX6_ask_15 : decode cX6_ask 15 = .ok (.iconst 0, 1) := by decide +kernel
theorem dX6_ask_16 : decode cX6_ask 16 = .ok (.istore_n 2, 1) := by decide +kernel
theorem dX6_ask_17 : decode cX6_ask 17 = .ok (.iload_n 2, 1) := by decide +kernel
theorem dX6_ask_18 : decode cX6_ask 18 = .ok (.bipush 8, 2) := by decide +kernel
theorem dX6_ask_20 : decode cX6_ask 20 = .ok (.if_icmp .ge 19, 3) := by decide +kernel
theorem dX6_ask_23 : decode cX6_ask 23 = .ok (.aload_n 0, 1) := by decide +kernel
theorem dX6_ask_24 : decode cX6_ask 24 = .ok (.getfield 70, 3) := by decide +kernel
theorem dX6_ask_27 : decode cX6_ask 27 = .ok (.iload_n 2, 1) := by decide +kernel
theorem dX6_ask_28 : decode cX6_ask 28 = .ok (.aaload, 1) := by decide +kernel
theorem dX6_ask_29 : decode cX6_ask 29 = .ok (.iconst 0, 1) := by decide +kernel
theorem dX6_ask_30 : decode cX6_ask 30 = .ok (.invokestatic 223, 3) := by decide +kernel
theorem dX6_ask_33 : decode cX6_ask 33 = .ok (.iinc 2 1, 3) := by decide +kernel
theorem dX6_ask_36 : decode cX6_ask 36 = .ok (.goto (-19), 3) := by decide +kernel
theorem dX6_ask_39 : decode cX6_ask 39 = .ok (.iconst 0, 1) := by decide +kernel
theorem dX6_ask_40 : decode cX6_ask 40 = .ok (.istore_n 2, 1) := by decide +kernel
theorem dX6_ask_41 : decode cX6_ask 41 = .ok (.iload_n 2, 1) := by decide +kernel
theorem dX6_ask_42 : decode cX6_ask 42 = .ok (.bipush 30, 2) := by decide +kernel
theorem dX6_ask_44 : decode cX6_ask 44 = .ok (.if_icmp .ge 41, 3) := by decide +kernel
theorem dX6_ask_47 : decode cX6_ask 47 = .ok (.aload_n 0, 1) := by decide +kernel
theorem dX6_ask_48 : decode cX6_ask 48 = .ok (.getfield 50, 3) := by decide +kernel
theorem dX6_ask_51 : decode cX6_ask 51 = .ok (.getfield 193, 3) := by decide +kernel
theorem dX6_ask_54 : decode cX6_ask 54 = .ok (.iload_n 1, 1) := by decide +kernel
theorem dX6_ask_55 : decode cX6_ask 55 = .ok (.iload_n 2, 1) := by decide +kernel
theorem dX6_ask_56 : decode cX6_ask 56 = .ok (.iastore, 1) := by decide +kernel
theorem dX6_ask_57 : decode cX6_ask 57 = .ok (.aload_n 0, 1) := by decide +kernel
theorem dX6_ask_58 : decode cX6_ask 58 = .ok (.getfield 57, 3) := by decide +kernel
theorem dX6_ask_61 : decode cX6_ask 61 = .ok (.aload_n 0, 1) := by decide +kernel
theorem dX6_ask_62 : decode cX6_ask 62 = .ok (.getfield 50, 3) := by decide +kernel
theorem dX6_ask_65 : decode cX6_ask 65 = .ok (.invokevirtual 196, 3) := by decide +kernel
theorem dX6_ask_68 : decode cX6_ask 68 = .ok (.aload_n 0, 1) := by decide +kernel
theorem dX6_ask_69 : decode cX6_ask 69 = .ok (.invokevirtual 214, 3) := by decide +kernel
theorem dX6_ask_72 : decode cX6_ask 72 = .ok (.ifCond .eq 7, 3) := by decide +kernel
theorem dX6_ask_75 : decode cX6_ask 75 = .ok (.aload_n 0, 1) := by decide +kernel
theorem dX6_ask_76 : decode cX6_ask 76 = .ok (.invokevirtual 229, 3) := by decide +kernel
theorem dX6_ask_79 : decode cX6_ask 79 = .ok (.iinc 2 1, 3) := by decide +kernel
theorem dX6_ask_82 : decode cX6_ask 82 = .ok (.goto (-41), 3) := by decide +kernel
theorem dX6_ask_85 : decode cX6_ask 85 = .ok (.aload_n 0, 1) := by decide +kernel
theorem dX6_ask_86 : decode cX6_ask 86 = .ok (.invokevirtual 232, 3) := by decide +kernel
theorem dX6_ask_89 : decode cX6_ask 89 = .ok (.ireturn, 1) := by decide +kernel
theorem dX6_chill_0 : decode cX6_chill 0 = .ok (.iload_n 1, 1) := by decide +kernel
theorem dX6_chill_1 : decode cX6_chill 1 = .ok (.bipush 17, 2) := by decide +kernel
theorem dX6_chill_3 : decode cX6_chill 3 = .ok (.invokestatic 77, 3) := by decide +kernel
theorem dX6_chill_6 : decode cX6_chill 6 = .ok (.ifCond .ne 12, 3) := by decide +kernel
theorem dX6_chill_9 : decode cX6_chill 9 = .ok (.iload_n 2, 1) := by decide +kernel
theorem dX6_chill_10 : decode cX6_chill 10 = .ok (.bipush 10, 2) := by decide +kernel
theorem dX6_chill_12 : decode cX6_chill 12 = .ok (.invokestatic 77, 3) := by decide +kernel
theorem dX6_chill_15 : decode cX6_chill 15 = .ok (.ifCond .eq 9, 3) := by decide +kernel
theorem dX6_chill_18 : decode cX6_chill 18 = .ok (.bipush (-2), 2) := by decide +kernel
theorem dX6_chill_20 : decode cX6_chill 20 = .ok (.invokestatic 235, 3) := by decide +kernel
theorem dX6_chill_23 : decode cX6_chill 23 = .ok (.lreturn, 1) := by decide +kernel
theorem dX6_chill_24 : decode cX6_chill 24 = .ok (.aload_n 0, 1) := by decide +kernel
theorem dX6_chill_25 : decode cX6_chill 25 = .ok (.iload_n 3, 1) := by decide +kernel
theorem dX6_chill_26 : decode cX6_chill 26 = .ok (.invokevirtual 109, 3) := by decide +kernel
theorem dX6_chill_29 : decode cX6_chill 29 = .ok (.ifCond .ne 12, 3) := by decide +kernel
theorem dX6_chill_32 : decode cX6_chill 32 = .ok (.iload 4, 2) := by decide +kernel
theorem dX6_chill_34 : decode cX6_chill 34 = .ok (.iconst 2, 1) := by decide +kernel
theorem dX6_chill_35 : decode cX6_chill 35 = .ok (.invokestatic 77, 3) := by decide +kernel
theorem dX6_chill_38 : decode cX6_chill 38 = .ok (.ifCond .eq 9, 3) := by decide +kernel
theorem dX6_chill_41 : decode cX6_chill 41 = .ok (.bipush (-2), 2) := by decide +kernel
theorem dX6_chill_43 : decode cX6_chill 43 = .ok (.invokestatic 235, 3) := by decide +kernel
theorem dX6_chill_46 : decode cX6_chill 46 = .ok (.lreturn, 1) := by decide +kernel
theorem dX6_chill_47 : decode cX6_chill 47 = .ok (.aload_n 0, 1) := by decide +kernel
theorem dX6_chill_48 : decode cX6_chill 48 = .ok (.getfield 64, 3) := by decide +kernel
theorem dX6_chill_51 : decode cX6_chill 51 = .ok (.getfield 239, 3) := by decide +kernel
theorem dX6_chill_54 : decode cX6_chill 54 = .ok (.iload_n 2, 1) := by decide +kernel
theorem dX6_chill_55 : decode cX6_chill 55 = .ok (.if_icmp .eq 8, 3) := by decide +kernel
theorem dX6_chill_58 : decode cX6_chill 58 = .ok (.aload_n 0, 1) := by decide +kernel
theorem dX6_chill_59 : decode cX6_chill 59 = .ok (.iload_n 2, 1) := by decide +kernel
theorem dX6_chill_60 : decode cX6_chill 60 = .ok (.invokevirtual 242, 3) := by decide +kernel
theorem dX6_chill_63 : decode cX6_chill 63 = .ok (.aload_n 0, 1) := by decide +kernel
theorem dX6_chill_64 : decode cX6_chill 64 = .ok (.getfield 64, 3) := by decide +kernel
theorem dX6_chill_67 : decode cX6_chill 67 = .ok (.iload_n 3, 1) := by decide +kernel
theorem dX6_chill_68 : decode cX6_chill 68 = .ok (.iload_n 1, 1) := by decide +kernel
theorem dX6_chill_69 : decode cX6_chill 69 = .ok (.invokevirtual 245, 3) := by decide +kernel
theorem dX6_chill_72 : decode cX6_chill 72 = .ok (.lstore 5, 2) := by decide +kernel
theorem dX6_chill_74 : decode cX6_chill 74 = .ok (.lconst 1, 1) := by decide +kernel
theorem dX6_chill_75 : decode cX6_chill 75 = .ok (.iconst 4, 1) := by decide +kernel
theorem dX6_chill_76 : decode cX6_chill 76 = .ok (.iload_n 2, 1) := by decide +kernel
theorem dX6_chill_77 : decode cX6_chill 77 = .ok (.iconst 1, 1) := by decide +kernel
theorem dX6_chill_78 : decode cX6_chill 78 = .ok (.iadd, 1) := by decide +kernel
theorem dX6_chill_79 : decode cX6_chill 79 = .ok (.imul, 1) := by decide +kernel
theorem dX6_chill_80 : decode cX6_chill 80 = .ok (.lshl, 1) := by decide +kernel
theorem dX6_chill_81 : decode cX6_chill 81 = .ok (.lstore 7, 2) := by decide +kernel
theorem dX6_chill_83 : decode cX6_chill 83 = .ok (.iconst 0, 1) := by decide +kernel
theorem dX6_chill_84 : decode cX6_chill 84 = .ok (.istore 9, 2) := by decide +kernel
theorem dX6_chill_86 : decode cX6_chill 86 = .ok (.iload 9, 2) := by decide +kernel
theorem dX6_chill_88 : decode cX6_chill 88 = .ok (.bipush 40, 2) := by decide +kernel
theorem dX6_chill_90 : decode cX6_chill 90 = .ok (.if_icmp .ge 37, 3) := by decide +kernel
theorem dX6_chill_93 : decode cX6_chill 93 = .ok (.lload 7, 2) := by decide +kernel
theorem dX6_chill_95 : decode cX6_chill 95 = .ok (.lconst 1, 1) := by decide +kernel
theorem dX6_chill_96 : decode cX6_chill 96 = .ok (.lcmp, 1) := by decide +kernel
theorem dX6_chill_97 : decode cX6_chill 97 = .ok (.ifCond .le 30, 3) := by decide +kernel
theorem dX6_chill_100 : decode cX6_chill 100 = .ok (.lload 5, 2) := by decide +kernel
theorem dX6_chill_102 : decode cX6_chill 102 = .ok (.lconst 1, 1) := by decide +kernel
theorem dX6_chill_103 : decode cX6_chill 103 = .ok (.land, 1) := by decide +kernel
theorem dX6_chill_104 : decode cX6_chill 104 = .ok (.lconst 0, 1) := by decide +kernel
theorem dX6_chill_105 : decode cX6_chill 105 = .ok (.lcmp, 1) := by decide +kernel
theorem dX6_chill_106 : decode cX6_chill 106 = .ok (.ifCond .ne 21, 3) := by decide +kernel
theorem dX6_chill_109 : decode cX6_chill 109 = .ok (.lload 5, 2) := by decide +kernel
theorem dX6_chill_111 : decode cX6_chill 111 = .ok (.iconst 1, 1) := by decide +kernel
theorem dX6_chill_112 : decode cX6_chill 112 = .ok (.lshr, 1) := by decide +kernel
theorem dX6_chill_113 : decode cX6_chill 113 = .ok (.lstore 5, 2) := by decide +kernel
theorem dX6_chill_115 : decode cX6_chill 115 = .ok (.lload 7, 2) := by decide +kernel
theorem dX6_chill_117 : decode cX6_chill 117 = .ok (.iconst 1, 1) := by decide +kernel
theorem dX6_chill_118 : decode cX6_chill 118 = .ok (.lshr, 1) := by decide +kernel
theorem dX6_chill_119 : decode cX6_chill 119 = .ok (.lstore 7, 2) := by decide +kernel
theorem dX6_chill_121 : decode cX6_chill 121 = .ok (.iinc 9 1, 3) := by decide +kernel
theorem dX6_chill_124 : decode cX6_chill 124 = .ok (.goto (-38), 3) := by decide +kernel
theorem dX6_chill_127 : decode cX6_chill 127 = .ok (.iload 4, 2) := by decide +kernel
theorem dX6_chill_129 : decode cX6_chill 129 = .ok (.ifCond .ne 8, 3) := by decide +kernel
theorem dX6_chill_132 : decode cX6_chill 132 = .ok (.lload 5, 2) := by decide +kernel
theorem dX6_chill_134 : decode cX6_chill 134 = .ok (.goto 5, 3) := by decide +kernel
theorem dX6_chill_137 : decode cX6_chill 137 = .ok (.lload 7, 2) := by decide +kernel
theorem dX6_chill_139 : decode cX6_chill 139 = .ok (.lreturn, 1) := by decide +kernel
theorem dX6_year_0 : decode cX6_year 0 = .ok (.iload_n 2, 1) := by decide +kernel
theorem dX6_year_1 : decode cX6_year 1 = .ok (.iconst 2, 1) := by decide +kernel
theorem dX6_year_2 : decode cX6_year 2 = .ok (.invokestatic 77, 3) := by decide +kernel
theorem dX6_year_5 : decode cX6_year 5 = .ok (.ifCond .eq 6, 3) := by decide +kernel
theorem dX6_year_8 : decode cX6_year 8 = .ok (.bipush (-2), 2) := by decide +kernel
theorem dX6_year_10 : decode cX6_year 10 = .ok (.ireturn, 1) := by decide +kernel
theorem dX6_year_11 : decode cX6_year 11 = .ok (.aload_n 0, 1) := by decide +kernel
theorem dX6_year_12 : decode cX6_year 12 = .ok (.invokevirtual 184, 3) := by decide +kernel
theorem dX6_year_15 : decode cX6_year 15 = .ok (.iload_n 1, 1) := by decide +kernel
theorem dX6_year_16 : decode cX6_year 16 = .ok (.istore_n 3, 1) := by decide +kernel
theorem dX6_year_17 : decode cX6_year 17 = .ok (.iconst 0, 1) := by decide +kernel
theorem dX6_year_18 : decode cX6_year 18 = .ok (.istore 4, 2) := by decide +kernel
theorem dX6_year_20 : decode cX6_year 20 = .ok (.iload 4, 2) := by decide +kernel
theorem dX6_year_22 : decode cX6_year 22 = .ok (.aload_n 0, 1) := by decide +kernel
theorem dX6_year_23 : decode cX6_year 23 = .ok (.getfield 50, 3) := by decide +kernel
theorem dX6_year_26 : decode cX6_year 26 = .ok (.getfield 249, 3) := by decide +kernel
theorem dX6_year_29 : decode cX6_year 29 = .ok (.if_icmp .ge 35, 3) := by decide +kernel
theorem dX6_year_32 : decode cX6_year 32 = .ok (.ldc 252, 2) := by decide +kernel
theorem dX6_year_34 : decode cX6_year 34 = .ok (.iload_n 3, 1) := by decide +kernel
theorem dX6_year_35 : decode cX6_year 35 = .ok (.imul, 1) := by decide +kernel
theorem dX6_year_36 : decode cX6_year 36 = .ok (.sipush 12345, 3) := by decide +kernel
theorem dX6_year_39 : decode cX6_year 39 = .ok (.iadd, 1) := by decide +kernel
theorem dX6_year_40 : decode cX6_year 40 = .ok (.istore_n 3, 1) := by decide +kernel
theorem dX6_year_41 : decode cX6_year 41 = .ok (.aload_n 0, 1) := by decide +kernel
theorem dX6_year_42 : decode cX6_year 42 = .ok (.getfield 50, 3) := by decide +kernel
theorem dX6_year_45 : decode cX6_year 45 = .ok (.getfield 193, 3) := by decide +kernel
theorem dX6_year_48 : decode cX6_year 48 = .ok (.iload 4, 2) := by decide +kernel
theorem dX6_year_50 : decode cX6_year 50 = .ok (.iload_n 3, 1) := by decide +kernel
theorem dX6_year_51 : decode cX6_year 51 = .ok (.bipush 16, 2) := by decide +kernel
theorem dX6_year_53 : decode cX6_year 53 = .ok (.iushr, 1) := by decide +kernel
theorem dX6_year_54 : decode cX6_year 54 = .ok (.bipush 30, 2) := by decide +kernel
theorem dX6_year_56 : decode cX6_year 56 = .ok (.irem, 1) := by decide +kernel
theorem dX6_year_57 : decode cX6_year 57 = .ok (.iastore, 1) := by decide +kernel
theorem dX6_year_58 : decode cX6_year 58 = .ok (.iinc 4 1, 3) := by decide +kernel
theorem dX6_year_61 : decode cX6_year 61 = .ok (.goto (-41), 3) := by decide +kernel
theorem dX6_year_64 : decode cX6_year 64 = .ok (.aload_n 0, 1) := by decide +kernel
theorem dX6_year_65 : decode cX6_year 65 = .ok (.getfield 57, 3) := by decide +kernel
theorem dX6_year_68 : decode cX6_year 68 = .ok (.aload_n 0, 1) := by decide +kernel
theorem dX6_year_69 : decode cX6_year 69 = .ok (.getfield 50, 3) := by decide +kernel
theorem dX6_year_72 : decode cX6_year 72 = .ok (.invokevirtual 196, 3) := by decide +kernel
theorem dX6_year_75 : decode cX6_year 75 = .ok (.iload_n 2, 1) := by decide +kernel
theorem dX6_year_76 : decode cX6_year 76 = .ok (.ifCond .ne 12, 3) := by decide +kernel
theorem dX6_year_79 : decode cX6_year 79 = .ok (.aload_n 0, 1) := by decide +kernel
theorem dX6_year_80 : decode cX6_year 80 = .ok (.bipush 39, 2) := by decide +kernel
theorem dX6_year_82 : decode cX6_year 82 = .ok (.invokevirtual 158, 3) := by decide +kernel
theorem dX6_year_85 : decode cX6_year 85 = .ok (.goto 7, 3) := by decide +kernel
theorem dX6_year_88 : decode cX6_year 88 = .ok (.aload_n 0, 1) := by decide +kernel
theorem dX6_year_89 : decode cX6_year 89 = .ok (.invokevirtual 200, 3) := by decide +kernel
theorem dX6_year_92 : decode cX6_year 92 = .ok (.ireturn, 1) := by decide +kernel
theorem dX6_sheet_0 : decode cX6_sheet 0 = .ok (.iload_n 1, 1) := by decide +kernel
theorem dX6_sheet_1 : decode cX6_sheet 1 = .ok (.iconst 4, 1) := by decide +kernel
theorem dX6_sheet_2 : decode cX6_sheet 2 = .ok (.invokestatic 77, 3) := by decide +kernel
theorem dX6_sheet_5 : decode cX6_sheet 5 = .ok (.ifCond .ne 17, 3) := by decide +kernel
theorem dX6_sheet_8 : decode cX6_sheet 8 = .ok (.iload_n 2, 1) := by decide +kernel
theorem dX6_sheet_9 : decode cX6_sheet 9 = .ok (.iconst 3, 1) := by decide +kernel
theorem dX6_sheet_10 : decode cX6_sheet 10 = .ok (.invokestatic 77, 3) := by decide +kernel
theorem dX6_sheet_13 : decode cX6_sheet 13 = .ok (.ifCond .ne 9, 3) := by decide +kernel
theorem dX6_sheet_16 : decode cX6_sheet 16 = .ok (.iload_n 3, 1) := by decide +kernel
theorem dX6_sheet_17 : decode cX6_sheet 17 = .ok (.bipush 60, 2) := by decide +kernel
theorem dX6_sheet_19 : decode cX6_sheet 19 = .ok (.if_icmp .le 6, 3) := by decide +kernel
theorem dX6_sheet_22 : decode cX6_sheet 22 = .ok (.bipush (-2), 2) := by decide +kernel
theorem dX6_sheet_24 : decode cX6_sheet 24 = .ok (.ireturn, 1) := by decide +kernel
theorem dX6_sheet_25 : decode cX6_sheet 25 = .ok (.iload_n 3, 1) := by decide +kernel
theorem dX6_sheet_26 : decode cX6_sheet 26 = .ok (.ifCond .ge 9, 3) := by decide +kernel
theorem dX6_sheet_29 : decode cX6_sheet 29 = .ok (.aload_n 0, 1) := by decide +kernel
theorem dX6_sheet_30 : decode cX6_sheet 30 = .ok (.iconst 5, 1) := by decide +kernel
theorem dX6_sheet_31 : decode cX6_sheet 31 = .ok (.invokevirtual 123, 3) := by decide +kernel
theorem dX6_sheet_34 : decode cX6_sheet 34 = .ok (.ireturn, 1) := by decide +kernel
theorem dX6_sheet_35 : decode cX6_sheet 35 = .ok (.aload_n 0, 1) := by decide +kernel
theorem dX6_sheet_36 : decode cX6_sheet 36 = .ok (.getfield 43, 3) := by decide +kernel
theorem dX6_sheet_39 : decode cX6_sheet 39 = .ok (.iload_n 1, 1) := by decide +kernel
theorem dX6_sheet_40 : decode cX6_sheet 40 = .ok (.aaload, 1) := by decide +kernel
theorem dX6_sheet_41 : decode cX6_sheet 41 = .ok (.iload_n 2, 1) := by decide +kernel
theorem dX6_sheet_42 : decode cX6_sheet 42 = .ok (.iload_n 3, 1) := by decide +kernel
theorem dX6_sheet_43 : decode cX6_sheet 43 = .ok (.invokevirtual 253, 3) := by decide +kernel
theorem dX6_sheet_46 : decode cX6_sheet 46 = .ok (.iload_n 3, 1) := by decide +kernel
theorem dX6_sheet_47 : decode cX6_sheet 47 = .ok (.ireturn, 1) := by decide +kernel
theorem dX6_lose_0 : decode cX6_lose 0 = .ok (.iload_n 1, 1) := by decide +kernel
theorem dX6_lose_1 : decode cX6_lose 1 = .ok (.iconst 4, 1) := by decide +kernel
theorem dX6_lose_2 : decode cX6_lose 2 = .ok (.invokestatic 77, 3) := by decide +kernel
theorem dX6_lose_5 : decode cX6_lose 5 = .ok (.ifCond .eq 6, 3) := by decide +kernel
theorem dX6_lose_8 : decode cX6_lose 8 = .ok (.bipush (-2), 2) := by decide +kernel
theorem dX6_lose_10 : decode cX6_lose 10 = .ok (.ireturn, 1) := by decide +kernel
theorem dX6_lose_11 : decode cX6_lose 11 = .ok (.aload_n 0, 1) := by decide +kernel
theorem dX6_lose_12 : decode cX6_lose 12 = .ok (.getfield 43, 3) := by decide +kernel
theorem dX6_lose_15 : decode cX6_lose 15 = .ok (.iload_n 1, 1) := by decide +kernel
theorem dX6_lose_16 : decode cX6_lose 16 = .ok (.aaload, 1) := by decide +kernel
theorem dX6_lose_17 : decode cX6_lose 17 = .ok (.astore_n 2, 1) := by decide +kernel
theorem dX6_lose_18 : decode cX6_lose 18 = .ok (.aload_n 2, 1) := by decide +kernel
theorem dX6_lose_19 : decode cX6_lose 19 = .ok (.invokevirtual 119, 3) := by decide +kernel
theorem dX6_lose_22 : decode cX6_lose 22 = .ok (.ifCond .eq 9, 3) := by decide +kernel
theorem dX6_lose_25 : decode cX6_lose 25 = .ok (.aload_n 0, 1) := by decide +kernel
theorem dX6_lose_26 : decode cX6_lose 26 = .ok (.iconst 1, 1) := by decide +kernel
theorem dX6_lose_27 : decode cX6_lose 27 = .ok (.invokevirtual 123, 3) := by decide +kernel
theorem dX6_lose_30 : decode cX6_lose 30 = .ok (.ireturn, 1) := by decide +kernel
theorem dX6_lose_31 : decode cX6_lose 31 = .ok (.aload_n 2, 1) := by decide +kernel
theorem dX6_lose_32 : decode cX6_lose 32 = .ok (.getfield 126, 3) := by decide +kernel
theorem dX6_lose_35 : decode cX6_lose 35 = .ok (.istore_n 3, 1) := by decide +kernel
theorem dX6_lose_36 : decode cX6_lose 36 = .ok (.aload_n 2, 1) := by decide +kernel
theorem dX6_lose_37 : decode cX6_lose 37 = .ok (.iconst (-1), 1) := by decide +kernel
theorem dX6_lose_38 : decode cX6_lose 38 = .ok (.putfield 126, 3) := by decide +kernel
theorem dX6_lose_41 : decode cX6_lose 41 = .ok (.iload_n 3, 1) := by decide +kernel
theorem dX6_lose_42 : decode cX6_lose 42 = .ok (.ireturn, 1) := by decide +kernel
theorem dX6_lay_0 : decode cX6_lay 0 = .ok (.iload_n 1, 1) := by decide +kernel
theorem dX6_lay_1 : decode cX6_lay 1 = .ok (.iconst 4, 1) := by decide +kernel
theorem dX6_lay_2 : decode cX6_lay 2 = .ok (.invokestatic 77, 3) := by decide +kernel
theorem dX6_lay_5 : decode cX6_lay 5 = .ok (.ifCond .ne 11, 3) := by decide +kernel
theorem dX6_lay_8 : decode cX6_lay 8 = .ok (.iload_n 2, 1) := by decide +kernel
theorem dX6_lay_9 : decode cX6_lay 9 = .ok (.iconst 3, 1) := by decide +kernel
theorem dX6_lay_10 : decode cX6_lay 10 = .ok (.invokestatic 77, 3) := by decide +kernel
theorem dX6_lay_13 : decode cX6_lay 13 = .ok (.ifCond .eq 6, 3) := by decide +kernel
theorem dX6_lay_16 : decode cX6_lay 16 = .ok (.bipush (-2), 2) := by decide +kernel
theorem dX6_lay_18 : decode cX6_lay 18 = .ok (.ireturn, 1) := by decide +kernel
theorem dX6_lay_19 : decode cX6_lay 19 = .ok (.aload_n 0, 1) := by decide +kernel
theorem dX6_lay_20 : decode cX6_lay 20 = .ok (.getfield 43, 3) := by decide +kernel
theorem dX6_lay_23 : decode cX6_lay 23 = .ok (.iload_n 1, 1) := by decide +kernel
theorem dX6_lay_24 : decode cX6_lay 24 = .ok (.aaload, 1) := by decide +kernel
theorem dX6_lay_25 : decode cX6_lay 25 = .ok (.iload_n 2, 1) := by decide +kernel
theorem dX6_lay_26 : decode cX6_lay 26 = .ok (.iload_n 3, 1) := by decide +kernel
theorem dX6_lay_27 : decode cX6_lay 27 = .ok (.invokestatic 257, 3) := by decide +kernel
theorem dX6_lay_30 : decode cX6_lay 30 = .ok (.istore 5, 2) := by decide +kernel
theorem dX6_lay_32 : decode cX6_lay 32 = .ok (.iload 5, 2) := by decide +kernel
theorem dX6_lay_34 : decode cX6_lay 34 = .ok (.ifCond .eq 10, 3) := by decide +kernel
theorem dX6_lay_37 : decode cX6_lay 37 = .ok (.aload_n 0, 1) := by decide +kernel
theorem dX6_lay_38 : decode cX6_lay 38 = .ok (.iload 5, 2) := by decide +kernel
theorem dX6_lay_40 : decode cX6_lay 40 = .ok (.invokevirtual 123, 3) := by decide +kernel
theorem dX6_lay_43 : decode cX6_lay 43 = .ok (.ireturn, 1) := by decide +kernel
theorem dX6_lay_44 : decode cX6_lay 44 = .ok (.aload_n 0, 1) := by decide +kernel
theorem dX6_lay_45 : decode cX6_lay 45 = .ok (.getfield 43, 3) := by decide +kernel
theorem dX6_lay_48 : decode cX6_lay 48 = .ok (.iload_n 1, 1) := by decide +kernel
theorem dX6_lay_49 : decode cX6_lay 49 = .ok (.aaload, 1) := by decide +kernel
theorem dX6_lay_50 : decode cX6_lay 50 = .ok (.iload_n 3, 1) := by decide +kernel
theorem dX6_lay_51 : decode cX6_lay 51 = .ok (.iload 4, 2) := by decide +kernel
theorem dX6_lay_53 : decode cX6_lay 53 = .ok (.invokevirtual 261, 3) := by decide +kernel
theorem dX6_lay_56 : decode cX6_lay 56 = .ok (.iconst 1, 1) := by decide +kernel
theorem dX6_lay_57 : decode cX6_lay 57 = .ok (.ireturn, 1) := by decide +kernel
theorem dX6_get_0 : decode cX6_get 0 = .ok (.iload_n 1, 1) := by decide +kernel
theorem dX6_get_1 : decode cX6_get 1 = .ok (.iconst 4, 1) := by decide +kernel
theorem dX6_get_2 : decode cX6_get 2 = .ok (.invokestatic 77, 3) := by decide +kernel
theorem dX6_get_5 : decode cX6_get 5 = .ok (.ifCond .ne 11, 3) := by decide +kernel
theorem dX6_get_8 : decode cX6_get 8 = .ok (.iload_n 2, 1) := by decide +kernel
theorem dX6_get_9 : decode cX6_get 9 = .ok (.iconst 3, 1) := by decide +kernel
theorem dX6_get_10 : decode cX6_get 10 = .ok (.invokestatic 77, 3) := by decide +kernel
theorem dX6_get_13 : decode cX6_get 13 = .ok (.ifCond .eq 7, 3) := by decide +kernel
theorem dX6_get_16 : decode cX6_get 16 = .ok (.ldc_w 264, 3) := by decide +kernel
theorem dX6_get_19 : decode cX6_get 19 = .ok (.ireturn, 1) := by decide +kernel
theorem dX6_get_20 : decode cX6_get 20 = .ok (.aload_n 0, 1) := by decide +kernel
theorem dX6_get_21 : decode cX6_get 21 = .ok (.getfield 43, 3) := by decide +kernel
theorem dX6_get_24 : decode cX6_get 24 = .ok (.iload_n 1, 1) := by decide +kernel
theorem dX6_get_25 : decode cX6_get 25 = .ok (.aaload, 1) := by decide +kernel
theorem dX6_get_26 : decode cX6_get 26 = .ok (.iload_n 2, 1) := by decide +kernel
theorem dX6_get_27 : decode cX6_get 27 = .ok (.iload_n 3, 1) := by decide +kernel
theorem dX6_get_28 : decode cX6_get 28 = .ok (.invokestatic 257, 3) := by decide +kernel
theorem dX6_get_31 : decode cX6_get 31 = .ok (.istore 4, 2) := by decide +kernel
theorem dX6_get_33 : decode cX6_get 33 = .ok (.iload 4, 2) := by decide +kernel
theorem dX6_get_35 : decode cX6_get 35 = .ok (.ifCond .ne 14, 3) := by decide +kernel
theorem dX6_get_38 : decode cX6_get 38 = .ok (.aload_n 0, 1) := by decide +kernel
theorem dX6_get_39 : decode cX6_get 39 = .ok (.getfield 43, 3) := by decide +kernel
theorem dX6_get_42 : decode cX6_get 42 = .ok (.iload_n 1, 1) := by decide +kernel
theorem dX6_get_43 : decode cX6_get 43 = .ok (.aaload, 1) := by decide +kernel
theorem dX6_get_44 : decode cX6_get 44 = .ok (.iload_n 3, 1) := by decide +kernel
theorem dX6_get_45 : decode cX6_get 45 = .ok (.invokevirtual 129, 3) := by decide +kernel
theorem dX6_get_48 : decode cX6_get 48 = .ok (.ireturn, 1) := by decide +kernel
theorem dX6_get_49 : decode cX6_get 49 = .ok (.aload_n 0, 1) := by decide +kernel
theorem dX6_get_50 : decode cX6_get 50 = .ok (.iload 4, 2) := by decide +kernel
theorem dX6_get_52 : decode cX6_get 52 = .ok (.invokevirtual 123, 3) := by decide +kernel
theorem dX6_get_55 : decode cX6_get 55 = .ok (.pop, 1) := by decide +kernel
theorem dX6_get_56 : decode cX6_get 56 = .ok (.ldc_w 264, 3) := by decide +kernel
theorem dX6_get_59 : decode cX6_get 59 = .ok (.ireturn, 1) := by decide +kernel
theorem dX6_copy_0 : decode cX6_copy 0 = .ok (.iload_n 1, 1) := by decide +kernel
theorem dX6_copy_1 : decode cX6_copy 1 = .ok (.iconst 4, 1) := by decide +kernel
theorem dX6_copy_2 : decode cX6_copy 2 = .ok (.invokestatic 77, 3) := by decide +kernel
theorem dX6_copy_5 : decode cX6_copy 5 = .ok (.ifCond .ne 11, 3) := by decide +kernel
theorem dX6_copy_8 : decode cX6_copy 8 = .ok (.iload_n 3, 1) := by decide +kernel
theorem dX6_copy_9 : decode cX6_copy 9 = .ok (.iconst 4, 1) := by decide +kernel
theorem dX6_copy_10 : decode cX6_copy 10 = .ok (.invokestatic 77, 3) := by decide +kernel
theorem dX6_copy_13 : decode cX6_copy 13 = .ok (.ifCond .eq 6, 3) := by decide +kernel
theorem dX6_copy_16 : decode cX6_copy 16 = .ok (.bipush (-2), 2) := by decide +kernel
theorem dX6_copy_18 : decode cX6_copy 18 = .ok (.ireturn, 1) := by decide +kernel
theorem dX6_copy_19 : decode cX6_copy 19 = .ok (.aload_n 0, 1) := by decide +kernel
theorem dX6_copy_20 : decode cX6_copy 20 = .ok (.getfield 43, 3) := by decide +kernel
theorem dX6_copy_23 : decode cX6_copy 23 = .ok (.iload_n 1, 1) := by decide +kernel
theorem dX6_copy_24 : decode cX6_copy 24 = .ok (.aaload, 1) := by decide +kernel
theorem dX6_copy_25 : decode cX6_copy 25 = .ok (.astore 6, 2) := by decide +kernel
theorem dX6_copy_27 : decode cX6_copy 27 = .ok (.aload_n 0, 1) := by decide +kernel
theorem dX6_copy_28 : decode cX6_copy 28 = .ok (.getfield 43, 3) := by decide +kernel
theorem dX6_copy_31 : decode cX6_copy 31 = .ok (.iload_n 3, 1) := by decide +kernel
theorem dX6_copy_32 : decode cX6_copy 32 = .ok (.aaload, 1) := by decide +kernel
theorem dX6_copy_33 : decode cX6_copy 33 = .ok (.astore 7, 2) := by decide +kernel
theorem dX6_copy_35 : decode cX6_copy 35 = .ok (.aload 6, 2) := by decide +kernel
theorem dX6_copy_37 : decode cX6_copy 37 = .ok (.invokevirtual 119, 3) := by decide +kernel
theorem dX6_copy_40 : decode cX6_copy 40 = .ok (.ifCond .ne 11, 3) := by decide +kernel
theorem dX6_copy_43 : decode cX6_copy 43 = .ok (.aload 7, 2) := by decide +kernel
theorem dX6_copy_45 : decode cX6_copy 45 = .ok (.invokevirtual 119, 3) := by decide +kernel
theorem dX6_copy_48 : decode cX6_copy 48 = .ok (.ifCond .eq 9, 3) := by decide +kernel
theorem dX6_copy_51 : decode cX6_copy 51 = .ok (.aload_n 0, 1) := by decide +kernel
theorem dX6_copy_52 : decode cX6_copy 52 = .ok (.iconst 1, 1) := by decide +kernel
theorem dX6_copy_53 : decode cX6_copy 53 = .ok (.invokevirtual 123, 3) := by decide +kernel
theorem dX6_copy_56 : decode cX6_copy 56 = .ok (.ireturn, 1) := by decide +kernel
theorem dX6_copy_57 : decode cX6_copy 57 = .ok (.aload 6, 2) := by decide +kernel
theorem dX6_copy_59 : decode cX6_copy 59 = .ok (.getfield 265, 3) := by decide +kernel
theorem dX6_copy_62 : decode cX6_copy 62 = .ok (.aload 7, 2) := by decide +kernel
theorem dX6_copy_64 : decode cX6_copy 64 = .ok (.getfield 265, 3) := by decide +kernel
theorem dX6_copy_67 : decode cX6_copy 67 = .ok (.if_icmp .eq 9, 3) := by decide +kernel
theorem dX6_copy_70 : decode cX6_copy 70 = .ok (.aload_n 0, 1) := by decide +kernel
theorem dX6_copy_71 : decode cX6_copy 71 = .ok (.iconst 4, 1) := by decide +kernel
theorem dX6_copy_72 : decode cX6_copy 72 = .ok (.invokevirtual 123, 3) := by decide +kernel
theorem dX6_copy_75 : decode cX6_copy 75 = .ok (.ireturn, 1) := by decide +kernel
theorem dX6_copy_76 : decode cX6_copy 76 = .ok (.aload 6, 2) := by decide +kernel
theorem dX6_copy_78 : decode cX6_copy 78 = .ok (.iload_n 2, 1) := by decide +kernel
theorem dX6_copy_79 : decode cX6_copy 79 = .ok (.iload 5, 2) := by decide +kernel
theorem dX6_copy_81 : decode cX6_copy 81 = .ok (.invokevirtual 268, 3) := by decide +kernel
theorem dX6_copy_84 : decode cX6_copy 84 = .ok (.ifCond .eq 15, 3) := by decide +kernel
theorem dX6_copy_87 : decode cX6_copy 87 = .ok (.aload 7, 2) := by decide +kernel
theorem dX6_copy_89 : decode cX6_copy 89 = .ok (.iload 4, 2) := by decide +kernel
theorem dX6_copy_91 : decode cX6_copy 91 = .ok (.iload 5, 2) := by decide +kernel
theorem dX6_copy_93 : decode cX6_copy 93 = .ok (.invokevirtual 268, 3) := by decide +kernel
theorem dX6_copy_96 : decode cX6_copy 96 = .ok (.ifCond .ne 9, 3) := by decide +kernel
theorem dX6_copy_99 : decode cX6_copy 99 = .ok (.aload_n 0, 1) := by decide +kernel
theorem dX6_copy_100 : decode cX6_copy 100 = .ok (.iconst 2, 1) := by decide +kernel
theorem dX6_copy_101 : decode cX6_copy 101 = .ok (.invokevirtual 123, 3) := by decide +kernel
theorem dX6_copy_104 : decode cX6_copy 104 = .ok (.ireturn, 1) := by decide +kernel
theorem dX6_copy_105 : decode cX6_copy 105 = .ok (.aload 6, 2) := by decide +kernel
theorem dX6_copy_107 : decode cX6_copy 107 = .ok (.getfield 271, 3) := by decide +kernel
theorem dX6_copy_110 : decode cX6_copy 110 = .ok (.iload_n 2, 1) := by decide +kernel
theorem dX6_copy_111 : decode cX6_copy 111 = .ok (.aload 7, 2) := by decide +kernel
theorem dX6_copy_113 : decode cX6_copy 113 = .ok (.getfield 271, 3) := by decide +kernel
theorem dX6_copy_116 : decode cX6_copy 116 = .ok (.iload 4, 2) := by decide +kernel
theorem dX6_copy_118 : decode cX6_copy 118 = .ok (.iload 5, 2) := by decide +kernel
theorem dX6_copy_120 : decode cX6_copy 120 = .ok (.invokestatic 274, 3) := by decide +kernel
theorem dX6_copy_123 : decode cX6_copy 123 = .ok (.iconst 1, 1) := by decide +kernel
theorem dX6_copy_124 : decode cX6_copy 124 = .ok (.ireturn, 1) := by decide +kernel
theorem dX6_write_0 : decode cX6_write 0 = .ok (.iload_n 1, 1) := by decide +kernel
theorem dX6_write_1 : decode cX6_write 1 = .ok (.bipush 40, 2) := by decide +kernel
theorem dX6_write_3 : decode cX6_write 3 = .ok (.invokestatic 77, 3) := by decide +kernel
theorem dX6_write_6 : decode cX6_write 6 = .ok (.ifCond .ne 11, 3) := by decide +kernel
theorem dX6_write_9 : decode cX6_write 9 = .ok (.iload_n 2, 1) := by decide +kernel
theorem dX6_write_10 : decode cX6_write 10 = .ok (.iconst 4, 1) := by decide +kernel
theorem dX6_write_11 : decode cX6_write 11 = .ok (.invokestatic 77, 3) := by decide +kernel
theorem dX6_write_14 : decode cX6_write 14 = .ok (.ifCond .eq 6, 3) := by decide +kernel
theorem dX6_write_17 : decode cX6_write 17 = .ok (.bipush (-2), 2) := by decide +kernel
theorem dX6_write_19 : decode cX6_write 19 = .ok (.ireturn, 1) := by decide +kernel
theorem dX6_write_20 : decode cX6_write 20 = .ok (.aload_n 0, 1) := by decide +kernel
theorem dX6_write_21 : decode cX6_write 21 = .ok (.getfield 43, 3) := by decide +kernel
theorem dX6_write_24 : decode cX6_write 24 = .ok (.iload_n 2, 1) := by decide +kernel
theorem dX6_write_25 : decode cX6_write 25 = .ok (.aaload, 1) := by decide +kernel
theorem dX6_write_26 : decode cX6_write 26 = .ok (.astore_n 3, 1) := by decide +kernel
theorem dX6_write_27 : decode cX6_write 27 = .ok (.aload_n 3, 1) := by decide +kernel
theorem dX6_write_28 : decode cX6_write 28 = .ok (.invokevirtual 119, 3) := by decide +kernel
theorem dX6_write_31 : decode cX6_write 31 = .ok (.ifCond .eq 9, 3) := by decide +kernel
theorem dX6_write_34 : decode cX6_write 34 = .ok (.aload_n 0, 1) := by decide +kernel
theorem dX6_write_35 : decode cX6_write 35 = .ok (.iconst 1, 1) := by decide +kernel
theorem dX6_write_36 : decode cX6_write 36 = .ok (.invokevirtual 123, 3) := by decide +kernel
theorem dX6_write_39 : decode cX6_write 39 = .ok (.ireturn, 1) := by decide +kernel
theorem dX6_write_40 : decode cX6_write 40 = .ok (.aload_n 0, 1) := by decide +kernel
theorem dX6_write_41 : decode cX6_write 41 = .ok (.invokevirtual 136, 3) := by decide +kernel
theorem dX6_write_44 : decode cX6_write 44 = .ok (.aload_n 3, 1) := by decide +kernel
theorem dX6_write_45 : decode cX6_write 45 = .ok (.getfield 126, 3) := by decide +kernel
theorem dX6_write_48 : decode cX6_write 48 = .ok (.aload_n 0, 1) := by decide +kernel
theorem dX6_write_49 : decode cX6_write 49 = .ok (.getfield 50, 3) := by decide +kernel
theorem dX6_write_52 : decode cX6_write 52 = .ok (.getfield 249, 3) := by decide +kernel
theorem dX6_write_55 : decode cX6_write 55 = .ok (.invokestatic 179, 3) := by decide +kernel
theorem dX6_write_58 : decode cX6_write 58 = .ok (.istore 4, 2) := by decide +kernel
theorem dX6_write_60 : decode cX6_write 60 = .ok (.iconst 0, 1) := by decide +kernel
theorem dX6_write_61 : decode cX6_write 61 = .ok (.istore 5, 2) := by decide +kernel
theorem dX6_write_63 : decode cX6_write 63 = .ok (.iload 5, 2) := by decide +kernel
theorem dX6_write_65 : decode cX6_write 65 = .ok (.iload 4, 2) := by decide +kernel
theorem dX6_write_67 : decode cX6_write 67 = .ok (.if_icmp .ge 29, 3) := by decide +kernel
theorem dX6_write_70 : decode cX6_write 70 = .ok (.aload_n 3, 1) := by decide +kernel
theorem dX6_write_71 : decode cX6_write 71 = .ok (.iload 5, 2) := by decide +kernel
theorem dX6_write_73 : decode cX6_write 73 = .ok (.aload_n 0, 1) := by decide +kernel
theorem dX6_write_74 : decode cX6_write 74 = .ok (.getfield 57, 3) := by decide +kernel
theorem dX6_write_77 : decode cX6_write 77 = .ok (.aload_n 0, 1) := by decide +kernel
theorem dX6_write_78 : decode cX6_write 78 = .ok (.getfield 50, 3) := by decide +kernel
theorem dX6_write_81 : decode cX6_write 81 = .ok (.iload_n 1, 1) := by decide +kernel
theorem dX6_write_82 : decode cX6_write 82 = .ok (.iload 5, 2) := by decide +kernel
theorem dX6_write_84 : decode cX6_write 84 = .ok (.invokevirtual 139, 3) := by decide +kernel
theorem dX6_write_87 : decode cX6_write 87 = .ok (.invokevirtual 261, 3) := by decide +kernel
theorem dX6_write_90 : decode cX6_write 90 = .ok (.iinc 5 1, 3) := by decide +kernel
theorem dX6_write_93 : decode cX6_write 93 = .ok (.goto (-30), 3) := by decide +kernel
theorem dX6_write_96 : decode cX6_write 96 = .ok (.iload 4, 2) := by decide +kernel
theorem dX6_write_98 : decode cX6_write 98 = .ok (.ireturn, 1) := by decide +kernel
theorem dX6_count_0 : decode cX6_count 0 = .ok (.iload_n 1, 1) := by decide +kernel
theorem dX6_count_1 : decode cX6_count 1 = .ok (.tableswitch 141 0 8 #[51, 61, 71, 84, 97, 113, 121, 128, 136], 51) := by decide +kernel
theorem dX6_count_52 : decode cX6_count 52 = .ok (.aload_n 0, 1) := by decide +kernel
theorem dX6_count_53 : decode cX6_count 53 = .ok (.getfield 16, 3) := by decide +kernel
theorem dX6_count_56 : decode cX6_count 56 = .ok (.iconst 0, 1) := by decide +kernel
theorem dX6_count_57 : decode cX6_count 57 = .ok (.aaload, 1) := by decide +kernel
theorem dX6_count_58 : decode cX6_count 58 = .ok (.getfield 280, 3) := by decide +kernel
theorem dX6_count_61 : decode cX6_count 61 = .ok (.ireturn, 1) := by decide +kernel
theorem dX6_count_62 : decode cX6_count 62 = .ok (.aload_n 0, 1) := by decide +kernel
theorem dX6_count_63 : decode cX6_count 63 = .ok (.getfield 16, 3) := by decide +kernel
theorem dX6_count_66 : decode cX6_count 66 = .ok (.iconst 1, 1) := by decide +kernel
theorem dX6_count_67 : decode cX6_count 67 = .ok (.aaload, 1) := by decide +kernel
theorem dX6_count_68 : decode cX6_count 68 = .ok (.getfield 280, 3) := by decide +kernel
theorem dX6_count_71 : decode cX6_count 71 = .ok (.ireturn, 1) := by decide +kernel
theorem dX6_count_72 : decode cX6_count 72 = .ok (.aload_n 0, 1) := by decide +kernel
theorem dX6_count_73 : decode cX6_count 73 = .ok (.getfield 16, 3) := by decide +kernel
theorem dX6_count_76 : decode cX6_count 76 = .ok (.iconst 0, 1) := by decide +kernel
theorem dX6_count_77 : decode cX6_count 77 = .ok (.aaload, 1) := by decide +kernel
theorem dX6_count_78 : decode cX6_count 78 = .ok (.getfield 283, 3) := by decide +kernel
theorem dX6_count_81 : decode cX6_count 81 = .ok (.getfield 209, 3) := by decide +kernel
theorem dX6_count_84 : decode cX6_count 84 = .ok (.ireturn, 1) := by decide +kernel
theorem dX6_count_85 : decode cX6_count 85 = .ok (.aload_n 0, 1) := by decide +kernel
theorem dX6_count_86 : decode cX6_count 86 = .ok (.getfield 16, 3) := by decide +kernel
theorem dX6_count_89 : decode cX6_count 89 = .ok (.iconst 1, 1) := by decide +kernel
theorem dX6_count_90 : decode cX6_count 90 = .ok (.aaload, 1) := by decide +kernel
theorem dX6_count_91 : decode cX6_count 91 = .ok (.getfield 283, 3) := by decide +kernel
theorem dX6_count_94 : decode cX6_count 94 = .ok (.getfield 209, 3) := by decide +kernel
theorem dX6_count_97 : decode cX6_count 97 = .ok (.ireturn, 1) := by decide +kernel
theorem dX6_count_98 : decode cX6_count 98 = .ok (.aload_n 0, 1) := by decide +kernel
theorem dX6_count_99 : decode cX6_count 99 = .ok (.getfield 27, 3) := by decide +kernel
theorem dX6_count_102 : decode cX6_count 102 = .ok (.getfield 209, 3) := by decide +kernel
theorem dX6_count_105 : decode cX6_count 105 = .ok (.aload_n 0, 1) := by decide +kernel
theorem dX6_count_106 : decode cX6_count 106 = .ok (.getfield 31, 3) := by decide +kernel
theorem dX6_count_109 : decode cX6_count 109 = .ok (.getfield 209, 3) := by decide +kernel
theorem dX6_count_112 : decode cX6_count 112 = .ok (.iadd, 1) := by decide +kernel
theorem dX6_count_113 : decode cX6_count 113 = .ok (.ireturn, 1) := by decide +kernel
theorem dX6_count_114 : decode cX6_count 114 = .ok (.aload_n 0, 1) := by decide +kernel
theorem dX6_count_115 : decode cX6_count 115 = .ok (.getfield 34, 3) := by decide +kernel
theorem dX6_count_118 : decode cX6_count 118 = .ok (.getfield 209, 3) := by decide +kernel
theorem dX6_count_121 : decode cX6_count 121 = .ok (.ireturn, 1) := by decide +kernel
theorem dX6_count_122 : decode cX6_count 122 = .ok (.aload_n 0, 1) := by decide +kernel
theorem dX6_count_123 : decode cX6_count 123 = .ok (.bipush 39, 2) := by decide +kernel
theorem dX6_count_125 : decode cX6_count 125 = .ok (.invokevirtual 286, 3) := by decide +kernel
theorem dX6_count_128 : decode cX6_count 128 = .ok (.ireturn, 1) := by decide +kernel
theorem dX6_count_129 : decode cX6_count 129 = .ok (.aload_n 0, 1) := by decide +kernel
theorem dX6_count_130 : decode cX6_count 130 = .ok (.getfield 37, 3) := by decide +kernel
theorem dX6_count_133 : decode cX6_count 133 = .ok (.getfield 209, 3) := by decide +kernel
theorem dX6_count_136 : decode cX6_count 136 = .ok (.ireturn, 1) := by decide +kernel
theorem dX6_count_137 : decode cX6_count 137 = .ok (.aload_n 0, 1) := by decide +kernel
theorem dX6_count_138 : decode cX6_count 138 = .ok (.getfield 73, 3) := by decide +kernel
theorem dX6_count_141 : decode cX6_count 141 = .ok (.ireturn, 1) := by decide +kernel
theorem dX6_count_142 : decode cX6_count 142 = .ok (.bipush (-2), 2) := by decide +kernel
theorem dX6_count_144 : decode cX6_count 144 = .ok (.ireturn, 1) := by decide +kernel
theorem dX6_digest_0 : decode cX6_digest 0 = .ok (.ldc2_w 289, 3) := by decide +kernel
theorem dX6_digest_3 : decode cX6_digest 3 = .ok (.lstore_n 1, 1) := by decide +kernel
theorem dX6_digest_4 : decode cX6_digest 4 = .ok (.iconst 0, 1) := by decide +kernel
theorem dX6_digest_5 : decode cX6_digest 5 = .ok (.istore_n 3, 1) := by decide +kernel
theorem dX6_digest_6 : decode cX6_digest 6 = .ok (.iload_n 3, 1) := by decide +kernel
theorem dX6_digest_7 : decode cX6_digest 7 = .ok (.bipush 8, 2) := by decide +kernel
theorem dX6_digest_9 : decode cX6_digest 9 = .ok (.if_icmp .ge 22, 3) := by decide +kernel
theorem dX6_digest_12 : decode cX6_digest 12 = .ok (.ldc2_w 291, 3) := by decide +kernel
theorem dX6_digest_15 : decode cX6_digest 15 = .ok (.lload_n 1, 1) := by decide +kernel
theorem dX6_digest_16 : decode cX6_digest 16 = .ok (.lmul, 1) := by decide +kernel
theorem dX6_digest_17 : decode cX6_digest 17 = .ok (.aload_n 0, 1) := by decide +kernel
theorem dX6_digest_18 : decode cX6_digest 18 = .ok (.iload_n 3, 1) := by decide +kernel
theorem dX6_digest_19 : decode cX6_digest 19 = .ok (.invokevirtual 293, 3) := by decide +kernel
theorem dX6_digest_22 : decode cX6_digest 22 = .ok (.i2l, 1) := by decide +kernel
theorem dX6_digest_23 : decode cX6_digest 23 = .ok (.ladd, 1) := by decide +kernel
theorem dX6_digest_24 : decode cX6_digest 24 = .ok (.lstore_n 1, 1) := by decide +kernel
theorem dX6_digest_25 : decode cX6_digest 25 = .ok (.iinc 3 1, 3) := by decide +kernel
theorem dX6_digest_28 : decode cX6_digest 28 = .ok (.goto (-22), 3) := by decide +kernel
theorem dX6_digest_31 : decode cX6_digest 31 = .ok (.ldc2_w 291, 3) := by decide +kernel
theorem dX6_digest_34 : decode cX6_digest 34 = .ok (.ldc2_w 291, 3) := by decide +kernel
theorem dX6_digest_37 : decode cX6_digest 37 = .ok (.lload_n 1, 1) := by decide +kernel
theorem dX6_digest_38 : decode cX6_digest 38 = .ok (.lmul, 1) := by decide +kernel
theorem dX6_digest_39 : decode cX6_digest 39 = .ok (.aload_n 0, 1) := by decide +kernel
theorem dX6_digest_40 : decode cX6_digest 40 = .ok (.iconst 0, 1) := by decide +kernel
theorem dX6_digest_41 : decode cX6_digest 41 = .ok (.invokevirtual 296, 3) := by decide +kernel
theorem dX6_digest_44 : decode cX6_digest 44 = .ok (.i2l, 1) := by decide +kernel
theorem dX6_digest_45 : decode cX6_digest 45 = .ok (.ladd, 1) := by decide +kernel
theorem dX6_digest_46 : decode cX6_digest 46 = .ok (.lmul, 1) := by decide +kernel
theorem dX6_digest_47 : decode cX6_digest 47 = .ok (.aload_n 0, 1) := by decide +kernel
theorem dX6_digest_48 : decode cX6_digest 48 = .ok (.iconst 1, 1) := by decide +kernel
theorem dX6_digest_49 : decode cX6_digest 49 = .ok (.invokevirtual 296, 3) := by decide +kernel
theorem dX6_digest_52 : decode cX6_digest 52 = .ok (.i2l, 1) := by decide +kernel
theorem dX6_digest_53 : decode cX6_digest 53 = .ok (.ladd, 1) := by decide +kernel
theorem dX6_digest_54 : decode cX6_digest 54 = .ok (.lstore_n 1, 1) := by decide +kernel
theorem dX6_digest_55 : decode cX6_digest 55 = .ok (.aload_n 0, 1) := by decide +kernel
theorem dX6_digest_56 : decode cX6_digest 56 = .ok (.getfield 16, 3) := by decide +kernel
theorem dX6_digest_59 : decode cX6_digest 59 = .ok (.iconst 0, 1) := by decide +kernel
theorem dX6_digest_60 : decode cX6_digest 60 = .ok (.aaload, 1) := by decide +kernel
theorem dX6_digest_61 : decode cX6_digest 61 = .ok (.getfield 280, 3) := by decide +kernel
theorem dX6_digest_64 : decode cX6_digest 64 = .ok (.istore_n 3, 1) := by decide +kernel
theorem dX6_digest_65 : decode cX6_digest 65 = .ok (.iconst 0, 1) := by decide +kernel
theorem dX6_digest_66 : decode cX6_digest 66 = .ok (.istore 4, 2) := by decide +kernel
theorem dX6_digest_68 : decode cX6_digest 68 = .ok (.iload 4, 2) := by decide +kernel
theorem dX6_digest_70 : decode cX6_digest 70 = .ok (.iload_n 3, 1) := by decide +kernel
theorem dX6_digest_71 : decode cX6_digest 71 = .ok (.if_icmp .ge 17, 3) := by decide +kernel
theorem dX6_digest_74 : decode cX6_digest 74 = .ok (.aload_n 0, 1) := by decide +kernel
theorem dX6_digest_75 : decode cX6_digest 75 = .ok (.lload_n 1, 1) := by decide +kernel
theorem dX6_digest_76 : decode cX6_digest 76 = .ok (.iload 4, 2) := by decide +kernel
theorem dX6_digest_78 : decode cX6_digest 78 = .ok (.invokevirtual 298, 3) := by decide +kernel
theorem dX6_digest_81 : decode cX6_digest 81 = .ok (.lstore_n 1, 1) := by decide +kernel
theorem dX6_digest_82 : decode cX6_digest 82 = .ok (.iinc 4 1, 3) := by decide +kernel
theorem dX6_digest_85 : decode cX6_digest 85 = .ok (.goto (-17), 3) := by decide +kernel
theorem dX6_digest_88 : decode cX6_digest 88 = .ok (.aload_n 0, 1) := by decide +kernel
theorem dX6_digest_89 : decode cX6_digest 89 = .ok (.getfield 16, 3) := by decide +kernel
theorem dX6_digest_92 : decode cX6_digest 92 = .ok (.iconst 1, 1) := by decide +kernel
theorem dX6_digest_93 : decode cX6_digest 93 = .ok (.aaload, 1) := by decide +kernel
theorem dX6_digest_94 : decode cX6_digest 94 = .ok (.getfield 280, 3) := by decide +kernel
theorem dX6_digest_97 : decode cX6_digest 97 = .ok (.istore 4, 2) := by decide +kernel
theorem dX6_digest_99 : decode cX6_digest 99 = .ok (.iconst 0, 1) := by decide +kernel
theorem dX6_digest_100 : decode cX6_digest 100 = .ok (.istore 5, 2) := by decide +kernel
theorem dX6_digest_102 : decode cX6_digest 102 = .ok (.iload 5, 2) := by decide +kernel
theorem dX6_digest_104 : decode cX6_digest 104 = .ok (.iload 4, 2) := by decide +kernel
theorem dX6_digest_106 : decode cX6_digest 106 = .ok (.if_icmp .ge 17, 3) := by decide +kernel
theorem dX6_digest_109 : decode cX6_digest 109 = .ok (.aload_n 0, 1) := by decide +kernel
theorem dX6_digest_110 : decode cX6_digest 110 = .ok (.lload_n 1, 1) := by decide +kernel
theorem dX6_digest_111 : decode cX6_digest 111 = .ok (.iload 5, 2) := by decide +kernel
theorem dX6_digest_113 : decode cX6_digest 113 = .ok (.invokevirtual 302, 3) := by decide +kernel
theorem dX6_digest_116 : decode cX6_digest 116 = .ok (.lstore_n 1, 1) := by decide +kernel
theorem dX6_digest_117 : decode cX6_digest 117 = .ok (.iinc 5 1, 3) := by decide +kernel
theorem dX6_digest_120 : decode cX6_digest 120 = .ok (.goto (-18), 3) := by decide +kernel
theorem dX6_digest_123 : decode cX6_digest 123 = .ok (.ldc2_w 291, 3) := by decide +kernel
theorem dX6_digest_126 : decode cX6_digest 126 = .ok (.ldc2_w 291, 3) := by decide +kernel
theorem dX6_digest_129 : decode cX6_digest 129 = .ok (.lload_n 1, 1) := by decide +kernel
theorem dX6_digest_130 : decode cX6_digest 130 = .ok (.lmul, 1) := by decide +kernel
theorem dX6_digest_131 : decode cX6_digest 131 = .ok (.aload_n 0, 1) := by decide +kernel
theorem dX6_digest_132 : decode cX6_digest 132 = .ok (.bipush 9, 2) := by decide +kernel
theorem dX6_digest_134 : decode cX6_digest 134 = .ok (.invokevirtual 286, 3) := by decide +kernel
theorem dX6_digest_137 : decode cX6_digest 137 = .ok (.i2l, 1) := by decide +kernel
theorem dX6_digest_138 : decode cX6_digest 138 = .ok (.ladd, 1) := by decide +kernel
theorem dX6_digest_139 : decode cX6_digest 139 = .ok (.lmul, 1) := by decide +kernel
theorem dX6_digest_140 : decode cX6_digest 140 = .ok (.aload_n 0, 1) := by decide +kernel
theorem dX6_digest_141 : decode cX6_digest 141 = .ok (.invokevirtual 305, 3) := by decide +kernel
theorem dX6_digest_144 : decode cX6_digest 144 = .ok (.i2l, 1) := by decide +kernel
theorem dX6_digest_145 : decode cX6_digest 145 = .ok (.ladd, 1) := by decide +kernel
theorem dX6_digest_146 : decode cX6_digest 146 = .ok (.lstore_n 1, 1) := by decide +kernel
theorem dX6_digest_147 : decode cX6_digest 147 = .ok (.ldc2_w 291, 3) := by decide +kernel
theorem dX6_digest_150 : decode cX6_digest 150 = .ok (.ldc2_w 291, 3) := by decide +kernel
theorem dX6_digest_153 : decode cX6_digest 153 = .ok (.lload_n 1, 1) := by decide +kernel
theorem dX6_digest_154 : decode cX6_digest 154 = .ok (.lmul, 1) := by decide +kernel
theorem dX6_digest_155 : decode cX6_digest 155 = .ok (.aload_n 0, 1) := by decide +kernel
theorem dX6_digest_156 : decode cX6_digest 156 = .ok (.iconst 0, 1) := by decide +kernel
theorem dX6_digest_157 : decode cX6_digest 157 = .ok (.invokevirtual 308, 3) := by decide +kernel
theorem dX6_digest_160 : decode cX6_digest 160 = .ok (.i2l, 1) := by decide +kernel
theorem dX6_digest_161 : decode cX6_digest 161 = .ok (.ladd, 1) := by decide +kernel
theorem dX6_digest_162 : decode cX6_digest 162 = .ok (.lmul, 1) := by decide +kernel
theorem dX6_digest_163 : decode cX6_digest 163 = .ok (.aload_n 0, 1) := by decide +kernel
theorem dX6_digest_164 : decode cX6_digest 164 = .ok (.iconst 1, 1) := by decide +kernel
theorem dX6_digest_165 : decode cX6_digest 165 = .ok (.invokevirtual 308, 3) := by decide +kernel
theorem dX6_digest_168 : decode cX6_digest 168 = .ok (.i2l, 1) := by decide +kernel
theorem dX6_digest_169 : decode cX6_digest 169 = .ok (.ladd, 1) := by decide +kernel
theorem dX6_digest_170 : decode cX6_digest 170 = .ok (.lstore_n 1, 1) := by decide +kernel
theorem dX6_digest_171 : decode cX6_digest 171 = .ok (.ldc2_w 291, 3) := by decide +kernel
theorem dX6_digest_174 : decode cX6_digest 174 = .ok (.ldc2_w 291, 3) := by decide +kernel
theorem dX6_digest_177 : decode cX6_digest 177 = .ok (.lload_n 1, 1) := by decide +kernel
theorem dX6_digest_178 : decode cX6_digest 178 = .ok (.lmul, 1) := by decide +kernel
theorem dX6_digest_179 : decode cX6_digest 179 = .ok (.aload_n 0, 1) := by decide +kernel
theorem dX6_digest_180 : decode cX6_digest 180 = .ok (.invokevirtual 311, 3) := by decide +kernel
theorem dX6_digest_183 : decode cX6_digest 183 = .ok (.i2l, 1) := by decide +kernel
theorem dX6_digest_184 : decode cX6_digest 184 = .ok (.ladd, 1) := by decide +kernel
theorem dX6_digest_185 : decode cX6_digest 185 = .ok (.lmul, 1) := by decide +kernel
theorem dX6_digest_186 : decode cX6_digest 186 = .ok (.aload_n 0, 1) := by decide +kernel
theorem dX6_digest_187 : decode cX6_digest 187 = .ok (.invokevirtual 314, 3) := by decide +kernel
theorem dX6_digest_190 : decode cX6_digest 190 = .ok (.i2l, 1) := by decide +kernel
theorem dX6_digest_191 : decode cX6_digest 191 = .ok (.ladd, 1) := by decide +kernel
theorem dX6_digest_192 : decode cX6_digest 192 = .ok (.lstore_n 1, 1) := by decide +kernel
theorem dX6_digest_193 : decode cX6_digest 193 = .ok (.ldc2_w 291, 3) := by decide +kernel
theorem dX6_digest_196 : decode cX6_digest 196 = .ok (.ldc2_w 291, 3) := by decide +kernel
theorem dX6_digest_199 : decode cX6_digest 199 = .ok (.lload_n 1, 1) := by decide +kernel
theorem dX6_digest_200 : decode cX6_digest 200 = .ok (.lmul, 1) := by decide +kernel
theorem dX6_digest_201 : decode cX6_digest 201 = .ok (.aload_n 0, 1) := by decide +kernel
theorem dX6_digest_202 : decode cX6_digest 202 = .ok (.bipush 7, 2) := by decide +kernel
theorem dX6_digest_204 : decode cX6_digest 204 = .ok (.iconst 0, 1) := by decide +kernel
theorem dX6_digest_205 : decode cX6_digest 205 = .ok (.invokevirtual 317, 3) := by decide +kernel
theorem dX6_digest_208 : decode cX6_digest 208 = .ok (.i2l, 1) := by decide +kernel
theorem dX6_digest_209 : decode cX6_digest 209 = .ok (.ladd, 1) := by decide +kernel
theorem dX6_digest_210 : decode cX6_digest 210 = .ok (.lmul, 1) := by decide +kernel
theorem dX6_digest_211 : decode cX6_digest 211 = .ok (.aload_n 0, 1) := by decide +kernel
theorem dX6_digest_212 : decode cX6_digest 212 = .ok (.bipush 7, 2) := by decide +kernel
theorem dX6_digest_214 : decode cX6_digest 214 = .ok (.iconst 1, 1) := by decide +kernel
theorem dX6_digest_215 : decode cX6_digest 215 = .ok (.invokevirtual 317, 3) := by decide +kernel
theorem dX6_digest_218 : decode cX6_digest 218 = .ok (.i2l, 1) := by decide +kernel
theorem dX6_digest_219 : decode cX6_digest 219 = .ok (.ladd, 1) := by decide +kernel
theorem dX6_digest_220 : decode cX6_digest 220 = .ok (.lreturn, 1) := by decide +kernel
theorem dX6_digestHead_0 : decode cX6_digestHead 0 = .ok (.ldc2_w 291, 3) := by decide +kernel
theorem dX6_digestHead_3 : decode cX6_digestHead 3 = .ok (.ldc2_w 291, 3) := by decide +kernel
theorem dX6_digestHead_6 : decode cX6_digestHead 6 = .ok (.lload_n 1, 1) := by decide +kernel
theorem dX6_digestHead_7 : decode cX6_digestHead 7 = .ok (.lmul, 1) := by decide +kernel
theorem dX6_digestHead_8 : decode cX6_digestHead 8 = .ok (.aload_n 0, 1) := by decide +kernel
theorem dX6_digestHead_9 : decode cX6_digestHead 9 = .ok (.iload_n 3, 1) := by decide +kernel
theorem dX6_digestHead_10 : decode cX6_digestHead 10 = .ok (.iconst 0, 1) := by decide +kernel
theorem dX6_digestHead_11 : decode cX6_digestHead 11 = .ok (.invokevirtual 320, 3) := by decide +kernel
theorem dX6_digestHead_14 : decode cX6_digestHead 14 = .ok (.i2l, 1) := by decide +kernel
theorem dX6_digestHead_15 : decode cX6_digestHead 15 = .ok (.ladd, 1) := by decide +kernel
theorem dX6_digestHead_16 : decode cX6_digestHead 16 = .ok (.lmul, 1) := by decide +kernel
theorem dX6_digestHead_17 : decode cX6_digestHead 17 = .ok (.aload_n 0, 1) := by decide +kernel
theorem dX6_digestHead_18 : decode cX6_digestHead 18 = .ok (.iload_n 3, 1) := by decide +kernel
theorem dX6_digestHead_19 : decode cX6_digestHead 19 = .ok (.iconst 1, 1) := by decide +kernel
theorem dX6_digestHead_20 : decode cX6_digestHead 20 = .ok (.invokevirtual 320, 3) := by decide +kernel
theorem dX6_digestHead_23 : decode cX6_digestHead 23 = .ok (.i2l, 1) := by decide +kernel
theorem dX6_digestHead_24 : decode cX6_digestHead 24 = .ok (.ladd, 1) := by decide +kernel
theorem dX6_digestHead_25 : decode cX6_digestHead 25 = .ok (.lstore 4, 2) := by decide +kernel
theorem dX6_digestHead_27 : decode cX6_digestHead 27 = .ok (.ldc2_w 291, 3) := by decide +kernel
theorem dX6_digestHead_30 : decode cX6_digestHead 30 = .ok (.ldc2_w 291, 3) := by decide +kernel
theorem dX6_digestHead_33 : decode cX6_digestHead 33 = .ok (.lload 4, 2) := by decide +kernel
theorem dX6_digestHead_35 : decode cX6_digestHead 35 = .ok (.lmul, 1) := by decide +kernel
theorem dX6_digestHead_36 : decode cX6_digestHead 36 = .ok (.aload_n 0, 1) := by decide +kernel
theorem dX6_digestHead_37 : decode cX6_digestHead 37 = .ok (.bipush 9, 2) := by decide +kernel
theorem dX6_digestHead_39 : decode cX6_digestHead 39 = .ok (.iload_n 3, 1) := by decide +kernel
theorem dX6_digestHead_40 : decode cX6_digestHead 40 = .ok (.invokevirtual 323, 3) := by decide +kernel
theorem dX6_digestHead_43 : decode cX6_digestHead 43 = .ok (.i2l, 1) := by decide +kernel
theorem dX6_digestHead_44 : decode cX6_digestHead 44 = .ok (.ladd, 1) := by decide +kernel
theorem dX6_digestHead_45 : decode cX6_digestHead 45 = .ok (.lmul, 1) := by decide +kernel
theorem dX6_digestHead_46 : decode cX6_digestHead 46 = .ok (.aload_n 0, 1) := by decide +kernel
theorem dX6_digestHead_47 : decode cX6_digestHead 47 = .ok (.bipush 39, 2) := by decide +kernel
theorem dX6_digestHead_49 : decode cX6_digestHead 49 = .ok (.iload_n 3, 1) := by decide +kernel
theorem dX6_digestHead_50 : decode cX6_digestHead 50 = .ok (.invokevirtual 323, 3) := by decide +kernel
theorem dX6_digestHead_53 : decode cX6_digestHead 53 = .ok (.i2l, 1) := by decide +kernel
theorem dX6_digestHead_54 : decode cX6_digestHead 54 = .ok (.ladd, 1) := by decide +kernel
theorem dX6_digestHead_55 : decode cX6_digestHead 55 = .ok (.lstore 4, 2) := by decide +kernel
theorem dX6_digestHead_57 : decode cX6_digestHead 57 = .ok (.iconst 0, 1) := by decide +kernel
theorem dX6_digestHead_58 : decode cX6_digestHead 58 = .ok (.istore 6, 2) := by decide +kernel
theorem dX6_digestHead_60 : decode cX6_digestHead 60 = .ok (.iload 6, 2) := by decide +kernel
theorem dX6_digestHead_62 : decode cX6_digestHead 62 = .ok (.iconst 3, 1) := by decide +kernel
theorem dX6_digestHead_63 : decode cX6_digestHead 63 = .ok (.if_icmp .ge 26, 3) := by decide +kernel
theorem dX6_digestHead_66 : decode cX6_digestHead 66 = .ok (.ldc2_w 291, 3) := by decide +kernel
theorem dX6_digestHead_69 : decode cX6_digestHead 69 = .ok (.lload 4, 2) := by decide +kernel
theorem dX6_digestHead_71 : decode cX6_digestHead 71 = .ok (.lmul, 1) := by decide +kernel
theorem dX6_digestHead_72 : decode cX6_digestHead 72 = .ok (.aload_n 0, 1) := by decide +kernel
theorem dX6_digestHead_73 : decode cX6_digestHead 73 = .ok (.iload_n 3, 1) := by decide +kernel
theorem dX6_digestHead_74 : decode cX6_digestHead 74 = .ok (.iload 6, 2) := by decide +kernel
theorem dX6_digestHead_76 : decode cX6_digestHead 76 = .ok (.invokevirtual 326, 3) := by decide +kernel
theorem dX6_digestHead_79 : decode cX6_digestHead 79 = .ok (.i2l, 1) := by decide +kernel
theorem dX6_digestHead_80 : decode cX6_digestHead 80 = .ok (.ladd, 1) := by decide +kernel
theorem dX6_digestHead_81 : decode cX6_digestHead 81 = .ok (.lstore 4, 2) := by decide +kernel
theorem dX6_digestHead_83 : decode cX6_digestHead 83 = .ok (.iinc 6 1, 3) := by decide +kernel
theorem dX6_digestHead_86 : decode cX6_digestHead 86 = .ok (.goto (-26), 3) := by decide +kernel
theorem dX6_digestHead_89 : decode cX6_digestHead 89 = .ok (.ldc2_w 291, 3) := by decide +kernel
theorem dX6_digestHead_92 : decode cX6_digestHead 92 = .ok (.ldc2_w 291, 3) := by decide +kernel
theorem dX6_digestHead_95 : decode cX6_digestHead 95 = .ok (.lload 4, 2) := by decide +kernel
theorem dX6_digestHead_97 : decode cX6_digestHead 97 = .ok (.lmul, 1) := by decide +kernel
theorem dX6_digestHead_98 : decode cX6_digestHead 98 = .ok (.aload_n 0, 1) := by decide +kernel
theorem dX6_digestHead_99 : decode cX6_digestHead 99 = .ok (.iload_n 3, 1) := by decide +kernel
theorem dX6_digestHead_100 : decode cX6_digestHead 100 = .ok (.iconst 0, 1) := by decide +kernel
theorem dX6_digestHead_101 : decode cX6_digestHead 101 = .ok (.invokevirtual 329, 3) := by decide +kernel
theorem dX6_digestHead_104 : decode cX6_digestHead 104 = .ok (.i2l, 1) := by decide +kernel
theorem dX6_digestHead_105 : decode cX6_digestHead 105 = .ok (.ladd, 1) := by decide +kernel
theorem dX6_digestHead_106 : decode cX6_digestHead 106 = .ok (.lmul, 1) := by decide +kernel
theorem dX6_digestHead_107 : decode cX6_digestHead 107 = .ok (.aload_n 0, 1) := by decide +kernel
theorem dX6_digestHead_108 : decode cX6_digestHead 108 = .ok (.iload_n 3, 1) := by decide +kernel
theorem dX6_digestHead_109 : decode cX6_digestHead 109 = .ok (.iconst 1, 1) := by decide +kernel
theorem dX6_digestHead_110 : decode cX6_digestHead 110 = .ok (.invokevirtual 329, 3) := by decide +kernel
theorem dX6_digestHead_113 : decode cX6_digestHead 113 = .ok (.i2l, 1) := by decide +kernel
theorem dX6_digestHead_114 : decode cX6_digestHead 114 = .ok (.ladd, 1) := by decide +kernel
theorem dX6_digestHead_115 : decode cX6_digestHead 115 = .ok (.lstore 4, 2) := by decide +kernel
theorem dX6_digestHead_117 : decode cX6_digestHead 117 = .ok (.ldc2_w 291, 3) := by decide +kernel
theorem dX6_digestHead_120 : decode cX6_digestHead 120 = .ok (.ldc2_w 291, 3) := by decide +kernel
theorem dX6_digestHead_123 : decode cX6_digestHead 123 = .ok (.lload 4, 2) := by decide +kernel
theorem dX6_digestHead_125 : decode cX6_digestHead 125 = .ok (.lmul, 1) := by decide +kernel
theorem dX6_digestHead_126 : decode cX6_digestHead 126 = .ok (.aload_n 0, 1) := by decide +kernel
theorem dX6_digestHead_127 : decode cX6_digestHead 127 = .ok (.iload_n 3, 1) := by decide +kernel
theorem dX6_digestHead_128 : decode cX6_digestHead 128 = .ok (.iconst 0, 1) := by decide +kernel
theorem dX6_digestHead_129 : decode cX6_digestHead 129 = .ok (.invokevirtual 332, 3) := by decide +kernel
theorem dX6_digestHead_132 : decode cX6_digestHead 132 = .ok (.i2l, 1) := by decide +kernel
theorem dX6_digestHead_133 : decode cX6_digestHead 133 = .ok (.ladd, 1) := by decide +kernel
theorem dX6_digestHead_134 : decode cX6_digestHead 134 = .ok (.lmul, 1) := by decide +kernel
theorem dX6_digestHead_135 : decode cX6_digestHead 135 = .ok (.aload_n 0, 1) := by decide +kernel
theorem dX6_digestHead_136 : decode cX6_digestHead 136 = .ok (.iload_n 3, 1) := by decide +kernel
theorem dX6_digestHead_137 : decode cX6_digestHead 137 = .ok (.iconst 1, 1) := by decide +kernel
theorem dX6_digestHead_138 : decode cX6_digestHead 138 = .ok (.invokevirtual 332, 3) := by decide +kernel
theorem dX6_digestHead_141 : decode cX6_digestHead 141 = .ok (.i2l, 1) := by decide +kernel
theorem dX6_digestHead_142 : decode cX6_digestHead 142 = .ok (.ladd, 1) := by decide +kernel
theorem dX6_digestHead_143 : decode cX6_digestHead 143 = .ok (.lstore 4, 2) := by decide +kernel
theorem dX6_digestHead_145 : decode cX6_digestHead 145 = .ok (.ldc2_w 291, 3) := by decide +kernel
theorem dX6_digestHead_148 : decode cX6_digestHead 148 = .ok (.lload 4, 2) := by decide +kernel
theorem dX6_digestHead_150 : decode cX6_digestHead 150 = .ok (.lmul, 1) := by decide +kernel
theorem dX6_digestHead_151 : decode cX6_digestHead 151 = .ok (.aload_n 0, 1) := by decide +kernel
theorem dX6_digestHead_152 : decode cX6_digestHead 152 = .ok (.iload_n 3, 1) := by decide +kernel
theorem dX6_digestHead_153 : decode cX6_digestHead 153 = .ok (.invokevirtual 335, 3) := by decide +kernel
theorem dX6_digestHead_156 : decode cX6_digestHead 156 = .ok (.i2l, 1) := by decide +kernel
theorem dX6_digestHead_157 : decode cX6_digestHead 157 = .ok (.ladd, 1) := by decide +kernel
theorem dX6_digestHead_158 : decode cX6_digestHead 158 = .ok (.lreturn, 1) := by decide +kernel
theorem dX6_digestCouple_0 : decode cX6_digestCouple 0 = .ok (.lload_n 1, 1) := by decide +kernel
theorem dX6_digestCouple_1 : decode cX6_digestCouple 1 = .ok (.lstore 4, 2) := by decide +kernel
theorem dX6_digestCouple_3 : decode cX6_digestCouple 3 = .ok (.iconst 0, 1) := by decide +kernel
theorem dX6_digestCouple_4 : decode cX6_digestCouple 4 = .ok (.istore 6, 2) := by decide +kernel
theorem dX6_digestCouple_6 : decode cX6_digestCouple 6 = .ok (.iload 6, 2) := by decide +kernel
theorem dX6_digestCouple_8 : decode cX6_digestCouple 8 = .ok (.iconst 3, 1) := by decide +kernel
theorem dX6_digestCouple_9 : decode cX6_digestCouple 9 = .ok (.if_icmp .ge 26, 3) := by decide +kernel
theorem dX6_digestCouple_12 : decode cX6_digestCouple 12 = .ok (.ldc2_w 291, 3) := by decide +kernel
theorem dX6_digestCouple_15 : decode cX6_digestCouple 15 = .ok (.lload 4, 2) := by decide +kernel
theorem dX6_digestCouple_17 : decode cX6_digestCouple 17 = .ok (.lmul, 1) := by decide +kernel
theorem dX6_digestCouple_18 : decode cX6_digestCouple 18 = .ok (.aload_n 0, 1) := by decide +kernel
theorem dX6_digestCouple_19 : decode cX6_digestCouple 19 = .ok (.iload_n 3, 1) := by decide +kernel
theorem dX6_digestCouple_20 : decode cX6_digestCouple 20 = .ok (.iload 6, 2) := by decide +kernel
theorem dX6_digestCouple_22 : decode cX6_digestCouple 22 = .ok (.invokevirtual 338, 3) := by decide +kernel
theorem dX6_digestCouple_25 : decode cX6_digestCouple 25 = .ok (.i2l, 1) := by decide +kernel
theorem dX6_digestCouple_26 : decode cX6_digestCouple 26 = .ok (.ladd, 1) := by decide +kernel
theorem dX6_digestCouple_27 : decode cX6_digestCouple 27 = .ok (.lstore 4, 2) := by decide +kernel
theorem dX6_digestCouple_29 : decode cX6_digestCouple 29 = .ok (.iinc 6 1, 3) := by decide +kernel
theorem dX6_digestCouple_32 : decode cX6_digestCouple 32 = .ok (.goto (-26), 3) := by decide +kernel
theorem dX6_digestCouple_35 : decode cX6_digestCouple 35 = .ok (.iconst 0, 1) := by decide +kernel
theorem dX6_digestCouple_36 : decode cX6_digestCouple 36 = .ok (.istore 6, 2) := by decide +kernel
theorem dX6_digestCouple_38 : decode cX6_digestCouple 38 = .ok (.iload 6, 2) := by decide +kernel
theorem dX6_digestCouple_40 : decode cX6_digestCouple 40 = .ok (.iconst 3, 1) := by decide +kernel
theorem dX6_digestCouple_41 : decode cX6_digestCouple 41 = .ok (.if_icmp .ge 26, 3) := by decide +kernel
theorem dX6_digestCouple_44 : decode cX6_digestCouple 44 = .ok (.ldc2_w 291, 3) := by decide +kernel
theorem dX6_digestCouple_47 : decode cX6_digestCouple 47 = .ok (.lload 4, 2) := by decide +kernel
theorem dX6_digestCouple_49 : decode cX6_digestCouple 49 = .ok (.lmul, 1) := by decide +kernel
theorem dX6_digestCouple_50 : decode cX6_digestCouple 50 = .ok (.aload_n 0, 1) := by decide +kernel
theorem dX6_digestCouple_51 : decode cX6_digestCouple 51 = .ok (.iload_n 3, 1) := by decide +kernel
theorem dX6_digestCouple_52 : decode cX6_digestCouple 52 = .ok (.iload 6, 2) := by decide +kernel
theorem dX6_digestCouple_54 : decode cX6_digestCouple 54 = .ok (.invokevirtual 341, 3) := by decide +kernel
theorem dX6_digestCouple_57 : decode cX6_digestCouple 57 = .ok (.i2l, 1) := by decide +kernel
theorem dX6_digestCouple_58 : decode cX6_digestCouple 58 = .ok (.ladd, 1) := by decide +kernel
theorem dX6_digestCouple_59 : decode cX6_digestCouple 59 = .ok (.lstore 4, 2) := by decide +kernel
theorem dX6_digestCouple_61 : decode cX6_digestCouple 61 = .ok (.iinc 6 1, 3) := by decide +kernel
theorem dX6_digestCouple_64 : decode cX6_digestCouple 64 = .ok (.goto (-26), 3) := by decide +kernel
theorem dX6_digestCouple_67 : decode cX6_digestCouple 67 = .ok (.ldc2_w 291, 3) := by decide +kernel
theorem dX6_digestCouple_70 : decode cX6_digestCouple 70 = .ok (.ldc2_w 291, 3) := by decide +kernel
theorem dX6_digestCouple_73 : decode cX6_digestCouple 73 = .ok (.lload 4, 2) := by decide +kernel
theorem dX6_digestCouple_75 : decode cX6_digestCouple 75 = .ok (.lmul, 1) := by decide +kernel
theorem dX6_digestCouple_76 : decode cX6_digestCouple 76 = .ok (.aload_n 0, 1) := by decide +kernel
theorem dX6_digestCouple_77 : decode cX6_digestCouple 77 = .ok (.iload_n 3, 1) := by decide +kernel
theorem dX6_digestCouple_78 : decode cX6_digestCouple 78 = .ok (.iconst (-1), 1) := by decide +kernel
theorem dX6_digestCouple_79 : decode cX6_digestCouple 79 = .ok (.invokevirtual 344, 3) := by decide +kernel
theorem dX6_digestCouple_82 : decode cX6_digestCouple 82 = .ok (.i2l, 1) := by decide +kernel
theorem dX6_digestCouple_83 : decode cX6_digestCouple 83 = .ok (.ladd, 1) := by decide +kernel
theorem dX6_digestCouple_84 : decode cX6_digestCouple 84 = .ok (.lmul, 1) := by decide +kernel
theorem dX6_digestCouple_85 : decode cX6_digestCouple 85 = .ok (.aload_n 0, 1) := by decide +kernel
theorem dX6_digestCouple_86 : decode cX6_digestCouple 86 = .ok (.iload_n 3, 1) := by decide +kernel
theorem dX6_digestCouple_87 : decode cX6_digestCouple 87 = .ok (.iconst 0, 1) := by decide +kernel
theorem dX6_digestCouple_88 : decode cX6_digestCouple 88 = .ok (.invokevirtual 344, 3) := by decide +kernel
theorem dX6_digestCouple_91 : decode cX6_digestCouple 91 = .ok (.i2l, 1) := by decide +kernel
theorem dX6_digestCouple_92 : decode cX6_digestCouple 92 = .ok (.ladd, 1) := by decide +kernel
theorem dX6_digestCouple_93 : decode cX6_digestCouple 93 = .ok (.lstore 4, 2) := by decide +kernel
theorem dX6_digestCouple_95 : decode cX6_digestCouple 95 = .ok (.ldc2_w 291, 3) := by decide +kernel
theorem dX6_digestCouple_98 : decode cX6_digestCouple 98 = .ok (.ldc2_w 291, 3) := by decide +kernel
theorem dX6_digestCouple_101 : decode cX6_digestCouple 101 = .ok (.lload 4, 2) := by decide +kernel
theorem dX6_digestCouple_103 : decode cX6_digestCouple 103 = .ok (.lmul, 1) := by decide +kernel
theorem dX6_digestCouple_104 : decode cX6_digestCouple 104 = .ok (.aload_n 0, 1) := by decide +kernel
theorem dX6_digestCouple_105 : decode cX6_digestCouple 105 = .ok (.iload_n 3, 1) := by decide +kernel
theorem dX6_digestCouple_106 : decode cX6_digestCouple 106 = .ok (.iconst 0, 1) := by decide +kernel
theorem dX6_digestCouple_107 : decode cX6_digestCouple 107 = .ok (.invokevirtual 347, 3) := by decide +kernel
theorem dX6_digestCouple_110 : decode cX6_digestCouple 110 = .ok (.i2l, 1) := by decide +kernel
theorem dX6_digestCouple_111 : decode cX6_digestCouple 111 = .ok (.ladd, 1) := by decide +kernel
theorem dX6_digestCouple_112 : decode cX6_digestCouple 112 = .ok (.lmul, 1) := by decide +kernel
theorem dX6_digestCouple_113 : decode cX6_digestCouple 113 = .ok (.aload_n 0, 1) := by decide +kernel
theorem dX6_digestCouple_114 : decode cX6_digestCouple 114 = .ok (.iload_n 3, 1) := by decide +kernel
theorem dX6_digestCouple_115 : decode cX6_digestCouple 115 = .ok (.iconst 1, 1) := by decide +kernel
theorem dX6_digestCouple_116 : decode cX6_digestCouple 116 = .ok (.invokevirtual 347, 3) := by decide +kernel
theorem dX6_digestCouple_119 : decode cX6_digestCouple 119 = .ok (.i2l, 1) := by decide +kernel
theorem dX6_digestCouple_120 : decode cX6_digestCouple 120 = .ok (.ladd, 1) := by decide +kernel
theorem dX6_digestCouple_121 : decode cX6_digestCouple 121 = .ok (.lstore 4, 2) := by decide +kernel
theorem dX6_digestCouple_123 : decode cX6_digestCouple 123 = .ok (.ldc2_w 291, 3) := by decide +kernel
theorem dX6_digestCouple_126 : decode cX6_digestCouple 126 = .ok (.ldc2_w 291, 3) := by decide +kernel
theorem dX6_digestCouple_129 : decode cX6_digestCouple 129 = .ok (.lload 4, 2) := by decide +kernel
theorem dX6_digestCouple_131 : decode cX6_digestCouple 131 = .ok (.lmul, 1) := by decide +kernel
theorem dX6_digestCouple_132 : decode cX6_digestCouple 132 = .ok (.aload_n 0, 1) := by decide +kernel
theorem dX6_digestCouple_133 : decode cX6_digestCouple 133 = .ok (.iconst 5, 1) := by decide +kernel
theorem dX6_digestCouple_134 : decode cX6_digestCouple 134 = .ok (.bipush 7, 2) := by decide +kernel
theorem dX6_digestCouple_136 : decode cX6_digestCouple 136 = .ok (.iload_n 3, 1) := by decide +kernel
theorem dX6_digestCouple_137 : decode cX6_digestCouple 137 = .ok (.iconst 0, 1) := by decide +kernel
theorem dX6_digestCouple_138 : decode cX6_digestCouple 138 = .ok (.invokevirtual 350, 3) := by decide +kernel
theorem dX6_digestCouple_141 : decode cX6_digestCouple 141 = .ok (.ladd, 1) := by decide +kernel
theorem dX6_digestCouple_142 : decode cX6_digestCouple 142 = .ok (.lmul, 1) := by decide +kernel
theorem dX6_digestCouple_143 : decode cX6_digestCouple 143 = .ok (.aload_n 0, 1) := by decide +kernel
theorem dX6_digestCouple_144 : decode cX6_digestCouple 144 = .ok (.iconst 5, 1) := by decide +kernel
theorem dX6_digestCouple_145 : decode cX6_digestCouple 145 = .ok (.bipush 7, 2) := by decide +kernel
theorem dX6_digestCouple_147 : decode cX6_digestCouple 147 = .ok (.iload_n 3, 1) := by decide +kernel
theorem dX6_digestCouple_148 : decode cX6_digestCouple 148 = .ok (.iconst 1, 1) := by decide +kernel
theorem dX6_digestCouple_149 : decode cX6_digestCouple 149 = .ok (.invokevirtual 350, 3) := by decide +kernel
theorem dX6_digestCouple_152 : decode cX6_digestCouple 152 = .ok (.ladd, 1) := by decide +kernel
theorem dX6_digestCouple_153 : decode cX6_digestCouple 153 = .ok (.lreturn, 1) := by decide +kernel
theorem dX6_isOff_0 : decode cX6_isOff 0 = .ok (.iload_n 0, 1) := by decide +kernel
theorem dX6_isOff_1 : decode cX6_isOff 1 = .ok (.ifCond .lt 8, 3) := by decide +kernel
theorem dX6_isOff_4 : decode cX6_isOff 4 = .ok (.iload_n 0, 1) := by decide +kernel
theorem dX6_isOff_5 : decode cX6_isOff 5 = .ok (.iload_n 1, 1) := by decide +kernel
theorem dX6_isOff_6 : decode cX6_isOff 6 = .ok (.if_icmp .lt 7, 3) := by decide +kernel
theorem dX6_isOff_9 : decode cX6_isOff 9 = .ok (.iconst 1, 1) := by decide +kernel
theorem dX6_isOff_10 : decode cX6_isOff 10 = .ok (.goto 4, 3) := by decide +kernel
theorem dX6_isOff_13 : decode cX6_isOff 13 = .ok (.iconst 0, 1) := by decide +kernel
theorem dX6_isOff_14 : decode cX6_isOff 14 = .ok (.ireturn, 1) := by decide +kernel
theorem dX6_isNoHead_0 : decode cX6_isNoHead 0 = .ok (.iload_n 1, 1) := by decide +kernel
theorem dX6_isNoHead_1 : decode cX6_isNoHead 1 = .ok (.aload_n 0, 1) := by decide +kernel
theorem dX6_isNoHead_2 : decode cX6_isNoHead 2 = .ok (.getfield 16, 3) := by decide +kernel
theorem dX6_isNoHead_5 : decode cX6_isNoHead 5 = .ok (.iconst 0, 1) := by decide +kernel
theorem dX6_isNoHead_6 : decode cX6_isNoHead 6 = .ok (.aaload, 1) := by decide +kernel
theorem dX6_isNoHead_7 : decode cX6_isNoHead 7 = .ok (.getfield 280, 3) := by decide +kernel
theorem dX6_isNoHead_10 : decode cX6_isNoHead 10 = .ok (.invokestatic 77, 3) := by decide +kernel
theorem dX6_isNoHead_13 : decode cX6_isNoHead 13 = .ok (.ireturn, 1) := by decide +kernel
theorem dX6_isNoCouple_0 : decode cX6_isNoCouple 0 = .ok (.iload_n 1, 1) := by decide +kernel
theorem dX6_isNoCouple_1 : decode cX6_isNoCouple 1 = .ok (.aload_n 0, 1) := by decide +kernel
theorem dX6_isNoCouple_2 : decode cX6_isNoCouple 2 = .ok (.getfield 16, 3) := by decide +kernel
theorem dX6_isNoCouple_5 : decode cX6_isNoCouple 5 = .ok (.iconst 1, 1) := by decide +kernel
theorem dX6_isNoCouple_6 : decode cX6_isNoCouple 6 = .ok (.aaload, 1) := by decide +kernel
theorem dX6_isNoCouple_7 : decode cX6_isNoCouple 7 = .ok (.getfield 280, 3) := by decide +kernel
theorem dX6_isNoCouple_10 : decode cX6_isNoCouple 10 = .ok (.invokestatic 77, 3) := by decide +kernel
theorem dX6_isNoCouple_13 : decode cX6_isNoCouple 13 = .ok (.ireturn, 1) := by decide +kernel
theorem dX6_asLong_0 : decode cX6_asLong 0 = .ok (.ldc2_w 354, 3) := by decide +kernel
theorem dX6_asLong_3 : decode cX6_asLong 3 = .ok (.iload_n 0, 1) := by decide +kernel
theorem dX6_asLong_4 : decode cX6_asLong 4 = .ok (.i2l, 1) := by decide +kernel
theorem dX6_asLong_5 : decode cX6_asLong 5 = .ok (.lsub, 1) := by decide +kernel
theorem dX6_asLong_6 : decode cX6_asLong 6 = .ok (.lreturn, 1) := by decide +kernel
theorem dX6_found_0 : decode cX6_found 0 = .ok (.aload_n 0, 1) := by decide +kernel
theorem dX6_found_1 : decode cX6_found 1 = .ok (.iload_n 1, 1) := by decide +kernel
theorem dX6_found_2 : decode cX6_found 2 = .ok (.putfield 73, 3) := by decide +kernel
theorem dX6_found_5 : decode cX6_found 5 = .ok (.bipush (-10), 2) := by decide +kernel
theorem dX6_found_7 : decode cX6_found 7 = .ok (.iload_n 1, 1) := by decide +kernel
theorem dX6_found_8 : decode cX6_found 8 = .ok (.isub, 1) := by decide +kernel
theorem dX6_found_9 : decode cX6_found 9 = .ok (.ireturn, 1) := by decide +kernel
theorem dX6_whatIsWrong_0 : decode cX6_whatIsWrong 0 = .ok (.aload_n 0, 1) := by decide +kernel
theorem dX6_whatIsWrong_1 : decode cX6_whatIsWrong 1 = .ok (.invokevirtual 119, 3) := by decide +kernel
theorem dX6_whatIsWrong_4 : decode cX6_whatIsWrong 4 = .ok (.ifCond .eq 5, 3) := by decide +kernel
theorem dX6_whatIsWrong_7 : decode cX6_whatIsWrong 7 = .ok (.iconst 1, 1) := by decide +kernel
theorem dX6_whatIsWrong_8 : decode cX6_whatIsWrong 8 = .ok (.ireturn, 1) := by decide +kernel
theorem dX6_whatIsWrong_9 : decode cX6_whatIsWrong 9 = .ok (.aload_n 0, 1) := by decide +kernel
theorem dX6_whatIsWrong_10 : decode cX6_whatIsWrong 10 = .ok (.getfield 265, 3) := by decide +kernel
theorem dX6_whatIsWrong_13 : decode cX6_whatIsWrong 13 = .ok (.iload_n 1, 1) := by decide +kernel
theorem dX6_whatIsWrong_14 : decode cX6_whatIsWrong 14 = .ok (.if_icmp .eq 5, 3) := by decide +kernel
theorem dX6_whatIsWrong_17 : decode cX6_whatIsWrong 17 = .ok (.iconst 3, 1) := by decide +kernel
theorem dX6_whatIsWrong_18 : decode cX6_whatIsWrong 18 = .ok (.ireturn, 1) := by decide +kernel
theorem dX6_whatIsWrong_19 : decode cX6_whatIsWrong 19 = .ok (.iload_n 2, 1) := by decide +kernel
theorem dX6_whatIsWrong_20 : decode cX6_whatIsWrong 20 = .ok (.aload_n 0, 1) := by decide +kernel
theorem dX6_whatIsWrong_21 : decode cX6_whatIsWrong 21 = .ok (.getfield 126, 3) := by decide +kernel
theorem dX6_whatIsWrong_24 : decode cX6_whatIsWrong 24 = .ok (.invokestatic 77, 3) := by decide +kernel
theorem dX6_whatIsWrong_27 : decode cX6_whatIsWrong 27 = .ok (.ifCond .eq 7, 3) := by decide +kernel
theorem dX6_whatIsWrong_30 : decode cX6_whatIsWrong 30 = .ok (.iconst 2, 1) := by decide +kernel
theorem dX6_whatIsWrong_31 : decode cX6_whatIsWrong 31 = .ok (.goto 4, 3) := by decide +kernel
theorem dX6_whatIsWrong_34 : decode cX6_whatIsWrong 34 = .ok (.iconst 0, 1) := by decide +kernel
theorem dX6_whatIsWrong_35 : decode cX6_whatIsWrong 35 = .ok (.ireturn, 1) := by decide +kernel
theorem dX6_leastBit_0 : decode cX6_leastBit 0 = .ok (.iconst 0, 1) := by decide +kernel
theorem dX6_leastBit_1 : decode cX6_leastBit 1 = .ok (.istore_n 1, 1) := by decide +kernel
theorem dX6_leastBit_2 : decode cX6_leastBit 2 = .ok (.iload_n 1, 1) := by decide +kernel
theorem dX6_leastBit_3 : decode cX6_leastBit 3 = .ok (.bipush 8, 2) := by decide +kernel
theorem dX6_leastBit_5 : decode cX6_leastBit 5 = .ok (.if_icmp .ge 19, 3) := by decide +kernel
theorem dX6_leastBit_8 : decode cX6_leastBit 8 = .ok (.iload_n 0, 1) := by decide +kernel
theorem dX6_leastBit_9 : decode cX6_leastBit 9 = .ok (.iload_n 1, 1) := by decide +kernel
theorem dX6_leastBit_10 : decode cX6_leastBit 10 = .ok (.ishr, 1) := by decide +kernel
theorem dX6_leastBit_11 : decode cX6_leastBit 11 = .ok (.iconst 1, 1) := by decide +kernel
theorem dX6_leastBit_12 : decode cX6_leastBit 12 = .ok (.iand, 1) := by decide +kernel
theorem dX6_leastBit_13 : decode cX6_leastBit 13 = .ok (.ifCond .eq 5, 3) := by decide +kernel
theorem dX6_leastBit_16 : decode cX6_leastBit 16 = .ok (.iload_n 1, 1) := by decide +kernel
theorem dX6_leastBit_17 : decode cX6_leastBit 17 = .ok (.ireturn, 1) := by decide +kernel
theorem dX6_leastBit_18 : decode cX6_leastBit 18 = .ok (.iinc 1 1, 3) := by decide +kernel
theorem dX6_leastBit_21 : decode cX6_leastBit 21 = .ok (.goto (-19), 3) := by decide +kernel
theorem dX6_leastBit_24 : decode cX6_leastBit 24 = .ok (.iconst (-1), 1) := by decide +kernel
theorem dX6_leastBit_25 : decode cX6_leastBit 25 = .ok (.ireturn, 1) := by decide +kernel
theorem dX6_layOut_0 : decode cX6_layOut 0 = .ok (.aload_n 0, 1) := by decide +kernel
theorem dX6_layOut_1 : decode cX6_layOut 1 = .ok (.getfield 50, 3) := by decide +kernel
theorem dX6_layOut_4 : decode cX6_layOut 4 = .ok (.aload_n 0, 1) := by decide +kernel
theorem dX6_layOut_5 : decode cX6_layOut 5 = .ok (.getfield 16, 3) := by decide +kernel
theorem dX6_layOut_8 : decode cX6_layOut 8 = .ok (.iconst 0, 1) := by decide +kernel
theorem dX6_layOut_9 : decode cX6_layOut 9 = .ok (.aaload, 1) := by decide +kernel
theorem dX6_layOut_10 : decode cX6_layOut 10 = .ok (.invokevirtual 356, 3) := by decide +kernel
theorem dX6_layOut_13 : decode cX6_layOut 13 = .ok (.aload_n 0, 1) := by decide +kernel
theorem dX6_layOut_14 : decode cX6_layOut 14 = .ok (.getfield 50, 3) := by decide +kernel
theorem dX6_layOut_17 : decode cX6_layOut 17 = .ok (.aload_n 0, 1) := by decide +kernel
theorem dX6_layOut_18 : decode cX6_layOut 18 = .ok (.getfield 16, 3) := by decide +kernel
theorem dX6_layOut_21 : decode cX6_layOut 21 = .ok (.iconst 1, 1) := by decide +kernel
theorem dX6_layOut_22 : decode cX6_layOut 22 = .ok (.aaload, 1) := by decide +kernel
theorem dX6_layOut_23 : decode cX6_layOut 23 = .ok (.invokevirtual 360, 3) := by decide +kernel
theorem dX6_layOut_26 : decode cX6_layOut 26 = .ok (.aload_n 0, 1) := by decide +kernel
theorem dX6_layOut_27 : decode cX6_layOut 27 = .ok (.getfield 50, 3) := by decide +kernel
theorem dX6_layOut_30 : decode cX6_layOut 30 = .ok (.aload_n 0, 1) := by decide +kernel
theorem dX6_layOut_31 : decode cX6_layOut 31 = .ok (.getfield 27, 3) := by decide +kernel
theorem dX6_layOut_34 : decode cX6_layOut 34 = .ok (.invokevirtual 363, 3) := by decide +kernel
theorem dX6_layOut_37 : decode cX6_layOut 37 = .ok (.aload_n 0, 1) := by decide +kernel
theorem dX6_layOut_38 : decode cX6_layOut 38 = .ok (.getfield 50, 3) := by decide +kernel
theorem dX6_layOut_41 : decode cX6_layOut 41 = .ok (.aload_n 0, 1) := by decide +kernel
theorem dX6_layOut_42 : decode cX6_layOut 42 = .ok (.getfield 34, 3) := by decide +kernel
theorem dX6_layOut_45 : decode cX6_layOut 45 = .ok (.iconst 0, 1) := by decide +kernel
theorem dX6_layOut_46 : decode cX6_layOut 46 = .ok (.invokevirtual 210, 3) := by decide +kernel
theorem dX6_layOut_49 : decode cX6_layOut 49 = .ok (.return_, 1) := by decide +kernel
theorem dX6_walkAsItIs_0 : decode cX6_walkAsItIs 0 = .ok (.aload_n 0, 1) := by decide +kernel
theorem dX6_walkAsItIs_1 : decode cX6_walkAsItIs 1 = .ok (.invokevirtual 184, 3) := by decide +kernel
theorem dX6_walkAsItIs_4 : decode cX6_walkAsItIs 4 = .ok (.aload_n 0, 1) := by decide +kernel
theorem dX6_walkAsItIs_5 : decode cX6_walkAsItIs 5 = .ok (.getfield 57, 3) := by decide +kernel
theorem dX6_walkAsItIs_8 : decode cX6_walkAsItIs 8 = .ok (.aload_n 0, 1) := by decide +kernel
theorem dX6_walkAsItIs_9 : decode cX6_walkAsItIs 9 = .ok (.getfield 50, 3) := by decide +kernel
theorem dX6_walkAsItIs_12 : decode cX6_walkAsItIs 12 = .ok (.invokevirtual 196, 3) := by decide +kernel
theorem dX6_walkAsItIs_15 : decode cX6_walkAsItIs 15 = .ok (.return_, 1) := by decide +kernel
theorem dX6_childrenOf_0 : decode cX6_childrenOf 0 = .ok (.aload_n 0, 1) := by decide +kernel
theorem dX6_childrenOf_1 : decode cX6_childrenOf 1 = .ok (.getfield 57, 3) := by decide +kernel
theorem dX6_childrenOf_4 : decode cX6_childrenOf 4 = .ok (.getfield 149, 3) := by decide +kernel
theorem dX6_childrenOf_7 : decode cX6_childrenOf 7 = .ok (.iload_n 1, 1) := by decide +kernel
theorem dX6_childrenOf_8 : decode cX6_childrenOf 8 = .ok (.iaload, 1) := by decide +kernel
theorem dX6_childrenOf_9 : decode cX6_childrenOf 9 = .ok (.istore_n 2, 1) := by decide +kernel
theorem dX6_childrenOf_10 : decode cX6_childrenOf 10 = .ok (.iload_n 2, 1) := by decide +kernel
theorem dX6_childrenOf_11 : decode cX6_childrenOf 11 = .ok (.iconst (-1), 1) := by decide +kernel
theorem dX6_childrenOf_12 : decode cX6_childrenOf 12 = .ok (.if_icmp .ne 5, 3) := by decide +kernel
theorem dX6_childrenOf_15 : decode cX6_childrenOf 15 = .ok (.iconst 0, 1) := by decide +kernel
theorem dX6_childrenOf_16 : decode cX6_childrenOf 16 = .ok (.ireturn, 1) := by decide +kernel
theorem dX6_childrenOf_17 : decode cX6_childrenOf 17 = .ok (.iconst 0, 1) := by decide +kernel
theorem dX6_childrenOf_18 : decode cX6_childrenOf 18 = .ok (.istore_n 3, 1) := by decide +kernel
theorem dX6_childrenOf_19 : decode cX6_childrenOf 19 = .ok (.iload_n 3, 1) := by decide +kernel
theorem dX6_childrenOf_20 : decode cX6_childrenOf 20 = .ok (.aload_n 0, 1) := by decide +kernel
theorem dX6_childrenOf_21 : decode cX6_childrenOf 21 = .ok (.getfield 31, 3) := by decide +kernel
theorem dX6_childrenOf_24 : decode cX6_childrenOf 24 = .ok (.getfield 209, 3) := by decide +kernel
theorem dX6_childrenOf_27 : decode cX6_childrenOf 27 = .ok (.if_icmp .ge 23, 3) := by decide +kernel
theorem dX6_childrenOf_30 : decode cX6_childrenOf 30 = .ok (.aload_n 0, 1) := by decide +kernel
theorem dX6_childrenOf_31 : decode cX6_childrenOf 31 = .ok (.getfield 31, 3) := by decide +kernel
theorem dX6_childrenOf_34 : decode cX6_childrenOf 34 = .ok (.iload_n 3, 1) := by decide +kernel
theorem dX6_childrenOf_35 : decode cX6_childrenOf 35 = .ok (.invokevirtual 367, 3) := by decide +kernel
theorem dX6_childrenOf_38 : decode cX6_childrenOf 38 = .ok (.iload_n 2, 1) := by decide +kernel
theorem dX6_childrenOf_39 : decode cX6_childrenOf 39 = .ok (.if_icmp .ne 5, 3) := by decide +kernel
theorem dX6_childrenOf_42 : decode cX6_childrenOf 42 = .ok (.iconst 2, 1) := by decide +kernel
theorem dX6_childrenOf_43 : decode cX6_childrenOf 43 = .ok (.ireturn, 1) := by decide +kernel
theorem dX6_childrenOf_44 : decode cX6_childrenOf 44 = .ok (.iinc 3 1, 3) := by decide +kernel
theorem dX6_childrenOf_47 : decode cX6_childrenOf 47 = .ok (.goto (-28), 3) := by decide +kernel
theorem dX6_childrenOf_50 : decode cX6_childrenOf 50 = .ok (.iconst 1, 1) := by decide +kernel
theorem dX6_childrenOf_51 : decode cX6_childrenOf 51 = .ok (.ireturn, 1) := by decide +kernel
theorem dX6_childrenBehind_0 : decode cX6_childrenBehind 0 = .ok (.iconst 0, 1) := by decide +kernel
theorem dX6_childrenBehind_1 : decode cX6_childrenBehind 1 = .ok (.istore_n 2, 1) := by decide +kernel
theorem dX6_childrenBehind_2 : decode cX6_childrenBehind 2 = .ok (.iconst 0, 1) := by decide +kernel
theorem dX6_childrenBehind_3 : decode cX6_childrenBehind 3 = .ok (.istore_n 3, 1) := by decide +kernel
theorem dX6_childrenBehind_4 : decode cX6_childrenBehind 4 = .ok (.iload_n 3, 1) := by decide +kernel
theorem dX6_childrenBehind_5 : decode cX6_childrenBehind 5 = .ok (.aload_n 0, 1) := by decide +kernel
theorem dX6_childrenBehind_6 : decode cX6_childrenBehind 6 = .ok (.getfield 50, 3) := by decide +kernel
theorem dX6_childrenBehind_9 : decode cX6_childrenBehind 9 = .ok (.getfield 164, 3) := by decide +kernel
theorem dX6_childrenBehind_12 : decode cX6_childrenBehind 12 = .ok (.if_icmp .ge 30, 3) := by decide +kernel
theorem dX6_childrenBehind_15 : decode cX6_childrenBehind 15 = .ok (.aload_n 0, 1) := by decide +kernel
theorem dX6_childrenBehind_16 : decode cX6_childrenBehind 16 = .ok (.getfield 57, 3) := by decide +kernel
theorem dX6_childrenBehind_19 : decode cX6_childrenBehind 19 = .ok (.getfield 149, 3) := by decide +kernel
theorem dX6_childrenBehind_22 : decode cX6_childrenBehind 22 = .ok (.iload_n 3, 1) := by decide +kernel
theorem dX6_childrenBehind_23 : decode cX6_childrenBehind 23 = .ok (.iaload, 1) := by decide +kernel
theorem dX6_childrenBehind_24 : decode cX6_childrenBehind 24 = .ok (.iload_n 1, 1) := by decide +kernel
theorem dX6_childrenBehind_25 : decode cX6_childrenBehind 25 = .ok (.if_icmp .gt 11, 3) := by decide +kernel
theorem dX6_childrenBehind_28 : decode cX6_childrenBehind 28 = .ok (.iload_n 2, 1) := by decide +kernel
theorem dX6_childrenBehind_29 : decode cX6_childrenBehind 29 = .ok (.aload_n 0, 1) := by decide +kernel
theorem dX6_childrenBehind_30 : decode cX6_childrenBehind 30 = .ok (.iload_n 3, 1) := by decide +kernel
theorem dX6_childrenBehind_31 : decode cX6_childrenBehind 31 = .ok (.invokevirtual 155, 3) := by decide +kernel
theorem dX6_childrenBehind_34 : decode cX6_childrenBehind 34 = .ok (.iadd, 1) := by decide +kernel
theorem dX6_childrenBehind_35 : decode cX6_childrenBehind 35 = .ok (.istore_n 2, 1) := by decide +kernel
theorem dX6_childrenBehind_36 : decode cX6_childrenBehind 36 = .ok (.iinc 3 1, 3) := by decide +kernel
theorem dX6_childrenBehind_39 : decode cX6_childrenBehind 39 = .ok (.goto (-35), 3) := by decide +kernel
theorem dX6_childrenBehind_42 : decode cX6_childrenBehind 42 = .ok (.iload_n 2, 1) := by decide +kernel
theorem dX6_childrenBehind_43 : decode cX6_childrenBehind 43 = .ok (.ireturn, 1) := by decide +kernel
theorem dX6_numberWithout_0 : decode cX6_numberWithout 0 = .ok (.aload_n 0, 1) := by decide +kernel
theorem dX6_numberWithout_1 : decode cX6_numberWithout 1 = .ok (.getfield 50, 3) := by decide +kernel
theorem dX6_numberWithout_4 : decode cX6_numberWithout 4 = .ok (.getfield 164, 3) := by decide +kernel
theorem dX6_numberWithout_7 : decode cX6_numberWithout 7 = .ok (.aload_n 0, 1) := by decide +kernel
theorem dX6_numberWithout_8 : decode cX6_numberWithout 8 = .ok (.getfield 57, 3) := by decide +kernel
theorem dX6_numberWithout_11 : decode cX6_numberWithout 11 = .ok (.getfield 161, 3) := by decide +kernel
theorem dX6_numberWithout_14 : decode cX6_numberWithout 14 = .ok (.invokestatic 171, 3) := by decide +kernel
theorem dX6_numberWithout_17 : decode cX6_numberWithout 17 = .ok (.isub, 1) := by decide +kernel
theorem dX6_numberWithout_18 : decode cX6_numberWithout 18 = .ok (.ireturn, 1) := by decide +kernel
theorem dX6_headsFor_0 : decode cX6_headsFor 0 = .ok (.iconst 0, 1) := by decide +kernel
theorem dX6_headsFor_1 : decode cX6_headsFor 1 = .ok (.istore_n 2, 1) := by decide +kernel
theorem dX6_headsFor_2 : decode cX6_headsFor 2 = .ok (.iconst 0, 1) := by decide +kernel
theorem dX6_headsFor_3 : decode cX6_headsFor 3 = .ok (.istore_n 3, 1) := by decide +kernel
theorem dX6_headsFor_4 : decode cX6_headsFor 4 = .ok (.iload_n 3, 1) := by decide +kernel
theorem dX6_headsFor_5 : decode cX6_headsFor 5 = .ok (.aload_n 0, 1) := by decide +kernel
theorem dX6_headsFor_6 : decode cX6_headsFor 6 = .ok (.getfield 50, 3) := by decide +kernel
theorem dX6_headsFor_9 : decode cX6_headsFor 9 = .ok (.getfield 164, 3) := by decide +kernel
theorem dX6_headsFor_12 : decode cX6_headsFor 12 = .ok (.if_icmp .ge 29, 3) := by decide +kernel
theorem dX6_headsFor_15 : decode cX6_headsFor 15 = .ok (.iload_n 1, 1) := by decide +kernel
theorem dX6_headsFor_16 : decode cX6_headsFor 16 = .ok (.iload_n 3, 1) := by decide +kernel
theorem dX6_headsFor_17 : decode cX6_headsFor 17 = .ok (.ishr, 1) := by decide +kernel
theorem dX6_headsFor_18 : decode cX6_headsFor 18 = .ok (.iconst 1, 1) := by decide +kernel
theorem dX6_headsFor_19 : decode cX6_headsFor 19 = .ok (.iand, 1) := by decide +kernel
theorem dX6_headsFor_20 : decode cX6_headsFor 20 = .ok (.ifCond .eq 15, 3) := by decide +kernel
theorem dX6_headsFor_23 : decode cX6_headsFor 23 = .ok (.iload_n 2, 1) := by decide +kernel
theorem dX6_headsFor_24 : decode cX6_headsFor 24 = .ok (.aload_n 0, 1) := by decide +kernel
theorem dX6_headsFor_25 : decode cX6_headsFor 25 = .ok (.getfield 57, 3) := by decide +kernel
theorem dX6_headsFor_28 : decode cX6_headsFor 28 = .ok (.getfield 370, 3) := by decide +kernel
theorem dX6_headsFor_31 : decode cX6_headsFor 31 = .ok (.iload_n 3, 1) := by decide +kernel
theorem dX6_headsFor_32 : decode cX6_headsFor 32 = .ok (.iaload, 1) := by decide +kernel
theorem dX6_headsFor_33 : decode cX6_headsFor 33 = .ok (.ior, 1) := by decide +kernel
theorem dX6_headsFor_34 : decode cX6_headsFor 34 = .ok (.istore_n 2, 1) := by decide +kernel
theorem dX6_headsFor_35 : decode cX6_headsFor 35 = .ok (.iinc 3 1, 3) := by decide +kernel
theorem dX6_headsFor_38 : decode cX6_headsFor 38 = .ok (.goto (-34), 3) := by decide +kernel
theorem dX6_headsFor_41 : decode cX6_headsFor 41 = .ok (.iload_n 2, 1) := by decide +kernel
theorem dX6_headsFor_42 : decode cX6_headsFor 42 = .ok (.ireturn, 1) := by decide +kernel
theorem dX6_fewestKeptOff_0 : decode cX6_fewestKeptOff 0 = .ok (.getstatic 373, 3) := by decide +kernel
theorem dX6_fewestKeptOff_3 : decode cX6_fewestKeptOff 3 = .ok (.astore_n 2, 1) := by decide +kernel
theorem dX6_fewestKeptOff_4 : decode cX6_fewestKeptOff 4 = .ok (.aload_n 2, 1) := by decide +kernel
theorem dX6_fewestKeptOff_5 : decode cX6_fewestKeptOff 5 = .ok (.arraylength, 1) := by decide +kernel
theorem dX6_fewestKeptOff_6 : decode cX6_fewestKeptOff 6 = .ok (.istore_n 3, 1) := by decide +kernel
theorem dX6_fewestKeptOff_7 : decode cX6_fewestKeptOff 7 = .ok (.iconst 0, 1) := by decide +kernel
theorem dX6_fewestKeptOff_8 : decode cX6_fewestKeptOff 8 = .ok (.istore 4, 2) := by decide +kernel
theorem dX6_fewestKeptOff_10 : decode cX6_fewestKeptOff 10 = .ok (.iload 4, 2) := by decide +kernel
theorem dX6_fewestKeptOff_12 : decode cX6_fewestKeptOff 12 = .ok (.iload_n 3, 1) := by decide +kernel
theorem dX6_fewestKeptOff_13 : decode cX6_fewestKeptOff 13 = .ok (.if_icmp .ge 71, 3) := by decide +kernel
theorem dX6_fewestKeptOff_16 : decode cX6_fewestKeptOff 16 = .ok (.aload_n 2, 1) := by decide +kernel
theorem dX6_fewestKeptOff_17 : decode cX6_fewestKeptOff 17 = .ok (.iload 4, 2) := by decide +kernel
theorem dX6_fewestKeptOff_19 : decode cX6_fewestKeptOff 19 = .ok (.iaload, 1) := by decide +kernel
theorem dX6_fewestKeptOff_20 : decode cX6_fewestKeptOff 20 = .ok (.istore 5, 2) := by decide +kernel
theorem dX6_fewestKeptOff_22 : decode cX6_fewestKeptOff 22 = .ok (.iload 5, 2) := by decide +kernel
theorem dX6_fewestKeptOff_24 : decode cX6_fewestKeptOff 24 = .ok (.aload_n 0, 1) := by decide +kernel
theorem dX6_fewestKeptOff_25 : decode cX6_fewestKeptOff 25 = .ok (.getfield 34, 3) := by decide +kernel
theorem dX6_fewestKeptOff_28 : decode cX6_fewestKeptOff 28 = .ok (.getfield 209, 3) := by decide +kernel
theorem dX6_fewestKeptOff_31 : decode cX6_fewestKeptOff 31 = .ok (.ishr, 1) := by decide +kernel
theorem dX6_fewestKeptOff_32 : decode cX6_fewestKeptOff 32 = .ok (.ifCond .eq 6, 3) := by decide +kernel
theorem dX6_fewestKeptOff_35 : decode cX6_fewestKeptOff 35 = .ok (.goto 43, 3) := by decide +kernel
theorem dX6_fewestKeptOff_38 : decode cX6_fewestKeptOff 38 = .ok (.aload_n 0, 1) := by decide +kernel
theorem dX6_fewestKeptOff_39 : decode cX6_fewestKeptOff 39 = .ok (.getfield 50, 3) := by decide +kernel
theorem dX6_fewestKeptOff_42 : decode cX6_fewestKeptOff 42 = .ok (.aload_n 0, 1) := by decide +kernel
theorem dX6_fewestKeptOff_43 : decode cX6_fewestKeptOff 43 = .ok (.getfield 34, 3) := by decide +kernel
theorem dX6_fewestKeptOff_46 : decode cX6_fewestKeptOff 46 = .ok (.iload 5, 2) := by decide +kernel
theorem dX6_fewestKeptOff_48 : decode cX6_fewestKeptOff 48 = .ok (.invokevirtual 210, 3) := by decide +kernel
theorem dX6_fewestKeptOff_51 : decode cX6_fewestKeptOff 51 = .ok (.aload_n 0, 1) := by decide +kernel
theorem dX6_fewestKeptOff_52 : decode cX6_fewestKeptOff 52 = .ok (.getfield 57, 3) := by decide +kernel
theorem dX6_fewestKeptOff_55 : decode cX6_fewestKeptOff 55 = .ok (.aload_n 0, 1) := by decide +kernel
theorem dX6_fewestKeptOff_56 : decode cX6_fewestKeptOff 56 = .ok (.getfield 50, 3) := by decide +kernel
theorem dX6_fewestKeptOff_59 : decode cX6_fewestKeptOff 59 = .ok (.invokevirtual 196, 3) := by decide +kernel
theorem dX6_fewestKeptOff_62 : decode cX6_fewestKeptOff 62 = .ok (.aload_n 0, 1) := by decide +kernel
theorem dX6_fewestKeptOff_63 : decode cX6_fewestKeptOff 63 = .ok (.getfield 57, 3) := by decide +kernel
theorem dX6_fewestKeptOff_66 : decode cX6_fewestKeptOff 66 = .ok (.getfield 149, 3) := by decide +kernel
theorem dX6_fewestKeptOff_69 : decode cX6_fewestKeptOff 69 = .ok (.iload_n 1, 1) := by decide +kernel
theorem dX6_fewestKeptOff_70 : decode cX6_fewestKeptOff 70 = .ok (.iaload, 1) := by decide +kernel
theorem dX6_fewestKeptOff_71 : decode cX6_fewestKeptOff 71 = .ok (.iconst (-1), 1) := by decide +kernel
theorem dX6_fewestKeptOff_72 : decode cX6_fewestKeptOff 72 = .ok (.if_icmp .eq 6, 3) := by decide +kernel
theorem dX6_fewestKeptOff_75 : decode cX6_fewestKeptOff 75 = .ok (.iload 5, 2) := by decide +kernel
theorem dX6_fewestKeptOff_77 : decode cX6_fewestKeptOff 77 = .ok (.ireturn, 1) := by decide +kernel
theorem dX6_fewestKeptOff_78 : decode cX6_fewestKeptOff 78 = .ok (.iinc 4 1, 3) := by decide +kernel
theorem dX6_fewestKeptOff_81 : decode cX6_fewestKeptOff 81 = .ok (.goto (-71), 3) := by decide +kernel
theorem dX6_fewestKeptOff_84 : decode cX6_fewestKeptOff 84 = .ok (.iconst (-1), 1) := by decide +kernel
theorem dX6_fewestKeptOff_85 : decode cX6_fewestKeptOff 85 = .ok (.ireturn, 1) := by decide +kernel
theorem dX6_isAsSeen_0 : decode cX6_isAsSeen 0 = .ok (.iconst 0, 1) := by decide +kernel
theorem dX6_isAsSeen_1 : decode cX6_isAsSeen 1 = .ok (.istore_n 1, 1) := by decide +kernel
theorem dX6_isAsSeen_2 : decode cX6_isAsSeen 2 = .ok (.iload_n 1, 1) := by decide +kernel
theorem dX6_isAsSeen_3 : decode cX6_isAsSeen 3 = .ok (.aload_n 0, 1) := by decide +kernel
theorem dX6_isAsSeen_4 : decode cX6_isAsSeen 4 = .ok (.getfield 37, 3) := by decide +kernel
theorem dX6_isAsSeen_7 : decode cX6_isAsSeen 7 = .ok (.getfield 209, 3) := by decide +kernel
theorem dX6_isAsSeen_10 : decode cX6_isAsSeen 10 = .ok (.if_icmp .ge 74, 3) := by decide +kernel
theorem dX6_isAsSeen_13 : decode cX6_isAsSeen 13 = .ok (.aload_n 0, 1) := by decide +kernel
theorem dX6_isAsSeen_14 : decode cX6_isAsSeen 14 = .ok (.getfield 37, 3) := by decide +kernel
theorem dX6_isAsSeen_17 : decode cX6_isAsSeen 17 = .ok (.iload_n 1, 1) := by decide +kernel
theorem dX6_isAsSeen_18 : decode cX6_isAsSeen 18 = .ok (.invokevirtual 367, 3) := by decide +kernel
theorem dX6_isAsSeen_21 : decode cX6_isAsSeen 21 = .ok (.bipush 9, 2) := by decide +kernel
theorem dX6_isAsSeen_23 : decode cX6_isAsSeen 23 = .ok (.idiv, 1) := by decide +kernel
theorem dX6_isAsSeen_24 : decode cX6_isAsSeen 24 = .ok (.istore_n 2, 1) := by decide +kernel
theorem dX6_isAsSeen_25 : decode cX6_isAsSeen 25 = .ok (.aload_n 0, 1) := by decide +kernel
theorem dX6_isAsSeen_26 : decode cX6_isAsSeen 26 = .ok (.getfield 37, 3) := by decide +kernel
theorem dX6_isAsSeen_29 : decode cX6_isAsSeen 29 = .ok (.iload_n 1, 1) := by decide +kernel
theorem dX6_isAsSeen_30 : decode cX6_isAsSeen 30 = .ok (.invokevirtual 367, 3) := by decide +kernel
theorem dX6_isAsSeen_33 : decode cX6_isAsSeen 33 = .ok (.bipush 9, 2) := by decide +kernel
theorem dX6_isAsSeen_35 : decode cX6_isAsSeen 35 = .ok (.irem, 1) := by decide +kernel
theorem dX6_isAsSeen_36 : decode cX6_isAsSeen 36 = .ok (.istore_n 3, 1) := by decide +kernel
theorem dX6_isAsSeen_37 : decode cX6_isAsSeen 37 = .ok (.iload_n 2, 1) := by decide +kernel
theorem dX6_isAsSeen_38 : decode cX6_isAsSeen 38 = .ok (.aload_n 0, 1) := by decide +kernel
theorem dX6_isAsSeen_39 : decode cX6_isAsSeen 39 = .ok (.getfield 50, 3) := by decide +kernel
theorem dX6_isAsSeen_42 : decode cX6_isAsSeen 42 = .ok (.getfield 164, 3) := by decide +kernel
theorem dX6_isAsSeen_45 : decode cX6_isAsSeen 45 = .ok (.invokestatic 77, 3) := by decide +kernel
theorem dX6_isAsSeen_48 : decode cX6_isAsSeen 48 = .ok (.ifCond .eq 5, 3) := by decide +kernel
theorem dX6_isAsSeen_51 : decode cX6_isAsSeen 51 = .ok (.iconst 0, 1) := by decide +kernel
theorem dX6_isAsSeen_52 : decode cX6_isAsSeen 52 = .ok (.ireturn, 1) := by decide +kernel
theorem dX6_isAsSeen_53 : decode cX6_isAsSeen 53 = .ok (.aload_n 0, 1) := by decide +kernel
theorem dX6_isAsSeen_54 : decode cX6_isAsSeen 54 = .ok (.getfield 57, 3) := by decide +kernel
theorem dX6_isAsSeen_57 : decode cX6_isAsSeen 57 = .ok (.getfield 152, 3) := by decide +kernel
theorem dX6_isAsSeen_60 : decode cX6_isAsSeen 60 = .ok (.iload_n 2, 1) := by decide +kernel
theorem dX6_isAsSeen_61 : decode cX6_isAsSeen 61 = .ok (.iaload, 1) := by decide +kernel
theorem dX6_isAsSeen_62 : decode cX6_isAsSeen 62 = .ok (.iload_n 3, 1) := by decide +kernel
theorem dX6_isAsSeen_63 : decode cX6_isAsSeen 63 = .ok (.bipush 8, 2) := by decide +kernel
theorem dX6_isAsSeen_65 : decode cX6_isAsSeen 65 = .ok (.if_icmp .ne 7, 3) := by decide +kernel
theorem dX6_isAsSeen_68 : decode cX6_isAsSeen 68 = .ok (.iconst (-1), 1) := by decide +kernel
theorem dX6_isAsSeen_69 : decode cX6_isAsSeen 69 = .ok (.goto 4, 3) := by decide +kernel
theorem dX6_isAsSeen_72 : decode cX6_isAsSeen 72 = .ok (.iload_n 3, 1) := by decide +kernel
theorem dX6_isAsSeen_73 : decode cX6_isAsSeen 73 = .ok (.if_icmp .eq 5, 3) := by decide +kernel
theorem dX6_isAsSeen_76 : decode cX6_isAsSeen 76 = .ok (.iconst 0, 1) := by decide +kernel
theorem dX6_isAsSeen_77 : decode cX6_isAsSeen 77 = .ok (.ireturn, 1) := by decide +kernel
theorem dX6_isAsSeen_78 : decode cX6_isAsSeen 78 = .ok (.iinc 1 1, 3) := by decide +kernel
theorem dX6_isAsSeen_81 : decode cX6_isAsSeen 81 = .ok (.goto (-79), 3) := by decide +kernel
theorem dX6_isAsSeen_84 : decode cX6_isAsSeen 84 = .ok (.iconst 1, 1) := by decide +kernel
theorem dX6_isAsSeen_85 : decode cX6_isAsSeen 85 = .ok (.ireturn, 1) := by decide +kernel
theorem dX6_sortsAsSeen_0 : decode cX6_sortsAsSeen 0 = .ok (.iconst 0, 1) := by decide +kernel
theorem dX6_sortsAsSeen_1 : decode cX6_sortsAsSeen 1 = .ok (.istore_n 2, 1) := by decide +kernel
theorem dX6_sortsAsSeen_2 : decode cX6_sortsAsSeen 2 = .ok (.iconst 0, 1) := by decide +kernel
theorem dX6_sortsAsSeen_3 : decode cX6_sortsAsSeen 3 = .ok (.istore_n 3, 1) := by decide +kernel
theorem dX6_sortsAsSeen_4 : decode cX6_sortsAsSeen 4 = .ok (.iload_n 3, 1) := by decide +kernel
theorem dX6_sortsAsSeen_5 : decode cX6_sortsAsSeen 5 = .ok (.iconst 3, 1) := by decide +kernel
theorem dX6_sortsAsSeen_6 : decode cX6_sortsAsSeen 6 = .ok (.if_icmp .ge 43, 3) := by decide +kernel
theorem dX6_sortsAsSeen_9 : decode cX6_sortsAsSeen 9 = .ok (.aload_n 0, 1) := by decide +kernel
theorem dX6_sortsAsSeen_10 : decode cX6_sortsAsSeen 10 = .ok (.getfield 50, 3) := by decide +kernel
theorem dX6_sortsAsSeen_13 : decode cX6_sortsAsSeen 13 = .ok (.getfield 376, 3) := by decide +kernel
theorem dX6_sortsAsSeen_16 : decode cX6_sortsAsSeen 16 = .ok (.iload_n 1, 1) := by decide +kernel
theorem dX6_sortsAsSeen_17 : decode cX6_sortsAsSeen 17 = .ok (.iload_n 3, 1) := by decide +kernel
theorem dX6_sortsAsSeen_18 : decode cX6_sortsAsSeen 18 = .ok (.iastore, 1) := by decide +kernel
theorem dX6_sortsAsSeen_19 : decode cX6_sortsAsSeen 19 = .ok (.aload_n 0, 1) := by decide +kernel
theorem dX6_sortsAsSeen_20 : decode cX6_sortsAsSeen 20 = .ok (.getfield 57, 3) := by decide +kernel
theorem dX6_sortsAsSeen_23 : decode cX6_sortsAsSeen 23 = .ok (.aload_n 0, 1) := by decide +kernel
theorem dX6_sortsAsSeen_24 : decode cX6_sortsAsSeen 24 = .ok (.getfield 50, 3) := by decide +kernel
theorem dX6_sortsAsSeen_27 : decode cX6_sortsAsSeen 27 = .ok (.invokevirtual 196, 3) := by decide +kernel
theorem dX6_sortsAsSeen_30 : decode cX6_sortsAsSeen 30 = .ok (.aload_n 0, 1) := by decide +kernel
theorem dX6_sortsAsSeen_31 : decode cX6_sortsAsSeen 31 = .ok (.invokevirtual 214, 3) := by decide +kernel
theorem dX6_sortsAsSeen_34 : decode cX6_sortsAsSeen 34 = .ok (.ifCond .eq 9, 3) := by decide +kernel
theorem dX6_sortsAsSeen_37 : decode cX6_sortsAsSeen 37 = .ok (.iload_n 2, 1) := by decide +kernel
theorem dX6_sortsAsSeen_38 : decode cX6_sortsAsSeen 38 = .ok (.iconst 1, 1) := by decide +kernel
theorem dX6_sortsAsSeen_39 : decode cX6_sortsAsSeen 39 = .ok (.iload_n 3, 1) := by decide +kernel
theorem dX6_sortsAsSeen_40 : decode cX6_sortsAsSeen 40 = .ok (.ishl, 1) := by decide +kernel
theorem dX6_sortsAsSeen_41 : decode cX6_sortsAsSeen 41 = .ok (.ior, 1) := by decide +kernel
theorem dX6_sortsAsSeen_42 : decode cX6_sortsAsSeen 42 = .ok (.istore_n 2, 1) := by decide +kernel
theorem dX6_sortsAsSeen_43 : decode cX6_sortsAsSeen 43 = .ok (.iinc 3 1, 3) := by decide +kernel
theorem dX6_sortsAsSeen_46 : decode cX6_sortsAsSeen 46 = .ok (.goto (-42), 3) := by decide +kernel
theorem dX6_sortsAsSeen_49 : decode cX6_sortsAsSeen 49 = .ok (.iload_n 2, 1) := by decide +kernel
theorem dX6_sortsAsSeen_50 : decode cX6_sortsAsSeen 50 = .ok (.ireturn, 1) := by decide +kernel
theorem dX6_duesAsSeen_0 : decode cX6_duesAsSeen 0 = .ok (.iconst 0, 1) := by decide +kernel
theorem dX6_duesAsSeen_1 : decode cX6_duesAsSeen 1 = .ok (.istore_n 2, 1) := by decide +kernel
theorem dX6_duesAsSeen_2 : decode cX6_duesAsSeen 2 = .ok (.iconst 0, 1) := by decide +kernel
theorem dX6_duesAsSeen_3 : decode cX6_duesAsSeen 3 = .ok (.istore_n 3, 1) := by decide +kernel
theorem dX6_duesAsSeen_4 : decode cX6_duesAsSeen 4 = .ok (.iload_n 3, 1) := by decide +kernel
theorem dX6_duesAsSeen_5 : decode cX6_duesAsSeen 5 = .ok (.bipush 30, 2) := by decide +kernel
theorem dX6_duesAsSeen_7 : decode cX6_duesAsSeen 7 = .ok (.if_icmp .ge 43, 3) := by decide +kernel
theorem dX6_duesAsSeen_10 : decode cX6_duesAsSeen 10 = .ok (.aload_n 0, 1) := by decide +kernel
theorem dX6_duesAsSeen_11 : decode cX6_duesAsSeen 11 = .ok (.getfield 50, 3) := by decide +kernel
theorem dX6_duesAsSeen_14 : decode cX6_duesAsSeen 14 = .ok (.getfield 193, 3) := by decide +kernel
theorem dX6_duesAsSeen_17 : decode cX6_duesAsSeen 17 = .ok (.iload_n 1, 1) := by decide +kernel
theorem dX6_duesAsSeen_18 : decode cX6_duesAsSeen 18 = .ok (.iload_n 3, 1) := by decide +kernel
theorem dX6_duesAsSeen_19 : decode cX6_duesAsSeen 19 = .ok (.iastore, 1) := by decide +kernel
theorem dX6_duesAsSeen_20 : decode cX6_duesAsSeen 20 = .ok (.aload_n 0, 1) := by decide +kernel
theorem dX6_duesAsSeen_21 : decode cX6_duesAsSeen 21 = .ok (.getfield 57, 3) := by decide +kernel
theorem dX6_duesAsSeen_24 : decode cX6_duesAsSeen 24 = .ok (.aload_n 0, 1) := by decide +kernel
theorem dX6_duesAsSeen_25 : decode cX6_duesAsSeen 25 = .ok (.getfield 50, 3) := by decide +kernel
theorem dX6_duesAsSeen_28 : decode cX6_duesAsSeen 28 = .ok (.invokevirtual 196, 3) := by decide +kernel
theorem dX6_duesAsSeen_31 : decode cX6_duesAsSeen 31 = .ok (.aload_n 0, 1) := by decide +kernel
theorem dX6_duesAsSeen_32 : decode cX6_duesAsSeen 32 = .ok (.invokevirtual 214, 3) := by decide +kernel
theorem dX6_duesAsSeen_35 : decode cX6_duesAsSeen 35 = .ok (.ifCond .eq 9, 3) := by decide +kernel
theorem dX6_duesAsSeen_38 : decode cX6_duesAsSeen 38 = .ok (.iload_n 2, 1) := by decide +kernel
theorem dX6_duesAsSeen_39 : decode cX6_duesAsSeen 39 = .ok (.iconst 1, 1) := by decide +kernel
theorem dX6_duesAsSeen_40 : decode cX6_duesAsSeen 40 = .ok (.iload_n 3, 1) := by decide +kernel
theorem dX6_duesAsSeen_41 : decode cX6_duesAsSeen 41 = .ok (.ishl, 1) := by decide +kernel
theorem dX6_duesAsSeen_42 : decode cX6_duesAsSeen 42 = .ok (.ior, 1) := by decide +kernel
theorem dX6_duesAsSeen_43 : decode cX6_duesAsSeen 43 = .ok (.istore_n 2, 1) := by decide +kernel
theorem dX6_duesAsSeen_44 : decode cX6_duesAsSeen 44 = .ok (.iinc 3 1, 3) := by decide +kernel
theorem dX6_duesAsSeen_47 : decode cX6_duesAsSeen 47 = .ok (.goto (-43), 3) := by decide +kernel
theorem dX6_duesAsSeen_50 : decode cX6_duesAsSeen 50 = .ok (.iload_n 2, 1) := by decide +kernel
theorem dX6_duesAsSeen_51 : decode cX6_duesAsSeen 51 = .ok (.ireturn, 1) := by decide +kernel
theorem dX6_tallyWhoGotWhat_0 : decode cX6_tallyWhoGotWhat 0 = .ok (.iconst 0, 1) := by decide +kernel
theorem dX6_tallyWhoGotWhat_1 : decode cX6_tallyWhoGotWhat 1 = .ok (.istore_n 1, 1) := by decide +kernel
theorem dX6_tallyWhoGotWhat_2 : decode cX6_tallyWhoGotWhat 2 = .ok (.iload_n 1, 1) := by decide +kernel
theorem dX6_tallyWhoGotWhat_3 : decode cX6_tallyWhoGotWhat 3 = .ok (.aload_n 0, 1) := by decide +kernel
theorem dX6_tallyWhoGotWhat_4 : decode cX6_tallyWhoGotWhat 4 = .ok (.getfield 50, 3) := by decide +kernel
theorem dX6_tallyWhoGotWhat_7 : decode cX6_tallyWhoGotWhat 7 = .ok (.getfield 164, 3) := by decide +kernel
theorem dX6_tallyWhoGotWhat_10 : decode cX6_tallyWhoGotWhat 10 = .ok (.if_icmp .ge 41, 3) := by decide +kernel
theorem dX6_tallyWhoGotWhat_13 : decode cX6_tallyWhoGotWhat 13 = .ok (.aload_n 0, 1) := by decide +kernel
theorem dX6_tallyWhoGotWhat_14 : decode cX6_tallyWhoGotWhat 14 = .ok (.getfield 57, 3) := by decide +kernel
theorem dX6_tallyWhoGotWhat_17 : decode cX6_tallyWhoGotWhat 17 = .ok (.getfield 152, 3) := by decide +kernel
theorem dX6_tallyWhoGotWhat_20 : decode cX6_tallyWhoGotWhat 20 = .ok (.iload_n 1, 1) := by decide +kernel
theorem dX6_tallyWhoGotWhat_21 : decode cX6_tallyWhoGotWhat 21 = .ok (.iaload, 1) := by decide +kernel
theorem dX6_tallyWhoGotWhat_22 : decode cX6_tallyWhoGotWhat 22 = .ok (.istore_n 2, 1) := by decide +kernel
theorem dX6_tallyWhoGotWhat_23 : decode cX6_tallyWhoGotWhat 23 = .ok (.aload_n 0, 1) := by decide +kernel
theorem dX6_tallyWhoGotWhat_24 : decode cX6_tallyWhoGotWhat 24 = .ok (.getfield 70, 3) := by decide +kernel
theorem dX6_tallyWhoGotWhat_27 : decode cX6_tallyWhoGotWhat 27 = .ok (.iload_n 1, 1) := by decide +kernel
theorem dX6_tallyWhoGotWhat_28 : decode cX6_tallyWhoGotWhat 28 = .ok (.aaload, 1) := by decide +kernel
theorem dX6_tallyWhoGotWhat_29 : decode cX6_tallyWhoGotWhat 29 = .ok (.iload_n 2, 1) := by decide +kernel
theorem dX6_tallyWhoGotWhat_30 : decode cX6_tallyWhoGotWhat 30 = .ok (.iconst (-1), 1) := by decide +kernel
theorem dX6_tallyWhoGotWhat_31 : decode cX6_tallyWhoGotWhat 31 = .ok (.if_icmp .ne 8, 3) := by decide +kernel
theorem dX6_tallyWhoGotWhat_34 : decode cX6_tallyWhoGotWhat 34 = .ok (.bipush 8, 2) := by decide +kernel
theorem dX6_tallyWhoGotWhat_36 : decode cX6_tallyWhoGotWhat 36 = .ok (.goto 4, 3) := by decide +kernel
theorem dX6_tallyWhoGotWhat_39 : decode cX6_tallyWhoGotWhat 39 = .ok (.iload_n 2, 1) := by decide +kernel
theorem dX6_tallyWhoGotWhat_40 : decode cX6_tallyWhoGotWhat 40 = .ok (.dup2, 1) := by decide +kernel
theorem dX6_tallyWhoGotWhat_41 : decode cX6_tallyWhoGotWhat 41 = .ok (.iaload, 1) := by decide +kernel
theorem dX6_tallyWhoGotWhat_42 : decode cX6_tallyWhoGotWhat 42 = .ok (.iconst 1, 1) := by decide +kernel
theorem dX6_tallyWhoGotWhat_43 : decode cX6_tallyWhoGotWhat 43 = .ok (.iadd, 1) := by decide +kernel
theorem dX6_tallyWhoGotWhat_44 : decode cX6_tallyWhoGotWhat 44 = .ok (.iastore, 1) := by decide +kernel
theorem dX6_tallyWhoGotWhat_45 : decode cX6_tallyWhoGotWhat 45 = .ok (.iinc 1 1, 3) := by decide +kernel
theorem dX6_tallyWhoGotWhat_48 : decode cX6_tallyWhoGotWhat 48 = .ok (.goto (-46), 3) := by decide +kernel
theorem dX6_tallyWhoGotWhat_51 : decode cX6_tallyWhoGotWhat 51 = .ok (.return_, 1) := by decide +kernel
theorem dX6_leastTallied_0 : decode cX6_leastTallied 0 = .ok (.iconst (-1), 1) := by decide +kernel
theorem dX6_leastTallied_1 : decode cX6_leastTallied 1 = .ok (.istore_n 1, 1) := by decide +kernel
theorem dX6_leastTallied_2 : decode cX6_leastTallied 2 = .ok (.bipush 31, 2) := by decide +kernel
theorem dX6_leastTallied_4 : decode cX6_leastTallied 4 = .ok (.istore_n 2, 1) := by decide +kernel
theorem dX6_leastTallied_5 : decode cX6_leastTallied 5 = .ok (.iconst 0, 1) := by decide +kernel
theorem dX6_leastTallied_6 : decode cX6_leastTallied 6 = .ok (.istore_n 3, 1) := by decide +kernel
theorem dX6_leastTallied_7 : decode cX6_leastTallied 7 = .ok (.iload_n 3, 1) := by decide +kernel
theorem dX6_leastTallied_8 : decode cX6_leastTallied 8 = .ok (.aload_n 0, 1) := by decide +kernel
theorem dX6_leastTallied_9 : decode cX6_leastTallied 9 = .ok (.getfield 50, 3) := by decide +kernel
theorem dX6_leastTallied_12 : decode cX6_leastTallied 12 = .ok (.getfield 164, 3) := by decide +kernel
theorem dX6_leastTallied_15 : decode cX6_leastTallied 15 = .ok (.if_icmp .ge 55, 3) := by decide +kernel
theorem dX6_leastTallied_18 : decode cX6_leastTallied 18 = .ok (.iconst 0, 1) := by decide +kernel
theorem dX6_leastTallied_19 : decode cX6_leastTallied 19 = .ok (.istore 4, 2) := by decide +kernel
theorem dX6_leastTallied_21 : decode cX6_leastTallied 21 = .ok (.iconst 0, 1) := by decide +kernel
theorem dX6_leastTallied_22 : decode cX6_leastTallied 22 = .ok (.istore 5, 2) := by decide +kernel
theorem dX6_leastTallied_24 : decode cX6_leastTallied 24 = .ok (.iload 5, 2) := by decide +kernel
theorem dX6_leastTallied_26 : decode cX6_leastTallied 26 = .ok (.bipush 8, 2) := by decide +kernel
theorem dX6_leastTallied_28 : decode cX6_leastTallied 28 = .ok (.if_icmp .gt 25, 3) := by decide +kernel
theorem dX6_leastTallied_31 : decode cX6_leastTallied 31 = .ok (.iload 4, 2) := by decide +kernel
theorem dX6_leastTallied_33 : decode cX6_leastTallied 33 = .ok (.aload_n 0, 1) := by decide +kernel
theorem dX6_leastTallied_34 : decode cX6_leastTallied 34 = .ok (.getfield 70, 3) := by decide +kernel
theorem dX6_leastTallied_37 : decode cX6_leastTallied 37 = .ok (.iload_n 3, 1) := by decide +kernel
theorem dX6_leastTallied_38 : decode cX6_leastTallied 38 = .ok (.aaload, 1) := by decide +kernel
theorem dX6_leastTallied_39 : decode cX6_leastTallied 39 = .ok (.iload 5, 2) := by decide +kernel
theorem dX6_leastTallied_41 : decode cX6_leastTallied 41 = .ok (.iaload, 1) := by decide +kernel
theorem dX6_leastTallied_42 : decode cX6_leastTallied 42 = .ok (.invokestatic 379, 3) := by decide +kernel
theorem dX6_leastTallied_45 : decode cX6_leastTallied 45 = .ok (.istore 4, 2) := by decide +kernel
theorem dX6_leastTallied_47 : decode cX6_leastTallied 47 = .ok (.iinc 5 1, 3) := by decide +kernel
theorem dX6_leastTallied_50 : decode cX6_leastTallied 50 = .ok (.goto (-26), 3) := by decide +kernel
theorem dX6_leastTallied_53 : decode cX6_leastTallied 53 = .ok (.iload 4, 2) := by decide +kernel
theorem dX6_leastTallied_55 : decode cX6_leastTallied 55 = .ok (.iload_n 2, 1) := by decide +kernel
theorem dX6_leastTallied_56 : decode cX6_leastTallied 56 = .ok (.if_icmp .ge 8, 3) := by decide +kernel
theorem dX6_leastTallied_59 : decode cX6_leastTallied 59 = .ok (.iload 4, 2) := by decide +kernel
theorem dX6_leastTallied_61 : decode cX6_leastTallied 61 = .ok (.istore_n 2, 1) := by decide +kernel
theorem dX6_leastTallied_62 : decode cX6_leastTallied 62 = .ok (.iload_n 3, 1) := by decide +kernel
theorem dX6_leastTallied_63 : decode cX6_leastTallied 63 = .ok (.istore_n 1, 1) := by decide +kernel
theorem dX6_leastTallied_64 : decode cX6_leastTallied 64 = .ok (.iinc 3 1, 3) := by decide +kernel
theorem dX6_leastTallied_67 : decode cX6_leastTallied 67 = .ok (.goto (-60), 3) := by decide +kernel
theorem dX6_leastTallied_70 : decode cX6_leastTallied 70 = .ok (.iload_n 1, 1) := by decide +kernel
theorem dX6_leastTallied_71 : decode cX6_leastTallied 71 = .ok (.ireturn, 1) := by decide +kernel
theorem dX6_countChances_0 : decode cX6_countChances 0 = .ok (.aload_n 0, 1) := by decide +kernel
theorem dX6_countChances_1 : decode cX6_countChances 1 = .ok (.invokevirtual 184, 3) := by decide +kernel
theorem dX6_countChances_4 : decode cX6_countChances 4 = .ok (.aload_n 0, 1) := by decide +kernel
theorem dX6_countChances_5 : decode cX6_countChances 5 = .ok (.getfield 64, 3) := by decide +kernel
theorem dX6_countChances_8 : decode cX6_countChances 8 = .ok (.iload_n 1, 1) := by decide +kernel
theorem dX6_countChances_9 : decode cX6_countChances 9 = .ok (.invokevirtual 382, 3) := by decide +kernel
theorem dX6_countChances_12 : decode cX6_countChances 12 = .ok (.iconst 0, 1) := by decide +kernel
theorem dX6_countChances_13 : decode cX6_countChances 13 = .ok (.istore_n 2, 1) := by decide +kernel
theorem dX6_countChances_14 : decode cX6_countChances 14 = .ok (.iload_n 2, 1) := by decide +kernel
theorem dX6_countChances_15 : decode cX6_countChances 15 = .ok (.iconst 1, 1) := by decide +kernel
theorem dX6_countChances_16 : decode cX6_countChances 16 = .ok (.iload_n 1, 1) := by decide +kernel
theorem dX6_countChances_17 : decode cX6_countChances 17 = .ok (.iconst 1, 1) := by decide +kernel
theorem dX6_countChances_18 : decode cX6_countChances 18 = .ok (.iadd, 1) := by decide +kernel
theorem dX6_countChances_19 : decode cX6_countChances 19 = .ok (.ishl, 1) := by decide +kernel
theorem dX6_countChances_20 : decode cX6_countChances 20 = .ok (.if_icmp .ge 46, 3) := by decide +kernel
theorem dX6_countChances_23 : decode cX6_countChances 23 = .ok (.aload_n 0, 1) := by decide +kernel
theorem dX6_countChances_24 : decode cX6_countChances 24 = .ok (.getfield 50, 3) := by decide +kernel
theorem dX6_countChances_27 : decode cX6_countChances 27 = .ok (.iload_n 2, 1) := by decide +kernel
theorem dX6_countChances_28 : decode cX6_countChances 28 = .ok (.putfield 385, 3) := by decide +kernel
theorem dX6_countChances_31 : decode cX6_countChances 31 = .ok (.aload_n 0, 1) := by decide +kernel
theorem dX6_countChances_32 : decode cX6_countChances 32 = .ok (.getfield 57, 3) := by decide +kernel
theorem dX6_countChances_35 : decode cX6_countChances 35 = .ok (.aload_n 0, 1) := by decide +kernel
theorem dX6_countChances_36 : decode cX6_countChances 36 = .ok (.getfield 50, 3) := by decide +kernel
theorem dX6_countChances_39 : decode cX6_countChances 39 = .ok (.invokevirtual 196, 3) := by decide +kernel
theorem dX6_countChances_42 : decode cX6_countChances 42 = .ok (.aload_n 0, 1) := by decide +kernel
theorem dX6_countChances_43 : decode cX6_countChances 43 = .ok (.getfield 64, 3) := by decide +kernel
theorem dX6_countChances_46 : decode cX6_countChances 46 = .ok (.iload_n 2, 1) := by decide +kernel
theorem dX6_countChances_47 : decode cX6_countChances 47 = .ok (.invokestatic 171, 3) := by decide +kernel
theorem dX6_countChances_50 : decode cX6_countChances 50 = .ok (.aload_n 0, 1) := by decide +kernel
theorem dX6_countChances_51 : decode cX6_countChances 51 = .ok (.getfield 57, 3) := by decide +kernel
theorem dX6_countChances_54 : decode cX6_countChances 54 = .ok (.getfield 161, 3) := by decide +kernel
theorem dX6_countChances_57 : decode cX6_countChances 57 = .ok (.invokevirtual 387, 3) := by decide +kernel
theorem dX6_countChances_60 : decode cX6_countChances 60 = .ok (.iinc 2 1, 3) := by decide +kernel
theorem dX6_countChances_63 : decode cX6_countChances 63 = .ok (.goto (-49), 3) := by decide +kernel
theorem dX6_countChances_66 : decode cX6_countChances 66 = .ok (.return_, 1) := by decide +kernel
