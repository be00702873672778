theorem dX7_init_0 : decode cX7_init 0 = .ok (.aload_n 0, 1) := by decide +kernel
theorem dX7_init_1 : decode cX7_init 1 = .ok (.invokespecial 1, 3) := by decide +kernel
theorem dX7_init_4 : decode cX7_init 4 = .ok (.aload_n 0, 1) := by decide +kernel
theorem dX7_init_5 : decode cX7_init 5 = .ok (.iconst 4, 1) := by decide +kernel
theorem dX7_init_6 : decode cX7_init 6 = .ok (.newarray .int, 2) := by decide +kernel
theorem dX7_init_8 : decode cX7_init 8 = .ok (.putfield 7, 3) := by decide +kernel
theorem dX7_init_11 : decode cX7_init 11 = .ok (.aload_n 0, 1) := by decide +kernel
theorem dX7_init_12 : decode cX7_init 12 = .ok (.iconst 4, 1) := by decide +kernel
theorem dX7_init_13 : decode cX7_init 13 = .ok (.newarray .int, 2) := by decide +kernel
theorem dX7_init_15 : decode cX7_init 15 = .ok (.putfield 13, 3) := by decide +kernel
theorem dX7_init_18 : decode cX7_init 18 = .ok (.aload_n 0, 1) := by decide +kernel
theorem dX7_init_19 : decode cX7_init 19 = .ok (.sipush 240, 3) := by decide +kernel
theorem dX7_init_22 : decode cX7_init 22 = .ok (.newarray .int, 2) := by decide +kernel
theorem dX7_init_24 : decode cX7_init 24 = .ok (.putfield 16, 3) := by decide +kernel
theorem dX7_init_27 : decode cX7_init 27 = .ok (.aload_n 0, 1) := by decide +kernel
theorem dX7_init_28 : decode cX7_init 28 = .ok (.bipush 60, 2) := by decide +kernel
theorem dX7_init_30 : decode cX7_init 30 = .ok (.newarray .int, 2) := by decide +kernel
theorem dX7_init_32 : decode cX7_init 32 = .ok (.putfield 19, 3) := by decide +kernel
theorem dX7_init_35 : decode cX7_init 35 = .ok (.aload_n 0, 1) := by decide +kernel
theorem dX7_init_36 : decode cX7_init 36 = .ok (.bipush 80, 2) := by decide +kernel
theorem dX7_init_38 : decode cX7_init 38 = .ok (.newarray .int, 2) := by decide +kernel
theorem dX7_init_40 : decode cX7_init 40 = .ok (.putfield 22, 3) := by decide +kernel
theorem dX7_init_43 : decode cX7_init 43 = .ok (.aload_n 0, 1) := by decide +kernel
theorem dX7_init_44 : decode cX7_init 44 = .ok (.iconst 2, 1) := by decide +kernel
theorem dX7_init_45 : decode cX7_init 45 = .ok (.newarray .int, 2) := by decide +kernel
theorem dX7_init_47 : decode cX7_init 47 = .ok (.putfield 25, 3) := by decide +kernel
theorem dX7_init_50 : decode cX7_init 50 = .ok (.aload_n 0, 1) := by decide +kernel
theorem dX7_init_51 : decode cX7_init 51 = .ok (.bipush 16, 2) := by decide +kernel
theorem dX7_init_53 : decode cX7_init 53 = .ok (.newarray .int, 2) := by decide +kernel
theorem dX7_init_55 : decode cX7_init 55 = .ok (.putfield 28, 3) := by decide +kernel
theorem dX7_init_58 : decode cX7_init 58 = .ok (.aload_n 0, 1) := by decide +kernel
theorem dX7_init_59 : decode cX7_init 59 = .ok (.bipush 24, 2) := by decide +kernel
theorem dX7_init_61 : decode cX7_init 61 = .ok (.newarray .int, 2) := by decide +kernel
theorem dX7_init_63 : decode cX7_init 63 = .ok (.putfield 31, 3) := by decide +kernel
theorem dX7_init_66 : decode cX7_init 66 = .ok (.aload_n 0, 1) := by decide +kernel
theorem dX7_init_67 : decode cX7_init 67 = .ok (.iconst 2, 1) := by decide +kernel
theorem dX7_init_68 : decode cX7_init 68 = .ok (.newarray .int, 2) := by decide +kernel
theorem dX7_init_70 : decode cX7_init 70 = .ok (.putfield 34, 3) := by decide +kernel
theorem dX7_init_73 : decode cX7_init 73 = .ok (.aload_n 0, 1) := by decide +kernel
theorem dX7_init_74 : decode cX7_init 74 = .ok (.bipush 12, 2) := by decide +kernel
theorem dX7_init_76 : decode cX7_init 76 = .ok (.newarray .int, 2) := by decide +kernel
theorem dX7_init_78 : decode cX7_init 78 = .ok (.putfield 37, 3) := by decide +kernel
theorem dX7_init_81 : decode cX7_init 81 = .ok (.aload_n 0, 1) := by decide +kernel
theorem dX7_init_82 : decode cX7_init 82 = .ok (.bipush 16, 2) := by decide +kernel
theorem dX7_init_84 : decode cX7_init 84 = .ok (.newarray .int, 2) := by decide +kernel
theorem dX7_init_86 : decode cX7_init 86 = .ok (.putfield 40, 3) := by decide +kernel
theorem dX7_init_89 : decode cX7_init 89 = .ok (.aload_n 0, 1) := by decide +kernel
theorem dX7_init_90 : decode cX7_init 90 = .ok (.bipush 8, 2) := by decide +kernel
theorem dX7_init_92 : decode cX7_init 92 = .ok (.newarray .int, 2) := by decide +kernel
theorem dX7_init_94 : decode cX7_init 94 = .ok (.putfield 43, 3) := by decide +kernel
theorem dX7_init_97 : decode cX7_init 97 = .ok (.aload_n 0, 1) := by decide +kernel
theorem dX7_init_98 : decode cX7_init 98 = .ok (.bipush 8, 2) := by decide +kernel
theorem dX7_init_100 : decode cX7_init 100 = .ok (.newarray .int, 2) := by decide +kernel
theorem dX7_init_102 : decode cX7_init 102 = .ok (.putfield 46, 3) := by decide +kernel
theorem dX7_init_105 : decode cX7_init 105 = .ok (.aload_n 0, 1) := by decide +kernel
theorem dX7_init_106 : decode cX7_init 106 = .ok (.bipush 8, 2) := by decide +kernel
theorem dX7_init_108 : decode cX7_init 108 = .ok (.newarray .int, 2) := by decide +kernel
theorem dX7_init_110 : decode cX7_init 110 = .ok (.putfield 49, 3) := by decide +kernel
theorem dX7_init_113 : decode cX7_init 113 = .ok (.aload_n 0, 1) := by decide +kernel
theorem dX7_init_114 : decode cX7_init 114 = .ok (.bipush 8, 2) := by decide +kernel
theorem dX7_init_116 : decode cX7_init 116 = .ok (.newarray .int, 2) := by decide +kernel
theorem dX7_init_118 : decode cX7_init 118 = .ok (.putfield 52, 3) := by decide +kernel
theorem dX7_init_121 : decode cX7_init 121 = .ok (.aload_n 0, 1) := by decide +kernel
theorem dX7_init_122 : decode cX7_init 122 = .ok (.bipush 8, 2) := by decide +kernel
theorem dX7_init_124 : decode cX7_init 124 = .ok (.newarray .int, 2) := by decide +kernel
theorem dX7_init_126 : decode cX7_init 126 = .ok (.putfield 55, 3) := by decide +kernel
theorem dX7_init_129 : decode cX7_init 129 = .ok (.aload_n 0, 1) := by decide +kernel
theorem dX7_init_130 : decode cX7_init 130 = .ok (.bipush 8, 2) := by decide +kernel
theorem dX7_init_132 : decode cX7_init 132 = .ok (.newarray .int, 2) := by decide +kernel
theorem dX7_init_134 : decode cX7_init 134 = .ok (.putfield 58, 3) := by decide +kernel
theorem dX7_init_137 : decode cX7_init 137 = .ok (.aload_n 0, 1) := by decide +kernel
theorem dX7_init_138 : decode cX7_init 138 = .ok (.bipush 8, 2) := by decide +kernel
theorem dX7_init_140 : decode cX7_init 140 = .ok (.newarray .int, 2) := by decide +kernel
theorem dX7_init_142 : decode cX7_init 142 = .ok (.putfield 61, 3) := by decide +kernel
theorem dX7_init_145 : decode cX7_init 145 = .ok (.aload_n 0, 1) := by decide +kernel
theorem dX7_init_146 : decode cX7_init 146 = .ok (.sipush 256, 3) := by decide +kernel
theorem dX7_init_149 : decode cX7_init 149 = .ok (.newarray .int, 2) := by decide +kernel
theorem dX7_init_151 : decode cX7_init 151 = .ok (.putfield 64, 3) := by decide +kernel
theorem dX7_init_154 : decode cX7_init 154 = .ok (.aload_n 0, 1) := by decide +kernel
theorem dX7_init_155 : decode cX7_init 155 = .ok (.bipush 16, 2) := by decide +kernel
theorem dX7_init_157 : decode cX7_init 157 = .ok (.newarray .int, 2) := by decide +kernel
theorem dX7_init_159 : decode cX7_init 159 = .ok (.putfield 67, 3) := by decide +kernel
theorem dX7_init_162 : decode cX7_init 162 = .ok (.aload_n 0, 1) := by decide +kernel
theorem dX7_init_163 : decode cX7_init 163 = .ok (.bipush 72, 2) := by decide +kernel
theorem dX7_init_165 : decode cX7_init 165 = .ok (.newarray .int, 2) := by decide +kernel
theorem dX7_init_167 : decode cX7_init 167 = .ok (.putfield 70, 3) := by decide +kernel
theorem dX7_init_170 : decode cX7_init 170 = .ok (.iconst 0, 1) := by decide +kernel
theorem dX7_init_171 : decode cX7_init 171 = .ok (.istore_n 1, 1) := by decide +kernel
theorem dX7_init_172 : decode cX7_init 172 = .ok (.iload_n 1, 1) := by decide +kernel
theorem dX7_init_173 : decode cX7_init 173 = .ok (.iconst 4, 1) := by decide +kernel
theorem dX7_init_174 : decode cX7_init 174 = .ok (.if_icmp .ge 16, 3) := by decide +kernel
theorem dX7_init_177 : decode cX7_init 177 = .ok (.aload_n 0, 1) := by decide +kernel
theorem dX7_init_178 : decode cX7_init 178 = .ok (.getfield 7, 3) := by decide +kernel
theorem dX7_init_181 : decode cX7_init 181 = .ok (.iload_n 1, 1) := by decide +kernel
theorem dX7_init_182 : decode cX7_init 182 = .ok (.iconst (-1), 1) := by decide +kernel
theorem dX7_init_183 : decode cX7_init 183 = .ok (.iastore, 1) := by decide +kernel
theorem dX7_init_184 : decode cX7_init 184 = .ok (.iinc 1 1, 3) := by decide +kernel
theorem dX7_init_187 : decode cX7_init 187 = .ok (.goto (-15), 3) := by decide +kernel
theorem dX7_init_190 : decode cX7_init 190 = .ok (.aload_n 0, 1) := by decide +kernel
theorem dX7_init_191 : decode cX7_init 191 = .ok (.iconst (-1), 1) := by decide +kernel
theorem dX7_init_192 : decode cX7_init 192 = .ok (.putfield 73, 3) := by decide +kernel
theorem dX7_init_195 : decode cX7_init 195 = .ok (.return_, 1) := by decide +kernel
theorem dX7_in_0 : decode cX7_in 0 = .ok (.lload_n 0, 1) := by decide +kernel
theorem dX7_in_1 : decode cX7_in 1 = .ok (.lload_n 2, 1) := by decide +kernel
theorem dX7_in_2 : decode cX7_in 2 = .ok (.lcmp, 1) := by decide +kernel
theorem dX7_in_3 : decode cX7_in 3 = .ok (.ifCond .lt 14, 3) := by decide +kernel
theorem dX7_in_6 : decode cX7_in 6 = .ok (.lload_n 0, 1) := by decide +kernel
theorem dX7_in_7 : decode cX7_in 7 = .ok (.lload 4, 2) := by decide +kernel
theorem dX7_in_9 : decode cX7_in 9 = .ok (.lcmp, 1) := by decide +kernel
theorem dX7_in_10 : decode cX7_in 10 = .ok (.ifCond .gt 7, 3) := by decide +kernel
theorem dX7_in_13 : decode cX7_in 13 = .ok (.iconst 1, 1) := by decide +kernel
theorem dX7_in_14 : decode cX7_in 14 = .ok (.goto 4, 3) := by decide +kernel
theorem dX7_in_17 : decode cX7_in 17 = .ok (.iconst 0, 1) := by decide +kernel
theorem dX7_in_18 : decode cX7_in 18 = .ok (.ireturn, 1) := by decide +kernel
theorem dX7_no_0 : decode cX7_no 0 = .ok (.ldc2_w 77, 3) := by decide +kernel
theorem dX7_no_3 : decode cX7_no 3 = .ok (.iload_n 0, 1) := by decide +kernel
theorem dX7_no_4 : decode cX7_no 4 = .ok (.i2l, 1) := by decide +kernel
theorem dX7_no_5 : decode cX7_no 5 = .ok (.lsub, 1) := by decide +kernel
theorem dX7_no_6 : decode cX7_no 6 = .ok (.lreturn, 1) := by decide +kernel
theorem dX7_isTwo_0 : decode cX7_isTwo 0 = .ok (.iload_n 0, 1) := by decide +kernel
theorem dX7_isTwo_1 : decode cX7_isTwo 1 = .ok (.i2l, 1) := by decide +kernel
theorem dX7_isTwo_2 : decode cX7_isTwo 2 = .ok (.lconst 0, 1) := by decide +kernel
theorem dX7_isTwo_3 : decode cX7_isTwo 3 = .ok (.lconst 1, 1) := by decide +kernel
theorem dX7_isTwo_4 : decode cX7_isTwo 4 = .ok (.invokestatic 79, 3) := by decide +kernel
theorem dX7_isTwo_7 : decode cX7_isTwo 7 = .ok (.ireturn, 1) := by decide +kernel
theorem dX7_isIn_0 : decode cX7_isIn 0 = .ok (.iload_n 0, 1) := by decide +kernel
theorem dX7_isIn_1 : decode cX7_isIn 1 = .ok (.iload_n 1, 1) := by decide +kernel
theorem dX7_isIn_2 : decode cX7_isIn 2 = .ok (.ishr, 1) := by decide +kernel
theorem dX7_isIn_3 : decode cX7_isIn 3 = .ok (.iconst 1, 1) := by decide +kernel
theorem dX7_isIn_4 : decode cX7_isIn 4 = .ok (.iand, 1) := by decide +kernel
theorem dX7_isIn_5 : decode cX7_isIn 5 = .ok (.iconst 1, 1) := by decide +kernel
theorem dX7_isIn_6 : decode cX7_isIn 6 = .ok (.if_icmp .ne 7, 3) := by decide +kernel
theorem dX7_isIn_9 : decode cX7_isIn 9 = .ok (.iconst 1, 1) := by decide +kernel
theorem dX7_isIn_10 : decode cX7_isIn 10 = .ok (.goto 4, 3) := by decide +kernel
theorem dX7_isIn_13 : decode cX7_isIn 13 = .ok (.iconst 0, 1) := by decide +kernel
theorem dX7_isIn_14 : decode cX7_isIn 14 = .ok (.ireturn, 1) := by decide +kernel
theorem dX7_ones_0 : decode cX7_ones 0 = .ok (.iconst 0, 1) := by decide +kernel
theorem dX7_ones_1 : decode cX7_ones 1 = .ok (.istore_n 1, 1) := by decide +kernel
theorem dX7_ones_2 : decode cX7_ones 2 = .ok (.iload_n 0, 1) := by decide +kernel
theorem dX7_ones_3 : decode cX7_ones 3 = .ok (.istore_n 2, 1) := by decide +kernel
theorem dX7_ones_4 : decode cX7_ones 4 = .ok (.iload_n 2, 1) := by decide +kernel
theorem dX7_ones_5 : decode cX7_ones 5 = .ok (.ifCond .eq 15, 3) := by decide +kernel
theorem dX7_ones_8 : decode cX7_ones 8 = .ok (.iinc 1 1, 3) := by decide +kernel
theorem dX7_ones_11 : decode cX7_ones 11 = .ok (.iload_n 2, 1) := by decide +kernel
theorem dX7_ones_12 : decode cX7_ones 12 = .ok (.iload_n 2, 1) := by decide +kernel
theorem dX7_ones_13 : decode cX7_ones 13 = .ok (.iconst 1, 1) := by decide +kernel
theorem dX7_ones_14 : decode cX7_ones 14 = .ok (.isub, 1) := by decide +kernel
theorem dX7_ones_15 : decode cX7_ones 15 = .ok (.iand, 1) := by decide +kernel
theorem dX7_ones_16 : decode cX7_ones 16 = .ok (.istore_n 2, 1) := by decide +kernel
theorem dX7_ones_17 : decode cX7_ones 17 = .ok (.goto (-13), 3) := by decide +kernel
theorem dX7_ones_20 : decode cX7_ones 20 = .ok (.iload_n 1, 1) := by decide +kernel
theorem dX7_ones_21 : decode cX7_ones 21 = .ok (.ireturn, 1) := by decide +kernel
theorem dX7_lesser_0 : decode cX7_lesser 0 = .ok (.iload_n 0, 1) := by decide +kernel
theorem dX7_lesser_1 : decode cX7_lesser 1 = .ok (.iload_n 1, 1) := by decide +kernel
theorem dX7_lesser_2 : decode cX7_lesser 2 = .ok (.if_icmp .ge 7, 3) := by decide +kernel
theorem dX7_lesser_5 : decode cX7_lesser 5 = .ok (.iload_n 0, 1) := by decide +kernel
theorem dX7_lesser_6 : decode cX7_lesser 6 = .ok (.goto 4, 3) := by decide +kernel
theorem dX7_lesser_9 : decode cX7_lesser 9 = .ok (.iload_n 1, 1) := by decide +kernel
theorem dX7_lesser_10 : decode cX7_lesser 10 = .ok (.ireturn, 1) := by decide +kernel
theorem dX7_greater_0 : decode cX7_greater 0 = .ok (.iload_n 0, 1) := by decide +kernel
theorem dX7_greater_1 : decode cX7_greater 1 = .ok (.iload_n 1, 1) := by decide +kernel
theorem dX7_greater_2 : decode cX7_greater 2 = .ok (.if_icmp .le 7, 3) := by decide +kernel
theorem dX7_greater_5 : decode cX7_greater 5 = .ok (.iload_n 0, 1) := by decide +kernel
theorem dX7_greater_6 : decode cX7_greater 6 = .ok (.goto 4, 3) := by decide +kernel
theorem dX7_greater_9 : decode cX7_greater 9 = .ok (.iload_n 1, 1) := by decide +kernel
theorem dX7_greater_10 : decode cX7_greater 10 = .ok (.ireturn, 1) := by decide +kernel
theorem dX7_part_0 : decode cX7_part 0 = .ok (.lload_n 0, 1) := by decide +kernel
theorem dX7_part_1 : decode cX7_part 1 = .ok (.lstore 5, 2) := by decide +kernel
theorem dX7_part_3 : decode cX7_part 3 = .ok (.lload_n 2, 1) := by decide +kernel
theorem dX7_part_4 : decode cX7_part 4 = .ok (.lstore 7, 2) := by decide +kernel
theorem dX7_part_6 : decode cX7_part 6 = .ok (.lload 7, 2) := by decide +kernel
theorem dX7_part_8 : decode cX7_part 8 = .ok (.lconst 0, 1) := by decide +kernel
theorem dX7_part_9 : decode cX7_part 9 = .ok (.lcmp, 1) := by decide +kernel
theorem dX7_part_10 : decode cX7_part 10 = .ok (.ifCond .eq 21, 3) := by decide +kernel
theorem dX7_part_13 : decode cX7_part 13 = .ok (.lload 5, 2) := by decide +kernel
theorem dX7_part_15 : decode cX7_part 15 = .ok (.lload 7, 2) := by decide +kernel
theorem dX7_part_17 : decode cX7_part 17 = .ok (.lrem, 1) := by decide +kernel
theorem dX7_part_18 : decode cX7_part 18 = .ok (.lstore 9, 2) := by decide +kernel
theorem dX7_part_20 : decode cX7_part 20 = .ok (.lload 7, 2) := by decide +kernel
theorem dX7_part_22 : decode cX7_part 22 = .ok (.lstore 5, 2) := by decide +kernel
theorem dX7_part_24 : decode cX7_part 24 = .ok (.lload 9, 2) := by decide +kernel
theorem dX7_part_26 : decode cX7_part 26 = .ok (.lstore 7, 2) := by decide +kernel
theorem dX7_part_28 : decode cX7_part 28 = .ok (.goto (-22), 3) := by decide +kernel
theorem dX7_part_31 : decode cX7_part 31 = .ok (.iload 4, 2) := by decide +kernel
theorem dX7_part_33 : decode cX7_part 33 = .ok (.ifCond .ne 7, 3) := by decide +kernel
theorem dX7_part_36 : decode cX7_part 36 = .ok (.lload_n 0, 1) := by decide +kernel
theorem dX7_part_37 : decode cX7_part 37 = .ok (.goto 4, 3) := by decide +kernel
theorem dX7_part_40 : decode cX7_part 40 = .ok (.lload_n 2, 1) := by decide +kernel
theorem dX7_part_41 : decode cX7_part 41 = .ok (.lload 5, 2) := by decide +kernel
theorem dX7_part_43 : decode cX7_part 43 = .ok (.ldiv, 1) := by decide +kernel
theorem dX7_part_44 : decode cX7_part 44 = .ok (.lreturn, 1) := by decide +kernel
theorem dX7_finds_0 : decode cX7_finds 0 = .ok (.aload_n 0, 1) := by decide +kernel
theorem dX7_finds_1 : decode cX7_finds 1 = .ok (.iload_n 1, 1) := by decide +kernel
theorem dX7_finds_2 : decode cX7_finds 2 = .ok (.putfield 83, 3) := by decide +kernel
theorem dX7_finds_5 : decode cX7_finds 5 = .ok (.bipush (-10), 2) := by decide +kernel
theorem dX7_finds_7 : decode cX7_finds 7 = .ok (.iload_n 1, 1) := by decide +kernel
theorem dX7_finds_8 : decode cX7_finds 8 = .ok (.isub, 1) := by decide +kernel
theorem dX7_finds_9 : decode cX7_finds 9 = .ok (.ireturn, 1) := by decide +kernel
theorem dX7_isSheet_0 : decode cX7_isSheet 0 = .ok (.iload_n 0, 1) := by decide +kernel
theorem dX7_isSheet_1 : decode cX7_isSheet 1 = .ok (.i2l, 1) := by decide +kernel
theorem dX7_isSheet_2 : decode cX7_isSheet 2 = .ok (.lconst 0, 1) := by decide +kernel
theorem dX7_isSheet_3 : decode cX7_isSheet 3 = .ok (.ldc2_w 86, 3) := by decide +kernel
theorem dX7_isSheet_6 : decode cX7_isSheet 6 = .ok (.invokestatic 79, 3) := by decide +kernel
theorem dX7_isSheet_9 : decode cX7_isSheet 9 = .ok (.ireturn, 1) := by decide +kernel
theorem dX7_sheet_0 : decode cX7_sheet 0 = .ok (.iload_n 1, 1) := by decide +kernel
theorem dX7_sheet_1 : decode cX7_sheet 1 = .ok (.invokestatic 88, 3) := by decide +kernel
theorem dX7_sheet_4 : decode cX7_sheet 4 = .ok (.ifCond .eq 21, 3) := by decide +kernel
theorem dX7_sheet_7 : decode cX7_sheet 7 = .ok (.iload_n 2, 1) := by decide +kernel
theorem dX7_sheet_8 : decode cX7_sheet 8 = .ok (.i2l, 1) := by decide +kernel
theorem dX7_sheet_9 : decode cX7_sheet 9 = .ok (.lconst 0, 1) := by decide +kernel
theorem dX7_sheet_10 : decode cX7_sheet 10 = .ok (.ldc2_w 92, 3) := by decide +kernel
theorem dX7_sheet_13 : decode cX7_sheet 13 = .ok (.invokestatic 79, 3) := by decide +kernel
theorem dX7_sheet_16 : decode cX7_sheet 16 = .ok (.ifCond .eq 9, 3) := by decide +kernel
theorem dX7_sheet_19 : decode cX7_sheet 19 = .ok (.iload_n 3, 1) := by decide +kernel
theorem dX7_sheet_20 : decode cX7_sheet 20 = .ok (.bipush 60, 2) := by decide +kernel
theorem dX7_sheet_22 : decode cX7_sheet 22 = .ok (.if_icmp .le 6, 3) := by decide +kernel
theorem dX7_sheet_25 : decode cX7_sheet 25 = .ok (.bipush (-2), 2) := by decide +kernel
theorem dX7_sheet_27 : decode cX7_sheet 27 = .ok (.ireturn, 1) := by decide +kernel
theorem dX7_sheet_28 : decode cX7_sheet 28 = .ok (.iload_n 3, 1) := by decide +kernel
theorem dX7_sheet_29 : decode cX7_sheet 29 = .ok (.ifCond .ge 9, 3) := by decide +kernel
theorem dX7_sheet_32 : decode cX7_sheet 32 = .ok (.aload_n 0, 1) := by decide +kernel
theorem dX7_sheet_33 : decode cX7_sheet 33 = .ok (.iconst 5, 1) := by decide +kernel
theorem dX7_sheet_34 : decode cX7_sheet 34 = .ok (.invokevirtual 94, 3) := by decide +kernel
theorem dX7_sheet_37 : decode cX7_sheet 37 = .ok (.ireturn, 1) := by decide +kernel
theorem dX7_sheet_38 : decode cX7_sheet 38 = .ok (.aload_n 0, 1) := by decide +kernel
theorem dX7_sheet_39 : decode cX7_sheet 39 = .ok (.getfield 7, 3) := by decide +kernel
theorem dX7_sheet_42 : decode cX7_sheet 42 = .ok (.iload_n 1, 1) := by decide +kernel
theorem dX7_sheet_43 : decode cX7_sheet 43 = .ok (.iload_n 2, 1) := by decide +kernel
theorem dX7_sheet_44 : decode cX7_sheet 44 = .ok (.iastore, 1) := by decide +kernel
theorem dX7_sheet_45 : decode cX7_sheet 45 = .ok (.aload_n 0, 1) := by decide +kernel
theorem dX7_sheet_46 : decode cX7_sheet 46 = .ok (.getfield 13, 3) := by decide +kernel
theorem dX7_sheet_49 : decode cX7_sheet 49 = .ok (.iload_n 1, 1) := by decide +kernel
theorem dX7_sheet_50 : decode cX7_sheet 50 = .ok (.iload_n 3, 1) := by decide +kernel
theorem dX7_sheet_51 : decode cX7_sheet 51 = .ok (.iastore, 1) := by decide +kernel
theorem dX7_sheet_52 : decode cX7_sheet 52 = .ok (.iconst 0, 1) := by decide +kernel
theorem dX7_sheet_53 : decode cX7_sheet 53 = .ok (.istore 4, 2) := by decide +kernel
theorem dX7_sheet_55 : decode cX7_sheet 55 = .ok (.iload 4, 2) := by decide +kernel
theorem dX7_sheet_57 : decode cX7_sheet 57 = .ok (.iload_n 3, 1) := by decide +kernel
theorem dX7_sheet_58 : decode cX7_sheet 58 = .ok (.if_icmp .ge 22, 3) := by decide +kernel
theorem dX7_sheet_61 : decode cX7_sheet 61 = .ok (.aload_n 0, 1) := by decide +kernel
theorem dX7_sheet_62 : decode cX7_sheet 62 = .ok (.getfield 16, 3) := by decide +kernel
theorem dX7_sheet_65 : decode cX7_sheet 65 = .ok (.bipush 60, 2) := by decide +kernel
theorem dX7_sheet_67 : decode cX7_sheet 67 = .ok (.iload_n 1, 1) := by decide +kernel
theorem dX7_sheet_68 : decode cX7_sheet 68 = .ok (.imul, 1) := by decide +kernel
theorem dX7_sheet_69 : decode cX7_sheet 69 = .ok (.iload 4, 2) := by decide +kernel
theorem dX7_sheet_71 : decode cX7_sheet 71 = .ok (.iadd, 1) := by decide +kernel
theorem dX7_sheet_72 : decode cX7_sheet 72 = .ok (.iconst 0, 1) := by decide +kernel
theorem dX7_sheet_73 : decode cX7_sheet 73 = .ok (.iastore, 1) := by decide +kernel
theorem dX7_sheet_74 : decode cX7_sheet 74 = .ok (.iinc 4 1, 3) := by decide +kernel
theorem dX7_sheet_77 : decode cX7_sheet 77 = .ok (.goto (-22), 3) := by decide +kernel
theorem dX7_sheet_80 : decode cX7_sheet 80 = .ok (.iload_n 3, 1) := by decide +kernel
theorem dX7_sheet_81 : decode cX7_sheet 81 = .ok (.ireturn, 1) := by decide +kernel
theorem dX7_lose_0 : decode cX7_lose 0 = .ok (.iload_n 1, 1) := by decide +kernel
theorem dX7_lose_1 : decode cX7_lose 1 = .ok (.invokestatic 88, 3) := by decide +kernel
theorem dX7_lose_4 : decode cX7_lose 4 = .ok (.ifCond .ne 6, 3) := by decide +kernel
theorem dX7_lose_7 : decode cX7_lose 7 = .ok (.bipush (-2), 2) := by decide +kernel
theorem dX7_lose_9 : decode cX7_lose 9 = .ok (.ireturn, 1) := by decide +kernel
theorem dX7_lose_10 : decode cX7_lose 10 = .ok (.aload_n 0, 1) := by decide +kernel
theorem dX7_lose_11 : decode cX7_lose 11 = .ok (.getfield 7, 3) := by decide +kernel
theorem dX7_lose_14 : decode cX7_lose 14 = .ok (.iload_n 1, 1) := by decide +kernel
theorem dX7_lose_15 : decode cX7_lose 15 = .ok (.iaload, 1) := by decide +kernel
theorem dX7_lose_16 : decode cX7_lose 16 = .ok (.ifCond .ge 9, 3) := by decide +kernel
theorem dX7_lose_19 : decode cX7_lose 19 = .ok (.aload_n 0, 1) := by decide +kernel
theorem dX7_lose_20 : decode cX7_lose 20 = .ok (.iconst 1, 1) := by decide +kernel
theorem dX7_lose_21 : decode cX7_lose 21 = .ok (.invokevirtual 94, 3) := by decide +kernel
theorem dX7_lose_24 : decode cX7_lose 24 = .ok (.ireturn, 1) := by decide +kernel
theorem dX7_lose_25 : decode cX7_lose 25 = .ok (.aload_n 0, 1) := by decide +kernel
theorem dX7_lose_26 : decode cX7_lose 26 = .ok (.getfield 7, 3) := by decide +kernel
theorem dX7_lose_29 : decode cX7_lose 29 = .ok (.iload_n 1, 1) := by decide +kernel
theorem dX7_lose_30 : decode cX7_lose 30 = .ok (.iconst (-1), 1) := by decide +kernel
theorem dX7_lose_31 : decode cX7_lose 31 = .ok (.iastore, 1) := by decide +kernel
theorem dX7_lose_32 : decode cX7_lose 32 = .ok (.aload_n 0, 1) := by decide +kernel
theorem dX7_lose_33 : decode cX7_lose 33 = .ok (.getfield 13, 3) := by decide +kernel
theorem dX7_lose_36 : decode cX7_lose 36 = .ok (.iload_n 1, 1) := by decide +kernel
theorem dX7_lose_37 : decode cX7_lose 37 = .ok (.iaload, 1) := by decide +kernel
theorem dX7_lose_38 : decode cX7_lose 38 = .ok (.ireturn, 1) := by decide +kernel
theorem dX7_lacks_0 : decode cX7_lacks 0 = .ok (.aload_n 0, 1) := by decide +kernel
theorem dX7_lacks_1 : decode cX7_lacks 1 = .ok (.getfield 7, 3) := by decide +kernel
theorem dX7_lacks_4 : decode cX7_lacks 4 = .ok (.iload_n 1, 1) := by decide +kernel
theorem dX7_lacks_5 : decode cX7_lacks 5 = .ok (.iaload, 1) := by decide +kernel
theorem dX7_lacks_6 : decode cX7_lacks 6 = .ok (.ifCond .ge 9, 3) := by decide +kernel
theorem dX7_lacks_9 : decode cX7_lacks 9 = .ok (.aload_n 0, 1) := by decide +kernel
theorem dX7_lacks_10 : decode cX7_lacks 10 = .ok (.iconst 1, 1) := by decide +kernel
theorem dX7_lacks_11 : decode cX7_lacks 11 = .ok (.invokevirtual 94, 3) := by decide +kernel
theorem dX7_lacks_14 : decode cX7_lacks 14 = .ok (.ireturn, 1) := by decide +kernel
theorem dX7_lacks_15 : decode cX7_lacks 15 = .ok (.aload_n 0, 1) := by decide +kernel
theorem dX7_lacks_16 : decode cX7_lacks 16 = .ok (.getfield 7, 3) := by decide +kernel
theorem dX7_lacks_19 : decode cX7_lacks 19 = .ok (.iload_n 1, 1) := by decide +kernel
theorem dX7_lacks_20 : decode cX7_lacks 20 = .ok (.iaload, 1) := by decide +kernel
theorem dX7_lacks_21 : decode cX7_lacks 21 = .ok (.iload_n 2, 1) := by decide +kernel
theorem dX7_lacks_22 : decode cX7_lacks 22 = .ok (.if_icmp .eq 9, 3) := by decide +kernel
theorem dX7_lacks_25 : decode cX7_lacks 25 = .ok (.aload_n 0, 1) := by decide +kernel
theorem dX7_lacks_26 : decode cX7_lacks 26 = .ok (.iconst 3, 1) := by decide +kernel
theorem dX7_lacks_27 : decode cX7_lacks 27 = .ok (.invokevirtual 94, 3) := by decide +kernel
theorem dX7_lacks_30 : decode cX7_lacks 30 = .ok (.ireturn, 1) := by decide +kernel
theorem dX7_lacks_31 : decode cX7_lacks 31 = .ok (.iload_n 3, 1) := by decide +kernel
theorem dX7_lacks_32 : decode cX7_lacks 32 = .ok (.i2l, 1) := by decide +kernel
theorem dX7_lacks_33 : decode cX7_lacks 33 = .ok (.lconst 0, 1) := by decide +kernel
theorem dX7_lacks_34 : decode cX7_lacks 34 = .ok (.aload_n 0, 1) := by decide +kernel
theorem dX7_lacks_35 : decode cX7_lacks 35 = .ok (.getfield 13, 3) := by decide +kernel
theorem dX7_lacks_38 : decode cX7_lacks 38 = .ok (.iload_n 1, 1) := by decide +kernel
theorem dX7_lacks_39 : decode cX7_lacks 39 = .ok (.iaload, 1) := by decide +kernel
theorem dX7_lacks_40 : decode cX7_lacks 40 = .ok (.iconst 1, 1) := by decide +kernel
theorem dX7_lacks_41 : decode cX7_lacks 41 = .ok (.isub, 1) := by decide +kernel
theorem dX7_lacks_42 : decode cX7_lacks 42 = .ok (.i2l, 1) := by decide +kernel
theorem dX7_lacks_43 : decode cX7_lacks 43 = .ok (.invokestatic 79, 3) := by decide +kernel
theorem dX7_lacks_46 : decode cX7_lacks 46 = .ok (.ifCond .eq 7, 3) := by decide +kernel
theorem dX7_lacks_49 : decode cX7_lacks 49 = .ok (.iconst 0, 1) := by decide +kernel
theorem dX7_lacks_50 : decode cX7_lacks 50 = .ok (.goto 8, 3) := by decide +kernel
theorem dX7_lacks_53 : decode cX7_lacks 53 = .ok (.aload_n 0, 1) := by decide +kernel
theorem dX7_lacks_54 : decode cX7_lacks 54 = .ok (.iconst 2, 1) := by decide +kernel
theorem dX7_lacks_55 : decode cX7_lacks 55 = .ok (.invokevirtual 94, 3) := by decide +kernel
theorem dX7_lacks_58 : decode cX7_lacks 58 = .ok (.ireturn, 1) := by decide +kernel
theorem dX7_cut_0 : decode cX7_cut 0 = .ok (.iload_n 0, 1) := by decide +kernel
theorem dX7_cut_1 : decode cX7_cut 1 = .ok (.ifCond .ne 8, 3) := by decide +kernel
theorem dX7_cut_4 : decode cX7_cut 4 = .ok (.iload_n 1, 1) := by decide +kernel
theorem dX7_cut_5 : decode cX7_cut 5 = .ok (.i2b, 1) := by decide +kernel
theorem dX7_cut_6 : decode cX7_cut 6 = .ok (.goto 14, 3) := by decide +kernel
theorem dX7_cut_9 : decode cX7_cut 9 = .ok (.iload_n 0, 1) := by decide +kernel
theorem dX7_cut_10 : decode cX7_cut 10 = .ok (.iconst 1, 1) := by decide +kernel
theorem dX7_cut_11 : decode cX7_cut 11 = .ok (.if_icmp .ne 8, 3) := by decide +kernel
theorem dX7_cut_14 : decode cX7_cut 14 = .ok (.iload_n 1, 1) := by decide +kernel
theorem dX7_cut_15 : decode cX7_cut 15 = .ok (.i2s, 1) := by decide +kernel
theorem dX7_cut_16 : decode cX7_cut 16 = .ok (.goto 4, 3) := by decide +kernel
theorem dX7_cut_19 : decode cX7_cut 19 = .ok (.iload_n 1, 1) := by decide +kernel
theorem dX7_cut_20 : decode cX7_cut 20 = .ok (.ireturn, 1) := by decide +kernel
theorem dX7_lay_0 : decode cX7_lay 0 = .ok (.iload_n 1, 1) := by decide +kernel
theorem dX7_lay_1 : decode cX7_lay 1 = .ok (.invokestatic 88, 3) := by decide +kernel
theorem dX7_lay_4 : decode cX7_lay 4 = .ok (.ifCond .eq 15, 3) := by decide +kernel
theorem dX7_lay_7 : decode cX7_lay 7 = .ok (.iload_n 2, 1) := by decide +kernel
theorem dX7_lay_8 : decode cX7_lay 8 = .ok (.i2l, 1) := by decide +kernel
theorem dX7_lay_9 : decode cX7_lay 9 = .ok (.lconst 0, 1) := by decide +kernel
theorem dX7_lay_10 : decode cX7_lay 10 = .ok (.ldc2_w 92, 3) := by decide +kernel
theorem dX7_lay_13 : decode cX7_lay 13 = .ok (.invokestatic 79, 3) := by decide +kernel
theorem dX7_lay_16 : decode cX7_lay 16 = .ok (.ifCond .ne 6, 3) := by decide +kernel
theorem dX7_lay_19 : decode cX7_lay 19 = .ok (.bipush (-2), 2) := by decide +kernel
theorem dX7_lay_21 : decode cX7_lay 21 = .ok (.ireturn, 1) := by decide +kernel
theorem dX7_lay_22 : decode cX7_lay 22 = .ok (.aload_n 0, 1) := by decide +kernel
theorem dX7_lay_23 : decode cX7_lay 23 = .ok (.iload_n 1, 1) := by decide +kernel
theorem dX7_lay_24 : decode cX7_lay 24 = .ok (.iload_n 2, 1) := by decide +kernel
theorem dX7_lay_25 : decode cX7_lay 25 = .ok (.iload_n 3, 1) := by decide +kernel
theorem dX7_lay_26 : decode cX7_lay 26 = .ok (.invokevirtual 98, 3) := by decide +kernel
theorem dX7_lay_29 : decode cX7_lay 29 = .ok (.istore 5, 2) := by decide +kernel
theorem dX7_lay_31 : decode cX7_lay 31 = .ok (.iload 5, 2) := by decide +kernel
theorem dX7_lay_33 : decode cX7_lay 33 = .ok (.ifCond .eq 6, 3) := by decide +kernel
theorem dX7_lay_36 : decode cX7_lay 36 = .ok (.iload 5, 2) := by decide +kernel
theorem dX7_lay_38 : decode cX7_lay 38 = .ok (.ireturn, 1) := by decide +kernel
theorem dX7_lay_39 : decode cX7_lay 39 = .ok (.aload_n 0, 1) := by decide +kernel
theorem dX7_lay_40 : decode cX7_lay 40 = .ok (.getfield 16, 3) := by decide +kernel
theorem dX7_lay_43 : decode cX7_lay 43 = .ok (.bipush 60, 2) := by decide +kernel
theorem dX7_lay_45 : decode cX7_lay 45 = .ok (.iload_n 1, 1) := by decide +kernel
theorem dX7_lay_46 : decode cX7_lay 46 = .ok (.imul, 1) := by decide +kernel
theorem dX7_lay_47 : decode cX7_lay 47 = .ok (.iload_n 3, 1) := by decide +kernel
theorem dX7_lay_48 : decode cX7_lay 48 = .ok (.iadd, 1) := by decide +kernel
theorem dX7_lay_49 : decode cX7_lay 49 = .ok (.iload_n 2, 1) := by decide +kernel
theorem dX7_lay_50 : decode cX7_lay 50 = .ok (.iload 4, 2) := by decide +kernel
theorem dX7_lay_52 : decode cX7_lay 52 = .ok (.invokestatic 102, 3) := by decide +kernel
theorem dX7_lay_55 : decode cX7_lay 55 = .ok (.iastore, 1) := by decide +kernel
theorem dX7_lay_56 : decode cX7_lay 56 = .ok (.iconst 1, 1) := by decide +kernel
theorem dX7_lay_57 : decode cX7_lay 57 = .ok (.ireturn, 1) := by decide +kernel
theorem dX7_get_0 : decode cX7_get 0 = .ok (.iload_n 1, 1) := by decide +kernel
theorem dX7_get_1 : decode cX7_get 1 = .ok (.invokestatic 88, 3) := by decide +kernel
theorem dX7_get_4 : decode cX7_get 4 = .ok (.ifCond .eq 25, 3) := by decide +kernel
theorem dX7_get_7 : decode cX7_get 7 = .ok (.iload_n 2, 1) := by decide +kernel
theorem dX7_get_8 : decode cX7_get 8 = .ok (.i2l, 1) := by decide +kernel
theorem dX7_get_9 : decode cX7_get 9 = .ok (.lconst 0, 1) := by decide +kernel
theorem dX7_get_10 : decode cX7_get 10 = .ok (.ldc2_w 92, 3) := by decide +kernel
theorem dX7_get_13 : decode cX7_get 13 = .ok (.invokestatic 79, 3) := by decide +kernel
theorem dX7_get_16 : decode cX7_get 16 = .ok (.ifCond .eq 13, 3) := by decide +kernel
theorem dX7_get_19 : decode cX7_get 19 = .ok (.aload_n 0, 1) := by decide +kernel
theorem dX7_get_20 : decode cX7_get 20 = .ok (.iload_n 1, 1) := by decide +kernel
theorem dX7_get_21 : decode cX7_get 21 = .ok (.iload_n 2, 1) := by decide +kernel
theorem dX7_get_22 : decode cX7_get 22 = .ok (.iload_n 3, 1) := by decide +kernel
theorem dX7_get_23 : decode cX7_get 23 = .ok (.invokevirtual 98, 3) := by decide +kernel
theorem dX7_get_26 : decode cX7_get 26 = .ok (.ifCond .eq 6, 3) := by decide +kernel
theorem dX7_get_29 : decode cX7_get 29 = .ok (.ldc 106, 2) := by decide +kernel
theorem dX7_get_31 : decode cX7_get 31 = .ok (.ireturn, 1) := by decide +kernel
theorem dX7_get_32 : decode cX7_get 32 = .ok (.aload_n 0, 1) := by decide +kernel
theorem dX7_get_33 : decode cX7_get 33 = .ok (.getfield 16, 3) := by decide +kernel
theorem dX7_get_36 : decode cX7_get 36 = .ok (.bipush 60, 2) := by decide +kernel
theorem dX7_get_38 : decode cX7_get 38 = .ok (.iload_n 1, 1) := by decide +kernel
theorem dX7_get_39 : decode cX7_get 39 = .ok (.imul, 1) := by decide +kernel
theorem dX7_get_40 : decode cX7_get 40 = .ok (.iload_n 3, 1) := by decide +kernel
theorem dX7_get_41 : decode cX7_get 41 = .ok (.iadd, 1) := by decide +kernel
theorem dX7_get_42 : decode cX7_get 42 = .ok (.iaload, 1) := by decide +kernel
theorem dX7_get_43 : decode cX7_get 43 = .ok (.ireturn, 1) := by decide +kernel
theorem dX7_copy_0 : decode cX7_copy 0 = .ok (.iload_n 1, 1) := by decide +kernel
theorem dX7_copy_1 : decode cX7_copy 1 = .ok (.invokestatic 88, 3) := by decide +kernel
theorem dX7_copy_4 : decode cX7_copy 4 = .ok (.ifCond .eq 10, 3) := by decide +kernel
theorem dX7_copy_7 : decode cX7_copy 7 = .ok (.iload_n 3, 1) := by decide +kernel
theorem dX7_copy_8 : decode cX7_copy 8 = .ok (.invokestatic 88, 3) := by decide +kernel
theorem dX7_copy_11 : decode cX7_copy 11 = .ok (.ifCond .ne 6, 3) := by decide +kernel
theorem dX7_copy_14 : decode cX7_copy 14 = .ok (.bipush (-2), 2) := by decide +kernel
theorem dX7_copy_16 : decode cX7_copy 16 = .ok (.ireturn, 1) := by decide +kernel
theorem dX7_copy_17 : decode cX7_copy 17 = .ok (.aload_n 0, 1) := by decide +kernel
theorem dX7_copy_18 : decode cX7_copy 18 = .ok (.getfield 7, 3) := by decide +kernel
theorem dX7_copy_21 : decode cX7_copy 21 = .ok (.iload_n 1, 1) := by decide +kernel
theorem dX7_copy_22 : decode cX7_copy 22 = .ok (.iaload, 1) := by decide +kernel
theorem dX7_copy_23 : decode cX7_copy 23 = .ok (.ifCond .lt 12, 3) := by decide +kernel
theorem dX7_copy_26 : decode cX7_copy 26 = .ok (.aload_n 0, 1) := by decide +kernel
theorem dX7_copy_27 : decode cX7_copy 27 = .ok (.getfield 7, 3) := by decide +kernel
theorem dX7_copy_30 : decode cX7_copy 30 = .ok (.iload_n 3, 1) := by decide +kernel
theorem dX7_copy_31 : decode cX7_copy 31 = .ok (.iaload, 1) := by decide +kernel
theorem dX7_copy_32 : decode cX7_copy 32 = .ok (.ifCond .ge 9, 3) := by decide +kernel
theorem dX7_copy_35 : decode cX7_copy 35 = .ok (.aload_n 0, 1) := by decide +kernel
theorem dX7_copy_36 : decode cX7_copy 36 = .ok (.iconst 1, 1) := by decide +kernel
theorem dX7_copy_37 : decode cX7_copy 37 = .ok (.invokevirtual 94, 3) := by decide +kernel
theorem dX7_copy_40 : decode cX7_copy 40 = .ok (.ireturn, 1) := by decide +kernel
theorem dX7_copy_41 : decode cX7_copy 41 = .ok (.aload_n 0, 1) := by decide +kernel
theorem dX7_copy_42 : decode cX7_copy 42 = .ok (.getfield 7, 3) := by decide +kernel
theorem dX7_copy_45 : decode cX7_copy 45 = .ok (.iload_n 1, 1) := by decide +kernel
theorem dX7_copy_46 : decode cX7_copy 46 = .ok (.iaload, 1) := by decide +kernel
theorem dX7_copy_47 : decode cX7_copy 47 = .ok (.aload_n 0, 1) := by decide +kernel
theorem dX7_copy_48 : decode cX7_copy 48 = .ok (.getfield 7, 3) := by decide +kernel
theorem dX7_copy_51 : decode cX7_copy 51 = .ok (.iload_n 3, 1) := by decide +kernel
theorem dX7_copy_52 : decode cX7_copy 52 = .ok (.iaload, 1) := by decide +kernel
theorem dX7_copy_53 : decode cX7_copy 53 = .ok (.if_icmp .eq 9, 3) := by decide +kernel
theorem dX7_copy_56 : decode cX7_copy 56 = .ok (.aload_n 0, 1) := by decide +kernel
theorem dX7_copy_57 : decode cX7_copy 57 = .ok (.iconst 4, 1) := by decide +kernel
theorem dX7_copy_58 : decode cX7_copy 58 = .ok (.invokevirtual 94, 3) := by decide +kernel
theorem dX7_copy_61 : decode cX7_copy 61 = .ok (.ireturn, 1) := by decide +kernel
theorem dX7_copy_62 : decode cX7_copy 62 = .ok (.iload_n 2, 1) := by decide +kernel
theorem dX7_copy_63 : decode cX7_copy 63 = .ok (.ifCond .lt 48, 3) := by decide +kernel
theorem dX7_copy_66 : decode cX7_copy 66 = .ok (.iload 4, 2) := by decide +kernel
theorem dX7_copy_68 : decode cX7_copy 68 = .ok (.ifCond .lt 43, 3) := by decide +kernel
theorem dX7_copy_71 : decode cX7_copy 71 = .ok (.iload 5, 2) := by decide +kernel
theorem dX7_copy_73 : decode cX7_copy 73 = .ok (.ifCond .lt 38, 3) := by decide +kernel
theorem dX7_copy_76 : decode cX7_copy 76 = .ok (.iload_n 2, 1) := by decide +kernel
theorem dX7_copy_77 : decode cX7_copy 77 = .ok (.i2l, 1) := by decide +kernel
theorem dX7_copy_78 : decode cX7_copy 78 = .ok (.iload 5, 2) := by decide +kernel
theorem dX7_copy_80 : decode cX7_copy 80 = .ok (.i2l, 1) := by decide +kernel
theorem dX7_copy_81 : decode cX7_copy 81 = .ok (.ladd, 1) := by decide +kernel
theorem dX7_copy_82 : decode cX7_copy 82 = .ok (.aload_n 0, 1) := by decide +kernel
theorem dX7_copy_83 : decode cX7_copy 83 = .ok (.getfield 13, 3) := by decide +kernel
theorem dX7_copy_86 : decode cX7_copy 86 = .ok (.iload_n 1, 1) := by decide +kernel
theorem dX7_copy_87 : decode cX7_copy 87 = .ok (.iaload, 1) := by decide +kernel
theorem dX7_copy_88 : decode cX7_copy 88 = .ok (.i2l, 1) := by decide +kernel
theorem dX7_copy_89 : decode cX7_copy 89 = .ok (.lcmp, 1) := by decide +kernel
theorem dX7_copy_90 : decode cX7_copy 90 = .ok (.ifCond .gt 21, 3) := by decide +kernel
theorem dX7_copy_93 : decode cX7_copy 93 = .ok (.iload 4, 2) := by decide +kernel
theorem dX7_copy_95 : decode cX7_copy 95 = .ok (.i2l, 1) := by decide +kernel
theorem dX7_copy_96 : decode cX7_copy 96 = .ok (.iload 5, 2) := by decide +kernel
theorem dX7_copy_98 : decode cX7_copy 98 = .ok (.i2l, 1) := by decide +kernel
theorem dX7_copy_99 : decode cX7_copy 99 = .ok (.ladd, 1) := by decide +kernel
theorem dX7_copy_100 : decode cX7_copy 100 = .ok (.aload_n 0, 1) := by decide +kernel
theorem dX7_copy_101 : decode cX7_copy 101 = .ok (.getfield 13, 3) := by decide +kernel
theorem dX7_copy_104 : decode cX7_copy 104 = .ok (.iload_n 3, 1) := by decide +kernel
theorem dX7_copy_105 : decode cX7_copy 105 = .ok (.iaload, 1) := by decide +kernel
theorem dX7_copy_106 : decode cX7_copy 106 = .ok (.i2l, 1) := by decide +kernel
theorem dX7_copy_107 : decode cX7_copy 107 = .ok (.lcmp, 1) := by decide +kernel
theorem dX7_copy_108 : decode cX7_copy 108 = .ok (.ifCond .le 9, 3) := by decide +kernel
theorem dX7_copy_111 : decode cX7_copy 111 = .ok (.aload_n 0, 1) := by decide +kernel
theorem dX7_copy_112 : decode cX7_copy 112 = .ok (.iconst 2, 1) := by decide +kernel
theorem dX7_copy_113 : decode cX7_copy 113 = .ok (.invokevirtual 94, 3) := by decide +kernel
theorem dX7_copy_116 : decode cX7_copy 116 = .ok (.ireturn, 1) := by decide +kernel
theorem dX7_copy_117 : decode cX7_copy 117 = .ok (.iconst 0, 1) := by decide +kernel
theorem dX7_copy_118 : decode cX7_copy 118 = .ok (.istore 6, 2) := by decide +kernel
theorem dX7_copy_120 : decode cX7_copy 120 = .ok (.iload 6, 2) := by decide +kernel
theorem dX7_copy_122 : decode cX7_copy 122 = .ok (.iload 5, 2) := by decide +kernel
theorem dX7_copy_124 : decode cX7_copy 124 = .ok (.if_icmp .ge 30, 3) := by decide +kernel
theorem dX7_copy_127 : decode cX7_copy 127 = .ok (.aload_n 0, 1) := by decide +kernel
theorem dX7_copy_128 : decode cX7_copy 128 = .ok (.getfield 19, 3) := by decide +kernel
theorem dX7_copy_131 : decode cX7_copy 131 = .ok (.iload 6, 2) := by decide +kernel
theorem dX7_copy_133 : decode cX7_copy 133 = .ok (.aload_n 0, 1) := by decide +kernel
theorem dX7_copy_134 : decode cX7_copy 134 = .ok (.getfield 16, 3) := by decide +kernel
theorem dX7_copy_137 : decode cX7_copy 137 = .ok (.bipush 60, 2) := by decide +kernel
theorem dX7_copy_139 : decode cX7_copy 139 = .ok (.iload_n 1, 1) := by decide +kernel
theorem dX7_copy_140 : decode cX7_copy 140 = .ok (.imul, 1) := by decide +kernel
theorem dX7_copy_141 : decode cX7_copy 141 = .ok (.iload_n 2, 1) := by decide +kernel
theorem dX7_copy_142 : decode cX7_copy 142 = .ok (.iadd, 1) := by decide +kernel
theorem dX7_copy_143 : decode cX7_copy 143 = .ok (.iload 6, 2) := by decide +kernel
theorem dX7_copy_145 : decode cX7_copy 145 = .ok (.iadd, 1) := by decide +kernel
theorem dX7_copy_146 : decode cX7_copy 146 = .ok (.iaload, 1) := by decide +kernel
theorem dX7_copy_147 : decode cX7_copy 147 = .ok (.iastore, 1) := by decide +kernel
theorem dX7_copy_148 : decode cX7_copy 148 = .ok (.iinc 6 1, 3) := by decide +kernel
theorem dX7_copy_151 : decode cX7_copy 151 = .ok (.goto (-31), 3) := by decide +kernel
theorem dX7_copy_154 : decode cX7_copy 154 = .ok (.iconst 0, 1) := by decide +kernel
theorem dX7_copy_155 : decode cX7_copy 155 = .ok (.istore 6, 2) := by decide +kernel
theorem dX7_copy_157 : decode cX7_copy 157 = .ok (.iload 6, 2) := by decide +kernel
theorem dX7_copy_159 : decode cX7_copy 159 = .ok (.iload 5, 2) := by decide +kernel
theorem dX7_copy_161 : decode cX7_copy 161 = .ok (.if_icmp .ge 31, 3) := by decide +kernel
theorem dX7_copy_164 : decode cX7_copy 164 = .ok (.aload_n 0, 1) := by decide +kernel
theorem dX7_copy_165 : decode cX7_copy 165 = .ok (.getfield 16, 3) := by decide +kernel
theorem dX7_copy_168 : decode cX7_copy 168 = .ok (.bipush 60, 2) := by decide +kernel
theorem dX7_copy_170 : decode cX7_copy 170 = .ok (.iload_n 3, 1) := by decide +kernel
theorem dX7_copy_171 : decode cX7_copy 171 = .ok (.imul, 1) := by decide +kernel
theorem dX7_copy_172 : decode cX7_copy 172 = .ok (.iload 4, 2) := by decide +kernel
theorem dX7_copy_174 : decode cX7_copy 174 = .ok (.iadd, 1) := by decide +kernel
theorem dX7_copy_175 : decode cX7_copy 175 = .ok (.iload 6, 2) := by decide +kernel
theorem dX7_copy_177 : decode cX7_copy 177 = .ok (.iadd, 1) := by decide +kernel
theorem dX7_copy_178 : decode cX7_copy 178 = .ok (.aload_n 0, 1) := by decide +kernel
theorem dX7_copy_179 : decode cX7_copy 179 = .ok (.getfield 19, 3) := by decide +kernel
theorem dX7_copy_182 : decode cX7_copy 182 = .ok (.iload 6, 2) := by decide +kernel
theorem dX7_copy_184 : decode cX7_copy 184 = .ok (.iaload, 1) := by decide +kernel
theorem dX7_copy_185 : decode cX7_copy 185 = .ok (.iastore, 1) := by decide +kernel
theorem dX7_copy_186 : decode cX7_copy 186 = .ok (.iinc 6 1, 3) := by decide +kernel
theorem dX7_copy_189 : decode cX7_copy 189 = .ok (.goto (-32), 3) := by decide +kernel
theorem dX7_copy_192 : decode cX7_copy 192 = .ok (.iconst 1, 1) := by decide +kernel
theorem dX7_copy_193 : decode cX7_copy 193 = .ok (.ireturn, 1) := by decide +kernel
theorem dX7_type_0 : decode cX7_type 0 = .ok (.iload_n 1, 1) := by decide +kernel
theorem dX7_type_1 : decode cX7_type 1 = .ok (.invokestatic 107, 3) := by decide +kernel
theorem dX7_type_4 : decode cX7_type 4 = .ok (.ifCond .eq 15, 3) := by decide +kernel
theorem dX7_type_7 : decode cX7_type 7 = .ok (.iload_n 2, 1) := by decide +kernel
theorem dX7_type_8 : decode cX7_type 8 = .ok (.i2l, 1) := by decide +kernel
theorem dX7_type_9 : decode cX7_type 9 = .ok (.lconst 0, 1) := by decide +kernel
theorem dX7_type_10 : decode cX7_type 10 = .ok (.ldc2_w 110, 3) := by decide +kernel
theorem dX7_type_13 : decode cX7_type 13 = .ok (.invokestatic 79, 3) := by decide +kernel
theorem dX7_type_16 : decode cX7_type 16 = .ok (.ifCond .ne 6, 3) := by decide +kernel
theorem dX7_type_19 : decode cX7_type 19 = .ok (.bipush (-2), 2) := by decide +kernel
theorem dX7_type_21 : decode cX7_type 21 = .ok (.ireturn, 1) := by decide +kernel
theorem dX7_type_22 : decode cX7_type 22 = .ok (.aload_n 0, 1) := by decide +kernel
theorem dX7_type_23 : decode cX7_type 23 = .ok (.getfield 25, 3) := by decide +kernel
theorem dX7_type_26 : decode cX7_type 26 = .ok (.iload_n 1, 1) := by decide +kernel
theorem dX7_type_27 : decode cX7_type 27 = .ok (.iaload, 1) := by decide +kernel
theorem dX7_type_28 : decode cX7_type 28 = .ok (.iload_n 1, 1) := by decide +kernel
theorem dX7_type_29 : decode cX7_type 29 = .ok (.ifCond .ne 8, 3) := by decide +kernel
theorem dX7_type_32 : decode cX7_type 32 = .ok (.bipush 31, 2) := by decide +kernel
theorem dX7_type_34 : decode cX7_type 34 = .ok (.goto 5, 3) := by decide +kernel
theorem dX7_type_37 : decode cX7_type 37 = .ok (.bipush 39, 2) := by decide +kernel
theorem dX7_type_39 : decode cX7_type 39 = .ok (.if_icmp .ne 6, 3) := by decide +kernel
theorem dX7_type_42 : decode cX7_type 42 = .ok (.bipush (-4), 2) := by decide +kernel
theorem dX7_type_44 : decode cX7_type 44 = .ok (.ireturn, 1) := by decide +kernel
theorem dX7_type_45 : decode cX7_type 45 = .ok (.aload_n 0, 1) := by decide +kernel
theorem dX7_type_46 : decode cX7_type 46 = .ok (.getfield 22, 3) := by decide +kernel
theorem dX7_type_49 : decode cX7_type 49 = .ok (.bipush 40, 2) := by decide +kernel
theorem dX7_type_51 : decode cX7_type 51 = .ok (.iload_n 1, 1) := by decide +kernel
theorem dX7_type_52 : decode cX7_type 52 = .ok (.imul, 1) := by decide +kernel
theorem dX7_type_53 : decode cX7_type 53 = .ok (.aload_n 0, 1) := by decide +kernel
theorem dX7_type_54 : decode cX7_type 54 = .ok (.getfield 25, 3) := by decide +kernel
theorem dX7_type_57 : decode cX7_type 57 = .ok (.iload_n 1, 1) := by decide +kernel
theorem dX7_type_58 : decode cX7_type 58 = .ok (.iaload, 1) := by decide +kernel
theorem dX7_type_59 : decode cX7_type 59 = .ok (.iadd, 1) := by decide +kernel
theorem dX7_type_60 : decode cX7_type 60 = .ok (.iload_n 2, 1) := by decide +kernel
theorem dX7_type_61 : decode cX7_type 61 = .ok (.iastore, 1) := by decide +kernel
theorem dX7_type_62 : decode cX7_type 62 = .ok (.aload_n 0, 1) := by decide +kernel
theorem dX7_type_63 : decode cX7_type 63 = .ok (.getfield 25, 3) := by decide +kernel
theorem dX7_type_66 : decode cX7_type 66 = .ok (.iload_n 1, 1) := by decide +kernel
theorem dX7_type_67 : decode cX7_type 67 = .ok (.dup2, 1) := by decide +kernel
theorem dX7_type_68 : decode cX7_type 68 = .ok (.iaload, 1) := by decide +kernel
theorem dX7_type_69 : decode cX7_type 69 = .ok (.iconst 1, 1) := by decide +kernel
theorem dX7_type_70 : decode cX7_type 70 = .ok (.iadd, 1) := by decide +kernel
theorem dX7_type_71 : decode cX7_type 71 = .ok (.iastore, 1) := by decide +kernel
theorem dX7_type_72 : decode cX7_type 72 = .ok (.aload_n 0, 1) := by decide +kernel
theorem dX7_type_73 : decode cX7_type 73 = .ok (.getfield 25, 3) := by decide +kernel
theorem dX7_type_76 : decode cX7_type 76 = .ok (.iload_n 1, 1) := by decide +kernel
theorem dX7_type_77 : decode cX7_type 77 = .ok (.iaload, 1) := by decide +kernel
theorem dX7_type_78 : decode cX7_type 78 = .ok (.ireturn, 1) := by decide +kernel
theorem dX7_wipe_0 : decode cX7_wipe 0 = .ok (.iload_n 1, 1) := by decide +kernel
theorem dX7_wipe_1 : decode cX7_wipe 1 = .ok (.invokestatic 107, 3) := by decide +kernel
theorem dX7_wipe_4 : decode cX7_wipe 4 = .ok (.ifCond .ne 6, 3) := by decide +kernel
theorem dX7_wipe_7 : decode cX7_wipe 7 = .ok (.bipush (-2), 2) := by decide +kernel
theorem dX7_wipe_9 : decode cX7_wipe 9 = .ok (.ireturn, 1) := by decide +kernel
theorem dX7_wipe_10 : decode cX7_wipe 10 = .ok (.aload_n 0, 1) := by decide +kernel
theorem dX7_wipe_11 : decode cX7_wipe 11 = .ok (.getfield 25, 3) := by decide +kernel
theorem dX7_wipe_14 : decode cX7_wipe 14 = .ok (.iload_n 1, 1) := by decide +kernel
theorem dX7_wipe_15 : decode cX7_wipe 15 = .ok (.iaload, 1) := by decide +kernel
theorem dX7_wipe_16 : decode cX7_wipe 16 = .ok (.istore_n 2, 1) := by decide +kernel
theorem dX7_wipe_17 : decode cX7_wipe 17 = .ok (.aload_n 0, 1) := by decide +kernel
theorem dX7_wipe_18 : decode cX7_wipe 18 = .ok (.getfield 25, 3) := by decide +kernel
theorem dX7_wipe_21 : decode cX7_wipe 21 = .ok (.iload_n 1, 1) := by decide +kernel
theorem dX7_wipe_22 : decode cX7_wipe 22 = .ok (.iconst 0, 1) := by decide +kernel
theorem dX7_wipe_23 : decode cX7_wipe 23 = .ok (.iastore, 1) := by decide +kernel
theorem dX7_wipe_24 : decode cX7_wipe 24 = .ok (.iload_n 2, 1) := by decide +kernel
theorem dX7_wipe_25 : decode cX7_wipe 25 = .ok (.ireturn, 1) := by decide +kernel
theorem dX7_undo_0 : decode cX7_undo 0 = .ok (.iload_n 1, 1) := by decide +kernel
theorem dX7_undo_1 : decode cX7_undo 1 = .ok (.invokestatic 107, 3) := by decide +kernel
theorem dX7_undo_4 : decode cX7_undo 4 = .ok (.ifCond .ne 6, 3) := by decide +kernel
theorem dX7_undo_7 : decode cX7_undo 7 = .ok (.bipush (-2), 2) := by decide +kernel
theorem dX7_undo_9 : decode cX7_undo 9 = .ok (.ireturn, 1) := by decide +kernel
theorem dX7_undo_10 : decode cX7_undo 10 = .ok (.aload_n 0, 1) := by decide +kernel
theorem dX7_undo_11 : decode cX7_undo 11 = .ok (.getfield 25, 3) := by decide +kernel
theorem dX7_undo_14 : decode cX7_undo 14 = .ok (.iload_n 1, 1) := by decide +kernel
theorem dX7_undo_15 : decode cX7_undo 15 = .ok (.iaload, 1) := by decide +kernel
theorem dX7_undo_16 : decode cX7_undo 16 = .ok (.ifCond .ne 6, 3) := by decide +kernel
theorem dX7_undo_19 : decode cX7_undo 19 = .ok (.bipush (-3), 2) := by decide +kernel
theorem dX7_undo_21 : decode cX7_undo 21 = .ok (.ireturn, 1) := by decide +kernel
theorem dX7_undo_22 : decode cX7_undo 22 = .ok (.aload_n 0, 1) := by decide +kernel
theorem dX7_undo_23 : decode cX7_undo 23 = .ok (.getfield 25, 3) := by decide +kernel
theorem dX7_undo_26 : decode cX7_undo 26 = .ok (.iload_n 1, 1) := by decide +kernel
theorem dX7_undo_27 : decode cX7_undo 27 = .ok (.dup2, 1) := by decide +kernel
theorem dX7_undo_28 : decode cX7_undo 28 = .ok (.iaload, 1) := by decide +kernel
theorem dX7_undo_29 : decode cX7_undo 29 = .ok (.iconst 1, 1) := by decide +kernel
theorem dX7_undo_30 : decode cX7_undo 30 = .ok (.isub, 1) := by decide +kernel
theorem dX7_undo_31 : decode cX7_undo 31 = .ok (.iastore, 1) := by decide +kernel
theorem dX7_undo_32 : decode cX7_undo 32 = .ok (.aload_n 0, 1) := by decide +kernel
theorem dX7_undo_33 : decode cX7_undo 33 = .ok (.getfield 25, 3) := by decide +kernel
theorem dX7_undo_36 : decode cX7_undo 36 = .ok (.iload_n 1, 1) := by decide +kernel
theorem dX7_undo_37 : decode cX7_undo 37 = .ok (.iaload, 1) := by decide +kernel
theorem dX7_undo_38 : decode cX7_undo 38 = .ok (.ireturn, 1) := by decide +kernel
theorem dX7_sortOf_0 : decode cX7_sortOf 0 = .ok (.iload_n 0, 1) := by decide +kernel
theorem dX7_sortOf_1 : decode cX7_sortOf 1 = .ok (.bipush 115, 2) := by decide +kernel
theorem dX7_sortOf_3 : decode cX7_sortOf 3 = .ok (.if_icmp .ne 7, 3) := by decide +kernel
theorem dX7_sortOf_6 : decode cX7_sortOf 6 = .ok (.iconst 0, 1) := by decide +kernel
theorem dX7_sortOf_7 : decode cX7_sortOf 7 = .ok (.goto 25, 3) := by decide +kernel
theorem dX7_sortOf_10 : decode cX7_sortOf 10 = .ok (.iload_n 0, 1) := by decide +kernel
theorem dX7_sortOf_11 : decode cX7_sortOf 11 = .ok (.bipush 114, 2) := by decide +kernel
theorem dX7_sortOf_13 : decode cX7_sortOf 13 = .ok (.if_icmp .ne 7, 3) := by decide +kernel
theorem dX7_sortOf_16 : decode cX7_sortOf 16 = .ok (.iconst 1, 1) := by decide +kernel
theorem dX7_sortOf_17 : decode cX7_sortOf 17 = .ok (.goto 15, 3) := by decide +kernel
theorem dX7_sortOf_20 : decode cX7_sortOf 20 = .ok (.iload_n 0, 1) := by decide +kernel
theorem dX7_sortOf_21 : decode cX7_sortOf 21 = .ok (.bipush 112, 2) := by decide +kernel
theorem dX7_sortOf_23 : decode cX7_sortOf 23 = .ok (.if_icmp .ne 7, 3) := by decide +kernel
theorem dX7_sortOf_26 : decode cX7_sortOf 26 = .ok (.iconst 2, 1) := by decide +kernel
theorem dX7_sortOf_27 : decode cX7_sortOf 27 = .ok (.goto 5, 3) := by decide +kernel
theorem dX7_sortOf_30 : decode cX7_sortOf 30 = .ok (.bipush (-9), 2) := by decide +kernel
theorem dX7_sortOf_32 : decode cX7_sortOf 32 = .ok (.ireturn, 1) := by decide +kernel
theorem dX7_figureOf_0 : decode cX7_figureOf 0 = .ok (.iload_n 0, 1) := by decide +kernel
theorem dX7_figureOf_1 : decode cX7_figureOf 1 = .ok (.i2l, 1) := by decide +kernel
theorem dX7_figureOf_2 : decode cX7_figureOf 2 = .ok (.bipush 48, 2) := by decide +kernel
theorem dX7_figureOf_4 : decode cX7_figureOf 4 = .ok (.iload_n 1, 1) := by decide +kernel
theorem dX7_figureOf_5 : decode cX7_figureOf 5 = .ok (.iadd, 1) := by decide +kernel
theorem dX7_figureOf_6 : decode cX7_figureOf 6 = .ok (.i2l, 1) := by decide +kernel
theorem dX7_figureOf_7 : decode cX7_figureOf 7 = .ok (.bipush 48, 2) := by decide +kernel
theorem dX7_figureOf_9 : decode cX7_figureOf 9 = .ok (.iload_n 2, 1) := by decide +kernel
theorem dX7_figureOf_10 : decode cX7_figureOf 10 = .ok (.iadd, 1) := by decide +kernel
theorem dX7_figureOf_11 : decode cX7_figureOf 11 = .ok (.i2l, 1) := by decide +kernel
theorem dX7_figureOf_12 : decode cX7_figureOf 12 = .ok (.invokestatic 79, 3) := by decide +kernel
theorem dX7_figureOf_15 : decode cX7_figureOf 15 = .ok (.ifCond .eq 10, 3) := by decide +kernel
theorem dX7_figureOf_18 : decode cX7_figureOf 18 = .ok (.iload_n 0, 1) := by decide +kernel
theorem dX7_figureOf_19 : decode cX7_figureOf 19 = .ok (.bipush 48, 2) := by decide +kernel
theorem dX7_figureOf_21 : decode cX7_figureOf 21 = .ok (.isub, 1) := by decide +kernel
theorem dX7_figureOf_22 : decode cX7_figureOf 22 = .ok (.goto 5, 3) := by decide +kernel
theorem dX7_figureOf_25 : decode cX7_figureOf 25 = .ok (.bipush (-9), 2) := by decide +kernel
theorem dX7_figureOf_27 : decode cX7_figureOf 27 = .ok (.ireturn, 1) := by decide +kernel
theorem dX7_tellsOf_0 : decode cX7_tellsOf 0 = .ok (.iload_n 1, 1) := by decide +kernel
theorem dX7_tellsOf_1 : decode cX7_tellsOf 1 = .ok (.ifCond .ne 23, 3) := by decide +kernel
theorem dX7_tellsOf_4 : decode cX7_tellsOf 4 = .ok (.iload_n 0, 1) := by decide +kernel
theorem dX7_tellsOf_5 : decode cX7_tellsOf 5 = .ok (.iconst 1, 1) := by decide +kernel
theorem dX7_tellsOf_6 : decode cX7_tellsOf 6 = .ok (.if_icmp .ne 13, 3) := by decide +kernel
theorem dX7_tellsOf_9 : decode cX7_tellsOf 9 = .ok (.iload_n 2, 1) := by decide +kernel
theorem dX7_tellsOf_10 : decode cX7_tellsOf 10 = .ok (.bipush 97, 2) := by decide +kernel
theorem dX7_tellsOf_12 : decode cX7_tellsOf 12 = .ok (.if_icmp .ne 7, 3) := by decide +kernel
theorem dX7_tellsOf_15 : decode cX7_tellsOf 15 = .ok (.iconst 3, 1) := by decide +kernel
theorem dX7_tellsOf_16 : decode cX7_tellsOf 16 = .ok (.goto 7, 3) := by decide +kernel
theorem dX7_tellsOf_19 : decode cX7_tellsOf 19 = .ok (.iload_n 2, 1) := by decide +kernel
theorem dX7_tellsOf_20 : decode cX7_tellsOf 20 = .ok (.invokestatic 112, 3) := by decide +kernel
theorem dX7_tellsOf_23 : decode cX7_tellsOf 23 = .ok (.ireturn, 1) := by decide +kernel
theorem dX7_tellsOf_24 : decode cX7_tellsOf 24 = .ok (.iload_n 1, 1) := by decide +kernel
theorem dX7_tellsOf_25 : decode cX7_tellsOf 25 = .ok (.iconst 3, 1) := by decide +kernel
theorem dX7_tellsOf_26 : decode cX7_tellsOf 26 = .ok (.iload_n 0, 1) := by decide +kernel
theorem dX7_tellsOf_27 : decode cX7_tellsOf 27 = .ok (.iadd, 1) := by decide +kernel
theorem dX7_tellsOf_28 : decode cX7_tellsOf 28 = .ok (.if_icmp .ne 16, 3) := by decide +kernel
theorem dX7_tellsOf_31 : decode cX7_tellsOf 31 = .ok (.iload_n 2, 1) := by decide +kernel
theorem dX7_tellsOf_32 : decode cX7_tellsOf 32 = .ok (.bipush 59, 2) := by decide +kernel
theorem dX7_tellsOf_34 : decode cX7_tellsOf 34 = .ok (.if_icmp .ne 7, 3) := by decide +kernel
theorem dX7_tellsOf_37 : decode cX7_tellsOf 37 = .ok (.iconst 0, 1) := by decide +kernel
theorem dX7_tellsOf_38 : decode cX7_tellsOf 38 = .ok (.goto 5, 3) := by decide +kernel
theorem dX7_tellsOf_41 : decode cX7_tellsOf 41 = .ok (.bipush (-9), 2) := by decide +kernel
theorem dX7_tellsOf_43 : decode cX7_tellsOf 43 = .ok (.ireturn, 1) := by decide +kernel
theorem dX7_tellsOf_44 : decode cX7_tellsOf 44 = .ok (.iload_n 1, 1) := by decide +kernel
theorem dX7_tellsOf_45 : decode cX7_tellsOf 45 = .ok (.iconst 1, 1) := by decide +kernel
theorem dX7_tellsOf_46 : decode cX7_tellsOf 46 = .ok (.if_icmp .ne 12, 3) := by decide +kernel
theorem dX7_tellsOf_49 : decode cX7_tellsOf 49 = .ok (.iload_n 2, 1) := by decide +kernel
theorem dX7_tellsOf_50 : decode cX7_tellsOf 50 = .ok (.iconst 0, 1) := by decide +kernel
theorem dX7_tellsOf_51 : decode cX7_tellsOf 51 = .ok (.iconst 2, 1) := by decide +kernel
theorem dX7_tellsOf_52 : decode cX7_tellsOf 52 = .ok (.invokestatic 115, 3) := by decide +kernel
theorem dX7_tellsOf_55 : decode cX7_tellsOf 55 = .ok (.goto 25, 3) := by decide +kernel
theorem dX7_tellsOf_58 : decode cX7_tellsOf 58 = .ok (.iload_n 1, 1) := by decide +kernel
theorem dX7_tellsOf_59 : decode cX7_tellsOf 59 = .ok (.iconst 2, 1) := by decide +kernel
theorem dX7_tellsOf_60 : decode cX7_tellsOf 60 = .ok (.if_icmp .ne 13, 3) := by decide +kernel
theorem dX7_tellsOf_63 : decode cX7_tellsOf 63 = .ok (.iload_n 2, 1) := by decide +kernel
theorem dX7_tellsOf_64 : decode cX7_tellsOf 64 = .ok (.iconst 0, 1) := by decide +kernel
theorem dX7_tellsOf_65 : decode cX7_tellsOf 65 = .ok (.bipush 9, 2) := by decide +kernel
theorem dX7_tellsOf_67 : decode cX7_tellsOf 67 = .ok (.invokestatic 115, 3) := by decide +kernel
theorem dX7_tellsOf_70 : decode cX7_tellsOf 70 = .ok (.goto 10, 3) := by decide +kernel
theorem dX7_tellsOf_73 : decode cX7_tellsOf 73 = .ok (.iload_n 2, 1) := by decide +kernel
theorem dX7_tellsOf_74 : decode cX7_tellsOf 74 = .ok (.iconst 1, 1) := by decide +kernel
theorem dX7_tellsOf_75 : decode cX7_tellsOf 75 = .ok (.bipush 9, 2) := by decide +kernel
theorem dX7_tellsOf_77 : decode cX7_tellsOf 77 = .ok (.invokestatic 115, 3) := by decide +kernel
theorem dX7_tellsOf_80 : decode cX7_tellsOf 80 = .ok (.ireturn, 1) := by decide +kernel
theorem dX7_readsHeads_0 : decode cX7_readsHeads 0 = .ok (.aload_n 0, 1) := by decide +kernel
theorem dX7_readsHeads_1 : decode cX7_readsHeads 1 = .ok (.iconst 0, 1) := by decide +kernel
theorem dX7_readsHeads_2 : decode cX7_readsHeads 2 = .ok (.putfield 118, 3) := by decide +kernel
theorem dX7_readsHeads_5 : decode cX7_readsHeads 5 = .ok (.aload_n 0, 1) := by decide +kernel
theorem dX7_readsHeads_6 : decode cX7_readsHeads 6 = .ok (.getfield 25, 3) := by decide +kernel
theorem dX7_readsHeads_9 : decode cX7_readsHeads 9 = .ok (.iconst 0, 1) := by decide +kernel
theorem dX7_readsHeads_10 : decode cX7_readsHeads 10 = .ok (.iaload, 1) := by decide +kernel
theorem dX7_readsHeads_11 : decode cX7_readsHeads 11 = .ok (.istore_n 1, 1) := by decide +kernel
theorem dX7_readsHeads_12 : decode cX7_readsHeads 12 = .ok (.iconst 0, 1) := by decide +kernel
theorem dX7_readsHeads_13 : decode cX7_readsHeads 13 = .ok (.istore_n 2, 1) := by decide +kernel
theorem dX7_readsHeads_14 : decode cX7_readsHeads 14 = .ok (.iload_n 2, 1) := by decide +kernel
theorem dX7_readsHeads_15 : decode cX7_readsHeads 15 = .ok (.iload_n 1, 1) := by decide +kernel
theorem dX7_readsHeads_16 : decode cX7_readsHeads 16 = .ok (.if_icmp .ge 114, 3) := by decide +kernel
theorem dX7_readsHeads_19 : decode cX7_readsHeads 19 = .ok (.iload_n 2, 1) := by decide +kernel
theorem dX7_readsHeads_20 : decode cX7_readsHeads 20 = .ok (.iconst 4, 1) := by decide +kernel
theorem dX7_readsHeads_21 : decode cX7_readsHeads 21 = .ok (.irem, 1) := by decide +kernel
theorem dX7_readsHeads_22 : decode cX7_readsHeads 22 = .ok (.istore_n 3, 1) := by decide +kernel
theorem dX7_readsHeads_23 : decode cX7_readsHeads 23 = .ok (.iconst 0, 1) := by decide +kernel
theorem dX7_readsHeads_24 : decode cX7_readsHeads 24 = .ok (.iload_n 3, 1) := by decide +kernel
theorem dX7_readsHeads_25 : decode cX7_readsHeads 25 = .ok (.aload_n 0, 1) := by decide +kernel
theorem dX7_readsHeads_26 : decode cX7_readsHeads 26 = .ok (.getfield 22, 3) := by decide +kernel
theorem dX7_readsHeads_29 : decode cX7_readsHeads 29 = .ok (.iload_n 2, 1) := by decide +kernel
theorem dX7_readsHeads_30 : decode cX7_readsHeads 30 = .ok (.iaload, 1) := by decide +kernel
theorem dX7_readsHeads_31 : decode cX7_readsHeads 31 = .ok (.invokestatic 121, 3) := by decide +kernel
theorem dX7_readsHeads_34 : decode cX7_readsHeads 34 = .ok (.istore 4, 2) := by decide +kernel
theorem dX7_readsHeads_36 : decode cX7_readsHeads 36 = .ok (.iload 4, 2) := by decide +kernel
theorem dX7_readsHeads_38 : decode cX7_readsHeads 38 = .ok (.bipush (-9), 2) := by decide +kernel
theorem dX7_readsHeads_40 : decode cX7_readsHeads 40 = .ok (.if_icmp .ne 10, 3) := by decide +kernel
theorem dX7_readsHeads_43 : decode cX7_readsHeads 43 = .ok (.aload_n 0, 1) := by decide +kernel
theorem dX7_readsHeads_44 : decode cX7_readsHeads 44 = .ok (.iconst 0, 1) := by decide +kernel
theorem dX7_readsHeads_45 : decode cX7_readsHeads 45 = .ok (.putfield 118, 3) := by decide +kernel
theorem dX7_readsHeads_48 : decode cX7_readsHeads 48 = .ok (.iload_n 2, 1) := by decide +kernel
theorem dX7_readsHeads_49 : decode cX7_readsHeads 49 = .ok (.ireturn, 1) := by decide +kernel
theorem dX7_readsHeads_50 : decode cX7_readsHeads 50 = .ok (.iconst 2, 1) := by decide +kernel
theorem dX7_readsHeads_51 : decode cX7_readsHeads 51 = .ok (.iload_n 2, 1) := by decide +kernel
theorem dX7_readsHeads_52 : decode cX7_readsHeads 52 = .ok (.iconst 4, 1) := by decide +kernel
theorem dX7_readsHeads_53 : decode cX7_readsHeads 53 = .ok (.idiv, 1) := by decide +kernel
theorem dX7_readsHeads_54 : decode cX7_readsHeads 54 = .ok (.imul, 1) := by decide +kernel
theorem dX7_readsHeads_55 : decode cX7_readsHeads 55 = .ok (.istore 5, 2) := by decide +kernel
theorem dX7_readsHeads_57 : decode cX7_readsHeads 57 = .ok (.iload_n 3, 1) := by decide +kernel
theorem dX7_readsHeads_58 : decode cX7_readsHeads 58 = .ok (.ifCond .ne 15, 3) := by decide +kernel
theorem dX7_readsHeads_61 : decode cX7_readsHeads 61 = .ok (.aload_n 0, 1) := by decide +kernel
theorem dX7_readsHeads_62 : decode cX7_readsHeads 62 = .ok (.getfield 28, 3) := by decide +kernel
theorem dX7_readsHeads_65 : decode cX7_readsHeads 65 = .ok (.iload 5, 2) := by decide +kernel
theorem dX7_readsHeads_67 : decode cX7_readsHeads 67 = .ok (.iload 4, 2) := by decide +kernel
theorem dX7_readsHeads_69 : decode cX7_readsHeads 69 = .ok (.iastore, 1) := by decide +kernel
theorem dX7_readsHeads_70 : decode cX7_readsHeads 70 = .ok (.goto 54, 3) := by decide +kernel
theorem dX7_readsHeads_73 : decode cX7_readsHeads 73 = .ok (.iload_n 3, 1) := by decide +kernel
theorem dX7_readsHeads_74 : decode cX7_readsHeads 74 = .ok (.iconst 1, 1) := by decide +kernel
theorem dX7_readsHeads_75 : decode cX7_readsHeads 75 = .ok (.if_icmp .ne 20, 3) := by decide +kernel
theorem dX7_readsHeads_78 : decode cX7_readsHeads 78 = .ok (.aload_n 0, 1) := by decide +kernel
theorem dX7_readsHeads_79 : decode cX7_readsHeads 79 = .ok (.getfield 28, 3) := by decide +kernel
theorem dX7_readsHeads_82 : decode cX7_readsHeads 82 = .ok (.iload 5, 2) := by decide +kernel
theorem dX7_readsHeads_84 : decode cX7_readsHeads 84 = .ok (.iconst 1, 1) := by decide +kernel
theorem dX7_readsHeads_85 : decode cX7_readsHeads 85 = .ok (.iadd, 1) := by decide +kernel
theorem dX7_readsHeads_86 : decode cX7_readsHeads 86 = .ok (.bipush 10, 2) := by decide +kernel
theorem dX7_readsHeads_88 : decode cX7_readsHeads 88 = .ok (.iload 4, 2) := by decide +kernel
theorem dX7_readsHeads_90 : decode cX7_readsHeads 90 = .ok (.imul, 1) := by decide +kernel
theorem dX7_readsHeads_91 : decode cX7_readsHeads 91 = .ok (.iastore, 1) := by decide +kernel
theorem dX7_readsHeads_92 : decode cX7_readsHeads 92 = .ok (.goto 32, 3) := by decide +kernel
theorem dX7_readsHeads_95 : decode cX7_readsHeads 95 = .ok (.iload_n 3, 1) := by decide +kernel
theorem dX7_readsHeads_96 : decode cX7_readsHeads 96 = .ok (.iconst 2, 1) := by decide +kernel
theorem dX7_readsHeads_97 : decode cX7_readsHeads 97 = .ok (.if_icmp .ne 27, 3) := by decide +kernel
theorem dX7_readsHeads_100 : decode cX7_readsHeads 100 = .ok (.aload_n 0, 1) := by decide +kernel
theorem dX7_readsHeads_101 : decode cX7_readsHeads 101 = .ok (.getfield 28, 3) := by decide +kernel
theorem dX7_readsHeads_104 : decode cX7_readsHeads 104 = .ok (.iload 5, 2) := by decide +kernel
theorem dX7_readsHeads_106 : decode cX7_readsHeads 106 = .ok (.iconst 1, 1) := by decide +kernel
theorem dX7_readsHeads_107 : decode cX7_readsHeads 107 = .ok (.iadd, 1) := by decide +kernel
theorem dX7_readsHeads_108 : decode cX7_readsHeads 108 = .ok (.dup2, 1) := by decide +kernel
theorem dX7_readsHeads_109 : decode cX7_readsHeads 109 = .ok (.iaload, 1) := by decide +kernel
theorem dX7_readsHeads_110 : decode cX7_readsHeads 110 = .ok (.iload 4, 2) := by decide +kernel
theorem dX7_readsHeads_112 : decode cX7_readsHeads 112 = .ok (.iadd, 1) := by decide +kernel
theorem dX7_readsHeads_113 : decode cX7_readsHeads 113 = .ok (.iastore, 1) := by decide +kernel
theorem dX7_readsHeads_114 : decode cX7_readsHeads 114 = .ok (.aload_n 0, 1) := by decide +kernel
theorem dX7_readsHeads_115 : decode cX7_readsHeads 115 = .ok (.dup, 1) := by decide +kernel
theorem dX7_readsHeads_116 : decode cX7_readsHeads 116 = .ok (.getfield 118, 3) := by decide +kernel
theorem dX7_readsHeads_119 : decode cX7_readsHeads 119 = .ok (.iconst 1, 1) := by decide +kernel
theorem dX7_readsHeads_120 : decode cX7_readsHeads 120 = .ok (.iadd, 1) := by decide +kernel
theorem dX7_readsHeads_121 : decode cX7_readsHeads 121 = .ok (.putfield 118, 3) := by decide +kernel
theorem dX7_readsHeads_124 : decode cX7_readsHeads 124 = .ok (.iinc 2 1, 3) := by decide +kernel
theorem dX7_readsHeads_127 : decode cX7_readsHeads 127 = .ok (.goto (-113), 3) := by decide +kernel
theorem dX7_readsHeads_130 : decode cX7_readsHeads 130 = .ok (.iload_n 1, 1) := by decide +kernel
theorem dX7_readsHeads_131 : decode cX7_readsHeads 131 = .ok (.ifCond .le 17, 3) := by decide +kernel
theorem dX7_readsHeads_134 : decode cX7_readsHeads 134 = .ok (.iload_n 1, 1) := by decide +kernel
theorem dX7_readsHeads_135 : decode cX7_readsHeads 135 = .ok (.iconst 4, 1) := by decide +kernel
theorem dX7_readsHeads_136 : decode cX7_readsHeads 136 = .ok (.irem, 1) := by decide +kernel
theorem dX7_readsHeads_137 : decode cX7_readsHeads 137 = .ok (.iconst 3, 1) := by decide +kernel
theorem dX7_readsHeads_138 : decode cX7_readsHeads 138 = .ok (.if_icmp .eq 10, 3) := by decide +kernel
theorem dX7_readsHeads_141 : decode cX7_readsHeads 141 = .ok (.aload_n 0, 1) := by decide +kernel
theorem dX7_readsHeads_142 : decode cX7_readsHeads 142 = .ok (.iconst 0, 1) := by decide +kernel
theorem dX7_readsHeads_143 : decode cX7_readsHeads 143 = .ok (.putfield 118, 3) := by decide +kernel
theorem dX7_readsHeads_146 : decode cX7_readsHeads 146 = .ok (.iload_n 1, 1) := by decide +kernel
theorem dX7_readsHeads_147 : decode cX7_readsHeads 147 = .ok (.ireturn, 1) := by decide +kernel
theorem dX7_readsHeads_148 : decode cX7_readsHeads 148 = .ok (.iconst (-1), 1) := by decide +kernel
theorem dX7_readsHeads_149 : decode cX7_readsHeads 149 = .ok (.ireturn, 1) := by decide +kernel
theorem dX7_readsCouples_0 : decode cX7_readsCouples 0 = .ok (.aload_n 0, 1) := by decide +kernel
theorem dX7_readsCouples_1 : decode cX7_readsCouples 1 = .ok (.iconst 0, 1) := by decide +kernel
theorem dX7_readsCouples_2 : decode cX7_readsCouples 2 = .ok (.putfield 124, 3) := by decide +kernel
theorem dX7_readsCouples_5 : decode cX7_readsCouples 5 = .ok (.aload_n 0, 1) := by decide +kernel
theorem dX7_readsCouples_6 : decode cX7_readsCouples 6 = .ok (.getfield 25, 3) := by decide +kernel
theorem dX7_readsCouples_9 : decode cX7_readsCouples 9 = .ok (.iconst 1, 1) := by decide +kernel
theorem dX7_readsCouples_10 : decode cX7_readsCouples 10 = .ok (.iaload, 1) := by decide +kernel
theorem dX7_readsCouples_11 : decode cX7_readsCouples 11 = .ok (.istore_n 1, 1) := by decide +kernel
theorem dX7_readsCouples_12 : decode cX7_readsCouples 12 = .ok (.iconst 0, 1) := by decide +kernel
theorem dX7_readsCouples_13 : decode cX7_readsCouples 13 = .ok (.istore_n 2, 1) := by decide +kernel
theorem dX7_readsCouples_14 : decode cX7_readsCouples 14 = .ok (.iload_n 2, 1) := by decide +kernel
theorem dX7_readsCouples_15 : decode cX7_readsCouples 15 = .ok (.iload_n 1, 1) := by decide +kernel
theorem dX7_readsCouples_16 : decode cX7_readsCouples 16 = .ok (.if_icmp .ge 136, 3) := by decide +kernel
theorem dX7_readsCouples_19 : decode cX7_readsCouples 19 = .ok (.iload_n 2, 1) := by decide +kernel
theorem dX7_readsCouples_20 : decode cX7_readsCouples 20 = .ok (.iconst 5, 1) := by decide +kernel
theorem dX7_readsCouples_21 : decode cX7_readsCouples 21 = .ok (.irem, 1) := by decide +kernel
theorem dX7_readsCouples_22 : decode cX7_readsCouples 22 = .ok (.istore_n 3, 1) := by decide +kernel
theorem dX7_readsCouples_23 : decode cX7_readsCouples 23 = .ok (.iconst 1, 1) := by decide +kernel
theorem dX7_readsCouples_24 : decode cX7_readsCouples 24 = .ok (.iload_n 3, 1) := by decide +kernel
theorem dX7_readsCouples_25 : decode cX7_readsCouples 25 = .ok (.aload_n 0, 1) := by decide +kernel
theorem dX7_readsCouples_26 : decode cX7_readsCouples 26 = .ok (.getfield 22, 3) := by decide +kernel
theorem dX7_readsCouples_29 : decode cX7_readsCouples 29 = .ok (.bipush 40, 2) := by decide +kernel
theorem dX7_readsCouples_31 : decode cX7_readsCouples 31 = .ok (.iload_n 2, 1) := by decide +kernel
theorem dX7_readsCouples_32 : decode cX7_readsCouples 32 = .ok (.iadd, 1) := by decide +kernel
theorem dX7_readsCouples_33 : decode cX7_readsCouples 33 = .ok (.iaload, 1) := by decide +kernel
theorem dX7_readsCouples_34 : decode cX7_readsCouples 34 = .ok (.invokestatic 121, 3) := by decide +kernel
theorem dX7_readsCouples_37 : decode cX7_readsCouples 37 = .ok (.istore 4, 2) := by decide +kernel
theorem dX7_readsCouples_39 : decode cX7_readsCouples 39 = .ok (.iload 4, 2) := by decide +kernel
theorem dX7_readsCouples_41 : decode cX7_readsCouples 41 = .ok (.bipush (-9), 2) := by decide +kernel
theorem dX7_readsCouples_43 : decode cX7_readsCouples 43 = .ok (.if_icmp .ne 10, 3) := by decide +kernel
theorem dX7_readsCouples_46 : decode cX7_readsCouples 46 = .ok (.aload_n 0, 1) := by decide +kernel
theorem dX7_readsCouples_47 : decode cX7_readsCouples 47 = .ok (.iconst 0, 1) := by decide +kernel
theorem dX7_readsCouples_48 : decode cX7_readsCouples 48 = .ok (.putfield 124, 3) := by decide +kernel
theorem dX7_readsCouples_51 : decode cX7_readsCouples 51 = .ok (.iload_n 2, 1) := by decide +kernel
theorem dX7_readsCouples_52 : decode cX7_readsCouples 52 = .ok (.ireturn, 1) := by decide +kernel
theorem dX7_readsCouples_53 : decode cX7_readsCouples 53 = .ok (.iconst 3, 1) := by decide +kernel
theorem dX7_readsCouples_54 : decode cX7_readsCouples 54 = .ok (.iload_n 2, 1) := by decide +kernel
theorem dX7_readsCouples_55 : decode cX7_readsCouples 55 = .ok (.iconst 5, 1) := by decide +kernel
theorem dX7_readsCouples_56 : decode cX7_readsCouples 56 = .ok (.idiv, 1) := by decide +kernel
theorem dX7_readsCouples_57 : decode cX7_readsCouples 57 = .ok (.imul, 1) := by decide +kernel
theorem dX7_readsCouples_58 : decode cX7_readsCouples 58 = .ok (.istore 5, 2) := by decide +kernel
theorem dX7_readsCouples_60 : decode cX7_readsCouples 60 = .ok (.iload_n 3, 1) := by decide +kernel
theorem dX7_readsCouples_61 : decode cX7_readsCouples 61 = .ok (.ifCond .ne 15, 3) := by decide +kernel
theorem dX7_readsCouples_64 : decode cX7_readsCouples 64 = .ok (.aload_n 0, 1) := by decide +kernel
theorem dX7_readsCouples_65 : decode cX7_readsCouples 65 = .ok (.getfield 31, 3) := by decide +kernel
theorem dX7_readsCouples_68 : decode cX7_readsCouples 68 = .ok (.iload 5, 2) := by decide +kernel
theorem dX7_readsCouples_70 : decode cX7_readsCouples 70 = .ok (.iload 4, 2) := by decide +kernel
theorem dX7_readsCouples_72 : decode cX7_readsCouples 72 = .ok (.iastore, 1) := by decide +kernel
theorem dX7_readsCouples_73 : decode cX7_readsCouples 73 = .ok (.goto 73, 3) := by decide +kernel
theorem dX7_readsCouples_76 : decode cX7_readsCouples 76 = .ok (.iload_n 3, 1) := by decide +kernel
theorem dX7_readsCouples_77 : decode cX7_readsCouples 77 = .ok (.iconst 1, 1) := by decide +kernel
theorem dX7_readsCouples_78 : decode cX7_readsCouples 78 = .ok (.if_icmp .ne 20, 3) := by decide +kernel
theorem dX7_readsCouples_81 : decode cX7_readsCouples 81 = .ok (.aload_n 0, 1) := by decide +kernel
theorem dX7_readsCouples_82 : decode cX7_readsCouples 82 = .ok (.getfield 31, 3) := by decide +kernel
theorem dX7_readsCouples_85 : decode cX7_readsCouples 85 = .ok (.iload 5, 2) := by decide +kernel
theorem dX7_readsCouples_87 : decode cX7_readsCouples 87 = .ok (.iconst 1, 1) := by decide +kernel
theorem dX7_readsCouples_88 : decode cX7_readsCouples 88 = .ok (.iadd, 1) := by decide +kernel
theorem dX7_readsCouples_89 : decode cX7_readsCouples 89 = .ok (.bipush 10, 2) := by decide +kernel
theorem dX7_readsCouples_91 : decode cX7_readsCouples 91 = .ok (.iload 4, 2) := by decide +kernel
theorem dX7_readsCouples_93 : decode cX7_readsCouples 93 = .ok (.imul, 1) := by decide +kernel
theorem dX7_readsCouples_94 : decode cX7_readsCouples 94 = .ok (.iastore, 1) := by decide +kernel
theorem dX7_readsCouples_95 : decode cX7_readsCouples 95 = .ok (.goto 51, 3) := by decide +kernel
theorem dX7_readsCouples_98 : decode cX7_readsCouples 98 = .ok (.iload_n 3, 1) := by decide +kernel
theorem dX7_readsCouples_99 : decode cX7_readsCouples 99 = .ok (.iconst 2, 1) := by decide +kernel
theorem dX7_readsCouples_100 : decode cX7_readsCouples 100 = .ok (.if_icmp .ne 20, 3) := by decide +kernel
theorem dX7_readsCouples_103 : decode cX7_readsCouples 103 = .ok (.aload_n 0, 1) := by decide +kernel
theorem dX7_readsCouples_104 : decode cX7_readsCouples 104 = .ok (.getfield 31, 3) := by decide +kernel
theorem dX7_readsCouples_107 : decode cX7_readsCouples 107 = .ok (.iload 5, 2) := by decide +kernel
theorem dX7_readsCouples_109 : decode cX7_readsCouples 109 = .ok (.iconst 1, 1) := by decide +kernel
theorem dX7_readsCouples_110 : decode cX7_readsCouples 110 = .ok (.iadd, 1) := by decide +kernel
theorem dX7_readsCouples_111 : decode cX7_readsCouples 111 = .ok (.dup2, 1) := by decide +kernel
theorem dX7_readsCouples_112 : decode cX7_readsCouples 112 = .ok (.iaload, 1) := by decide +kernel
theorem dX7_readsCouples_113 : decode cX7_readsCouples 113 = .ok (.iload 4, 2) := by decide +kernel
theorem dX7_readsCouples_115 : decode cX7_readsCouples 115 = .ok (.iadd, 1) := by decide +kernel
theorem dX7_readsCouples_116 : decode cX7_readsCouples 116 = .ok (.iastore, 1) := by decide +kernel
theorem dX7_readsCouples_117 : decode cX7_readsCouples 117 = .ok (.goto 29, 3) := by decide +kernel
theorem dX7_readsCouples_120 : decode cX7_readsCouples 120 = .ok (.iload_n 3, 1) := by decide +kernel
theorem dX7_readsCouples_121 : decode cX7_readsCouples 121 = .ok (.iconst 3, 1) := by decide +kernel
theorem dX7_readsCouples_122 : decode cX7_readsCouples 122 = .ok (.if_icmp .ne 24, 3) := by decide +kernel
theorem dX7_readsCouples_125 : decode cX7_readsCouples 125 = .ok (.aload_n 0, 1) := by decide +kernel
theorem dX7_readsCouples_126 : decode cX7_readsCouples 126 = .ok (.getfield 31, 3) := by decide +kernel
theorem dX7_readsCouples_129 : decode cX7_readsCouples 129 = .ok (.iload 5, 2) := by decide +kernel
theorem dX7_readsCouples_131 : decode cX7_readsCouples 131 = .ok (.iconst 2, 1) := by decide +kernel
theorem dX7_readsCouples_132 : decode cX7_readsCouples 132 = .ok (.iadd, 1) := by decide +kernel
theorem dX7_readsCouples_133 : decode cX7_readsCouples 133 = .ok (.iload 4, 2) := by decide +kernel
theorem dX7_readsCouples_135 : decode cX7_readsCouples 135 = .ok (.iastore, 1) := by decide +kernel
theorem dX7_readsCouples_136 : decode cX7_readsCouples 136 = .ok (.aload_n 0, 1) := by decide +kernel
theorem dX7_readsCouples_137 : decode cX7_readsCouples 137 = .ok (.dup, 1) := by decide +kernel
theorem dX7_readsCouples_138 : decode cX7_readsCouples 138 = .ok (.getfield 124, 3) := by decide +kernel
theorem dX7_readsCouples_141 : decode cX7_readsCouples 141 = .ok (.iconst 1, 1) := by decide +kernel
theorem dX7_readsCouples_142 : decode cX7_readsCouples 142 = .ok (.iadd, 1) := by decide +kernel
theorem dX7_readsCouples_143 : decode cX7_readsCouples 143 = .ok (.putfield 124, 3) := by decide +kernel
theorem dX7_readsCouples_146 : decode cX7_readsCouples 146 = .ok (.iinc 2 1, 3) := by decide +kernel
theorem dX7_readsCouples_149 : decode cX7_readsCouples 149 = .ok (.goto (-135), 3) := by decide +kernel
theorem dX7_readsCouples_152 : decode cX7_readsCouples 152 = .ok (.iload_n 1, 1) := by decide +kernel
theorem dX7_readsCouples_153 : decode cX7_readsCouples 153 = .ok (.ifCond .le 17, 3) := by decide +kernel
theorem dX7_readsCouples_156 : decode cX7_readsCouples 156 = .ok (.iload_n 1, 1) := by decide +kernel
theorem dX7_readsCouples_157 : decode cX7_readsCouples 157 = .ok (.iconst 5, 1) := by decide +kernel
theorem dX7_readsCouples_158 : decode cX7_readsCouples 158 = .ok (.irem, 1) := by decide +kernel
theorem dX7_readsCouples_159 : decode cX7_readsCouples 159 = .ok (.iconst 4, 1) := by decide +kernel
theorem dX7_readsCouples_160 : decode cX7_readsCouples 160 = .ok (.if_icmp .eq 10, 3) := by decide +kernel
theorem dX7_readsCouples_163 : decode cX7_readsCouples 163 = .ok (.aload_n 0, 1) := by decide +kernel
theorem dX7_readsCouples_164 : decode cX7_readsCouples 164 = .ok (.iconst 0, 1) := by decide +kernel
theorem dX7_readsCouples_165 : decode cX7_readsCouples 165 = .ok (.putfield 124, 3) := by decide +kernel
theorem dX7_readsCouples_168 : decode cX7_readsCouples 168 = .ok (.iload_n 1, 1) := by decide +kernel
theorem dX7_readsCouples_169 : decode cX7_readsCouples 169 = .ok (.ireturn, 1) := by decide +kernel
theorem dX7_readsCouples_170 : decode cX7_readsCouples 170 = .ok (.iconst (-1), 1) := by decide +kernel
theorem dX7_readsCouples_171 : decode cX7_readsCouples 171 = .ok (.ireturn, 1) := by decide +kernel
theorem dX7_fault_0 : decode cX7_fault 0 = .ok (.iload_n 1, 1) := by decide +kernel
theorem dX7_fault_1 : decode cX7_fault 1 = .ok (.invokestatic 107, 3) := by decide +kernel
theorem dX7_fault_4 : decode cX7_fault 4 = .ok (.ifCond .ne 8, 3) := by decide +kernel
theorem dX7_fault_7 : decode cX7_fault 7 = .ok (.bipush (-2), 2) := by decide +kernel
theorem dX7_fault_9 : decode cX7_fault 9 = .ok (.goto 18, 3) := by decide +kernel
theorem dX7_fault_12 : decode cX7_fault 12 = .ok (.iload_n 1, 1) := by decide +kernel
theorem dX7_fault_13 : decode cX7_fault 13 = .ok (.ifCond .ne 10, 3) := by decide +kernel
theorem dX7_fault_16 : decode cX7_fault 16 = .ok (.aload_n 0, 1) := by decide +kernel
theorem dX7_fault_17 : decode cX7_fault 17 = .ok (.invokevirtual 127, 3) := by decide +kernel
theorem dX7_fault_20 : decode cX7_fault 20 = .ok (.goto 7, 3) := by decide +kernel
theorem dX7_fault_23 : decode cX7_fault 23 = .ok (.aload_n 0, 1) := by decide +kernel
theorem dX7_fault_24 : decode cX7_fault 24 = .ok (.invokevirtual 131, 3) := by decide +kernel
theorem dX7_fault_27 : decode cX7_fault 27 = .ok (.ireturn, 1) := by decide +kernel
theorem dX7_isHead_0 : decode cX7_isHead 0 = .ok (.iload_n 1, 1) := by decide +kernel
theorem dX7_isHead_1 : decode cX7_isHead 1 = .ok (.i2l, 1) := by decide +kernel
theorem dX7_isHead_2 : decode cX7_isHead 2 = .ok (.lconst 0, 1) := by decide +kernel
theorem dX7_isHead_3 : decode cX7_isHead 3 = .ok (.aload_n 0, 1) := by decide +kernel
theorem dX7_isHead_4 : decode cX7_isHead 4 = .ok (.getfield 118, 3) := by decide +kernel
theorem dX7_isHead_7 : decode cX7_isHead 7 = .ok (.iconst 1, 1) := by decide +kernel
theorem dX7_isHead_8 : decode cX7_isHead 8 = .ok (.isub, 1) := by decide +kernel
theorem dX7_isHead_9 : decode cX7_isHead 9 = .ok (.i2l, 1) := by decide +kernel
theorem dX7_isHead_10 : decode cX7_isHead 10 = .ok (.invokestatic 79, 3) := by decide +kernel
theorem dX7_isHead_13 : decode cX7_isHead 13 = .ok (.ireturn, 1) := by decide +kernel
theorem dX7_isCouple_0 : decode cX7_isCouple 0 = .ok (.iload_n 1, 1) := by decide +kernel
theorem dX7_isCouple_1 : decode cX7_isCouple 1 = .ok (.i2l, 1) := by decide +kernel
theorem dX7_isCouple_2 : decode cX7_isCouple 2 = .ok (.lconst 0, 1) := by decide +kernel
theorem dX7_isCouple_3 : decode cX7_isCouple 3 = .ok (.aload_n 0, 1) := by decide +kernel
theorem dX7_isCouple_4 : decode cX7_isCouple 4 = .ok (.getfield 124, 3) := by decide +kernel
theorem dX7_isCouple_7 : decode cX7_isCouple 7 = .ok (.iconst 1, 1) := by decide +kernel
theorem dX7_isCouple_8 : decode cX7_isCouple 8 = .ok (.isub, 1) := by decide +kernel
theorem dX7_isCouple_9 : decode cX7_isCouple 9 = .ok (.i2l, 1) := by decide +kernel
theorem dX7_isCouple_10 : decode cX7_isCouple 10 = .ok (.invokestatic 79, 3) := by decide +kernel
theorem dX7_isCouple_13 : decode cX7_isCouple 13 = .ok (.ireturn, 1) := by decide +kernel
theorem dX7_isDay_0 : decode cX7_isDay 0 = .ok (.iload_n 0, 1) := by decide +kernel
theorem dX7_isDay_1 : decode cX7_isDay 1 = .ok (.i2l, 1) := by decide +kernel
theorem dX7_isDay_2 : decode cX7_isDay 2 = .ok (.lconst 0, 1) := by decide +kernel
theorem dX7_isDay_3 : decode cX7_isDay 3 = .ok (.ldc2_w 134, 3) := by decide +kernel
theorem dX7_isDay_6 : decode cX7_isDay 6 = .ok (.invokestatic 79, 3) := by decide +kernel
theorem dX7_isDay_9 : decode cX7_isDay 9 = .ok (.ireturn, 1) := by decide +kernel
theorem dX7_head_0 : decode cX7_head 0 = .ok (.aload_n 0, 1) := by decide +kernel
theorem dX7_head_1 : decode cX7_head 1 = .ok (.invokevirtual 127, 3) := by decide +kernel
theorem dX7_head_4 : decode cX7_head 4 = .ok (.pop, 1) := by decide +kernel
theorem dX7_head_5 : decode cX7_head 5 = .ok (.aload_n 0, 1) := by decide +kernel
theorem dX7_head_6 : decode cX7_head 6 = .ok (.iload_n 1, 1) := by decide +kernel
theorem dX7_head_7 : decode cX7_head 7 = .ok (.invokevirtual 136, 3) := by decide +kernel
theorem dX7_head_10 : decode cX7_head 10 = .ok (.ifCond .eq 23, 3) := by decide +kernel
theorem dX7_head_13 : decode cX7_head 13 = .ok (.iload_n 2, 1) := by decide +kernel
theorem dX7_head_14 : decode cX7_head 14 = .ok (.invokestatic 107, 3) := by decide +kernel
theorem dX7_head_17 : decode cX7_head 17 = .ok (.ifCond .eq 16, 3) := by decide +kernel
theorem dX7_head_20 : decode cX7_head 20 = .ok (.aload_n 0, 1) := by decide +kernel
theorem dX7_head_21 : decode cX7_head 21 = .ok (.getfield 28, 3) := by decide +kernel
theorem dX7_head_24 : decode cX7_head 24 = .ok (.iconst 2, 1) := by decide +kernel
theorem dX7_head_25 : decode cX7_head 25 = .ok (.iload_n 1, 1) := by decide +kernel
theorem dX7_head_26 : decode cX7_head 26 = .ok (.imul, 1) := by decide +kernel
theorem dX7_head_27 : decode cX7_head 27 = .ok (.iload_n 2, 1) := by decide +kernel
theorem dX7_head_28 : decode cX7_head 28 = .ok (.iadd, 1) := by decide +kernel
theorem dX7_head_29 : decode cX7_head 29 = .ok (.iaload, 1) := by decide +kernel
theorem dX7_head_30 : decode cX7_head 30 = .ok (.goto 5, 3) := by decide +kernel
theorem dX7_head_33 : decode cX7_head 33 = .ok (.bipush (-2), 2) := by decide +kernel
theorem dX7_head_35 : decode cX7_head 35 = .ok (.ireturn, 1) := by decide +kernel
theorem dX7_couple_0 : decode cX7_couple 0 = .ok (.aload_n 0, 1) := by decide +kernel
theorem dX7_couple_1 : decode cX7_couple 1 = .ok (.invokevirtual 131, 3) := by decide +kernel
theorem dX7_couple_4 : decode cX7_couple 4 = .ok (.pop, 1) := by decide +kernel
theorem dX7_couple_5 : decode cX7_couple 5 = .ok (.aload_n 0, 1) := by decide +kernel
theorem dX7_couple_6 : decode cX7_couple 6 = .ok (.iload_n 1, 1) := by decide +kernel
theorem dX7_couple_7 : decode cX7_couple 7 = .ok (.invokevirtual 139, 3) := by decide +kernel
theorem dX7_couple_10 : decode cX7_couple 10 = .ok (.ifCond .eq 28, 3) := by decide +kernel
theorem dX7_couple_13 : decode cX7_couple 13 = .ok (.iload_n 2, 1) := by decide +kernel
theorem dX7_couple_14 : decode cX7_couple 14 = .ok (.i2l, 1) := by decide +kernel
theorem dX7_couple_15 : decode cX7_couple 15 = .ok (.lconst 0, 1) := by decide +kernel
theorem dX7_couple_16 : decode cX7_couple 16 = .ok (.ldc2_w 92, 3) := by decide +kernel
theorem dX7_couple_19 : decode cX7_couple 19 = .ok (.invokestatic 79, 3) := by decide +kernel
theorem dX7_couple_22 : decode cX7_couple 22 = .ok (.ifCond .eq 16, 3) := by decide +kernel
theorem dX7_couple_25 : decode cX7_couple 25 = .ok (.aload_n 0, 1) := by decide +kernel
theorem dX7_couple_26 : decode cX7_couple 26 = .ok (.getfield 31, 3) := by decide +kernel
theorem dX7_couple_29 : decode cX7_couple 29 = .ok (.iconst 3, 1) := by decide +kernel
theorem dX7_couple_30 : decode cX7_couple 30 = .ok (.iload_n 1, 1) := by decide +kernel
theorem dX7_couple_31 : decode cX7_couple 31 = .ok (.imul, 1) := by decide +kernel
theorem dX7_couple_32 : decode cX7_couple 32 = .ok (.iload_n 2, 1) := by decide +kernel
theorem dX7_couple_33 : decode cX7_couple 33 = .ok (.iadd, 1) := by decide +kernel
theorem dX7_couple_34 : decode cX7_couple 34 = .ok (.iaload, 1) := by decide +kernel
theorem dX7_couple_35 : decode cX7_couple 35 = .ok (.goto 5, 3) := by decide +kernel
theorem dX7_couple_38 : decode cX7_couple 38 = .ok (.bipush (-2), 2) := by decide +kernel
theorem dX7_couple_40 : decode cX7_couple 40 = .ok (.ireturn, 1) := by decide +kernel
theorem dX7_weather_0 : decode cX7_weather 0 = .ok (.iload_n 1, 1) := by decide +kernel
theorem dX7_weather_1 : decode cX7_weather 1 = .ok (.invokestatic 107, 3) := by decide +kernel
theorem dX7_weather_4 : decode cX7_weather 4 = .ok (.ifCond .eq 25, 3) := by decide +kernel
theorem dX7_weather_7 : decode cX7_weather 7 = .ok (.iload_n 2, 1) := by decide +kernel
theorem dX7_weather_8 : decode cX7_weather 8 = .ok (.i2l, 1) := by decide +kernel
theorem dX7_weather_9 : decode cX7_weather 9 = .ok (.lconst 0, 1) := by decide +kernel
theorem dX7_weather_10 : decode cX7_weather 10 = .ok (.iload_n 1, 1) := by decide +kernel
theorem dX7_weather_11 : decode cX7_weather 11 = .ok (.ifCond .ne 9, 3) := by decide +kernel
theorem dX7_weather_14 : decode cX7_weather 14 = .ok (.ldc2_w 142, 3) := by decide +kernel
theorem dX7_weather_17 : decode cX7_weather 17 = .ok (.goto 6, 3) := by decide +kernel
theorem dX7_weather_20 : decode cX7_weather 20 = .ok (.ldc2_w 134, 3) := by decide +kernel
theorem dX7_weather_23 : decode cX7_weather 23 = .ok (.invokestatic 79, 3) := by decide +kernel
theorem dX7_weather_26 : decode cX7_weather 26 = .ok (.ifCond .ne 6, 3) := by decide +kernel
theorem dX7_weather_29 : decode cX7_weather 29 = .ok (.bipush (-2), 2) := by decide +kernel
theorem dX7_weather_31 : decode cX7_weather 31 = .ok (.ireturn, 1) := by decide +kernel
theorem dX7_weather_32 : decode cX7_weather 32 = .ok (.aload_n 0, 1) := by decide +kernel
theorem dX7_weather_33 : decode cX7_weather 33 = .ok (.getfield 34, 3) := by decide +kernel
theorem dX7_weather_36 : decode cX7_weather 36 = .ok (.iload_n 1, 1) := by decide +kernel
theorem dX7_weather_37 : decode cX7_weather 37 = .ok (.iaload, 1) := by decide +kernel
theorem dX7_weather_38 : decode cX7_weather 38 = .ok (.bipush 6, 2) := by decide +kernel
theorem dX7_weather_40 : decode cX7_weather 40 = .ok (.if_icmp .ne 6, 3) := by decide +kernel
theorem dX7_weather_43 : decode cX7_weather 43 = .ok (.bipush (-4), 2) := by decide +kernel
theorem dX7_weather_45 : decode cX7_weather 45 = .ok (.ireturn, 1) := by decide +kernel
theorem dX7_weather_46 : decode cX7_weather 46 = .ok (.aload_n 0, 1) := by decide +kernel
theorem dX7_weather_47 : decode cX7_weather 47 = .ok (.getfield 37, 3) := by decide +kernel
theorem dX7_weather_50 : decode cX7_weather 50 = .ok (.bipush 6, 2) := by decide +kernel
theorem dX7_weather_52 : decode cX7_weather 52 = .ok (.iload_n 1, 1) := by decide +kernel
theorem dX7_weather_53 : decode cX7_weather 53 = .ok (.imul, 1) := by decide +kernel
theorem dX7_weather_54 : decode cX7_weather 54 = .ok (.aload_n 0, 1) := by decide +kernel
theorem dX7_weather_55 : decode cX7_weather 55 = .ok (.getfield 34, 3) := by decide +kernel
theorem dX7_weather_58 : decode cX7_weather 58 = .ok (.iload_n 1, 1) := by decide +kernel
theorem dX7_weather_59 : decode cX7_weather 59 = .ok (.iaload, 1) := by decide +kernel
theorem dX7_weather_60 : decode cX7_weather 60 = .ok (.iadd, 1) := by decide +kernel
theorem dX7_weather_61 : decode cX7_weather 61 = .ok (.iload_n 2, 1) := by decide +kernel
theorem dX7_weather_62 : decode cX7_weather 62 = .ok (.iastore, 1) := by decide +kernel
theorem dX7_weather_63 : decode cX7_weather 63 = .ok (.aload_n 0, 1) := by decide +kernel
theorem dX7_weather_64 : decode cX7_weather 64 = .ok (.getfield 34, 3) := by decide +kernel
theorem dX7_weather_67 : decode cX7_weather 67 = .ok (.iload_n 1, 1) := by decide +kernel
theorem dX7_weather_68 : decode cX7_weather 68 = .ok (.dup2, 1) := by decide +kernel
theorem dX7_weather_69 : decode cX7_weather 69 = .ok (.iaload, 1) := by decide +kernel
theorem dX7_weather_70 : decode cX7_weather 70 = .ok (.iconst 1, 1) := by decide +kernel
theorem dX7_weather_71 : decode cX7_weather 71 = .ok (.iadd, 1) := by decide +kernel
theorem dX7_weather_72 : decode cX7_weather 72 = .ok (.iastore, 1) := by decide +kernel
theorem dX7_weather_73 : decode cX7_weather 73 = .ok (.aload_n 0, 1) := by decide +kernel
theorem dX7_weather_74 : decode cX7_weather 74 = .ok (.getfield 34, 3) := by decide +kernel
theorem dX7_weather_77 : decode cX7_weather 77 = .ok (.iload_n 1, 1) := by decide +kernel
theorem dX7_weather_78 : decode cX7_weather 78 = .ok (.iaload, 1) := by decide +kernel
theorem dX7_weather_79 : decode cX7_weather 79 = .ok (.ireturn, 1) := by decide +kernel
theorem dX7_rabbit_0 : decode cX7_rabbit 0 = .ok (.iload_n 1, 1) := by decide +kernel
theorem dX7_rabbit_1 : decode cX7_rabbit 1 = .ok (.invokestatic 144, 3) := by decide +kernel
theorem dX7_rabbit_4 : decode cX7_rabbit 4 = .ok (.ifCond .eq 15, 3) := by decide +kernel
theorem dX7_rabbit_7 : decode cX7_rabbit 7 = .ok (.iload_n 2, 1) := by decide +kernel
theorem dX7_rabbit_8 : decode cX7_rabbit 8 = .ok (.i2l, 1) := by decide +kernel
theorem dX7_rabbit_9 : decode cX7_rabbit 9 = .ok (.lconst 0, 1) := by decide +kernel
theorem dX7_rabbit_10 : decode cX7_rabbit 10 = .ok (.ldc2_w 147, 3) := by decide +kernel
theorem dX7_rabbit_13 : decode cX7_rabbit 13 = .ok (.invokestatic 79, 3) := by decide +kernel
theorem dX7_rabbit_16 : decode cX7_rabbit 16 = .ok (.ifCond .ne 6, 3) := by decide +kernel
theorem dX7_rabbit_19 : decode cX7_rabbit 19 = .ok (.bipush (-2), 2) := by decide +kernel
theorem dX7_rabbit_21 : decode cX7_rabbit 21 = .ok (.ireturn, 1) := by decide +kernel
theorem dX7_rabbit_22 : decode cX7_rabbit 22 = .ok (.aload_n 0, 1) := by decide +kernel
theorem dX7_rabbit_23 : decode cX7_rabbit 23 = .ok (.getfield 149, 3) := by decide +kernel
theorem dX7_rabbit_26 : decode cX7_rabbit 26 = .ok (.bipush 8, 2) := by decide +kernel
theorem dX7_rabbit_28 : decode cX7_rabbit 28 = .ok (.if_icmp .ne 6, 3) := by decide +kernel
theorem dX7_rabbit_31 : decode cX7_rabbit 31 = .ok (.bipush (-4), 2) := by decide +kernel
theorem dX7_rabbit_33 : decode cX7_rabbit 33 = .ok (.ireturn, 1) := by decide +kernel
theorem dX7_rabbit_34 : decode cX7_rabbit 34 = .ok (.aload_n 0, 1) := by decide +kernel
theorem dX7_rabbit_35 : decode cX7_rabbit 35 = .ok (.getfield 40, 3) := by decide +kernel
theorem dX7_rabbit_38 : decode cX7_rabbit 38 = .ok (.iconst 2, 1) := by decide +kernel
theorem dX7_rabbit_39 : decode cX7_rabbit 39 = .ok (.aload_n 0, 1) := by decide +kernel
theorem dX7_rabbit_40 : decode cX7_rabbit 40 = .ok (.getfield 149, 3) := by decide +kernel
theorem dX7_rabbit_43 : decode cX7_rabbit 43 = .ok (.imul, 1) := by decide +kernel
theorem dX7_rabbit_44 : decode cX7_rabbit 44 = .ok (.iload_n 1, 1) := by decide +kernel
theorem dX7_rabbit_45 : decode cX7_rabbit 45 = .ok (.iastore, 1) := by decide +kernel
theorem dX7_rabbit_46 : decode cX7_rabbit 46 = .ok (.aload_n 0, 1) := by decide +kernel
theorem dX7_rabbit_47 : decode cX7_rabbit 47 = .ok (.getfield 40, 3) := by decide +kernel
theorem dX7_rabbit_50 : decode cX7_rabbit 50 = .ok (.iconst 2, 1) := by decide +kernel
theorem dX7_rabbit_51 : decode cX7_rabbit 51 = .ok (.aload_n 0, 1) := by decide +kernel
theorem dX7_rabbit_52 : decode cX7_rabbit 52 = .ok (.getfield 149, 3) := by decide +kernel
theorem dX7_rabbit_55 : decode cX7_rabbit 55 = .ok (.imul, 1) := by decide +kernel
theorem dX7_rabbit_56 : decode cX7_rabbit 56 = .ok (.iconst 1, 1) := by decide +kernel
theorem dX7_rabbit_57 : decode cX7_rabbit 57 = .ok (.iadd, 1) := by decide +kernel
theorem dX7_rabbit_58 : decode cX7_rabbit 58 = .ok (.iload_n 2, 1) := by decide +kernel
theorem dX7_rabbit_59 : decode cX7_rabbit 59 = .ok (.iastore, 1) := by decide +kernel
theorem dX7_rabbit_60 : decode cX7_rabbit 60 = .ok (.aload_n 0, 1) := by decide +kernel
theorem dX7_rabbit_61 : decode cX7_rabbit 61 = .ok (.dup, 1) := by decide +kernel
theorem dX7_rabbit_62 : decode cX7_rabbit 62 = .ok (.getfield 149, 3) := by decide +kernel
theorem dX7_rabbit_65 : decode cX7_rabbit 65 = .ok (.iconst 1, 1) := by decide +kernel
theorem dX7_rabbit_66 : decode cX7_rabbit 66 = .ok (.iadd, 1) := by decide +kernel
theorem dX7_rabbit_67 : decode cX7_rabbit 67 = .ok (.putfield 149, 3) := by decide +kernel
theorem dX7_rabbit_70 : decode cX7_rabbit 70 = .ok (.aload_n 0, 1) := by decide +kernel
theorem dX7_rabbit_71 : decode cX7_rabbit 71 = .ok (.getfield 149, 3) := by decide +kernel
theorem dX7_rabbit_74 : decode cX7_rabbit 74 = .ok (.ireturn, 1) := by decide +kernel
theorem dX7_back_0 : decode cX7_back 0 = .ok (.iload_n 1, 1) := by decide +kernel
theorem dX7_back_1 : decode cX7_back 1 = .ok (.i2l, 1) := by decide +kernel
theorem dX7_back_2 : decode cX7_back 2 = .ok (.lconst 0, 1) := by decide +kernel
theorem dX7_back_3 : decode cX7_back 3 = .ok (.ldc2_w 92, 3) := by decide +kernel
theorem dX7_back_6 : decode cX7_back 6 = .ok (.invokestatic 79, 3) := by decide +kernel
theorem dX7_back_9 : decode cX7_back 9 = .ok (.ifCond .ne 6, 3) := by decide +kernel
theorem dX7_back_12 : decode cX7_back 12 = .ok (.bipush (-2), 2) := by decide +kernel
theorem dX7_back_14 : decode cX7_back 14 = .ok (.ireturn, 1) := by decide +kernel
theorem dX7_back_15 : decode cX7_back 15 = .ok (.iload_n 1, 1) := by decide +kernel
theorem dX7_back_16 : decode cX7_back 16 = .ok (.iconst 2, 1) := by decide +kernel
theorem dX7_back_17 : decode cX7_back 17 = .ok (.if_icmp .ne 10, 3) := by decide +kernel
theorem dX7_back_20 : decode cX7_back 20 = .ok (.aload_n 0, 1) := by decide +kernel
theorem dX7_back_21 : decode cX7_back 21 = .ok (.getfield 149, 3) := by decide +kernel
theorem dX7_back_24 : decode cX7_back 24 = .ok (.goto 9, 3) := by decide +kernel
theorem dX7_back_27 : decode cX7_back 27 = .ok (.aload_n 0, 1) := by decide +kernel
theorem dX7_back_28 : decode cX7_back 28 = .ok (.getfield 34, 3) := by decide +kernel
theorem dX7_back_31 : decode cX7_back 31 = .ok (.iload_n 1, 1) := by decide +kernel
theorem dX7_back_32 : decode cX7_back 32 = .ok (.iaload, 1) := by decide +kernel
theorem dX7_back_33 : decode cX7_back 33 = .ok (.istore_n 2, 1) := by decide +kernel
theorem dX7_back_34 : decode cX7_back 34 = .ok (.iload_n 2, 1) := by decide +kernel
theorem dX7_back_35 : decode cX7_back 35 = .ok (.ifCond .ne 6, 3) := by decide +kernel
theorem dX7_back_38 : decode cX7_back 38 = .ok (.bipush (-3), 2) := by decide +kernel
theorem dX7_back_40 : decode cX7_back 40 = .ok (.ireturn, 1) := by decide +kernel
theorem dX7_back_41 : decode cX7_back 41 = .ok (.aload_n 0, 1) := by decide +kernel
theorem dX7_back_42 : decode cX7_back 42 = .ok (.dup, 1) := by decide +kernel
theorem dX7_back_43 : decode cX7_back 43 = .ok (.getfield 149, 3) := by decide +kernel
theorem dX7_back_46 : decode cX7_back 46 = .ok (.iload_n 1, 1) := by decide +kernel
theorem dX7_back_47 : decode cX7_back 47 = .ok (.iconst 2, 1) := by decide +kernel
theorem dX7_back_48 : decode cX7_back 48 = .ok (.if_icmp .ne 7, 3) := by decide +kernel
theorem dX7_back_51 : decode cX7_back 51 = .ok (.iconst 1, 1) := by decide +kernel
theorem dX7_back_52 : decode cX7_back 52 = .ok (.goto 4, 3) := by decide +kernel
theorem dX7_back_55 : decode cX7_back 55 = .ok (.iconst 0, 1) := by decide +kernel
theorem dX7_back_56 : decode cX7_back 56 = .ok (.isub, 1) := by decide +kernel
theorem dX7_back_57 : decode cX7_back 57 = .ok (.putfield 149, 3) := by decide +kernel
theorem dX7_back_60 : decode cX7_back 60 = .ok (.aload_n 0, 1) := by decide +kernel
theorem dX7_back_61 : decode cX7_back 61 = .ok (.getfield 34, 3) := by decide +kernel
theorem dX7_back_64 : decode cX7_back 64 = .ok (.iconst 0, 1) := by decide +kernel
theorem dX7_back_65 : decode cX7_back 65 = .ok (.dup2, 1) := by decide +kernel
theorem dX7_back_66 : decode cX7_back 66 = .ok (.iaload, 1) := by decide +kernel
theorem dX7_back_67 : decode cX7_back 67 = .ok (.iload_n 1, 1) := by decide +kernel
theorem dX7_back_68 : decode cX7_back 68 = .ok (.ifCond .ne 7, 3) := by decide +kernel
theorem dX7_back_71 : decode cX7_back 71 = .ok (.iconst 1, 1) := by decide +kernel
theorem dX7_back_72 : decode cX7_back 72 = .ok (.goto 4, 3) := by decide +kernel
theorem dX7_back_75 : decode cX7_back 75 = .ok (.iconst 0, 1) := by decide +kernel
theorem dX7_back_76 : decode cX7_back 76 = .ok (.isub, 1) := by decide +kernel
theorem dX7_back_77 : decode cX7_back 77 = .ok (.iastore, 1) := by decide +kernel
theorem dX7_back_78 : decode cX7_back 78 = .ok (.aload_n 0, 1) := by decide +kernel
theorem dX7_back_79 : decode cX7_back 79 = .ok (.getfield 34, 3) := by decide +kernel
theorem dX7_back_82 : decode cX7_back 82 = .ok (.iconst 1, 1) := by decide +kernel
theorem dX7_back_83 : decode cX7_back 83 = .ok (.dup2, 1) := by decide +kernel
theorem dX7_back_84 : decode cX7_back 84 = .ok (.iaload, 1) := by decide +kernel
theorem dX7_back_85 : decode cX7_back 85 = .ok (.iload_n 1, 1) := by decide +kernel
theorem dX7_back_86 : decode cX7_back 86 = .ok (.iconst 1, 1) := by decide +kernel
theorem dX7_back_87 : decode cX7_back 87 = .ok (.if_icmp .ne 7, 3) := by decide +kernel
theorem dX7_back_90 : decode cX7_back 90 = .ok (.iconst 1, 1) := by decide +kernel
theorem dX7_back_91 : decode cX7_back 91 = .ok (.goto 4, 3) := by decide +kernel
theorem dX7_back_94 : decode cX7_back 94 = .ok (.iconst 0, 1) := by decide +kernel
theorem dX7_back_95 : decode cX7_back 95 = .ok (.isub, 1) := by decide +kernel
theorem dX7_back_96 : decode cX7_back 96 = .ok (.iastore, 1) := by decide +kernel
theorem dX7_back_97 : decode cX7_back 97 = .ok (.iload_n 2, 1) := by decide +kernel
theorem dX7_back_98 : decode cX7_back 98 = .ok (.iconst 1, 1) := by decide +kernel
theorem dX7_back_99 : decode cX7_back 99 = .ok (.isub, 1) := by decide +kernel
theorem dX7_back_100 : decode cX7_back 100 = .ok (.ireturn, 1) := by decide +kernel
theorem dX7_read_0 : decode cX7_read 0 = .ok (.iload_n 1, 1) := by decide +kernel
theorem dX7_read_1 : decode cX7_read 1 = .ok (.invokestatic 88, 3) := by decide +kernel
theorem dX7_read_4 : decode cX7_read 4 = .ok (.ifCond .ne 6, 3) := by decide +kernel
theorem dX7_read_7 : decode cX7_read 7 = .ok (.bipush (-2), 2) := by decide +kernel
theorem dX7_read_9 : decode cX7_read 9 = .ok (.ireturn, 1) := by decide +kernel
theorem dX7_read_10 : decode cX7_read 10 = .ok (.aload_n 0, 1) := by decide +kernel
theorem dX7_read_11 : decode cX7_read 11 = .ok (.getfield 7, 3) := by decide +kernel
theorem dX7_read_14 : decode cX7_read 14 = .ok (.iload_n 1, 1) := by decide +kernel
theorem dX7_read_15 : decode cX7_read 15 = .ok (.iaload, 1) := by decide +kernel
theorem dX7_read_16 : decode cX7_read 16 = .ok (.ifCond .ge 9, 3) := by decide +kernel
theorem dX7_read_19 : decode cX7_read 19 = .ok (.aload_n 0, 1) := by decide +kernel
theorem dX7_read_20 : decode cX7_read 20 = .ok (.iconst 1, 1) := by decide +kernel
theorem dX7_read_21 : decode cX7_read 21 = .ok (.invokevirtual 94, 3) := by decide +kernel
theorem dX7_read_24 : decode cX7_read 24 = .ok (.ireturn, 1) := by decide +kernel
theorem dX7_read_25 : decode cX7_read 25 = .ok (.iconst 0, 1) := by decide +kernel
theorem dX7_read_26 : decode cX7_read 26 = .ok (.istore_n 2, 1) := by decide +kernel
theorem dX7_read_27 : decode cX7_read 27 = .ok (.iconst 1, 1) := by decide +kernel
theorem dX7_read_28 : decode cX7_read 28 = .ok (.istore_n 3, 1) := by decide +kernel
theorem dX7_read_29 : decode cX7_read 29 = .ok (.iload_n 3, 1) := by decide +kernel
theorem dX7_read_30 : decode cX7_read 30 = .ok (.ifCond .eq 73, 3) := by decide +kernel
theorem dX7_read_33 : decode cX7_read 33 = .ok (.iconst 2, 1) := by decide +kernel
theorem dX7_read_34 : decode cX7_read 34 = .ok (.iload_n 2, 1) := by decide +kernel
theorem dX7_read_35 : decode cX7_read 35 = .ok (.imul, 1) := by decide +kernel
theorem dX7_read_36 : decode cX7_read 36 = .ok (.iconst 2, 1) := by decide +kernel
theorem dX7_read_37 : decode cX7_read 37 = .ok (.iadd, 1) := by decide +kernel
theorem dX7_read_38 : decode cX7_read 38 = .ok (.aload_n 0, 1) := by decide +kernel
theorem dX7_read_39 : decode cX7_read 39 = .ok (.getfield 13, 3) := by decide +kernel
theorem dX7_read_42 : decode cX7_read 42 = .ok (.iload_n 1, 1) := by decide +kernel
theorem dX7_read_43 : decode cX7_read 43 = .ok (.iaload, 1) := by decide +kernel
theorem dX7_read_44 : decode cX7_read 44 = .ok (.if_icmp .gt 59, 3) := by decide +kernel
theorem dX7_read_47 : decode cX7_read 47 = .ok (.aload_n 0, 1) := by decide +kernel
theorem dX7_read_48 : decode cX7_read 48 = .ok (.aload_n 0, 1) := by decide +kernel
theorem dX7_read_49 : decode cX7_read 49 = .ok (.getfield 16, 3) := by decide +kernel
theorem dX7_read_52 : decode cX7_read 52 = .ok (.bipush 60, 2) := by decide +kernel
theorem dX7_read_54 : decode cX7_read 54 = .ok (.iload_n 1, 1) := by decide +kernel
theorem dX7_read_55 : decode cX7_read 55 = .ok (.imul, 1) := by decide +kernel
theorem dX7_read_56 : decode cX7_read 56 = .ok (.iconst 2, 1) := by decide +kernel
theorem dX7_read_57 : decode cX7_read 57 = .ok (.iload_n 2, 1) := by decide +kernel
theorem dX7_read_58 : decode cX7_read 58 = .ok (.imul, 1) := by decide +kernel
theorem dX7_read_59 : decode cX7_read 59 = .ok (.iadd, 1) := by decide +kernel
theorem dX7_read_60 : decode cX7_read 60 = .ok (.iaload, 1) := by decide +kernel
theorem dX7_read_61 : decode cX7_read 61 = .ok (.aload_n 0, 1) := by decide +kernel
theorem dX7_read_62 : decode cX7_read 62 = .ok (.getfield 16, 3) := by decide +kernel
theorem dX7_read_65 : decode cX7_read 65 = .ok (.bipush 60, 2) := by decide +kernel
theorem dX7_read_67 : decode cX7_read 67 = .ok (.iload_n 1, 1) := by decide +kernel
theorem dX7_read_68 : decode cX7_read 68 = .ok (.imul, 1) := by decide +kernel
theorem dX7_read_69 : decode cX7_read 69 = .ok (.iconst 2, 1) := by decide +kernel
theorem dX7_read_70 : decode cX7_read 70 = .ok (.iload_n 2, 1) := by decide +kernel
theorem dX7_read_71 : decode cX7_read 71 = .ok (.imul, 1) := by decide +kernel
theorem dX7_read_72 : decode cX7_read 72 = .ok (.iadd, 1) := by decide +kernel
theorem dX7_read_73 : decode cX7_read 73 = .ok (.iconst 1, 1) := by decide +kernel
theorem dX7_read_74 : decode cX7_read 74 = .ok (.iadd, 1) := by decide +kernel
theorem dX7_read_75 : decode cX7_read 75 = .ok (.iaload, 1) := by decide +kernel
theorem dX7_read_76 : decode cX7_read 76 = .ok (.invokevirtual 152, 3) := by decide +kernel
theorem dX7_read_79 : decode cX7_read 79 = .ok (.ifCond .lt 7, 3) := by decide +kernel
theorem dX7_read_82 : decode cX7_read 82 = .ok (.iconst 1, 1) := by decide +kernel
theorem dX7_read_83 : decode cX7_read 83 = .ok (.goto 4, 3) := by decide +kernel
theorem dX7_read_86 : decode cX7_read 86 = .ok (.iconst 0, 1) := by decide +kernel
theorem dX7_read_87 : decode cX7_read 87 = .ok (.istore_n 3, 1) := by decide +kernel
theorem dX7_read_88 : decode cX7_read 88 = .ok (.iload_n 2, 1) := by decide +kernel
theorem dX7_read_89 : decode cX7_read 89 = .ok (.iload_n 3, 1) := by decide +kernel
theorem dX7_read_90 : decode cX7_read 90 = .ok (.ifCond .eq 7, 3) := by decide +kernel
theorem dX7_read_93 : decode cX7_read 93 = .ok (.iconst 1, 1) := by decide +kernel
theorem dX7_read_94 : decode cX7_read 94 = .ok (.goto 4, 3) := by decide +kernel
theorem dX7_read_97 : decode cX7_read 97 = .ok (.iconst 0, 1) := by decide +kernel
theorem dX7_read_98 : decode cX7_read 98 = .ok (.iadd, 1) := by decide +kernel
theorem dX7_read_99 : decode cX7_read 99 = .ok (.istore_n 2, 1) := by decide +kernel
theorem dX7_read_100 : decode cX7_read 100 = .ok (.goto (-71), 3) := by decide +kernel
theorem dX7_read_103 : decode cX7_read 103 = .ok (.iload_n 2, 1) := by decide +kernel
theorem dX7_read_104 : decode cX7_read 104 = .ok (.ireturn, 1) := by decide +kernel
theorem dX7_isSo_0 : decode cX7_isSo 0 = .ok (.iload_n 1, 1) := by decide +kernel
theorem dX7_isSo_1 : decode cX7_isSo 1 = .ok (.ifCond .ne 34, 3) := by decide +kernel
theorem dX7_isSo_4 : decode cX7_isSo 4 = .ok (.aload_n 0, 1) := by decide +kernel
theorem dX7_isSo_5 : decode cX7_isSo 5 = .ok (.getfield 73, 3) := by decide +kernel
theorem dX7_isSo_8 : decode cX7_isSo 8 = .ok (.iconst (-1), 1) := by decide +kernel
theorem dX7_isSo_9 : decode cX7_isSo 9 = .ok (.if_icmp .eq 26, 3) := by decide +kernel
theorem dX7_isSo_12 : decode cX7_isSo 12 = .ok (.iload_n 2, 1) := by decide +kernel
theorem dX7_isSo_13 : decode cX7_isSo 13 = .ok (.bipush 10, 2) := by decide +kernel
theorem dX7_isSo_15 : decode cX7_isSo 15 = .ok (.if_icmp .ge 18, 3) := by decide +kernel
theorem dX7_isSo_18 : decode cX7_isSo 18 = .ok (.aload_n 0, 1) := by decide +kernel
theorem dX7_isSo_19 : decode cX7_isSo 19 = .ok (.getfield 73, 3) := by decide +kernel
theorem dX7_isSo_22 : decode cX7_isSo 22 = .ok (.iload_n 2, 1) := by decide +kernel
theorem dX7_isSo_23 : decode cX7_isSo 23 = .ok (.invokestatic 154, 3) := by decide +kernel
theorem dX7_isSo_26 : decode cX7_isSo 26 = .ok (.ifCond .eq 7, 3) := by decide +kernel
theorem dX7_isSo_29 : decode cX7_isSo 29 = .ok (.iconst 1, 1) := by decide +kernel
theorem dX7_isSo_30 : decode cX7_isSo 30 = .ok (.goto 4, 3) := by decide +kernel
theorem dX7_isSo_33 : decode cX7_isSo 33 = .ok (.iconst 0, 1) := by decide +kernel
theorem dX7_isSo_34 : decode cX7_isSo 34 = .ok (.ireturn, 1) := by decide +kernel
theorem dX7_isSo_35 : decode cX7_isSo 35 = .ok (.iconst 0, 1) := by decide +kernel
theorem dX7_isSo_36 : decode cX7_isSo 36 = .ok (.istore_n 3, 1) := by decide +kernel
theorem dX7_isSo_37 : decode cX7_isSo 37 = .ok (.iconst 0, 1) := by decide +kernel
theorem dX7_isSo_38 : decode cX7_isSo 38 = .ok (.istore 4, 2) := by decide +kernel
theorem dX7_isSo_40 : decode cX7_isSo 40 = .ok (.iload 4, 2) := by decide +kernel
theorem dX7_isSo_42 : decode cX7_isSo 42 = .ok (.aload_n 0, 1) := by decide +kernel
theorem dX7_isSo_43 : decode cX7_isSo 43 = .ok (.getfield 34, 3) := by decide +kernel
theorem dX7_isSo_46 : decode cX7_isSo 46 = .ok (.iload_n 1, 1) := by decide +kernel
theorem dX7_isSo_47 : decode cX7_isSo 47 = .ok (.iaload, 1) := by decide +kernel
theorem dX7_isSo_48 : decode cX7_isSo 48 = .ok (.if_icmp .ge 35, 3) := by decide +kernel
theorem dX7_isSo_51 : decode cX7_isSo 51 = .ok (.iload_n 3, 1) := by decide +kernel
theorem dX7_isSo_52 : decode cX7_isSo 52 = .ok (.ifCond .ne 19, 3) := by decide +kernel
theorem dX7_isSo_55 : decode cX7_isSo 55 = .ok (.aload_n 0, 1) := by decide +kernel
theorem dX7_isSo_56 : decode cX7_isSo 56 = .ok (.getfield 37, 3) := by decide +kernel
theorem dX7_isSo_59 : decode cX7_isSo 59 = .ok (.bipush 6, 2) := by decide +kernel
theorem dX7_isSo_61 : decode cX7_isSo 61 = .ok (.iload_n 1, 1) := by decide +kernel
theorem dX7_isSo_62 : decode cX7_isSo 62 = .ok (.imul, 1) := by decide +kernel
theorem dX7_isSo_63 : decode cX7_isSo 63 = .ok (.iload 4, 2) := by decide +kernel
theorem dX7_isSo_65 : decode cX7_isSo 65 = .ok (.iadd, 1) := by decide +kernel
theorem dX7_isSo_66 : decode cX7_isSo 66 = .ok (.iaload, 1) := by decide +kernel
theorem dX7_isSo_67 : decode cX7_isSo 67 = .ok (.iload_n 2, 1) := by decide +kernel
theorem dX7_isSo_68 : decode cX7_isSo 68 = .ok (.if_icmp .ne 7, 3) := by decide +kernel
theorem dX7_isSo_71 : decode cX7_isSo 71 = .ok (.iconst 1, 1) := by decide +kernel
theorem dX7_isSo_72 : decode cX7_isSo 72 = .ok (.goto 4, 3) := by decide +kernel
theorem dX7_isSo_75 : decode cX7_isSo 75 = .ok (.iconst 0, 1) := by decide +kernel
theorem dX7_isSo_76 : decode cX7_isSo 76 = .ok (.istore_n 3, 1) := by decide +kernel
theorem dX7_isSo_77 : decode cX7_isSo 77 = .ok (.iinc 4 1, 3) := by decide +kernel
theorem dX7_isSo_80 : decode cX7_isSo 80 = .ok (.goto (-40), 3) := by decide +kernel
theorem dX7_isSo_83 : decode cX7_isSo 83 = .ok (.iload_n 3, 1) := by decide +kernel
theorem dX7_isSo_84 : decode cX7_isSo 84 = .ok (.ireturn, 1) := by decide +kernel
theorem dX7_ripens_0 : decode cX7_ripens 0 = .ok (.aload_n 0, 1) := by decide +kernel
theorem dX7_ripens_1 : decode cX7_ripens 1 = .ok (.getfield 43, 3) := by decide +kernel
theorem dX7_ripens_4 : decode cX7_ripens 4 = .ok (.iload_n 1, 1) := by decide +kernel
theorem dX7_ripens_5 : decode cX7_ripens 5 = .ok (.aload_n 0, 1) := by decide +kernel
theorem dX7_ripens_6 : decode cX7_ripens 6 = .ok (.getfield 28, 3) := by decide +kernel
theorem dX7_ripens_9 : decode cX7_ripens 9 = .ok (.iconst 2, 1) := by decide +kernel
theorem dX7_ripens_10 : decode cX7_ripens 10 = .ok (.iload_n 1, 1) := by decide +kernel
theorem dX7_ripens_11 : decode cX7_ripens 11 = .ok (.imul, 1) := by decide +kernel
theorem dX7_ripens_12 : decode cX7_ripens 12 = .ok (.iconst 1, 1) := by decide +kernel
theorem dX7_ripens_13 : decode cX7_ripens 13 = .ok (.iadd, 1) := by decide +kernel
theorem dX7_ripens_14 : decode cX7_ripens 14 = .ok (.iaload, 1) := by decide +kernel
theorem dX7_ripens_15 : decode cX7_ripens 15 = .ok (.iastore, 1) := by decide +kernel
theorem dX7_ripens_16 : decode cX7_ripens 16 = .ok (.aload_n 0, 1) := by decide +kernel
theorem dX7_ripens_17 : decode cX7_ripens 17 = .ok (.getfield 46, 3) := by decide +kernel
theorem dX7_ripens_20 : decode cX7_ripens 20 = .ok (.iload_n 1, 1) := by decide +kernel
theorem dX7_ripens_21 : decode cX7_ripens 21 = .ok (.iconst (-1), 1) := by decide +kernel
theorem dX7_ripens_22 : decode cX7_ripens 22 = .ok (.iastore, 1) := by decide +kernel
theorem dX7_ripens_23 : decode cX7_ripens 23 = .ok (.iconst 0, 1) := by decide +kernel
theorem dX7_ripens_24 : decode cX7_ripens 24 = .ok (.istore_n 2, 1) := by decide +kernel
theorem dX7_ripens_25 : decode cX7_ripens 25 = .ok (.iload_n 2, 1) := by decide +kernel
theorem dX7_ripens_26 : decode cX7_ripens 26 = .ok (.aload_n 0, 1) := by decide +kernel
theorem dX7_ripens_27 : decode cX7_ripens 27 = .ok (.getfield 43, 3) := by decide +kernel
theorem dX7_ripens_30 : decode cX7_ripens 30 = .ok (.iload_n 1, 1) := by decide +kernel
theorem dX7_ripens_31 : decode cX7_ripens 31 = .ok (.iaload, 1) := by decide +kernel
theorem dX7_ripens_32 : decode cX7_ripens 32 = .ok (.if_icmp .ge 76, 3) := by decide +kernel
theorem dX7_ripens_35 : decode cX7_ripens 35 = .ok (.aload_n 0, 1) := by decide +kernel
theorem dX7_ripens_36 : decode cX7_ripens 36 = .ok (.getfield 46, 3) := by decide +kernel
theorem dX7_ripens_39 : decode cX7_ripens 39 = .ok (.iload_n 1, 1) := by decide +kernel
theorem dX7_ripens_40 : decode cX7_ripens 40 = .ok (.iaload, 1) := by decide +kernel
theorem dX7_ripens_41 : decode cX7_ripens 41 = .ok (.iconst (-1), 1) := by decide +kernel
theorem dX7_ripens_42 : decode cX7_ripens 42 = .ok (.if_icmp .ne 66, 3) := by decide +kernel
theorem dX7_ripens_45 : decode cX7_ripens 45 = .ok (.aload_n 0, 1) := by decide +kernel
theorem dX7_ripens_46 : decode cX7_ripens 46 = .ok (.iconst 0, 1) := by decide +kernel
theorem dX7_ripens_47 : decode cX7_ripens 47 = .ok (.iload_n 2, 1) := by decide +kernel
theorem dX7_ripens_48 : decode cX7_ripens 48 = .ok (.invokevirtual 158, 3) := by decide +kernel
theorem dX7_ripens_51 : decode cX7_ripens 51 = .ok (.ifCond .eq 51, 3) := by decide +kernel
theorem dX7_ripens_54 : decode cX7_ripens 54 = .ok (.aload_n 0, 1) := by decide +kernel
theorem dX7_ripens_55 : decode cX7_ripens 55 = .ok (.getfield 46, 3) := by decide +kernel
theorem dX7_ripens_58 : decode cX7_ripens 58 = .ok (.iload_n 1, 1) := by decide +kernel
theorem dX7_ripens_59 : decode cX7_ripens 59 = .ok (.aload_n 0, 1) := by decide +kernel
theorem dX7_ripens_60 : decode cX7_ripens 60 = .ok (.getfield 28, 3) := by decide +kernel
theorem dX7_ripens_63 : decode cX7_ripens 63 = .ok (.iconst 2, 1) := by decide +kernel
theorem dX7_ripens_64 : decode cX7_ripens 64 = .ok (.iload_n 1, 1) := by decide +kernel
theorem dX7_ripens_65 : decode cX7_ripens 65 = .ok (.imul, 1) := by decide +kernel
theorem dX7_ripens_66 : decode cX7_ripens 66 = .ok (.iaload, 1) := by decide +kernel
theorem dX7_ripens_67 : decode cX7_ripens 67 = .ok (.iconst 2, 1) := by decide +kernel
theorem dX7_ripens_68 : decode cX7_ripens 68 = .ok (.if_icmp .ne 7, 3) := by decide +kernel
theorem dX7_ripens_71 : decode cX7_ripens 71 = .ok (.iload_n 2, 1) := by decide +kernel
theorem dX7_ripens_72 : decode cX7_ripens 72 = .ok (.goto 4, 3) := by decide +kernel
theorem dX7_ripens_75 : decode cX7_ripens 75 = .ok (.iconst (-1), 1) := by decide +kernel
theorem dX7_ripens_76 : decode cX7_ripens 76 = .ok (.iastore, 1) := by decide +kernel
theorem dX7_ripens_77 : decode cX7_ripens 77 = .ok (.aload_n 0, 1) := by decide +kernel
theorem dX7_ripens_78 : decode cX7_ripens 78 = .ok (.getfield 43, 3) := by decide +kernel
theorem dX7_ripens_81 : decode cX7_ripens 81 = .ok (.iload_n 1, 1) := by decide +kernel
theorem dX7_ripens_82 : decode cX7_ripens 82 = .ok (.dup2, 1) := by decide +kernel
theorem dX7_ripens_83 : decode cX7_ripens 83 = .ok (.iaload, 1) := by decide +kernel
theorem dX7_ripens_84 : decode cX7_ripens 84 = .ok (.aload_n 0, 1) := by decide +kernel
theorem dX7_ripens_85 : decode cX7_ripens 85 = .ok (.getfield 28, 3) := by decide +kernel
theorem dX7_ripens_88 : decode cX7_ripens 88 = .ok (.iconst 2, 1) := by decide +kernel
theorem dX7_ripens_89 : decode cX7_ripens 89 = .ok (.iload_n 1, 1) := by decide +kernel
theorem dX7_ripens_90 : decode cX7_ripens 90 = .ok (.imul, 1) := by decide +kernel
theorem dX7_ripens_91 : decode cX7_ripens 91 = .ok (.iaload, 1) := by decide +kernel
theorem dX7_ripens_92 : decode cX7_ripens 92 = .ok (.ifCond .ne 7, 3) := by decide +kernel
theorem dX7_ripens_95 : decode cX7_ripens 95 = .ok (.iconst 1, 1) := by decide +kernel
theorem dX7_ripens_96 : decode cX7_ripens 96 = .ok (.goto 4, 3) := by decide +kernel
theorem dX7_ripens_99 : decode cX7_ripens 99 = .ok (.iconst 0, 1) := by decide +kernel
theorem dX7_ripens_100 : decode cX7_ripens 100 = .ok (.iadd, 1) := by decide +kernel
theorem dX7_ripens_101 : decode cX7_ripens 101 = .ok (.iastore, 1) := by decide +kernel
theorem dX7_ripens_102 : decode cX7_ripens 102 = .ok (.iinc 2 1, 3) := by decide +kernel
theorem dX7_ripens_105 : decode cX7_ripens 105 = .ok (.goto (-80), 3) := by decide +kernel
theorem dX7_ripens_108 : decode cX7_ripens 108 = .ok (.aload_n 0, 1) := by decide +kernel
theorem dX7_ripens_109 : decode cX7_ripens 109 = .ok (.getfield 43, 3) := by decide +kernel
theorem dX7_ripens_112 : decode cX7_ripens 112 = .ok (.iload_n 1, 1) := by decide +kernel
theorem dX7_ripens_113 : decode cX7_ripens 113 = .ok (.aload_n 0, 1) := by decide +kernel
theorem dX7_ripens_114 : decode cX7_ripens 114 = .ok (.getfield 46, 3) := by decide +kernel
theorem dX7_ripens_117 : decode cX7_ripens 117 = .ok (.iload_n 1, 1) := by decide +kernel
theorem dX7_ripens_118 : decode cX7_ripens 118 = .ok (.iaload, 1) := by decide +kernel
theorem dX7_ripens_119 : decode cX7_ripens 119 = .ok (.iconst (-1), 1) := by decide +kernel
theorem dX7_ripens_120 : decode cX7_ripens 120 = .ok (.if_icmp .ne 12, 3) := by decide +kernel
theorem dX7_ripens_123 : decode cX7_ripens 123 = .ok (.aload_n 0, 1) := by decide +kernel
theorem dX7_ripens_124 : decode cX7_ripens 124 = .ok (.getfield 43, 3) := by decide +kernel
theorem dX7_ripens_127 : decode cX7_ripens 127 = .ok (.iload_n 1, 1) := by decide +kernel
theorem dX7_ripens_128 : decode cX7_ripens 128 = .ok (.iaload, 1) := by decide +kernel
theorem dX7_ripens_129 : decode cX7_ripens 129 = .ok (.goto 4, 3) := by decide +kernel
theorem dX7_ripens_132 : decode cX7_ripens 132 = .ok (.iconst (-1), 1) := by decide +kernel
theorem dX7_ripens_133 : decode cX7_ripens 133 = .ok (.iastore, 1) := by decide +kernel
theorem dX7_ripens_134 : decode cX7_ripens 134 = .ok (.iconst 0, 1) := by decide +kernel
theorem dX7_ripens_135 : decode cX7_ripens 135 = .ok (.istore_n 2, 1) := by decide +kernel
theorem dX7_ripens_136 : decode cX7_ripens 136 = .ok (.iload_n 2, 1) := by decide +kernel
theorem dX7_ripens_137 : decode cX7_ripens 137 = .ok (.aload_n 0, 1) := by decide +kernel
theorem dX7_ripens_138 : decode cX7_ripens 138 = .ok (.getfield 149, 3) := by decide +kernel
theorem dX7_ripens_141 : decode cX7_ripens 141 = .ok (.if_icmp .ge 94, 3) := by decide +kernel
theorem dX7_ripens_144 : decode cX7_ripens 144 = .ok (.aload_n 0, 1) := by decide +kernel
theorem dX7_ripens_145 : decode cX7_ripens 145 = .ok (.getfield 161, 3) := by decide +kernel
theorem dX7_ripens_148 : decode cX7_ripens 148 = .ok (.iload_n 2, 1) := by decide +kernel
theorem dX7_ripens_149 : decode cX7_ripens 149 = .ok (.invokestatic 154, 3) := by decide +kernel
theorem dX7_ripens_152 : decode cX7_ripens 152 = .ok (.ifCond .ne 48, 3) := by decide +kernel
theorem dX7_ripens_155 : decode cX7_ripens 155 = .ok (.aload_n 0, 1) := by decide +kernel
theorem dX7_ripens_156 : decode cX7_ripens 156 = .ok (.getfield 40, 3) := by decide +kernel
theorem dX7_ripens_159 : decode cX7_ripens 159 = .ok (.iconst 2, 1) := by decide +kernel
theorem dX7_ripens_160 : decode cX7_ripens 160 = .ok (.iload_n 2, 1) := by decide +kernel
theorem dX7_ripens_161 : decode cX7_ripens 161 = .ok (.imul, 1) := by decide +kernel
theorem dX7_ripens_162 : decode cX7_ripens 162 = .ok (.iconst 1, 1) := by decide +kernel
theorem dX7_ripens_163 : decode cX7_ripens 163 = .ok (.iadd, 1) := by decide +kernel
theorem dX7_ripens_164 : decode cX7_ripens 164 = .ok (.iaload, 1) := by decide +kernel
theorem dX7_ripens_165 : decode cX7_ripens 165 = .ok (.iload_n 1, 1) := by decide +kernel
theorem dX7_ripens_166 : decode cX7_ripens 166 = .ok (.if_icmp .ne 34, 3) := by decide +kernel
theorem dX7_ripens_169 : decode cX7_ripens 169 = .ok (.aload_n 0, 1) := by decide +kernel
theorem dX7_ripens_170 : decode cX7_ripens 170 = .ok (.getfield 46, 3) := by decide +kernel
theorem dX7_ripens_173 : decode cX7_ripens 173 = .ok (.iload_n 1, 1) := by decide +kernel
theorem dX7_ripens_174 : decode cX7_ripens 174 = .ok (.iaload, 1) := by decide +kernel
theorem dX7_ripens_175 : decode cX7_ripens 175 = .ok (.iconst (-1), 1) := by decide +kernel
theorem dX7_ripens_176 : decode cX7_ripens 176 = .ok (.if_icmp .eq 20, 3) := by decide +kernel
theorem dX7_ripens_179 : decode cX7_ripens 179 = .ok (.aload_n 0, 1) := by decide +kernel
theorem dX7_ripens_180 : decode cX7_ripens 180 = .ok (.getfield 40, 3) := by decide +kernel
theorem dX7_ripens_183 : decode cX7_ripens 183 = .ok (.iconst 2, 1) := by decide +kernel
theorem dX7_ripens_184 : decode cX7_ripens 184 = .ok (.iload_n 2, 1) := by decide +kernel
theorem dX7_ripens_185 : decode cX7_ripens 185 = .ok (.imul, 1) := by decide +kernel
theorem dX7_ripens_186 : decode cX7_ripens 186 = .ok (.iaload, 1) := by decide +kernel
theorem dX7_ripens_187 : decode cX7_ripens 187 = .ok (.aload_n 0, 1) := by decide +kernel
theorem dX7_ripens_188 : decode cX7_ripens 188 = .ok (.getfield 46, 3) := by decide +kernel
theorem dX7_ripens_191 : decode cX7_ripens 191 = .ok (.iload_n 1, 1) := by decide +kernel
theorem dX7_ripens_192 : decode cX7_ripens 192 = .ok (.iaload, 1) := by decide +kernel
theorem dX7_ripens_193 : decode cX7_ripens 193 = .ok (.if_icmp .ge 7, 3) := by decide +kernel
theorem dX7_ripens_196 : decode cX7_ripens 196 = .ok (.iconst 1, 1) := by decide +kernel
theorem dX7_ripens_197 : decode cX7_ripens 197 = .ok (.goto 4, 3) := by decide +kernel
theorem dX7_ripens_200 : decode cX7_ripens 200 = .ok (.iconst 0, 1) := by decide +kernel
theorem dX7_ripens_201 : decode cX7_ripens 201 = .ok (.istore_n 3, 1) := by decide +kernel
theorem dX7_ripens_202 : decode cX7_ripens 202 = .ok (.aload_n 0, 1) := by decide +kernel
theorem dX7_ripens_203 : decode cX7_ripens 203 = .ok (.getfield 46, 3) := by decide +kernel
theorem dX7_ripens_206 : decode cX7_ripens 206 = .ok (.iload_n 1, 1) := by decide +kernel
theorem dX7_ripens_207 : decode cX7_ripens 207 = .ok (.iload_n 3, 1) := by decide +kernel
theorem dX7_ripens_208 : decode cX7_ripens 208 = .ok (.ifCond .eq 14, 3) := by decide +kernel
theorem dX7_ripens_211 : decode cX7_ripens 211 = .ok (.aload_n 0, 1) := by decide +kernel
theorem dX7_ripens_212 : decode cX7_ripens 212 = .ok (.getfield 40, 3) := by decide +kernel
theorem dX7_ripens_215 : decode cX7_ripens 215 = .ok (.iconst 2, 1) := by decide +kernel
theorem dX7_ripens_216 : decode cX7_ripens 216 = .ok (.iload_n 2, 1) := by decide +kernel
theorem dX7_ripens_217 : decode cX7_ripens 217 = .ok (.imul, 1) := by decide +kernel
theorem dX7_ripens_218 : decode cX7_ripens 218 = .ok (.iaload, 1) := by decide +kernel
theorem dX7_ripens_219 : decode cX7_ripens 219 = .ok (.goto 9, 3) := by decide +kernel
theorem dX7_ripens_222 : decode cX7_ripens 222 = .ok (.aload_n 0, 1) := by decide +kernel
theorem dX7_ripens_223 : decode cX7_ripens 223 = .ok (.getfield 46, 3) := by decide +kernel
theorem dX7_ripens_226 : decode cX7_ripens 226 = .ok (.iload_n 1, 1) := by decide +kernel
theorem dX7_ripens_227 : decode cX7_ripens 227 = .ok (.iaload, 1) := by decide +kernel
theorem dX7_ripens_228 : decode cX7_ripens 228 = .ok (.iastore, 1) := by decide +kernel
theorem dX7_ripens_229 : decode cX7_ripens 229 = .ok (.iinc 2 1, 3) := by decide +kernel
theorem dX7_ripens_232 : decode cX7_ripens 232 = .ok (.goto (-96), 3) := by decide +kernel
theorem dX7_ripens_235 : decode cX7_ripens 235 = .ok (.return_, 1) := by decide +kernel
theorem dX7_span_0 : decode cX7_span 0 = .ok (.iload_n 0, 1) := by decide +kernel
theorem dX7_span_1 : decode cX7_span 1 = .ok (.ifCond .ne 7, 3) := by decide +kernel
theorem dX7_span_4 : decode cX7_span 4 = .ok (.iconst 3, 1) := by decide +kernel
theorem dX7_span_5 : decode cX7_span 5 = .ok (.goto 13, 3) := by decide +kernel
theorem dX7_span_8 : decode cX7_span 8 = .ok (.iload_n 0, 1) := by decide +kernel
theorem dX7_span_9 : decode cX7_span 9 = .ok (.iconst 1, 1) := by decide +kernel
theorem dX7_span_10 : decode cX7_span 10 = .ok (.if_icmp .ne 7, 3) := by decide +kernel
theorem dX7_span_13 : decode cX7_span 13 = .ok (.iconst 5, 1) := by decide +kernel
theorem dX7_span_14 : decode cX7_span 14 = .ok (.goto 4, 3) := by decide +kernel
theorem dX7_span_17 : decode cX7_span 17 = .ok (.iconst 1, 1) := by decide +kernel
theorem dX7_span_18 : decode cX7_span 18 = .ok (.ireturn, 1) := by decide +kernel
theorem dX7_isRipe_0 : decode cX7_isRipe 0 = .ok (.aload_n 0, 1) := by decide +kernel
theorem dX7_isRipe_1 : decode cX7_isRipe 1 = .ok (.getfield 43, 3) := by decide +kernel
theorem dX7_isRipe_4 : decode cX7_isRipe 4 = .ok (.iload_n 1, 1) := by decide +kernel
theorem dX7_isRipe_5 : decode cX7_isRipe 5 = .ok (.iaload, 1) := by decide +kernel
theorem dX7_isRipe_6 : decode cX7_isRipe 6 = .ok (.iconst (-1), 1) := by decide +kernel
theorem dX7_isRipe_7 : decode cX7_isRipe 7 = .ok (.if_icmp .eq 63, 3) := by decide +kernel
theorem dX7_isRipe_10 : decode cX7_isRipe 10 = .ok (.iload_n 2, 1) := by decide +kernel
theorem dX7_isRipe_11 : decode cX7_isRipe 11 = .ok (.i2l, 1) := by decide +kernel
theorem dX7_isRipe_12 : decode cX7_isRipe 12 = .ok (.aload_n 0, 1) := by decide +kernel
theorem dX7_isRipe_13 : decode cX7_isRipe 13 = .ok (.getfield 43, 3) := by decide +kernel
theorem dX7_isRipe_16 : decode cX7_isRipe 16 = .ok (.iload_n 1, 1) := by decide +kernel
theorem dX7_isRipe_17 : decode cX7_isRipe 17 = .ok (.iaload, 1) := by decide +kernel
theorem dX7_isRipe_18 : decode cX7_isRipe 18 = .ok (.i2l, 1) := by decide +kernel
theorem dX7_isRipe_19 : decode cX7_isRipe 19 = .ok (.aload_n 0, 1) := by decide +kernel
theorem dX7_isRipe_20 : decode cX7_isRipe 20 = .ok (.getfield 43, 3) := by decide +kernel
theorem dX7_isRipe_23 : decode cX7_isRipe 23 = .ok (.iload_n 1, 1) := by decide +kernel
theorem dX7_isRipe_24 : decode cX7_isRipe 24 = .ok (.iaload, 1) := by decide +kernel
theorem dX7_isRipe_25 : decode cX7_isRipe 25 = .ok (.aload_n 0, 1) := by decide +kernel
theorem dX7_isRipe_26 : decode cX7_isRipe 26 = .ok (.getfield 28, 3) := by decide +kernel
theorem dX7_isRipe_29 : decode cX7_isRipe 29 = .ok (.iconst 2, 1) := by decide +kernel
theorem dX7_isRipe_30 : decode cX7_isRipe 30 = .ok (.iload_n 1, 1) := by decide +kernel
theorem dX7_isRipe_31 : decode cX7_isRipe 31 = .ok (.imul, 1) := by decide +kernel
theorem dX7_isRipe_32 : decode cX7_isRipe 32 = .ok (.iaload, 1) := by decide +kernel
theorem dX7_isRipe_33 : decode cX7_isRipe 33 = .ok (.invokestatic 164, 3) := by decide +kernel
theorem dX7_isRipe_36 : decode cX7_isRipe 36 = .ok (.iadd, 1) := by decide +kernel
theorem dX7_isRipe_37 : decode cX7_isRipe 37 = .ok (.iconst 1, 1) := by decide +kernel
theorem dX7_isRipe_38 : decode cX7_isRipe 38 = .ok (.isub, 1) := by decide +kernel
theorem dX7_isRipe_39 : decode cX7_isRipe 39 = .ok (.i2l, 1) := by decide +kernel
theorem dX7_isRipe_40 : decode cX7_isRipe 40 = .ok (.invokestatic 79, 3) := by decide +kernel
theorem dX7_isRipe_43 : decode cX7_isRipe 43 = .ok (.ifCond .eq 27, 3) := by decide +kernel
theorem dX7_isRipe_46 : decode cX7_isRipe 46 = .ok (.aload_n 0, 1) := by decide +kernel
theorem dX7_isRipe_47 : decode cX7_isRipe 47 = .ok (.getfield 46, 3) := by decide +kernel
theorem dX7_isRipe_50 : decode cX7_isRipe 50 = .ok (.iload_n 1, 1) := by decide +kernel
theorem dX7_isRipe_51 : decode cX7_isRipe 51 = .ok (.iaload, 1) := by decide +kernel
theorem dX7_isRipe_52 : decode cX7_isRipe 52 = .ok (.iconst (-1), 1) := by decide +kernel
theorem dX7_isRipe_53 : decode cX7_isRipe 53 = .ok (.if_icmp .eq 13, 3) := by decide +kernel
theorem dX7_isRipe_56 : decode cX7_isRipe 56 = .ok (.iload_n 2, 1) := by decide +kernel
theorem dX7_isRipe_57 : decode cX7_isRipe 57 = .ok (.aload_n 0, 1) := by decide +kernel
theorem dX7_isRipe_58 : decode cX7_isRipe 58 = .ok (.getfield 46, 3) := by decide +kernel
theorem dX7_isRipe_61 : decode cX7_isRipe 61 = .ok (.iload_n 1, 1) := by decide +kernel
theorem dX7_isRipe_62 : decode cX7_isRipe 62 = .ok (.iaload, 1) := by decide +kernel
theorem dX7_isRipe_63 : decode cX7_isRipe 63 = .ok (.if_icmp .ge 7, 3) := by decide +kernel
theorem dX7_isRipe_66 : decode cX7_isRipe 66 = .ok (.iconst 1, 1) := by decide +kernel
theorem dX7_isRipe_67 : decode cX7_isRipe 67 = .ok (.goto 4, 3) := by decide +kernel
theorem dX7_isRipe_70 : decode cX7_isRipe 70 = .ok (.iconst 0, 1) := by decide +kernel
theorem dX7_isRipe_71 : decode cX7_isRipe 71 = .ok (.ireturn, 1) := by decide +kernel
theorem dX7_wants_0 : decode cX7_wants 0 = .ok (.aload_n 0, 1) := by decide +kernel
theorem dX7_wants_1 : decode cX7_wants 1 = .ok (.getfield 31, 3) := by decide +kernel
theorem dX7_wants_4 : decode cX7_wants 4 = .ok (.iconst 3, 1) := by decide +kernel
theorem dX7_wants_5 : decode cX7_wants 5 = .ok (.iload_n 1, 1) := by decide +kernel
theorem dX7_wants_6 : decode cX7_wants 6 = .ok (.imul, 1) := by decide +kernel
theorem dX7_wants_7 : decode cX7_wants 7 = .ok (.iaload, 1) := by decide +kernel
theorem dX7_wants_8 : decode cX7_wants 8 = .ok (.iconst 3, 1) := by decide +kernel
theorem dX7_wants_9 : decode cX7_wants 9 = .ok (.if_icmp .eq 22, 3) := by decide +kernel
theorem dX7_wants_12 : decode cX7_wants 12 = .ok (.aload_n 0, 1) := by decide +kernel
theorem dX7_wants_13 : decode cX7_wants 13 = .ok (.getfield 31, 3) := by decide +kernel
theorem dX7_wants_16 : decode cX7_wants 16 = .ok (.iconst 3, 1) := by decide +kernel
theorem dX7_wants_17 : decode cX7_wants 17 = .ok (.iload_n 1, 1) := by decide +kernel
theorem dX7_wants_18 : decode cX7_wants 18 = .ok (.imul, 1) := by decide +kernel
theorem dX7_wants_19 : decode cX7_wants 19 = .ok (.iaload, 1) := by decide +kernel
theorem dX7_wants_20 : decode cX7_wants 20 = .ok (.aload_n 0, 1) := by decide +kernel
theorem dX7_wants_21 : decode cX7_wants 21 = .ok (.getfield 28, 3) := by decide +kernel
theorem dX7_wants_24 : decode cX7_wants 24 = .ok (.iconst 2, 1) := by decide +kernel
theorem dX7_wants_25 : decode cX7_wants 25 = .ok (.iload_n 2, 1) := by decide +kernel
theorem dX7_wants_26 : decode cX7_wants 26 = .ok (.imul, 1) := by decide +kernel
theorem dX7_wants_27 : decode cX7_wants 27 = .ok (.iaload, 1) := by decide +kernel
theorem dX7_wants_28 : decode cX7_wants 28 = .ok (.if_icmp .ne 7, 3) := by decide +kernel
theorem dX7_wants_31 : decode cX7_wants 31 = .ok (.iconst 1, 1) := by decide +kernel
theorem dX7_wants_32 : decode cX7_wants 32 = .ok (.goto 4, 3) := by decide +kernel
theorem dX7_wants_35 : decode cX7_wants 35 = .ok (.iconst 0, 1) := by decide +kernel
theorem dX7_wants_36 : decode cX7_wants 36 = .ok (.ireturn, 1) := by decide +kernel
theorem dX7_comes_0 : decode cX7_comes 0 = .ok (.iload_n 2, 1) := by decide +kernel
theorem dX7_comes_1 : decode cX7_comes 1 = .ok (.i2l, 1) := by decide +kernel
theorem dX7_comes_2 : decode cX7_comes 2 = .ok (.aload_n 0, 1) := by decide +kernel
theorem dX7_comes_3 : decode cX7_comes 3 = .ok (.getfield 31, 3) := by decide +kernel
theorem dX7_comes_6 : decode cX7_comes 6 = .ok (.iconst 3, 1) := by decide +kernel
theorem dX7_comes_7 : decode cX7_comes 7 = .ok (.iload_n 1, 1) := by decide +kernel
theorem dX7_comes_8 : decode cX7_comes 8 = .ok (.imul, 1) := by decide +kernel
theorem dX7_comes_9 : decode cX7_comes 9 = .ok (.iconst 1, 1) := by decide +kernel
theorem dX7_comes_10 : decode cX7_comes 10 = .ok (.iadd, 1) := by decide +kernel
theorem dX7_comes_11 : decode cX7_comes 11 = .ok (.iaload, 1) := by decide +kernel
theorem dX7_comes_12 : decode cX7_comes 12 = .ok (.i2l, 1) := by decide +kernel
theorem dX7_comes_13 : decode cX7_comes 13 = .ok (.aload_n 0, 1) := by decide +kernel
theorem dX7_comes_14 : decode cX7_comes 14 = .ok (.getfield 31, 3) := by decide +kernel
theorem dX7_comes_17 : decode cX7_comes 17 = .ok (.iconst 3, 1) := by decide +kernel
theorem dX7_comes_18 : decode cX7_comes 18 = .ok (.iload_n 1, 1) := by decide +kernel
theorem dX7_comes_19 : decode cX7_comes 19 = .ok (.imul, 1) := by decide +kernel
theorem dX7_comes_20 : decode cX7_comes 20 = .ok (.iconst 1, 1) := by decide +kernel
theorem dX7_comes_21 : decode cX7_comes 21 = .ok (.iadd, 1) := by decide +kernel
theorem dX7_comes_22 : decode cX7_comes 22 = .ok (.iaload, 1) := by decide +kernel
theorem dX7_comes_23 : decode cX7_comes 23 = .ok (.aload_n 0, 1) := by decide +kernel
theorem dX7_comes_24 : decode cX7_comes 24 = .ok (.getfield 31, 3) := by decide +kernel
theorem dX7_comes_27 : decode cX7_comes 27 = .ok (.iconst 3, 1) := by decide +kernel
theorem dX7_comes_28 : decode cX7_comes 28 = .ok (.iload_n 1, 1) := by decide +kernel
theorem dX7_comes_29 : decode cX7_comes 29 = .ok (.imul, 1) := by decide +kernel
theorem dX7_comes_30 : decode cX7_comes 30 = .ok (.iconst 2, 1) := by decide +kernel
theorem dX7_comes_31 : decode cX7_comes 31 = .ok (.iadd, 1) := by decide +kernel
theorem dX7_comes_32 : decode cX7_comes 32 = .ok (.iaload, 1) := by decide +kernel
theorem dX7_comes_33 : decode cX7_comes 33 = .ok (.iadd, 1) := by decide +kernel
theorem dX7_comes_34 : decode cX7_comes 34 = .ok (.iconst 1, 1) := by decide +kernel
theorem dX7_comes_35 : decode cX7_comes 35 = .ok (.isub, 1) := by decide +kernel
theorem dX7_comes_36 : decode cX7_comes 36 = .ok (.i2l, 1) := by decide +kernel
theorem dX7_comes_37 : decode cX7_comes 37 = .ok (.invokestatic 79, 3) := by decide +kernel
theorem dX7_comes_40 : decode cX7_comes 40 = .ok (.ireturn, 1) := by decide +kernel
theorem dX7_lifts_0 : decode cX7_lifts 0 = .ok (.iconst 0, 1) := by decide +kernel
theorem dX7_lifts_1 : decode cX7_lifts 1 = .ok (.istore 4, 2) := by decide +kernel
theorem dX7_lifts_3 : decode cX7_lifts 3 = .ok (.iload 4, 2) := by decide +kernel
theorem dX7_lifts_5 : decode cX7_lifts 5 = .ok (.aload_n 0, 1) := by decide +kernel
theorem dX7_lifts_6 : decode cX7_lifts 6 = .ok (.getfield 124, 3) := by decide +kernel
theorem dX7_lifts_9 : decode cX7_lifts 9 = .ok (.if_icmp .ge 119, 3) := by decide +kernel
theorem dX7_lifts_12 : decode cX7_lifts 12 = .ok (.iload 4, 2) := by decide +kernel
theorem dX7_lifts_14 : decode cX7_lifts 14 = .ok (.iload_n 1, 1) := by decide +kernel
theorem dX7_lifts_15 : decode cX7_lifts 15 = .ok (.if_icmp .eq 70, 3) := by decide +kernel
theorem dX7_lifts_18 : decode cX7_lifts 18 = .ok (.aload_n 0, 1) := by decide +kernel
theorem dX7_lifts_19 : decode cX7_lifts 19 = .ok (.getfield 167, 3) := by decide +kernel
theorem dX7_lifts_22 : decode cX7_lifts 22 = .ok (.iconst (-1), 1) := by decide +kernel
theorem dX7_lifts_23 : decode cX7_lifts 23 = .ok (.if_icmp .ne 62, 3) := by decide +kernel
theorem dX7_lifts_26 : decode cX7_lifts 26 = .ok (.aload_n 0, 1) := by decide +kernel
theorem dX7_lifts_27 : decode cX7_lifts 27 = .ok (.iload 4, 2) := by decide +kernel
theorem dX7_lifts_29 : decode cX7_lifts 29 = .ok (.iload_n 2, 1) := by decide +kernel
theorem dX7_lifts_30 : decode cX7_lifts 30 = .ok (.invokevirtual 170, 3) := by decide +kernel
theorem dX7_lifts_33 : decode cX7_lifts 33 = .ok (.ifCond .eq 52, 3) := by decide +kernel
theorem dX7_lifts_36 : decode cX7_lifts 36 = .ok (.aload_n 0, 1) := by decide +kernel
theorem dX7_lifts_37 : decode cX7_lifts 37 = .ok (.iload 4, 2) := by decide +kernel
theorem dX7_lifts_39 : decode cX7_lifts 39 = .ok (.iload_n 3, 1) := by decide +kernel
theorem dX7_lifts_40 : decode cX7_lifts 40 = .ok (.invokevirtual 173, 3) := by decide +kernel
theorem dX7_lifts_43 : decode cX7_lifts 43 = .ok (.ifCond .eq 42, 3) := by decide +kernel
theorem dX7_lifts_46 : decode cX7_lifts 46 = .ok (.aload_n 0, 1) := by decide +kernel
theorem dX7_lifts_47 : decode cX7_lifts 47 = .ok (.getfield 55, 3) := by decide +kernel
theorem dX7_lifts_50 : decode cX7_lifts 50 = .ok (.iload 4, 2) := by decide +kernel
theorem dX7_lifts_52 : decode cX7_lifts 52 = .ok (.iaload, 1) := by decide +kernel
theorem dX7_lifts_53 : decode cX7_lifts 53 = .ok (.iconst (-1), 1) := by decide +kernel
theorem dX7_lifts_54 : decode cX7_lifts 54 = .ok (.if_icmp .ne 31, 3) := by decide +kernel
theorem dX7_lifts_57 : decode cX7_lifts 57 = .ok (.aload_n 0, 1) := by decide +kernel
theorem dX7_lifts_58 : decode cX7_lifts 58 = .ok (.getfield 31, 3) := by decide +kernel
theorem dX7_lifts_61 : decode cX7_lifts 61 = .ok (.iconst 3, 1) := by decide +kernel
theorem dX7_lifts_62 : decode cX7_lifts 62 = .ok (.iload 4, 2) := by decide +kernel
theorem dX7_lifts_64 : decode cX7_lifts 64 = .ok (.imul, 1) := by decide +kernel
theorem dX7_lifts_65 : decode cX7_lifts 65 = .ok (.iconst 1, 1) := by decide +kernel
theorem dX7_lifts_66 : decode cX7_lifts 66 = .ok (.iadd, 1) := by decide +kernel
theorem dX7_lifts_67 : decode cX7_lifts 67 = .ok (.iaload, 1) := by decide +kernel
theorem dX7_lifts_68 : decode cX7_lifts 68 = .ok (.aload_n 0, 1) := by decide +kernel
theorem dX7_lifts_69 : decode cX7_lifts 69 = .ok (.getfield 31, 3) := by decide +kernel
theorem dX7_lifts_72 : decode cX7_lifts 72 = .ok (.iconst 3, 1) := by decide +kernel
theorem dX7_lifts_73 : decode cX7_lifts 73 = .ok (.iload_n 1, 1) := by decide +kernel
theorem dX7_lifts_74 : decode cX7_lifts 74 = .ok (.imul, 1) := by decide +kernel
theorem dX7_lifts_75 : decode cX7_lifts 75 = .ok (.iconst 1, 1) := by decide +kernel
theorem dX7_lifts_76 : decode cX7_lifts 76 = .ok (.iadd, 1) := by decide +kernel
theorem dX7_lifts_77 : decode cX7_lifts 77 = .ok (.iaload, 1) := by decide +kernel
theorem dX7_lifts_78 : decode cX7_lifts 78 = .ok (.if_icmp .ge 7, 3) := by decide +kernel
theorem dX7_lifts_81 : decode cX7_lifts 81 = .ok (.iconst 1, 1) := by decide +kernel
theorem dX7_lifts_82 : decode cX7_lifts 82 = .ok (.goto 4, 3) := by decide +kernel
theorem dX7_lifts_85 : decode cX7_lifts 85 = .ok (.iconst 0, 1) := by decide +kernel
theorem dX7_lifts_86 : decode cX7_lifts 86 = .ok (.istore 5, 2) := by decide +kernel
theorem dX7_lifts_88 : decode cX7_lifts 88 = .ok (.aload_n 0, 1) := by decide +kernel
theorem dX7_lifts_89 : decode cX7_lifts 89 = .ok (.iload 5, 2) := by decide +kernel
theorem dX7_lifts_91 : decode cX7_lifts 91 = .ok (.ifCond .eq 7, 3) := by decide +kernel
theorem dX7_lifts_94 : decode cX7_lifts 94 = .ok (.iload_n 1, 1) := by decide +kernel
theorem dX7_lifts_95 : decode cX7_lifts 95 = .ok (.goto 7, 3) := by decide +kernel
theorem dX7_lifts_98 : decode cX7_lifts 98 = .ok (.aload_n 0, 1) := by decide +kernel
theorem dX7_lifts_99 : decode cX7_lifts 99 = .ok (.getfield 167, 3) := by decide +kernel
theorem dX7_lifts_102 : decode cX7_lifts 102 = .ok (.putfield 167, 3) := by decide +kernel
theorem dX7_lifts_105 : decode cX7_lifts 105 = .ok (.aload_n 0, 1) := by decide +kernel
theorem dX7_lifts_106 : decode cX7_lifts 106 = .ok (.iload 5, 2) := by decide +kernel
theorem dX7_lifts_108 : decode cX7_lifts 108 = .ok (.ifCond .eq 7, 3) := by decide +kernel
theorem dX7_lifts_111 : decode cX7_lifts 111 = .ok (.iload_n 3, 1) := by decide +kernel
theorem dX7_lifts_112 : decode cX7_lifts 112 = .ok (.goto 7, 3) := by decide +kernel
theorem dX7_lifts_115 : decode cX7_lifts 115 = .ok (.aload_n 0, 1) := by decide +kernel
theorem dX7_lifts_116 : decode cX7_lifts 116 = .ok (.getfield 176, 3) := by decide +kernel
theorem dX7_lifts_119 : decode cX7_lifts 119 = .ok (.putfield 176, 3) := by decide +kernel
theorem dX7_lifts_122 : decode cX7_lifts 122 = .ok (.iinc 4 1, 3) := by decide +kernel
theorem dX7_lifts_125 : decode cX7_lifts 125 = .ok (.goto (-122), 3) := by decide +kernel
theorem dX7_lifts_128 : decode cX7_lifts 128 = .ok (.aload_n 0, 1) := by decide +kernel
theorem dX7_lifts_129 : decode cX7_lifts 129 = .ok (.getfield 49, 3) := by decide +kernel
theorem dX7_lifts_132 : decode cX7_lifts 132 = .ok (.iload_n 2, 1) := by decide +kernel
theorem dX7_lifts_133 : decode cX7_lifts 133 = .ok (.iload_n 1, 1) := by decide +kernel
theorem dX7_lifts_134 : decode cX7_lifts 134 = .ok (.iastore, 1) := by decide +kernel
theorem dX7_lifts_135 : decode cX7_lifts 135 = .ok (.aload_n 0, 1) := by decide +kernel
theorem dX7_lifts_136 : decode cX7_lifts 136 = .ok (.getfield 52, 3) := by decide +kernel
theorem dX7_lifts_139 : decode cX7_lifts 139 = .ok (.iload_n 2, 1) := by decide +kernel
theorem dX7_lifts_140 : decode cX7_lifts 140 = .ok (.iload_n 3, 1) := by decide +kernel
theorem dX7_lifts_141 : decode cX7_lifts 141 = .ok (.iastore, 1) := by decide +kernel
theorem dX7_lifts_142 : decode cX7_lifts 142 = .ok (.aload_n 0, 1) := by decide +kernel
theorem dX7_lifts_143 : decode cX7_lifts 143 = .ok (.getfield 55, 3) := by decide +kernel
theorem dX7_lifts_146 : decode cX7_lifts 146 = .ok (.iload_n 1, 1) := by decide +kernel
theorem dX7_lifts_147 : decode cX7_lifts 147 = .ok (.iload_n 2, 1) := by decide +kernel
theorem dX7_lifts_148 : decode cX7_lifts 148 = .ok (.iastore, 1) := by decide +kernel
theorem dX7_lifts_149 : decode cX7_lifts 149 = .ok (.aload_n 0, 1) := by decide +kernel
theorem dX7_lifts_150 : decode cX7_lifts 150 = .ok (.getfield 58, 3) := by decide +kernel
theorem dX7_lifts_153 : decode cX7_lifts 153 = .ok (.iload_n 1, 1) := by decide +kernel
theorem dX7_lifts_154 : decode cX7_lifts 154 = .ok (.iload_n 3, 1) := by decide +kernel
theorem dX7_lifts_155 : decode cX7_lifts 155 = .ok (.iastore, 1) := by decide +kernel
theorem dX7_lifts_156 : decode cX7_lifts 156 = .ok (.aload_n 0, 1) := by decide +kernel
theorem dX7_lifts_157 : decode cX7_lifts 157 = .ok (.getfield 61, 3) := by decide +kernel
theorem dX7_lifts_160 : decode cX7_lifts 160 = .ok (.iload_n 1, 1) := by decide +kernel
theorem dX7_lifts_161 : decode cX7_lifts 161 = .ok (.aload_n 0, 1) := by decide +kernel
theorem dX7_lifts_162 : decode cX7_lifts 162 = .ok (.iconst 1, 1) := by decide +kernel
theorem dX7_lifts_163 : decode cX7_lifts 163 = .ok (.iload_n 3, 1) := by decide +kernel
theorem dX7_lifts_164 : decode cX7_lifts 164 = .ok (.invokevirtual 158, 3) := by decide +kernel
theorem dX7_lifts_167 : decode cX7_lifts 167 = .ok (.ifCond .eq 7, 3) := by decide +kernel
theorem dX7_lifts_170 : decode cX7_lifts 170 = .ok (.iconst 2, 1) := by decide +kernel
theorem dX7_lifts_171 : decode cX7_lifts 171 = .ok (.goto 4, 3) := by decide +kernel
theorem dX7_lifts_174 : decode cX7_lifts 174 = .ok (.iconst 1, 1) := by decide +kernel
theorem dX7_lifts_175 : decode cX7_lifts 175 = .ok (.iastore, 1) := by decide +kernel
theorem dX7_lifts_176 : decode cX7_lifts 176 = .ok (.return_, 1) := by decide +kernel
theorem dX7_dawn_0 : decode cX7_dawn 0 = .ok (.iconst 0, 1) := by decide +kernel
theorem dX7_dawn_1 : decode cX7_dawn 1 = .ok (.istore_n 3, 1) := by decide +kernel
theorem dX7_dawn_2 : decode cX7_dawn 2 = .ok (.iload_n 3, 1) := by decide +kernel
theorem dX7_dawn_3 : decode cX7_dawn 3 = .ok (.aload_n 0, 1) := by decide +kernel
theorem dX7_dawn_4 : decode cX7_dawn 4 = .ok (.getfield 118, 3) := by decide +kernel
theorem dX7_dawn_7 : decode cX7_dawn 7 = .ok (.if_icmp .ge 54, 3) := by decide +kernel
theorem dX7_dawn_10 : decode cX7_dawn 10 = .ok (.aload_n 0, 1) := by decide +kernel
theorem dX7_dawn_11 : decode cX7_dawn 11 = .ok (.getfield 55, 3) := by decide +kernel
theorem dX7_dawn_14 : decode cX7_dawn 14 = .ok (.iload_n 1, 1) := by decide +kernel
theorem dX7_dawn_15 : decode cX7_dawn 15 = .ok (.iaload, 1) := by decide +kernel
theorem dX7_dawn_16 : decode cX7_dawn 16 = .ok (.iconst (-1), 1) := by decide +kernel
theorem dX7_dawn_17 : decode cX7_dawn 17 = .ok (.if_icmp .ne 44, 3) := by decide +kernel
theorem dX7_dawn_20 : decode cX7_dawn 20 = .ok (.aload_n 0, 1) := by decide +kernel
theorem dX7_dawn_21 : decode cX7_dawn 21 = .ok (.getfield 49, 3) := by decide +kernel
theorem dX7_dawn_24 : decode cX7_dawn 24 = .ok (.iload_n 3, 1) := by decide +kernel
theorem dX7_dawn_25 : decode cX7_dawn 25 = .ok (.iaload, 1) := by decide +kernel
theorem dX7_dawn_26 : decode cX7_dawn 26 = .ok (.iconst (-1), 1) := by decide +kernel
theorem dX7_dawn_27 : decode cX7_dawn 27 = .ok (.if_icmp .ne 28, 3) := by decide +kernel
theorem dX7_dawn_30 : decode cX7_dawn 30 = .ok (.aload_n 0, 1) := by decide +kernel
theorem dX7_dawn_31 : decode cX7_dawn 31 = .ok (.iload_n 1, 1) := by decide +kernel
theorem dX7_dawn_32 : decode cX7_dawn 32 = .ok (.iload_n 3, 1) := by decide +kernel
theorem dX7_dawn_33 : decode cX7_dawn 33 = .ok (.invokevirtual 170, 3) := by decide +kernel
theorem dX7_dawn_36 : decode cX7_dawn 36 = .ok (.ifCond .eq 19, 3) := by decide +kernel
theorem dX7_dawn_39 : decode cX7_dawn 39 = .ok (.aload_n 0, 1) := by decide +kernel
theorem dX7_dawn_40 : decode cX7_dawn 40 = .ok (.iload_n 3, 1) := by decide +kernel
theorem dX7_dawn_41 : decode cX7_dawn 41 = .ok (.iload_n 2, 1) := by decide +kernel
theorem dX7_dawn_42 : decode cX7_dawn 42 = .ok (.invokevirtual 179, 3) := by decide +kernel
theorem dX7_dawn_45 : decode cX7_dawn 45 = .ok (.ifCond .eq 10, 3) := by decide +kernel
theorem dX7_dawn_48 : decode cX7_dawn 48 = .ok (.aload_n 0, 1) := by decide +kernel
theorem dX7_dawn_49 : decode cX7_dawn 49 = .ok (.iload_n 1, 1) := by decide +kernel
theorem dX7_dawn_50 : decode cX7_dawn 50 = .ok (.iload_n 3, 1) := by decide +kernel
theorem dX7_dawn_51 : decode cX7_dawn 51 = .ok (.iload_n 2, 1) := by decide +kernel
theorem dX7_dawn_52 : decode cX7_dawn 52 = .ok (.invokevirtual 182, 3) := by decide +kernel
theorem dX7_dawn_55 : decode cX7_dawn 55 = .ok (.iinc 3 1, 3) := by decide +kernel
theorem dX7_dawn_58 : decode cX7_dawn 58 = .ok (.goto (-56), 3) := by decide +kernel
theorem dX7_dawn_61 : decode cX7_dawn 61 = .ok (.return_, 1) := by decide +kernel
theorem dX7_lives_0 : decode cX7_lives 0 = .ok (.iconst 0, 1) := by decide +kernel
theorem dX7_lives_1 : decode cX7_lives 1 = .ok (.istore_n 1, 1) := by decide +kernel
theorem dX7_lives_2 : decode cX7_lives 2 = .ok (.iload_n 1, 1) := by decide +kernel
theorem dX7_lives_3 : decode cX7_lives 3 = .ok (.aload_n 0, 1) := by decide +kernel
theorem dX7_lives_4 : decode cX7_lives 4 = .ok (.getfield 118, 3) := by decide +kernel
theorem dX7_lives_7 : decode cX7_lives 7 = .ok (.if_icmp .ge 28, 3) := by decide +kernel
theorem dX7_lives_10 : decode cX7_lives 10 = .ok (.aload_n 0, 1) := by decide +kernel
theorem dX7_lives_11 : decode cX7_lives 11 = .ok (.iload_n 1, 1) := by decide +kernel
theorem dX7_lives_12 : decode cX7_lives 12 = .ok (.invokevirtual 186, 3) := by decide +kernel
theorem dX7_lives_15 : decode cX7_lives 15 = .ok (.aload_n 0, 1) := by decide +kernel
theorem dX7_lives_16 : decode cX7_lives 16 = .ok (.getfield 49, 3) := by decide +kernel
theorem dX7_lives_19 : decode cX7_lives 19 = .ok (.iload_n 1, 1) := by decide +kernel
theorem dX7_lives_20 : decode cX7_lives 20 = .ok (.iconst (-1), 1) := by decide +kernel
theorem dX7_lives_21 : decode cX7_lives 21 = .ok (.iastore, 1) := by decide +kernel
theorem dX7_lives_22 : decode cX7_lives 22 = .ok (.aload_n 0, 1) := by decide +kernel
theorem dX7_lives_23 : decode cX7_lives 23 = .ok (.getfield 52, 3) := by decide +kernel
theorem dX7_lives_26 : decode cX7_lives 26 = .ok (.iload_n 1, 1) := by decide +kernel
theorem dX7_lives_27 : decode cX7_lives 27 = .ok (.iconst (-1), 1) := by decide +kernel
theorem dX7_lives_28 : decode cX7_lives 28 = .ok (.iastore, 1) := by decide +kernel
theorem dX7_lives_29 : decode cX7_lives 29 = .ok (.iinc 1 1, 3) := by decide +kernel
theorem dX7_lives_32 : decode cX7_lives 32 = .ok (.goto (-30), 3) := by decide +kernel
theorem dX7_lives_35 : decode cX7_lives 35 = .ok (.iconst 0, 1) := by decide +kernel
theorem dX7_lives_36 : decode cX7_lives 36 = .ok (.istore_n 1, 1) := by decide +kernel
theorem dX7_lives_37 : decode cX7_lives 37 = .ok (.iload_n 1, 1) := by decide +kernel
theorem dX7_lives_38 : decode cX7_lives 38 = .ok (.aload_n 0, 1) := by decide +kernel
theorem dX7_lives_39 : decode cX7_lives 39 = .ok (.getfield 124, 3) := by decide +kernel
theorem dX7_lives_42 : decode cX7_lives 42 = .ok (.if_icmp .ge 30, 3) := by decide +kernel
theorem dX7_lives_45 : decode cX7_lives 45 = .ok (.aload_n 0, 1) := by decide +kernel
theorem dX7_lives_46 : decode cX7_lives 46 = .ok (.getfield 55, 3) := by decide +kernel
theorem dX7_lives_49 : decode cX7_lives 49 = .ok (.iload_n 1, 1) := by decide +kernel
theorem dX7_lives_50 : decode cX7_lives 50 = .ok (.iconst (-1), 1) := by decide +kernel
theorem dX7_lives_51 : decode cX7_lives 51 = .ok (.iastore, 1) := by decide +kernel
theorem dX7_lives_52 : decode cX7_lives 52 = .ok (.aload_n 0, 1) := by decide +kernel
theorem dX7_lives_53 : decode cX7_lives 53 = .ok (.getfield 58, 3) := by decide +kernel
theorem dX7_lives_56 : decode cX7_lives 56 = .ok (.iload_n 1, 1) := by decide +kernel
theorem dX7_lives_57 : decode cX7_lives 57 = .ok (.iconst (-1), 1) := by decide +kernel
theorem dX7_lives_58 : decode cX7_lives 58 = .ok (.iastore, 1) := by decide +kernel
theorem dX7_lives_59 : decode cX7_lives 59 = .ok (.aload_n 0, 1) := by decide +kernel
theorem dX7_lives_60 : decode cX7_lives 60 = .ok (.getfield 61, 3) := by decide +kernel
theorem dX7_lives_63 : decode cX7_lives 63 = .ok (.iload_n 1, 1) := by decide +kernel
theorem dX7_lives_64 : decode cX7_lives 64 = .ok (.iconst 0, 1) := by decide +kernel
theorem dX7_lives_65 : decode cX7_lives 65 = .ok (.iastore, 1) := by decide +kernel
theorem dX7_lives_66 : decode cX7_lives 66 = .ok (.iinc 1 1, 3) := by decide +kernel
theorem dX7_lives_69 : decode cX7_lives 69 = .ok (.goto (-32), 3) := by decide +kernel
theorem dX7_lives_72 : decode cX7_lives 72 = .ok (.aload_n 0, 1) := by decide +kernel
theorem dX7_lives_73 : decode cX7_lives 73 = .ok (.iconst (-1), 1) := by decide +kernel
theorem dX7_lives_74 : decode cX7_lives 74 = .ok (.putfield 167, 3) := by decide +kernel
theorem dX7_lives_77 : decode cX7_lives 77 = .ok (.aload_n 0, 1) := by decide +kernel
theorem dX7_lives_78 : decode cX7_lives 78 = .ok (.iconst (-1), 1) := by decide +kernel
theorem dX7_lives_79 : decode cX7_lives 79 = .ok (.putfield 176, 3) := by decide +kernel
theorem dX7_lives_82 : decode cX7_lives 82 = .ok (.iconst 0, 1) := by decide +kernel
theorem dX7_lives_83 : decode cX7_lives 83 = .ok (.istore_n 1, 1) := by decide +kernel
theorem dX7_lives_84 : decode cX7_lives 84 = .ok (.iload_n 1, 1) := by decide +kernel
theorem dX7_lives_85 : decode cX7_lives 85 = .ok (.bipush 40, 2) := by decide +kernel
theorem dX7_lives_87 : decode cX7_lives 87 = .ok (.if_icmp .ge 40, 3) := by decide +kernel
theorem dX7_lives_90 : decode cX7_lives 90 = .ok (.iconst 0, 1) := by decide +kernel
theorem dX7_lives_91 : decode cX7_lives 91 = .ok (.istore_n 2, 1) := by decide +kernel
theorem dX7_lives_92 : decode cX7_lives 92 = .ok (.iload_n 2, 1) := by decide +kernel
theorem dX7_lives_93 : decode cX7_lives 93 = .ok (.aload_n 0, 1) := by decide +kernel
theorem dX7_lives_94 : decode cX7_lives 94 = .ok (.getfield 124, 3) := by decide +kernel
theorem dX7_lives_97 : decode cX7_lives 97 = .ok (.if_icmp .ge 24, 3) := by decide +kernel
theorem dX7_lives_100 : decode cX7_lives 100 = .ok (.aload_n 0, 1) := by decide +kernel
theorem dX7_lives_101 : decode cX7_lives 101 = .ok (.iload_n 2, 1) := by decide +kernel
theorem dX7_lives_102 : decode cX7_lives 102 = .ok (.iload_n 1, 1) := by decide +kernel
theorem dX7_lives_103 : decode cX7_lives 103 = .ok (.invokevirtual 173, 3) := by decide +kernel
theorem dX7_lives_106 : decode cX7_lives 106 = .ok (.ifCond .eq 9, 3) := by decide +kernel
theorem dX7_lives_109 : decode cX7_lives 109 = .ok (.aload_n 0, 1) := by decide +kernel
theorem dX7_lives_110 : decode cX7_lives 110 = .ok (.iload_n 2, 1) := by decide +kernel
theorem dX7_lives_111 : decode cX7_lives 111 = .ok (.iload_n 1, 1) := by decide +kernel
theorem dX7_lives_112 : decode cX7_lives 112 = .ok (.invokevirtual 190, 3) := by decide +kernel
theorem dX7_lives_115 : decode cX7_lives 115 = .ok (.iinc 2 1, 3) := by decide +kernel
theorem dX7_lives_118 : decode cX7_lives 118 = .ok (.goto (-26), 3) := by decide +kernel
theorem dX7_lives_121 : decode cX7_lives 121 = .ok (.iinc 1 1, 3) := by decide +kernel
theorem dX7_lives_124 : decode cX7_lives 124 = .ok (.goto (-40), 3) := by decide +kernel
