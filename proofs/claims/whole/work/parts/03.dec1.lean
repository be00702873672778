theorem dJ0_length_8abf5_0 : decode cJ0_length_8abf5 0 = .ok (.aload_n 0, 1) := by decide +kernel
theorem dJ0_length_8abf5_1 : decode cJ0_length_8abf5 1 = .ok (.getfield 9, 3) := by decide +kernel
theorem dJ0_length_8abf5_4 : decode cJ0_length_8abf5 4 = .ok (.arraylength, 1) := by decide +kernel
theorem dJ0_length_8abf5_5 : decode cJ0_length_8abf5 5 = .ok (.aload_n 0, 1) := by decide +kernel
theorem dJ0_length_8abf5_6 : decode cJ0_length_8abf5 6 = .ok (.invokevirtual 335, 3) := by decide +kernel
theorem dJ0_length_8abf5_9 : decode cJ0_length_8abf5 9 = .ok (.ishr, 1) := by decide +kernel
theorem dJ0_length_8abf5_10 : decode cJ0_length_8abf5 10 = .ok (.ireturn, 1) := by decide +kernel
theorem dJ0_indexOf_0f7a4_0 : decode cJ0_indexOf_0f7a4 0 = .ok (.aload_n 0, 1) := by decide +kernel
theorem dJ0_indexOf_0f7a4_1 : decode cJ0_indexOf_0f7a4 1 = .ok (.iload_n 1, 1) := by decide +kernel
theorem dJ0_indexOf_0f7a4_2 : decode cJ0_indexOf_0f7a4 2 = .ok (.iconst 0, 1) := by decide +kernel
theorem dJ0_indexOf_0f7a4_3 : decode cJ0_indexOf_0f7a4 3 = .ok (.invokevirtual 633, 3) := by decide +kernel
theorem dJ0_indexOf_0f7a4_6 : decode cJ0_indexOf_0f7a4 6 = .ok (.ireturn, 1) := by decide +kernel
theorem dJ0_indexOf_7cf53_0 : decode cJ0_indexOf_7cf53 0 = .ok (.aload_n 0, 1) := by decide +kernel
theorem dJ0_indexOf_7cf53_1 : decode cJ0_indexOf_7cf53 1 = .ok (.invokevirtual 492, 3) := by decide +kernel
theorem dJ0_indexOf_7cf53_4 : decode cJ0_indexOf_7cf53 4 = .ok (.ifCond .eq 19, 3) := by decide +kernel
theorem dJ0_indexOf_7cf53_7 : decode cJ0_indexOf_7cf53 7 = .ok (.aload_n 0, 1) := by decide +kernel
theorem dJ0_indexOf_7cf53_8 : decode cJ0_indexOf_7cf53 8 = .ok (.getfield 9, 3) := by decide +kernel
theorem dJ0_indexOf_7cf53_11 : decode cJ0_indexOf_7cf53 11 = .ok (.iload_n 1, 1) := by decide +kernel
theorem dJ0_indexOf_7cf53_12 : decode cJ0_indexOf_7cf53 12 = .ok (.iload_n 2, 1) := by decide +kernel
theorem dJ0_indexOf_7cf53_13 : decode cJ0_indexOf_7cf53 13 = .ok (.aload_n 0, 1) := by decide +kernel
theorem dJ0_indexOf_7cf53_14 : decode cJ0_indexOf_7cf53 14 = .ok (.invokevirtual 505, 3) := by decide +kernel
theorem dJ0_indexOf_7cf53_17 : decode cJ0_indexOf_7cf53 17 = .ok (.invokestatic 637, 3) := by decide +kernel
theorem dJ0_indexOf_7cf53_20 : decode cJ0_indexOf_7cf53 20 = .ok (.goto 16, 3) := by decide +kernel
theorem dJ0_indexOf_7cf53_23 : decode cJ0_indexOf_7cf53 23 = .ok (.aload_n 0, 1) := by decide +kernel
theorem dJ0_indexOf_7cf53_24 : decode cJ0_indexOf_7cf53 24 = .ok (.getfield 9, 3) := by decide +kernel
theorem dJ0_indexOf_7cf53_27 : decode cJ0_indexOf_7cf53 27 = .ok (.iload_n 1, 1) := by decide +kernel
theorem dJ0_indexOf_7cf53_28 : decode cJ0_indexOf_7cf53 28 = .ok (.iload_n 2, 1) := by decide +kernel
theorem dJ0_indexOf_7cf53_29 : decode cJ0_indexOf_7cf53 29 = .ok (.aload_n 0, 1) := by decide +kernel
theorem dJ0_indexOf_7cf53_30 : decode cJ0_indexOf_7cf53 30 = .ok (.invokevirtual 505, 3) := by decide +kernel
theorem dJ0_indexOf_7cf53_33 : decode cJ0_indexOf_7cf53 33 = .ok (.invokestatic 640, 3) := by decide +kernel
theorem dJ0_indexOf_7cf53_36 : decode cJ0_indexOf_7cf53 36 = .ok (.ireturn, 1) := by decide +kernel
theorem dJ0_coder_7d493_0 : decode cJ0_coder_7d493 0 = .ok (.getstatic 38, 3) := by decide +kernel
theorem dJ0_coder_7d493_3 : decode cJ0_coder_7d493 3 = .ok (.ifCond .eq 10, 3) := by decide +kernel
theorem dJ0_coder_7d493_6 : decode cJ0_coder_7d493 6 = .ok (.aload_n 0, 1) := by decide +kernel
theorem dJ0_coder_7d493_7 : decode cJ0_coder_7d493 7 = .ok (.getfield 15, 3) := by decide +kernel
theorem dJ0_coder_7d493_10 : decode cJ0_coder_7d493 10 = .ok (.goto 4, 3) := by decide +kernel
theorem dJ0_coder_7d493_13 : decode cJ0_coder_7d493 13 = .ok (.iconst 1, 1) := by decide +kernel
theorem dJ0_coder_7d493_14 : decode cJ0_coder_7d493 14 = .ok (.ireturn, 1) := by decide +kernel
theorem dJ0_isLatin1_aae02_0 : decode cJ0_isLatin1_aae02 0 = .ok (.getstatic 38, 3) := by decide +kernel
theorem dJ0_isLatin1_aae02_3 : decode cJ0_isLatin1_aae02 3 = .ok (.ifCond .eq 14, 3) := by decide +kernel
theorem dJ0_isLatin1_aae02_6 : decode cJ0_isLatin1_aae02 6 = .ok (.aload_n 0, 1) := by decide +kernel
theorem dJ0_isLatin1_aae02_7 : decode cJ0_isLatin1_aae02 7 = .ok (.getfield 15, 3) := by decide +kernel
theorem dJ0_isLatin1_aae02_10 : decode cJ0_isLatin1_aae02 10 = .ok (.ifCond .ne 7, 3) := by decide +kernel
theorem dJ0_isLatin1_aae02_13 : decode cJ0_isLatin1_aae02 13 = .ok (.iconst 1, 1) := by decide +kernel
theorem dJ0_isLatin1_aae02_14 : decode cJ0_isLatin1_aae02 14 = .ok (.goto 4, 3) := by decide +kernel
theorem dJ0_isLatin1_aae02_17 : decode cJ0_isLatin1_aae02 17 = .ok (.iconst 0, 1) := by decide +kernel
theorem dJ0_isLatin1_aae02_18 : decode cJ0_isLatin1_aae02 18 = .ok (.ireturn, 1) := by decide +kernel
theorem dJ0_checkBoundsBeginEnd_23922_0 : decode cJ0_checkBoundsBeginEnd_23922 0 = .ok (.iload_n 0, 1) := by decide +kernel
theorem dJ0_checkBoundsBeginEnd_23922_1 : decode cJ0_checkBoundsBeginEnd_23922 1 = .ok (.iload_n 1, 1) := by decide +kernel
theorem dJ0_checkBoundsBeginEnd_23922_2 : decode cJ0_checkBoundsBeginEnd_23922 2 = .ok (.iload_n 2, 1) := by decide +kernel
theorem dJ0_checkBoundsBeginEnd_23922_3 : decode cJ0_checkBoundsBeginEnd_23922 3 = .ok (.getstatic 1053, 3) := by decide +kernel
theorem dJ0_checkBoundsBeginEnd_23922_6 : decode cJ0_checkBoundsBeginEnd_23922 6 = .ok (.invokestatic 1062, 3) := by decide +kernel
theorem dJ0_checkBoundsBeginEnd_23922_9 : decode cJ0_checkBoundsBeginEnd_23922 9 = .ok (.pop, 1) := by decide +kernel
theorem dJ0_checkBoundsBeginEnd_23922_10 : decode cJ0_checkBoundsBeginEnd_23922 10 = .ok (.return_, 1) := by decide +kernel
theorem dJ1_canEncode_9a6ad_0 : decode cJ1_canEncode_9a6ad 0 = .ok (.iload_n 0, 1) := by decide +kernel
theorem dJ1_canEncode_9a6ad_1 : decode cJ1_canEncode_9a6ad 1 = .ok (.ifCond .lt 14, 3) := by decide +kernel
theorem dJ1_canEncode_9a6ad_4 : decode cJ1_canEncode_9a6ad 4 = .ok (.iload_n 0, 1) := by decide +kernel
theorem dJ1_canEncode_9a6ad_5 : decode cJ1_canEncode_9a6ad 5 = .ok (.sipush 255, 3) := by decide +kernel
theorem dJ1_canEncode_9a6ad_8 : decode cJ1_canEncode_9a6ad 8 = .ok (.if_icmp .gt 7, 3) := by decide +kernel
theorem dJ1_canEncode_9a6ad_11 : decode cJ1_canEncode_9a6ad 11 = .ok (.iconst 1, 1) := by decide +kernel
theorem dJ1_canEncode_9a6ad_12 : decode cJ1_canEncode_9a6ad 12 = .ok (.goto 4, 3) := by decide +kernel
theorem dJ1_canEncode_9a6ad_15 : decode cJ1_canEncode_9a6ad 15 = .ok (.iconst 0, 1) := by decide +kernel
theorem dJ1_canEncode_9a6ad_16 : decode cJ1_canEncode_9a6ad 16 = .ok (.ireturn, 1) := by decide +kernel
theorem dJ1_indexOf_4cfef_0 : decode cJ1_indexOf_4cfef 0 = .ok (.iload_n 1, 1) := by decide +kernel
theorem dJ1_indexOf_4cfef_1 : decode cJ1_indexOf_4cfef 1 = .ok (.invokestatic 88, 3) := by decide +kernel
theorem dJ1_indexOf_4cfef_4 : decode cJ1_indexOf_4cfef 4 = .ok (.ifCond .ne 5, 3) := by decide +kernel
theorem dJ1_indexOf_4cfef_7 : decode cJ1_indexOf_4cfef 7 = .ok (.iconst (-1), 1) := by decide +kernel
theorem dJ1_indexOf_4cfef_8 : decode cJ1_indexOf_4cfef 8 = .ok (.ireturn, 1) := by decide +kernel
theorem dJ1_indexOf_4cfef_9 : decode cJ1_indexOf_4cfef 9 = .ok (.iload_n 2, 1) := by decide +kernel
theorem dJ1_indexOf_4cfef_10 : decode cJ1_indexOf_4cfef 10 = .ok (.iconst 0, 1) := by decide +kernel
theorem dJ1_indexOf_4cfef_11 : decode cJ1_indexOf_4cfef 11 = .ok (.invokestatic 92, 3) := by decide +kernel
theorem dJ1_indexOf_4cfef_14 : decode cJ1_indexOf_4cfef 14 = .ok (.istore_n 2, 1) := by decide +kernel
theorem dJ1_indexOf_4cfef_15 : decode cJ1_indexOf_4cfef 15 = .ok (.iload_n 3, 1) := by decide +kernel
theorem dJ1_indexOf_4cfef_16 : decode cJ1_indexOf_4cfef 16 = .ok (.aload_n 0, 1) := by decide +kernel
theorem dJ1_indexOf_4cfef_17 : decode cJ1_indexOf_4cfef 17 = .ok (.arraylength, 1) := by decide +kernel
theorem dJ1_indexOf_4cfef_18 : decode cJ1_indexOf_4cfef 18 = .ok (.invokestatic 38, 3) := by decide +kernel
theorem dJ1_indexOf_4cfef_21 : decode cJ1_indexOf_4cfef 21 = .ok (.istore_n 3, 1) := by decide +kernel
theorem dJ1_indexOf_4cfef_22 : decode cJ1_indexOf_4cfef 22 = .ok (.iload_n 2, 1) := by decide +kernel
theorem dJ1_indexOf_4cfef_23 : decode cJ1_indexOf_4cfef 23 = .ok (.iload_n 3, 1) := by decide +kernel
theorem dJ1_indexOf_4cfef_24 : decode cJ1_indexOf_4cfef 24 = .ok (.if_icmp .lt 5, 3) := by decide +kernel
theorem dJ1_indexOf_4cfef_27 : decode cJ1_indexOf_4cfef 27 = .ok (.iconst (-1), 1) := by decide +kernel
theorem dJ1_indexOf_4cfef_28 : decode cJ1_indexOf_4cfef 28 = .ok (.ireturn, 1) := by decide +kernel
theorem dJ1_indexOf_4cfef_29 : decode cJ1_indexOf_4cfef 29 = .ok (.aload_n 0, 1) := by decide +kernel
theorem dJ1_indexOf_4cfef_30 : decode cJ1_indexOf_4cfef 30 = .ok (.iload_n 1, 1) := by decide +kernel
theorem dJ1_indexOf_4cfef_31 : decode cJ1_indexOf_4cfef 31 = .ok (.iload_n 2, 1) := by decide +kernel
theorem dJ1_indexOf_4cfef_32 : decode cJ1_indexOf_4cfef 32 = .ok (.iload_n 3, 1) := by decide +kernel
theorem dJ1_indexOf_4cfef_33 : decode cJ1_indexOf_4cfef 33 = .ok (.invokestatic 95, 3) := by decide +kernel
theorem dJ1_indexOf_4cfef_36 : decode cJ1_indexOf_4cfef 36 = .ok (.ireturn, 1) := by decide +kernel
theorem dJ1_indexOfChar_4cfef_0 : decode cJ1_indexOfChar_4cfef 0 = .ok (.iload_n 1, 1) := by decide +kernel
theorem dJ1_indexOfChar_4cfef_1 : decode cJ1_indexOfChar_4cfef 1 = .ok (.i2b, 1) := by decide +kernel
theorem dJ1_indexOfChar_4cfef_2 : decode cJ1_indexOfChar_4cfef 2 = .ok (.istore 4, 2) := by decide +kernel
theorem dJ1_indexOfChar_4cfef_4 : decode cJ1_indexOfChar_4cfef 4 = .ok (.iload_n 2, 1) := by decide +kernel
theorem dJ1_indexOfChar_4cfef_5 : decode cJ1_indexOfChar_4cfef 5 = .ok (.istore 5, 2) := by decide +kernel
theorem dJ1_indexOfChar_4cfef_7 : decode cJ1_indexOfChar_4cfef 7 = .ok (.iload 5, 2) := by decide +kernel
theorem dJ1_indexOfChar_4cfef_9 : decode cJ1_indexOfChar_4cfef 9 = .ok (.iload_n 3, 1) := by decide +kernel
theorem dJ1_indexOfChar_4cfef_10 : decode cJ1_indexOfChar_4cfef 10 = .ok (.if_icmp .ge 21, 3) := by decide +kernel
theorem dJ1_indexOfChar_4cfef_13 : decode cJ1_indexOfChar_4cfef 13 = .ok (.aload_n 0, 1) := by decide +kernel
theorem dJ1_indexOfChar_4cfef_14 : decode cJ1_indexOfChar_4cfef 14 = .ok (.iload 5, 2) := by decide +kernel
theorem dJ1_indexOfChar_4cfef_16 : decode cJ1_indexOfChar_4cfef 16 = .ok (.baload, 1) := by decide +kernel
theorem dJ1_indexOfChar_4cfef_17 : decode cJ1_indexOfChar_4cfef 17 = .ok (.iload 4, 2) := by decide +kernel
theorem dJ1_indexOfChar_4cfef_19 : decode cJ1_indexOfChar_4cfef 19 = .ok (.if_icmp .ne 6, 3) := by decide +kernel
theorem dJ1_indexOfChar_4cfef_22 : decode cJ1_indexOfChar_4cfef 22 = .ok (.iload 5, 2) := by decide +kernel
theorem dJ1_indexOfChar_4cfef_24 : decode cJ1_indexOfChar_4cfef 24 = .ok (.ireturn, 1) := by decide +kernel
theorem dJ1_indexOfChar_4cfef_25 : decode cJ1_indexOfChar_4cfef 25 = .ok (.iinc 5 1, 3) := by decide +kernel
theorem dJ1_indexOfChar_4cfef_28 : decode cJ1_indexOfChar_4cfef 28 = .ok (.goto (-21), 3) := by decide +kernel
theorem dJ1_indexOfChar_4cfef_31 : decode cJ1_indexOfChar_4cfef 31 = .ok (.iconst (-1), 1) := by decide +kernel
theorem dJ1_indexOfChar_4cfef_32 : decode cJ1_indexOfChar_4cfef 32 = .ok (.ireturn, 1) := by decide +kernel
theorem dJ11_isValidCodePoint_9a6ad_0 : decode cJ11_isValidCodePoint_9a6ad 0 = .ok (.iload_n 0, 1) := by decide +kernel
theorem dJ11_isValidCodePoint_9a6ad_1 : decode cJ11_isValidCodePoint_9a6ad 1 = .ok (.bipush 16, 2) := by decide +kernel
theorem dJ11_isValidCodePoint_9a6ad_3 : decode cJ11_isValidCodePoint_9a6ad 3 = .ok (.iushr, 1) := by decide +kernel
theorem dJ11_isValidCodePoint_9a6ad_4 : decode cJ11_isValidCodePoint_9a6ad 4 = .ok (.istore_n 1, 1) := by decide +kernel
theorem dJ11_isValidCodePoint_9a6ad_5 : decode cJ11_isValidCodePoint_9a6ad 5 = .ok (.iload_n 1, 1) := by decide +kernel
theorem dJ11_isValidCodePoint_9a6ad_6 : decode cJ11_isValidCodePoint_9a6ad 6 = .ok (.bipush 17, 2) := by decide +kernel
theorem dJ11_isValidCodePoint_9a6ad_8 : decode cJ11_isValidCodePoint_9a6ad 8 = .ok (.if_icmp .ge 7, 3) := by decide +kernel
theorem dJ11_isValidCodePoint_9a6ad_11 : decode cJ11_isValidCodePoint_9a6ad 11 = .ok (.iconst 1, 1) := by decide +kernel
theorem dJ11_isValidCodePoint_9a6ad_12 : decode cJ11_isValidCodePoint_9a6ad 12 = .ok (.goto 4, 3) := by decide +kernel
theorem dJ11_isValidCodePoint_9a6ad_15 : decode cJ11_isValidCodePoint_9a6ad 15 = .ok (.iconst 0, 1) := by decide +kernel
theorem dJ11_isValidCodePoint_9a6ad_16 : decode cJ11_isValidCodePoint_9a6ad 16 = .ok (.ireturn, 1) := by decide +kernel
theorem dJ11_highSurrogate_5068e_0 : decode cJ11_highSurrogate_5068e 0 = .ok (.iload_n 0, 1) := by decide +kernel
theorem dJ11_highSurrogate_5068e_1 : decode cJ11_highSurrogate_5068e 1 = .ok (.bipush 10, 2) := by decide +kernel
theorem dJ11_highSurrogate_5068e_3 : decode cJ11_highSurrogate_5068e 3 = .ok (.iushr, 1) := by decide +kernel
theorem dJ11_highSurrogate_5068e_4 : decode cJ11_highSurrogate_5068e 4 = .ok (.ldc 110, 2) := by decide +kernel
theorem dJ11_highSurrogate_5068e_6 : decode cJ11_highSurrogate_5068e 6 = .ok (.iadd, 1) := by decide +kernel
theorem dJ11_highSurrogate_5068e_7 : decode cJ11_highSurrogate_5068e 7 = .ok (.i2c, 1) := by decide +kernel
theorem dJ11_highSurrogate_5068e_8 : decode cJ11_highSurrogate_5068e 8 = .ok (.ireturn, 1) := by decide +kernel
theorem dJ11_lowSurrogate_5068e_0 : decode cJ11_lowSurrogate_5068e 0 = .ok (.iload_n 0, 1) := by decide +kernel
theorem dJ11_lowSurrogate_5068e_1 : decode cJ11_lowSurrogate_5068e 1 = .ok (.sipush 1023, 3) := by decide +kernel
theorem dJ11_lowSurrogate_5068e_4 : decode cJ11_lowSurrogate_5068e 4 = .ok (.iand, 1) := by decide +kernel
theorem dJ11_lowSurrogate_5068e_5 : decode cJ11_lowSurrogate_5068e 5 = .ok (.ldc 76, 2) := by decide +kernel
theorem dJ11_lowSurrogate_5068e_7 : decode cJ11_lowSurrogate_5068e 7 = .ok (.iadd, 1) := by decide +kernel
theorem dJ11_lowSurrogate_5068e_8 : decode cJ11_lowSurrogate_5068e 8 = .ok (.i2c, 1) := by decide +kernel
theorem dJ11_lowSurrogate_5068e_9 : decode cJ11_lowSurrogate_5068e 9 = .ok (.ireturn, 1) := by decide +kernel
theorem dJ2_getChar_3b067_0 : decode cJ2_getChar_3b067 0 = .ok (.getstatic 44, 3) := by decide +kernel
theorem dJ2_getChar_3b067_3 : decode cJ2_getChar_3b067 3 = .ok (.ifCond .ne 25, 3) := by decide +kernel
theorem dJ2_getChar_3b067_6 : decode cJ2_getChar_3b067 6 = .ok (.iload_n 1, 1) := by decide +kernel
theorem dJ2_getChar_3b067_7 : decode cJ2_getChar_3b067 7 = .ok (.ifCond .lt 11, 3) := by decide +kernel
theorem dJ2_getChar_3b067_10 : decode cJ2_getChar_3b067 10 = .ok (.iload_n 1, 1) := by decide +kernel
theorem dJ2_getChar_3b067_11 : decode cJ2_getChar_3b067 11 = .ok (.aload_n 0, 1) := by decide +kernel
theorem dJ2_getChar_3b067_12 : decode cJ2_getChar_3b067 12 = .ok (.invokestatic 48, 3) := by decide +kernel
theorem dJ2_getChar_3b067_15 : decode cJ2_getChar_3b067 15 = .ok (.if_icmp .lt 13, 3) := by decide +kernel
theorem dJ2_getChar_3b067_18 : decode cJ2_getChar_3b067 18 = .ok (.new 52, 3) := by decide +kernel
theorem dJ2_getChar_3b067_21 : decode cJ2_getChar_3b067 21 = .ok (.dup, 1) := by decide +kernel
theorem dJ2_getChar_3b067_22 : decode cJ2_getChar_3b067 22 = .ok (.ldc 54, 2) := by decide +kernel
theorem dJ2_getChar_3b067_24 : decode cJ2_getChar_3b067 24 = .ok (.invokespecial 56, 3) := by decide +kernel
theorem dJ2_getChar_3b067_27 : decode cJ2_getChar_3b067 27 = .ok (.athrow, 1) := by decide +kernel
theorem dJ2_getChar_3b067_28 : decode cJ2_getChar_3b067 28 = .ok (.iload_n 1, 1) := by decide +kernel
theorem dJ2_getChar_3b067_29 : decode cJ2_getChar_3b067 29 = .ok (.iconst 1, 1) := by decide +kernel
theorem dJ2_getChar_3b067_30 : decode cJ2_getChar_3b067 30 = .ok (.ishl, 1) := by decide +kernel
theorem dJ2_getChar_3b067_31 : decode cJ2_getChar_3b067 31 = .ok (.istore_n 1, 1) := by decide +kernel
theorem dJ2_getChar_3b067_32 : decode cJ2_getChar_3b067 32 = .ok (.aload_n 0, 1) := by decide +kernel
theorem dJ2_getChar_3b067_33 : decode cJ2_getChar_3b067 33 = .ok (.iload_n 1, 1) := by decide +kernel
theorem dJ2_getChar_3b067_34 : decode cJ2_getChar_3b067 34 = .ok (.iinc 1 1, 3) := by decide +kernel
theorem dJ2_getChar_3b067_37 : decode cJ2_getChar_3b067 37 = .ok (.baload, 1) := by decide +kernel
theorem dJ2_getChar_3b067_38 : decode cJ2_getChar_3b067 38 = .ok (.sipush 255, 3) := by decide +kernel
theorem dJ2_getChar_3b067_41 : decode cJ2_getChar_3b067 41 = .ok (.iand, 1) := by decide +kernel
theorem dJ2_getChar_3b067_42 : decode cJ2_getChar_3b067 42 = .ok (.getstatic 59, 3) := by decide +kernel
theorem dJ2_getChar_3b067_45 : decode cJ2_getChar_3b067 45 = .ok (.ishl, 1) := by decide +kernel
theorem dJ2_getChar_3b067_46 : decode cJ2_getChar_3b067 46 = .ok (.aload_n 0, 1) := by decide +kernel
theorem dJ2_getChar_3b067_47 : decode cJ2_getChar_3b067 47 = .ok (.iload_n 1, 1) := by decide +kernel
theorem dJ2_getChar_3b067_48 : decode cJ2_getChar_3b067 48 = .ok (.baload, 1) := by decide +kernel
theorem dJ2_getChar_3b067_49 : decode cJ2_getChar_3b067 49 = .ok (.sipush 255, 3) := by decide +kernel
theorem dJ2_getChar_3b067_52 : decode cJ2_getChar_3b067 52 = .ok (.iand, 1) := by decide +kernel
theorem dJ2_getChar_3b067_53 : decode cJ2_getChar_3b067 53 = .ok (.getstatic 63, 3) := by decide +kernel
theorem dJ2_getChar_3b067_56 : decode cJ2_getChar_3b067 56 = .ok (.ishl, 1) := by decide +kernel
theorem dJ2_getChar_3b067_57 : decode cJ2_getChar_3b067 57 = .ok (.ior, 1) := by decide +kernel
theorem dJ2_getChar_3b067_58 : decode cJ2_getChar_3b067 58 = .ok (.i2c, 1) := by decide +kernel
theorem dJ2_getChar_3b067_59 : decode cJ2_getChar_3b067 59 = .ok (.ireturn, 1) := by decide +kernel
theorem dJ2_length_9d52b_0 : decode cJ2_length_9d52b 0 = .ok (.aload_n 0, 1) := by decide +kernel
theorem dJ2_length_9d52b_1 : decode cJ2_length_9d52b 1 = .ok (.arraylength, 1) := by decide +kernel
theorem dJ2_length_9d52b_2 : decode cJ2_length_9d52b 2 = .ok (.iconst 1, 1) := by decide +kernel
theorem dJ2_length_9d52b_3 : decode cJ2_length_9d52b 3 = .ok (.ishr, 1) := by decide +kernel
theorem dJ2_length_9d52b_4 : decode cJ2_length_9d52b 4 = .ok (.ireturn, 1) := by decide +kernel
theorem dJ2_indexOf_4cfef_0 : decode cJ2_indexOf_4cfef 0 = .ok (.iload_n 2, 1) := by decide +kernel
theorem dJ2_indexOf_4cfef_1 : decode cJ2_indexOf_4cfef 1 = .ok (.iconst 0, 1) := by decide +kernel
theorem dJ2_indexOf_4cfef_2 : decode cJ2_indexOf_4cfef 2 = .ok (.invokestatic 224, 3) := by decide +kernel
theorem dJ2_indexOf_4cfef_5 : decode cJ2_indexOf_4cfef 5 = .ok (.istore_n 2, 1) := by decide +kernel
theorem dJ2_indexOf_4cfef_6 : decode cJ2_indexOf_4cfef 6 = .ok (.iload_n 3, 1) := by decide +kernel
theorem dJ2_indexOf_4cfef_7 : decode cJ2_indexOf_4cfef 7 = .ok (.aload_n 0, 1) := by decide +kernel
theorem dJ2_indexOf_4cfef_8 : decode cJ2_indexOf_4cfef 8 = .ok (.arraylength, 1) := by decide +kernel
theorem dJ2_indexOf_4cfef_9 : decode cJ2_indexOf_4cfef 9 = .ok (.iconst 1, 1) := by decide +kernel
theorem dJ2_indexOf_4cfef_10 : decode cJ2_indexOf_4cfef 10 = .ok (.ishr, 1) := by decide +kernel
theorem dJ2_indexOf_4cfef_11 : decode cJ2_indexOf_4cfef 11 = .ok (.invokestatic 183, 3) := by decide +kernel
theorem dJ2_indexOf_4cfef_14 : decode cJ2_indexOf_4cfef 14 = .ok (.istore_n 3, 1) := by decide +kernel
theorem dJ2_indexOf_4cfef_15 : decode cJ2_indexOf_4cfef 15 = .ok (.iload_n 2, 1) := by decide +kernel
theorem dJ2_indexOf_4cfef_16 : decode cJ2_indexOf_4cfef 16 = .ok (.iload_n 3, 1) := by decide +kernel
theorem dJ2_indexOf_4cfef_17 : decode cJ2_indexOf_4cfef 17 = .ok (.if_icmp .lt 5, 3) := by decide +kernel
theorem dJ2_indexOf_4cfef_20 : decode cJ2_indexOf_4cfef 20 = .ok (.iconst (-1), 1) := by decide +kernel
theorem dJ2_indexOf_4cfef_21 : decode cJ2_indexOf_4cfef 21 = .ok (.ireturn, 1) := by decide +kernel
theorem dJ2_indexOf_4cfef_22 : decode cJ2_indexOf_4cfef 22 = .ok (.iload_n 1, 1) := by decide +kernel
theorem dJ2_indexOf_4cfef_23 : decode cJ2_indexOf_4cfef 23 = .ok (.ldc 227, 2) := by decide +kernel
theorem dJ2_indexOf_4cfef_25 : decode cJ2_indexOf_4cfef 25 = .ok (.if_icmp .ge 11, 3) := by decide +kernel
theorem dJ2_indexOf_4cfef_28 : decode cJ2_indexOf_4cfef 28 = .ok (.aload_n 0, 1) := by decide +kernel
theorem dJ2_indexOf_4cfef_29 : decode cJ2_indexOf_4cfef 29 = .ok (.iload_n 1, 1) := by decide +kernel
theorem dJ2_indexOf_4cfef_30 : decode cJ2_indexOf_4cfef 30 = .ok (.iload_n 2, 1) := by decide +kernel
theorem dJ2_indexOf_4cfef_31 : decode cJ2_indexOf_4cfef 31 = .ok (.iload_n 3, 1) := by decide +kernel
theorem dJ2_indexOf_4cfef_32 : decode cJ2_indexOf_4cfef 32 = .ok (.invokestatic 228, 3) := by decide +kernel
theorem dJ2_indexOf_4cfef_35 : decode cJ2_indexOf_4cfef 35 = .ok (.ireturn, 1) := by decide +kernel
theorem dJ2_indexOf_4cfef_36 : decode cJ2_indexOf_4cfef 36 = .ok (.aload_n 0, 1) := by decide +kernel
theorem dJ2_indexOf_4cfef_37 : decode cJ2_indexOf_4cfef 37 = .ok (.iload_n 1, 1) := by decide +kernel
theorem dJ2_indexOf_4cfef_38 : decode cJ2_indexOf_4cfef 38 = .ok (.iload_n 2, 1) := by decide +kernel
theorem dJ2_indexOf_4cfef_39 : decode cJ2_indexOf_4cfef 39 = .ok (.iload_n 3, 1) := by decide +kernel
theorem dJ2_indexOf_4cfef_40 : decode cJ2_indexOf_4cfef 40 = .ok (.invokestatic 232, 3) := by decide +kernel
theorem dJ2_indexOf_4cfef_43 : decode cJ2_indexOf_4cfef 43 = .ok (.ireturn, 1) := by decide +kernel
theorem dJ2_indexOfChar_4cfef_0 : decode cJ2_indexOfChar_4cfef 0 = .ok (.iload_n 2, 1) := by decide +kernel
theorem dJ2_indexOfChar_4cfef_1 : decode cJ2_indexOfChar_4cfef 1 = .ok (.iload_n 3, 1) := by decide +kernel
theorem dJ2_indexOfChar_4cfef_2 : decode cJ2_indexOfChar_4cfef 2 = .ok (.aload_n 0, 1) := by decide +kernel
theorem dJ2_indexOfChar_4cfef_3 : decode cJ2_indexOfChar_4cfef 3 = .ok (.invokestatic 96, 3) := by decide +kernel
theorem dJ2_indexOfChar_4cfef_6 : decode cJ2_indexOfChar_4cfef 6 = .ok (.aload_n 0, 1) := by decide +kernel
theorem dJ2_indexOfChar_4cfef_7 : decode cJ2_indexOfChar_4cfef 7 = .ok (.iload_n 1, 1) := by decide +kernel
theorem dJ2_indexOfChar_4cfef_8 : decode cJ2_indexOfChar_4cfef 8 = .ok (.iload_n 2, 1) := by decide +kernel
theorem dJ2_indexOfChar_4cfef_9 : decode cJ2_indexOfChar_4cfef 9 = .ok (.iload_n 3, 1) := by decide +kernel
theorem dJ2_indexOfChar_4cfef_10 : decode cJ2_indexOfChar_4cfef 10 = .ok (.invokestatic 244, 3) := by decide +kernel
theorem dJ2_indexOfChar_4cfef_13 : decode cJ2_indexOfChar_4cfef 13 = .ok (.ireturn, 1) := by decide +kernel
theorem dJ2_indexOfCharUnsafe_4cfef_0 : decode cJ2_indexOfCharUnsafe_4cfef 0 = .ok (.iload_n 2, 1) := by decide +kernel
theorem dJ2_indexOfCharUnsafe_4cfef_1 : decode cJ2_indexOfCharUnsafe_4cfef 1 = .ok (.istore 4, 2) := by decide +kernel
theorem dJ2_indexOfCharUnsafe_4cfef_3 : decode cJ2_indexOfCharUnsafe_4cfef 3 = .ok (.iload 4, 2) := by decide +kernel
theorem dJ2_indexOfCharUnsafe_4cfef_5 : decode cJ2_indexOfCharUnsafe_4cfef 5 = .ok (.iload_n 3, 1) := by decide +kernel
theorem dJ2_indexOfCharUnsafe_4cfef_6 : decode cJ2_indexOfCharUnsafe_4cfef 6 = .ok (.if_icmp .ge 22, 3) := by decide +kernel
theorem dJ2_indexOfCharUnsafe_4cfef_9 : decode cJ2_indexOfCharUnsafe_4cfef 9 = .ok (.aload_n 0, 1) := by decide +kernel
theorem dJ2_indexOfCharUnsafe_4cfef_10 : decode cJ2_indexOfCharUnsafe_4cfef 10 = .ok (.iload 4, 2) := by decide +kernel
theorem dJ2_indexOfCharUnsafe_4cfef_12 : decode cJ2_indexOfCharUnsafe_4cfef 12 = .ok (.invokestatic 71, 3) := by decide +kernel
theorem dJ2_indexOfCharUnsafe_4cfef_15 : decode cJ2_indexOfCharUnsafe_4cfef 15 = .ok (.iload_n 1, 1) := by decide +kernel
theorem dJ2_indexOfCharUnsafe_4cfef_16 : decode cJ2_indexOfCharUnsafe_4cfef 16 = .ok (.if_icmp .ne 6, 3) := by decide +kernel
theorem dJ2_indexOfCharUnsafe_4cfef_19 : decode cJ2_indexOfCharUnsafe_4cfef 19 = .ok (.iload 4, 2) := by decide +kernel
theorem dJ2_indexOfCharUnsafe_4cfef_21 : decode cJ2_indexOfCharUnsafe_4cfef 21 = .ok (.ireturn, 1) := by decide +kernel
theorem dJ2_indexOfCharUnsafe_4cfef_22 : decode cJ2_indexOfCharUnsafe_4cfef 22 = .ok (.iinc 4 1, 3) := by decide +kernel
theorem dJ2_indexOfCharUnsafe_4cfef_25 : decode cJ2_indexOfCharUnsafe_4cfef 25 = .ok (.goto (-22), 3) := by decide +kernel
theorem dJ2_indexOfCharUnsafe_4cfef_28 : decode cJ2_indexOfCharUnsafe_4cfef 28 = .ok (.iconst (-1), 1) := by decide +kernel
theorem dJ2_indexOfCharUnsafe_4cfef_29 : decode cJ2_indexOfCharUnsafe_4cfef 29 = .ok (.ireturn, 1) := by decide +kernel
theorem dJ2_indexOfSupplementary_4cfef_0 : decode cJ2_indexOfSupplementary_4cfef 0 = .ok (.iload_n 1, 1) := by decide +kernel
theorem dJ2_indexOfSupplementary_4cfef_1 : decode cJ2_indexOfSupplementary_4cfef 1 = .ok (.invokestatic 164, 3) := by decide +kernel
theorem dJ2_indexOfSupplementary_4cfef_4 : decode cJ2_indexOfSupplementary_4cfef 4 = .ok (.ifCond .eq 65, 3) := by decide +kernel
theorem dJ2_indexOfSupplementary_4cfef_7 : decode cJ2_indexOfSupplementary_4cfef 7 = .ok (.iload_n 1, 1) := by decide +kernel
theorem dJ2_indexOfSupplementary_4cfef_8 : decode cJ2_indexOfSupplementary_4cfef 8 = .ok (.invokestatic 157, 3) := by decide +kernel
theorem dJ2_indexOfSupplementary_4cfef_11 : decode cJ2_indexOfSupplementary_4cfef 11 = .ok (.istore 4, 2) := by decide +kernel
theorem dJ2_indexOfSupplementary_4cfef_13 : decode cJ2_indexOfSupplementary_4cfef 13 = .ok (.iload_n 1, 1) := by decide +kernel
theorem dJ2_indexOfSupplementary_4cfef_14 : decode cJ2_indexOfSupplementary_4cfef 14 = .ok (.invokestatic 161, 3) := by decide +kernel
theorem dJ2_indexOfSupplementary_4cfef_17 : decode cJ2_indexOfSupplementary_4cfef 17 = .ok (.istore 5, 2) := by decide +kernel
theorem dJ2_indexOfSupplementary_4cfef_19 : decode cJ2_indexOfSupplementary_4cfef 19 = .ok (.iload_n 2, 1) := by decide +kernel
theorem dJ2_indexOfSupplementary_4cfef_20 : decode cJ2_indexOfSupplementary_4cfef 20 = .ok (.iload_n 3, 1) := by decide +kernel
theorem dJ2_indexOfSupplementary_4cfef_21 : decode cJ2_indexOfSupplementary_4cfef 21 = .ok (.aload_n 0, 1) := by decide +kernel
theorem dJ2_indexOfSupplementary_4cfef_22 : decode cJ2_indexOfSupplementary_4cfef 22 = .ok (.invokestatic 96, 3) := by decide +kernel
theorem dJ2_indexOfSupplementary_4cfef_25 : decode cJ2_indexOfSupplementary_4cfef 25 = .ok (.iload_n 2, 1) := by decide +kernel
theorem dJ2_indexOfSupplementary_4cfef_26 : decode cJ2_indexOfSupplementary_4cfef 26 = .ok (.istore 6, 2) := by decide +kernel
theorem dJ2_indexOfSupplementary_4cfef_28 : decode cJ2_indexOfSupplementary_4cfef 28 = .ok (.iload 6, 2) := by decide +kernel
theorem dJ2_indexOfSupplementary_4cfef_30 : decode cJ2_indexOfSupplementary_4cfef 30 = .ok (.iload_n 3, 1) := by decide +kernel
theorem dJ2_indexOfSupplementary_4cfef_31 : decode cJ2_indexOfSupplementary_4cfef 31 = .ok (.iconst 1, 1) := by decide +kernel
theorem dJ2_indexOfSupplementary_4cfef_32 : decode cJ2_indexOfSupplementary_4cfef 32 = .ok (.isub, 1) := by decide +kernel
theorem dJ2_indexOfSupplementary_4cfef_33 : decode cJ2_indexOfSupplementary_4cfef 33 = .ok (.if_icmp .ge 36, 3) := by decide +kernel
theorem dJ2_indexOfSupplementary_4cfef_36 : decode cJ2_indexOfSupplementary_4cfef 36 = .ok (.aload_n 0, 1) := by decide +kernel
theorem dJ2_indexOfSupplementary_4cfef_37 : decode cJ2_indexOfSupplementary_4cfef 37 = .ok (.iload 6, 2) := by decide +kernel
theorem dJ2_indexOfSupplementary_4cfef_39 : decode cJ2_indexOfSupplementary_4cfef 39 = .ok (.invokestatic 71, 3) := by decide +kernel
theorem dJ2_indexOfSupplementary_4cfef_42 : decode cJ2_indexOfSupplementary_4cfef 42 = .ok (.iload 4, 2) := by decide +kernel
theorem dJ2_indexOfSupplementary_4cfef_44 : decode cJ2_indexOfSupplementary_4cfef 44 = .ok (.if_icmp .ne 19, 3) := by decide +kernel
theorem dJ2_indexOfSupplementary_4cfef_47 : decode cJ2_indexOfSupplementary_4cfef 47 = .ok (.aload_n 0, 1) := by decide +kernel
theorem dJ2_indexOfSupplementary_4cfef_48 : decode cJ2_indexOfSupplementary_4cfef 48 = .ok (.iload 6, 2) := by decide +kernel
theorem dJ2_indexOfSupplementary_4cfef_50 : decode cJ2_indexOfSupplementary_4cfef 50 = .ok (.iconst 1, 1) := by decide +kernel
theorem dJ2_indexOfSupplementary_4cfef_51 : decode cJ2_indexOfSupplementary_4cfef 51 = .ok (.iadd, 1) := by decide +kernel
theorem dJ2_indexOfSupplementary_4cfef_52 : decode cJ2_indexOfSupplementary_4cfef 52 = .ok (.invokestatic 71, 3) := by decide +kernel
theorem dJ2_indexOfSupplementary_4cfef_55 : decode cJ2_indexOfSupplementary_4cfef 55 = .ok (.iload 5, 2) := by decide +kernel
theorem dJ2_indexOfSupplementary_4cfef_57 : decode cJ2_indexOfSupplementary_4cfef 57 = .ok (.if_icmp .ne 6, 3) := by decide +kernel
theorem dJ2_indexOfSupplementary_4cfef_60 : decode cJ2_indexOfSupplementary_4cfef 60 = .ok (.iload 6, 2) := by decide +kernel
theorem dJ2_indexOfSupplementary_4cfef_62 : decode cJ2_indexOfSupplementary_4cfef 62 = .ok (.ireturn, 1) := by decide +kernel
theorem dJ2_indexOfSupplementary_4cfef_63 : decode cJ2_indexOfSupplementary_4cfef 63 = .ok (.iinc 6 1, 3) := by decide +kernel
theorem dJ2_indexOfSupplementary_4cfef_66 : decode cJ2_indexOfSupplementary_4cfef 66 = .ok (.goto (-38), 3) := by decide +kernel
theorem dJ2_indexOfSupplementary_4cfef_69 : decode cJ2_indexOfSupplementary_4cfef 69 = .ok (.iconst (-1), 1) := by decide +kernel
theorem dJ2_indexOfSupplementary_4cfef_70 : decode cJ2_indexOfSupplementary_4cfef 70 = .ok (.ireturn, 1) := by decide +kernel
theorem dJ2_checkBoundsBeginEnd_d044e_0 : decode cJ2_checkBoundsBeginEnd_d044e 0 = .ok (.iload_n 0, 1) := by decide +kernel
theorem dJ2_checkBoundsBeginEnd_d044e_1 : decode cJ2_checkBoundsBeginEnd_d044e 1 = .ok (.iload_n 1, 1) := by decide +kernel
theorem dJ2_checkBoundsBeginEnd_d044e_2 : decode cJ2_checkBoundsBeginEnd_d044e 2 = .ok (.aload_n 2, 1) := by decide +kernel
theorem dJ2_checkBoundsBeginEnd_d044e_3 : decode cJ2_checkBoundsBeginEnd_d044e 3 = .ok (.invokestatic 48, 3) := by decide +kernel
theorem dJ2_checkBoundsBeginEnd_d044e_6 : decode cJ2_checkBoundsBeginEnd_d044e 6 = .ok (.invokestatic 241, 3) := by decide +kernel
theorem dJ2_checkBoundsBeginEnd_d044e_9 : decode cJ2_checkBoundsBeginEnd_d044e 9 = .ok (.return_, 1) := by decide +kernel
theorem dJ3_checkFromToIndex_8c36e_0 : decode cJ3_checkFromToIndex_8c36e 0 = .ok (.iload_n 0, 1) := by decide +kernel
theorem dJ3_checkFromToIndex_8c36e_1 : decode cJ3_checkFromToIndex_8c36e 1 = .ok (.ifCond .lt 13, 3) := by decide +kernel
theorem dJ3_checkFromToIndex_8c36e_4 : decode cJ3_checkFromToIndex_8c36e 4 = .ok (.iload_n 0, 1) := by decide +kernel
theorem dJ3_checkFromToIndex_8c36e_5 : decode cJ3_checkFromToIndex_8c36e 5 = .ok (.iload_n 1, 1) := by decide +kernel
theorem dJ3_checkFromToIndex_8c36e_6 : decode cJ3_checkFromToIndex_8c36e 6 = .ok (.if_icmp .gt 8, 3) := by decide +kernel
theorem dJ3_checkFromToIndex_8c36e_9 : decode cJ3_checkFromToIndex_8c36e 9 = .ok (.iload_n 1, 1) := by decide +kernel
theorem dJ3_checkFromToIndex_8c36e_10 : decode cJ3_checkFromToIndex_8c36e 10 = .ok (.iload_n 2, 1) := by decide +kernel
theorem dJ3_checkFromToIndex_8c36e_11 : decode cJ3_checkFromToIndex_8c36e 11 = .ok (.if_icmp .le 11, 3) := by decide +kernel
theorem dJ3_checkFromToIndex_8c36e_14 : decode cJ3_checkFromToIndex_8c36e 14 = .ok (.aload_n 3, 1) := by decide +kernel
theorem dJ3_checkFromToIndex_8c36e_15 : decode cJ3_checkFromToIndex_8c36e 15 = .ok (.iload_n 0, 1) := by decide +kernel
theorem dJ3_checkFromToIndex_8c36e_16 : decode cJ3_checkFromToIndex_8c36e 16 = .ok (.iload_n 1, 1) := by decide +kernel
theorem dJ3_checkFromToIndex_8c36e_17 : decode cJ3_checkFromToIndex_8c36e 17 = .ok (.iload_n 2, 1) := by decide +kernel
theorem dJ3_checkFromToIndex_8c36e_18 : decode cJ3_checkFromToIndex_8c36e 18 = .ok (.invokestatic 99, 3) := by decide +kernel
theorem dJ3_checkFromToIndex_8c36e_21 : decode cJ3_checkFromToIndex_8c36e 21 = .ok (.athrow, 1) := by decide +kernel
theorem dJ3_checkFromToIndex_8c36e_22 : decode cJ3_checkFromToIndex_8c36e 22 = .ok (.iload_n 0, 1) := by decide +kernel
theorem dJ3_checkFromToIndex_8c36e_23 : decode cJ3_checkFromToIndex_8c36e 23 = .ok (.ireturn, 1) := by decide +kernel
theorem dJ6_bitCount_0f7a4_0 : decode cJ6_bitCount_0f7a4 0 = .ok (.iload_n 0, 1) := by decide +kernel
theorem dJ6_bitCount_0f7a4_1 : decode cJ6_bitCount_0f7a4 1 = .ok (.iload_n 0, 1) := by decide +kernel
theorem dJ6_bitCount_0f7a4_2 : decode cJ6_bitCount_0f7a4 2 = .ok (.iconst 1, 1) := by decide +kernel
theorem dJ6_bitCount_0f7a4_3 : decode cJ6_bitCount_0f7a4 3 = .ok (.iushr, 1) := by decide +kernel
theorem dJ6_bitCount_0f7a4_4 : decode cJ6_bitCount_0f7a4 4 = .ok (.ldc_w 265, 3) := by decide +kernel
theorem dJ6_bitCount_0f7a4_7 : decode cJ6_bitCount_0f7a4 7 = .ok (.iand, 1) := by decide +kernel
theorem dJ6_bitCount_0f7a4_8 : decode cJ6_bitCount_0f7a4 8 = .ok (.isub, 1) := by decide +kernel
theorem dJ6_bitCount_0f7a4_9 : decode cJ6_bitCount_0f7a4 9 = .ok (.istore_n 0, 1) := by decide +kernel
theorem dJ6_bitCount_0f7a4_10 : decode cJ6_bitCount_0f7a4 10 = .ok (.iload_n 0, 1) := by decide +kernel
theorem dJ6_bitCount_0f7a4_11 : decode cJ6_bitCount_0f7a4 11 = .ok (.ldc_w 266, 3) := by decide +kernel
theorem dJ6_bitCount_0f7a4_14 : decode cJ6_bitCount_0f7a4 14 = .ok (.iand, 1) := by decide +kernel
theorem dJ6_bitCount_0f7a4_15 : decode cJ6_bitCount_0f7a4 15 = .ok (.iload_n 0, 1) := by decide +kernel
theorem dJ6_bitCount_0f7a4_16 : decode cJ6_bitCount_0f7a4 16 = .ok (.iconst 2, 1) := by decide +kernel
theorem dJ6_bitCount_0f7a4_17 : decode cJ6_bitCount_0f7a4 17 = .ok (.iushr, 1) := by decide +kernel
theorem dJ6_bitCount_0f7a4_18 : decode cJ6_bitCount_0f7a4 18 = .ok (.ldc_w 266, 3) := by decide +kernel
theorem dJ6_bitCount_0f7a4_21 : decode cJ6_bitCount_0f7a4 21 = .ok (.iand, 1) := by decide +kernel
theorem dJ6_bitCount_0f7a4_22 : decode cJ6_bitCount_0f7a4 22 = .ok (.iadd, 1) := by decide +kernel
theorem dJ6_bitCount_0f7a4_23 : decode cJ6_bitCount_0f7a4 23 = .ok (.istore_n 0, 1) := by decide +kernel
theorem dJ6_bitCount_0f7a4_24 : decode cJ6_bitCount_0f7a4 24 = .ok (.iload_n 0, 1) := by decide +kernel
theorem dJ6_bitCount_0f7a4_25 : decode cJ6_bitCount_0f7a4 25 = .ok (.iload_n 0, 1) := by decide +kernel
theorem dJ6_bitCount_0f7a4_26 : decode cJ6_bitCount_0f7a4 26 = .ok (.iconst 4, 1) := by decide +kernel
theorem dJ6_bitCount_0f7a4_27 : decode cJ6_bitCount_0f7a4 27 = .ok (.iushr, 1) := by decide +kernel
theorem dJ6_bitCount_0f7a4_28 : decode cJ6_bitCount_0f7a4 28 = .ok (.iadd, 1) := by decide +kernel
theorem dJ6_bitCount_0f7a4_29 : decode cJ6_bitCount_0f7a4 29 = .ok (.ldc_w 267, 3) := by decide +kernel
theorem dJ6_bitCount_0f7a4_32 : decode cJ6_bitCount_0f7a4 32 = .ok (.iand, 1) := by decide +kernel
theorem dJ6_bitCount_0f7a4_33 : decode cJ6_bitCount_0f7a4 33 = .ok (.istore_n 0, 1) := by decide +kernel
theorem dJ6_bitCount_0f7a4_34 : decode cJ6_bitCount_0f7a4 34 = .ok (.iload_n 0, 1) := by decide +kernel
theorem dJ6_bitCount_0f7a4_35 : decode cJ6_bitCount_0f7a4 35 = .ok (.iload_n 0, 1) := by decide +kernel
theorem dJ6_bitCount_0f7a4_36 : decode cJ6_bitCount_0f7a4 36 = .ok (.bipush 8, 2) := by decide +kernel
theorem dJ6_bitCount_0f7a4_38 : decode cJ6_bitCount_0f7a4 38 = .ok (.iushr, 1) := by decide +kernel
theorem dJ6_bitCount_0f7a4_39 : decode cJ6_bitCount_0f7a4 39 = .ok (.iadd, 1) := by decide +kernel
theorem dJ6_bitCount_0f7a4_40 : decode cJ6_bitCount_0f7a4 40 = .ok (.istore_n 0, 1) := by decide +kernel
theorem dJ6_bitCount_0f7a4_41 : decode cJ6_bitCount_0f7a4 41 = .ok (.iload_n 0, 1) := by decide +kernel
theorem dJ6_bitCount_0f7a4_42 : decode cJ6_bitCount_0f7a4 42 = .ok (.iload_n 0, 1) := by decide +kernel
theorem dJ6_bitCount_0f7a4_43 : decode cJ6_bitCount_0f7a4 43 = .ok (.bipush 16, 2) := by decide +kernel
theorem dJ6_bitCount_0f7a4_45 : decode cJ6_bitCount_0f7a4 45 = .ok (.iushr, 1) := by decide +kernel
theorem dJ6_bitCount_0f7a4_46 : decode cJ6_bitCount_0f7a4 46 = .ok (.iadd, 1) := by decide +kernel
theorem dJ6_bitCount_0f7a4_47 : decode cJ6_bitCount_0f7a4 47 = .ok (.istore_n 0, 1) := by decide +kernel
theorem dJ6_bitCount_0f7a4_48 : decode cJ6_bitCount_0f7a4 48 = .ok (.iload_n 0, 1) := by decide +kernel
theorem dJ6_bitCount_0f7a4_49 : decode cJ6_bitCount_0f7a4 49 = .ok (.bipush 63, 2) := by decide +kernel
theorem dJ6_bitCount_0f7a4_51 : decode cJ6_bitCount_0f7a4 51 = .ok (.iand, 1) := by decide +kernel
theorem dJ6_bitCount_0f7a4_52 : decode cJ6_bitCount_0f7a4 52 = .ok (.ireturn, 1) := by decide +kernel
theorem dJ7_fill_53178_0 : decode cJ7_fill_53178 0 = .ok (.iconst 0, 1) := by decide +kernel
theorem dJ7_fill_53178_1 : decode cJ7_fill_53178 1 = .ok (.istore_n 2, 1) := by decide +kernel
theorem dJ7_fill_53178_2 : decode cJ7_fill_53178 2 = .ok (.aload_n 0, 1) := by decide +kernel
theorem dJ7_fill_53178_3 : decode cJ7_fill_53178 3 = .ok (.arraylength, 1) := by decide +kernel
theorem dJ7_fill_53178_4 : decode cJ7_fill_53178 4 = .ok (.istore_n 3, 1) := by decide +kernel
theorem dJ7_fill_53178_5 : decode cJ7_fill_53178 5 = .ok (.iload_n 2, 1) := by decide +kernel
theorem dJ7_fill_53178_6 : decode cJ7_fill_53178 6 = .ok (.iload_n 3, 1) := by decide +kernel
theorem dJ7_fill_53178_7 : decode cJ7_fill_53178 7 = .ok (.if_icmp .ge 13, 3) := by decide +kernel
theorem dJ7_fill_53178_10 : decode cJ7_fill_53178 10 = .ok (.aload_n 0, 1) := by decide +kernel
theorem dJ7_fill_53178_11 : decode cJ7_fill_53178 11 = .ok (.iload_n 2, 1) := by decide +kernel
theorem dJ7_fill_53178_12 : decode cJ7_fill_53178 12 = .ok (.iload_n 1, 1) := by decide +kernel
theorem dJ7_fill_53178_13 : decode cJ7_fill_53178 13 = .ok (.iastore, 1) := by decide +kernel
theorem dJ7_fill_53178_14 : decode cJ7_fill_53178 14 = .ok (.iinc 2 1, 3) := by decide +kernel
theorem dJ7_fill_53178_17 : decode cJ7_fill_53178 17 = .ok (.goto (-12), 3) := by decide +kernel
theorem dJ7_fill_53178_20 : decode cJ7_fill_53178 20 = .ok (.return_, 1) := by decide +kernel
theorem dJ9_max_7cf53_0 : decode cJ9_max_7cf53 0 = .ok (.iload_n 0, 1) := by decide +kernel
theorem dJ9_max_7cf53_1 : decode cJ9_max_7cf53 1 = .ok (.iload_n 1, 1) := by decide +kernel
theorem dJ9_max_7cf53_2 : decode cJ9_max_7cf53 2 = .ok (.if_icmp .lt 7, 3) := by decide +kernel
theorem dJ9_max_7cf53_5 : decode cJ9_max_7cf53 5 = .ok (.iload_n 0, 1) := by decide +kernel
theorem dJ9_max_7cf53_6 : decode cJ9_max_7cf53 6 = .ok (.goto 4, 3) := by decide +kernel
theorem dJ9_max_7cf53_9 : decode cJ9_max_7cf53 9 = .ok (.iload_n 1, 1) := by decide +kernel
theorem dJ9_max_7cf53_10 : decode cJ9_max_7cf53 10 = .ok (.ireturn, 1) := by decide +kernel
theorem dJ9_min_7cf53_0 : decode cJ9_min_7cf53 0 = .ok (.iload_n 0, 1) := by decide +kernel
theorem dJ9_min_7cf53_1 : decode cJ9_min_7cf53 1 = .ok (.iload_n 1, 1) := by decide +kernel
theorem dJ9_min_7cf53_2 : decode cJ9_min_7cf53 2 = .ok (.if_icmp .gt 7, 3) := by decide +kernel
theorem dJ9_min_7cf53_5 : decode cJ9_min_7cf53 5 = .ok (.iload_n 0, 1) := by decide +kernel
theorem dJ9_min_7cf53_6 : decode cJ9_min_7cf53 6 = .ok (.goto 4, 3) := by decide +kernel
theorem dJ9_min_7cf53_9 : decode cJ9_min_7cf53 9 = .ok (.iload_n 1, 1) := by decide +kernel
theorem dJ9_min_7cf53_10 : decode cJ9_min_7cf53 10 = .ok (.ireturn, 1) := by decide +kernel
theorem dX0_init_0 : decode cX0_init 0 = .ok (.aload_n 0, 1) := by decide +kernel
theorem dX0_init_1 : decode cX0_init 1 = .ok (.invokespecial 3, 3) := by decide +kernel
theorem dX0_init_4 : decode cX0_init 4 = .ok (.aload_n 0, 1) := by decide +kernel
theorem dX0_init_5 : decode cX0_init 5 = .ok (.bipush 8, 2) := by decide +kernel
theorem dX0_init_7 : decode cX0_init 7 = .ok (.bipush 11, 2) := by decide +kernel
theorem dX0_init_9 : decode cX0_init 9 = .ok (.multianewarray 9 2, 4) := by decide +kernel
theorem dX0_init_13 : decode cX0_init 13 = .ok (.putfield 11, 3) := by decide +kernel
theorem dX0_init_16 : decode cX0_init 16 = .ok (.aload_n 0, 1) := by decide +kernel
theorem dX0_init_17 : decode cX0_init 17 = .ok (.iconst (-1), 1) := by decide +kernel
theorem dX0_init_18 : decode cX0_init 18 = .ok (.putfield 16, 3) := by decide +kernel
theorem dX0_init_21 : decode cX0_init 21 = .ok (.return_, 1) := by decide +kernel
theorem dX0_forgetAll_0 : decode cX0_forgetAll 0 = .ok (.aload_n 0, 1) := by decide +kernel
theorem dX0_forgetAll_1 : decode cX0_forgetAll 1 = .ok (.iconst (-1), 1) := by decide +kernel
theorem dX0_forgetAll_2 : decode cX0_forgetAll 2 = .ok (.putfield 16, 3) := by decide +kernel
theorem dX0_forgetAll_5 : decode cX0_forgetAll 5 = .ok (.return_, 1) := by decide +kernel
theorem dX0_startFor_0 : decode cX0_startFor 0 = .ok (.iconst 0, 1) := by decide +kernel
theorem dX0_startFor_1 : decode cX0_startFor 1 = .ok (.istore_n 2, 1) := by decide +kernel
theorem dX0_startFor_2 : decode cX0_startFor 2 = .ok (.iload_n 2, 1) := by decide +kernel
theorem dX0_startFor_3 : decode cX0_startFor 3 = .ok (.bipush 8, 2) := by decide +kernel
theorem dX0_startFor_5 : decode cX0_startFor 5 = .ok (.if_icmp .ge 19, 3) := by decide +kernel
theorem dX0_startFor_8 : decode cX0_startFor 8 = .ok (.aload_n 0, 1) := by decide +kernel
theorem dX0_startFor_9 : decode cX0_startFor 9 = .ok (.getfield 11, 3) := by decide +kernel
theorem dX0_startFor_12 : decode cX0_startFor 12 = .ok (.iload_n 2, 1) := by decide +kernel
theorem dX0_startFor_13 : decode cX0_startFor 13 = .ok (.aaload, 1) := by decide +kernel
theorem dX0_startFor_14 : decode cX0_startFor 14 = .ok (.iconst 0, 1) := by decide +kernel
theorem dX0_startFor_15 : decode cX0_startFor 15 = .ok (.invokestatic 20, 3) := by decide +kernel
theorem dX0_startFor_18 : decode cX0_startFor 18 = .ok (.iinc 2 1, 3) := by decide +kernel
theorem dX0_startFor_21 : decode cX0_startFor 21 = .ok (.goto (-19), 3) := by decide +kernel
theorem dX0_startFor_24 : decode cX0_startFor 24 = .ok (.aload_n 0, 1) := by decide +kernel
theorem dX0_startFor_25 : decode cX0_startFor 25 = .ok (.iload_n 1, 1) := by decide +kernel
theorem dX0_startFor_26 : decode cX0_startFor 26 = .ok (.putfield 16, 3) := by decide +kernel
theorem dX0_startFor_29 : decode cX0_startFor 29 = .ok (.return_, 1) := by decide +kernel
theorem dX0_addCase_0 : decode cX0_addCase 0 = .ok (.iconst 0, 1) := by decide +kernel
theorem dX0_addCase_1 : decode cX0_addCase 1 = .ok (.istore_n 3, 1) := by decide +kernel
theorem dX0_addCase_2 : decode cX0_addCase 2 = .ok (.iload_n 3, 1) := by decide +kernel
theorem dX0_addCase_3 : decode cX0_addCase 3 = .ok (.bipush 8, 2) := by decide +kernel
theorem dX0_addCase_5 : decode cX0_addCase 5 = .ok (.if_icmp .ge 29, 3) := by decide +kernel
theorem dX0_addCase_8 : decode cX0_addCase 8 = .ok (.iload_n 2, 1) := by decide +kernel
theorem dX0_addCase_9 : decode cX0_addCase 9 = .ok (.iload_n 3, 1) := by decide +kernel
theorem dX0_addCase_10 : decode cX0_addCase 10 = .ok (.ishr, 1) := by decide +kernel
theorem dX0_addCase_11 : decode cX0_addCase 11 = .ok (.iconst 1, 1) := by decide +kernel
theorem dX0_addCase_12 : decode cX0_addCase 12 = .ok (.iand, 1) := by decide +kernel
theorem dX0_addCase_13 : decode cX0_addCase 13 = .ok (.ifCond .eq 15, 3) := by decide +kernel
theorem dX0_addCase_16 : decode cX0_addCase 16 = .ok (.aload_n 0, 1) := by decide +kernel
theorem dX0_addCase_17 : decode cX0_addCase 17 = .ok (.getfield 11, 3) := by decide +kernel
theorem dX0_addCase_20 : decode cX0_addCase 20 = .ok (.iload_n 3, 1) := by decide +kernel
theorem dX0_addCase_21 : decode cX0_addCase 21 = .ok (.aaload, 1) := by decide +kernel
theorem dX0_addCase_22 : decode cX0_addCase 22 = .ok (.iload_n 1, 1) := by decide +kernel
theorem dX0_addCase_23 : decode cX0_addCase 23 = .ok (.dup2, 1) := by decide +kernel
theorem dX0_addCase_24 : decode cX0_addCase 24 = .ok (.iaload, 1) := by decide +kernel
theorem dX0_addCase_25 : decode cX0_addCase 25 = .ok (.iconst 1, 1) := by decide +kernel
theorem dX0_addCase_26 : decode cX0_addCase 26 = .ok (.iadd, 1) := by decide +kernel
theorem dX0_addCase_27 : decode cX0_addCase 27 = .ok (.iastore, 1) := by decide +kernel
theorem dX0_addCase_28 : decode cX0_addCase 28 = .ok (.iinc 3 1, 3) := by decide +kernel
theorem dX0_addCase_31 : decode cX0_addCase 31 = .ok (.goto (-29), 3) := by decide +kernel
theorem dX0_addCase_34 : decode cX0_addCase 34 = .ok (.return_, 1) := by decide +kernel
theorem dX0_weightOf_0 : decode cX0_weightOf 0 = .ok (.lconst 0, 1) := by decide +kernel
theorem dX0_weightOf_1 : decode cX0_weightOf 1 = .ok (.lstore_n 3, 1) := by decide +kernel
theorem dX0_weightOf_2 : decode cX0_weightOf 2 = .ok (.iconst 0, 1) := by decide +kernel
theorem dX0_weightOf_3 : decode cX0_weightOf 3 = .ok (.istore 5, 2) := by decide +kernel
theorem dX0_weightOf_5 : decode cX0_weightOf 5 = .ok (.iload 5, 2) := by decide +kernel
theorem dX0_weightOf_7 : decode cX0_weightOf 7 = .ok (.aload_n 0, 1) := by decide +kernel
theorem dX0_weightOf_8 : decode cX0_weightOf 8 = .ok (.getfield 16, 3) := by decide +kernel
theorem dX0_weightOf_11 : decode cX0_weightOf 11 = .ok (.iconst 1, 1) := by decide +kernel
theorem dX0_weightOf_12 : decode cX0_weightOf 12 = .ok (.iadd, 1) := by decide +kernel
theorem dX0_weightOf_13 : decode cX0_weightOf 13 = .ok (.if_icmp .gt 66, 3) := by decide +kernel
theorem dX0_weightOf_16 : decode cX0_weightOf 16 = .ok (.aload_n 0, 1) := by decide +kernel
theorem dX0_weightOf_17 : decode cX0_weightOf 17 = .ok (.getfield 11, 3) := by decide +kernel
theorem dX0_weightOf_20 : decode cX0_weightOf 20 = .ok (.iload_n 1, 1) := by decide +kernel
theorem dX0_weightOf_21 : decode cX0_weightOf 21 = .ok (.aaload, 1) := by decide +kernel
theorem dX0_weightOf_22 : decode cX0_weightOf 22 = .ok (.iload 5, 2) := by decide +kernel
theorem dX0_weightOf_24 : decode cX0_weightOf 24 = .ok (.iaload, 1) := by decide +kernel
theorem dX0_weightOf_25 : decode cX0_weightOf 25 = .ok (.i2l, 1) := by decide +kernel
theorem dX0_weightOf_26 : decode cX0_weightOf 26 = .ok (.lstore 6, 2) := by decide +kernel
theorem dX0_weightOf_28 : decode cX0_weightOf 28 = .ok (.iconst 0, 1) := by decide +kernel
theorem dX0_weightOf_29 : decode cX0_weightOf 29 = .ok (.istore 8, 2) := by decide +kernel
theorem dX0_weightOf_31 : decode cX0_weightOf 31 = .ok (.iload 8, 2) := by decide +kernel
theorem dX0_weightOf_33 : decode cX0_weightOf 33 = .ok (.aload_n 0, 1) := by decide +kernel
theorem dX0_weightOf_34 : decode cX0_weightOf 34 = .ok (.getfield 16, 3) := by decide +kernel
theorem dX0_weightOf_37 : decode cX0_weightOf 37 = .ok (.if_icmp .gt 31, 3) := by decide +kernel
theorem dX0_weightOf_40 : decode cX0_weightOf 40 = .ok (.lload 6, 2) := by decide +kernel
theorem dX0_weightOf_42 : decode cX0_weightOf 42 = .ok (.iload 8, 2) := by decide +kernel
theorem dX0_weightOf_44 : decode cX0_weightOf 44 = .ok (.iload 5, 2) := by decide +kernel
theorem dX0_weightOf_46 : decode cX0_weightOf 46 = .ok (.if_icmp .ge 8, 3) := by decide +kernel
theorem dX0_weightOf_49 : decode cX0_weightOf 49 = .ok (.iload_n 2, 1) := by decide +kernel
theorem dX0_weightOf_50 : decode cX0_weightOf 50 = .ok (.i2l, 1) := by decide +kernel
theorem dX0_weightOf_51 : decode cX0_weightOf 51 = .ok (.goto 8, 3) := by decide +kernel
theorem dX0_weightOf_54 : decode cX0_weightOf 54 = .ok (.bipush 16, 2) := by decide +kernel
theorem dX0_weightOf_56 : decode cX0_weightOf 56 = .ok (.iload_n 2, 1) := by decide +kernel
theorem dX0_weightOf_57 : decode cX0_weightOf 57 = .ok (.isub, 1) := by decide +kernel
theorem dX0_weightOf_58 : decode cX0_weightOf 58 = .ok (.i2l, 1) := by decide +kernel
theorem dX0_weightOf_59 : decode cX0_weightOf 59 = .ok (.lmul, 1) := by decide +kernel
theorem dX0_weightOf_60 : decode cX0_weightOf 60 = .ok (.lstore 6, 2) := by decide +kernel
theorem dX0_weightOf_62 : decode cX0_weightOf 62 = .ok (.iinc 8 1, 3) := by decide +kernel
theorem dX0_weightOf_65 : decode cX0_weightOf 65 = .ok (.goto (-34), 3) := by decide +kernel
theorem dX0_weightOf_68 : decode cX0_weightOf 68 = .ok (.lload_n 3, 1) := by decide +kernel
theorem dX0_weightOf_69 : decode cX0_weightOf 69 = .ok (.lload 6, 2) := by decide +kernel
theorem dX0_weightOf_71 : decode cX0_weightOf 71 = .ok (.ladd, 1) := by decide +kernel
theorem dX0_weightOf_72 : decode cX0_weightOf 72 = .ok (.lstore_n 3, 1) := by decide +kernel
theorem dX0_weightOf_73 : decode cX0_weightOf 73 = .ok (.iinc 5 1, 3) := by decide +kernel
theorem dX0_weightOf_76 : decode cX0_weightOf 76 = .ok (.goto (-71), 3) := by decide +kernel
theorem dX0_weightOf_79 : decode cX0_weightOf 79 = .ok (.lload_n 3, 1) := by decide +kernel
theorem dX0_weightOf_80 : decode cX0_weightOf 80 = .ok (.lreturn, 1) := by decide +kernel
theorem dX1_init_0 : decode cX1_init 0 = .ok (.aload_n 0, 1) := by decide +kernel
theorem dX1_init_1 : decode cX1_init 1 = .ok (.invokespecial 3, 3) := by decide +kernel
theorem dX1_init_4 : decode cX1_init 4 = .ok (.aload_n 0, 1) := by decide +kernel
theorem dX1_init_5 : decode cX1_init 5 = .ok (.bipush 8, 2) := by decide +kernel
theorem dX1_init_7 : decode cX1_init 7 = .ok (.newarray .int, 2) := by decide +kernel
theorem dX1_init_9 : decode cX1_init 9 = .ok (.putfield 9, 3) := by decide +kernel
theorem dX1_init_12 : decode cX1_init 12 = .ok (.aload_n 0, 1) := by decide +kernel
theorem dX1_init_13 : decode cX1_init 13 = .ok (.bipush 8, 2) := by decide +kernel
theorem dX1_init_15 : decode cX1_init 15 = .ok (.newarray .int, 2) := by decide +kernel
theorem dX1_init_17 : decode cX1_init 17 = .ok (.putfield 15, 3) := by decide +kernel
theorem dX1_init_20 : decode cX1_init 20 = .ok (.aload_n 0, 1) := by decide +kernel
theorem dX1_init_21 : decode cX1_init 21 = .ok (.bipush 8, 2) := by decide +kernel
theorem dX1_init_23 : decode cX1_init 23 = .ok (.newarray .int, 2) := by decide +kernel
theorem dX1_init_25 : decode cX1_init 25 = .ok (.putfield 18, 3) := by decide +kernel
theorem dX1_init_28 : decode cX1_init 28 = .ok (.aload_n 0, 1) := by decide +kernel
theorem dX1_init_29 : decode cX1_init 29 = .ok (.bipush 8, 2) := by decide +kernel
theorem dX1_init_31 : decode cX1_init 31 = .ok (.newarray .int, 2) := by decide +kernel
theorem dX1_init_33 : decode cX1_init 33 = .ok (.putfield 21, 3) := by decide +kernel
theorem dX1_init_36 : decode cX1_init 36 = .ok (.aload_n 0, 1) := by decide +kernel
theorem dX1_init_37 : decode cX1_init 37 = .ok (.bipush 8, 2) := by decide +kernel
theorem dX1_init_39 : decode cX1_init 39 = .ok (.newarray .int, 2) := by decide +kernel
theorem dX1_init_41 : decode cX1_init 41 = .ok (.putfield 24, 3) := by decide +kernel
theorem dX1_init_44 : decode cX1_init 44 = .ok (.aload_n 0, 1) := by decide +kernel
theorem dX1_init_45 : decode cX1_init 45 = .ok (.bipush 8, 2) := by decide +kernel
theorem dX1_init_47 : decode cX1_init 47 = .ok (.newarray .int, 2) := by decide +kernel
theorem dX1_init_49 : decode cX1_init 49 = .ok (.putfield 27, 3) := by decide +kernel
theorem dX1_init_52 : decode cX1_init 52 = .ok (.return_, 1) := by decide +kernel
theorem dX1_plant_0 : decode cX1_plant 0 = .ok (.aload_n 0, 1) := by decide +kernel
theorem dX1_plant_1 : decode cX1_plant 1 = .ok (.aload_n 1, 1) := by decide +kernel
theorem dX1_plant_2 : decode cX1_plant 2 = .ok (.getfield 30, 3) := by decide +kernel
theorem dX1_plant_5 : decode cX1_plant 5 = .ok (.putfield 36, 3) := by decide +kernel
theorem dX1_plant_8 : decode cX1_plant 8 = .ok (.aload_n 1, 1) := by decide +kernel
theorem dX1_plant_9 : decode cX1_plant 9 = .ok (.getfield 39, 3) := by decide +kernel
theorem dX1_plant_12 : decode cX1_plant 12 = .ok (.iconst 0, 1) := by decide +kernel
theorem dX1_plant_13 : decode cX1_plant 13 = .ok (.aload_n 0, 1) := by decide +kernel
theorem dX1_plant_14 : decode cX1_plant 14 = .ok (.getfield 9, 3) := by decide +kernel
theorem dX1_plant_17 : decode cX1_plant 17 = .ok (.iconst 0, 1) := by decide +kernel
theorem dX1_plant_18 : decode cX1_plant 18 = .ok (.bipush 8, 2) := by decide +kernel
theorem dX1_plant_20 : decode cX1_plant 20 = .ok (.invokestatic 42, 3) := by decide +kernel
theorem dX1_plant_23 : decode cX1_plant 23 = .ok (.aload_n 1, 1) := by decide +kernel
theorem dX1_plant_24 : decode cX1_plant 24 = .ok (.getfield 48, 3) := by decide +kernel
theorem dX1_plant_27 : decode cX1_plant 27 = .ok (.iconst 0, 1) := by decide +kernel
theorem dX1_plant_28 : decode cX1_plant 28 = .ok (.aload_n 0, 1) := by decide +kernel
theorem dX1_plant_29 : decode cX1_plant 29 = .ok (.getfield 15, 3) := by decide +kernel
theorem dX1_plant_32 : decode cX1_plant 32 = .ok (.iconst 0, 1) := by decide +kernel
theorem dX1_plant_33 : decode cX1_plant 33 = .ok (.bipush 8, 2) := by decide +kernel
theorem dX1_plant_35 : decode cX1_plant 35 = .ok (.invokestatic 42, 3) := by decide +kernel
theorem dX1_plant_38 : decode cX1_plant 38 = .ok (.return_, 1) := by decide +kernel
theorem dX1_invite_0 : decode cX1_invite 0 = .ok (.aload_n 0, 1) := by decide +kernel
theorem dX1_invite_1 : decode cX1_invite 1 = .ok (.aload_n 1, 1) := by decide +kernel
theorem dX1_invite_2 : decode cX1_invite 2 = .ok (.getfield 30, 3) := by decide +kernel
theorem dX1_invite_5 : decode cX1_invite 5 = .ok (.putfield 51, 3) := by decide +kernel
theorem dX1_invite_8 : decode cX1_invite 8 = .ok (.aload_n 1, 1) := by decide +kernel
theorem dX1_invite_9 : decode cX1_invite 9 = .ok (.getfield 39, 3) := by decide +kernel
theorem dX1_invite_12 : decode cX1_invite 12 = .ok (.iconst 0, 1) := by decide +kernel
theorem dX1_invite_13 : decode cX1_invite 13 = .ok (.aload_n 0, 1) := by decide +kernel
theorem dX1_invite_14 : decode cX1_invite 14 = .ok (.getfield 18, 3) := by decide +kernel
theorem dX1_invite_17 : decode cX1_invite 17 = .ok (.iconst 0, 1) := by decide +kernel
theorem dX1_invite_18 : decode cX1_invite 18 = .ok (.bipush 8, 2) := by decide +kernel
theorem dX1_invite_20 : decode cX1_invite 20 = .ok (.invokestatic 42, 3) := by decide +kernel
theorem dX1_invite_23 : decode cX1_invite 23 = .ok (.aload_n 1, 1) := by decide +kernel
theorem dX1_invite_24 : decode cX1_invite 24 = .ok (.getfield 48, 3) := by decide +kernel
theorem dX1_invite_27 : decode cX1_invite 27 = .ok (.iconst 0, 1) := by decide +kernel
theorem dX1_invite_28 : decode cX1_invite 28 = .ok (.aload_n 0, 1) := by decide +kernel
theorem dX1_invite_29 : decode cX1_invite 29 = .ok (.getfield 21, 3) := by decide +kernel
theorem dX1_invite_32 : decode cX1_invite 32 = .ok (.iconst 0, 1) := by decide +kernel
theorem dX1_invite_33 : decode cX1_invite 33 = .ok (.bipush 8, 2) := by decide +kernel
theorem dX1_invite_35 : decode cX1_invite 35 = .ok (.invokestatic 42, 3) := by decide +kernel
theorem dX1_invite_38 : decode cX1_invite 38 = .ok (.aload_n 1, 1) := by decide +kernel
theorem dX1_invite_39 : decode cX1_invite 39 = .ok (.getfield 54, 3) := by decide +kernel
theorem dX1_invite_42 : decode cX1_invite 42 = .ok (.iconst 0, 1) := by decide +kernel
theorem dX1_invite_43 : decode cX1_invite 43 = .ok (.aload_n 0, 1) := by decide +kernel
theorem dX1_invite_44 : decode cX1_invite 44 = .ok (.getfield 24, 3) := by decide +kernel
theorem dX1_invite_47 : decode cX1_invite 47 = .ok (.iconst 0, 1) := by decide +kernel
theorem dX1_invite_48 : decode cX1_invite 48 = .ok (.bipush 8, 2) := by decide +kernel
theorem dX1_invite_50 : decode cX1_invite 50 = .ok (.invokestatic 42, 3) := by decide +kernel
theorem dX1_invite_53 : decode cX1_invite 53 = .ok (.return_, 1) := by decide +kernel
theorem dX1_freeze_0 : decode cX1_freeze 0 = .ok (.aload_n 0, 1) := by decide +kernel
theorem dX1_freeze_1 : decode cX1_freeze 1 = .ok (.iconst 0, 1) := by decide +kernel
theorem dX1_freeze_2 : decode cX1_freeze 2 = .ok (.putfield 57, 3) := by decide +kernel
theorem dX1_freeze_5 : decode cX1_freeze 5 = .ok (.iconst 0, 1) := by decide +kernel
theorem dX1_freeze_6 : decode cX1_freeze 6 = .ok (.istore_n 2, 1) := by decide +kernel
theorem dX1_freeze_7 : decode cX1_freeze 7 = .ok (.iload_n 2, 1) := by decide +kernel
theorem dX1_freeze_8 : decode cX1_freeze 8 = .ok (.aload_n 1, 1) := by decide +kernel
theorem dX1_freeze_9 : decode cX1_freeze 9 = .ok (.getfield 60, 3) := by decide +kernel
theorem dX1_freeze_12 : decode cX1_freeze 12 = .ok (.if_icmp .ge 25, 3) := by decide +kernel
theorem dX1_freeze_15 : decode cX1_freeze 15 = .ok (.aload_n 0, 1) := by decide +kernel
theorem dX1_freeze_16 : decode cX1_freeze 16 = .ok (.dup, 1) := by decide +kernel
theorem dX1_freeze_17 : decode cX1_freeze 17 = .ok (.getfield 57, 3) := by decide +kernel
theorem dX1_freeze_20 : decode cX1_freeze 20 = .ok (.iconst 1, 1) := by decide +kernel
theorem dX1_freeze_21 : decode cX1_freeze 21 = .ok (.aload_n 1, 1) := by decide +kernel
theorem dX1_freeze_22 : decode cX1_freeze 22 = .ok (.iload_n 2, 1) := by decide +kernel
theorem dX1_freeze_23 : decode cX1_freeze 23 = .ok (.invokevirtual 65, 3) := by decide +kernel
theorem dX1_freeze_26 : decode cX1_freeze 26 = .ok (.ishl, 1) := by decide +kernel
theorem dX1_freeze_27 : decode cX1_freeze 27 = .ok (.ior, 1) := by decide +kernel
theorem dX1_freeze_28 : decode cX1_freeze 28 = .ok (.putfield 57, 3) := by decide +kernel
theorem dX1_freeze_31 : decode cX1_freeze 31 = .ok (.iinc 2 1, 3) := by decide +kernel
theorem dX1_freeze_34 : decode cX1_freeze 34 = .ok (.goto (-27), 3) := by decide +kernel
theorem dX1_freeze_37 : decode cX1_freeze 37 = .ok (.return_, 1) := by decide +kernel
theorem dX1_letRabbitsIn_0 : decode cX1_letRabbitsIn 0 = .ok (.aload_n 0, 1) := by decide +kernel
theorem dX1_letRabbitsIn_1 : decode cX1_letRabbitsIn 1 = .ok (.getfield 27, 3) := by decide +kernel
theorem dX1_letRabbitsIn_4 : decode cX1_letRabbitsIn 4 = .ok (.bipush 40, 2) := by decide +kernel
theorem dX1_letRabbitsIn_6 : decode cX1_letRabbitsIn 6 = .ok (.invokestatic 69, 3) := by decide +kernel
theorem dX1_letRabbitsIn_9 : decode cX1_letRabbitsIn 9 = .ok (.iconst 0, 1) := by decide +kernel
theorem dX1_letRabbitsIn_10 : decode cX1_letRabbitsIn 10 = .ok (.istore_n 3, 1) := by decide +kernel
theorem dX1_letRabbitsIn_11 : decode cX1_letRabbitsIn 11 = .ok (.iload_n 3, 1) := by decide +kernel
theorem dX1_letRabbitsIn_12 : decode cX1_letRabbitsIn 12 = .ok (.aload_n 1, 1) := by decide +kernel
theorem dX1_letRabbitsIn_13 : decode cX1_letRabbitsIn 13 = .ok (.getfield 60, 3) := by decide +kernel
theorem dX1_letRabbitsIn_16 : decode cX1_letRabbitsIn 16 = .ok (.if_icmp .ge 65, 3) := by decide +kernel
theorem dX1_letRabbitsIn_19 : decode cX1_letRabbitsIn 19 = .ok (.aload_n 1, 1) := by decide +kernel
theorem dX1_letRabbitsIn_20 : decode cX1_letRabbitsIn 20 = .ok (.iload_n 3, 1) := by decide +kernel
theorem dX1_letRabbitsIn_21 : decode cX1_letRabbitsIn 21 = .ok (.invokevirtual 65, 3) := by decide +kernel
theorem dX1_letRabbitsIn_24 : decode cX1_letRabbitsIn 24 = .ok (.bipush 8, 2) := by decide +kernel
theorem dX1_letRabbitsIn_26 : decode cX1_letRabbitsIn 26 = .ok (.irem, 1) := by decide +kernel
theorem dX1_letRabbitsIn_27 : decode cX1_letRabbitsIn 27 = .ok (.istore 4, 2) := by decide +kernel
theorem dX1_letRabbitsIn_29 : decode cX1_letRabbitsIn 29 = .ok (.iload_n 2, 1) := by decide +kernel
theorem dX1_letRabbitsIn_30 : decode cX1_letRabbitsIn 30 = .ok (.iload_n 3, 1) := by decide +kernel
theorem dX1_letRabbitsIn_31 : decode cX1_letRabbitsIn 31 = .ok (.ishr, 1) := by decide +kernel
theorem dX1_letRabbitsIn_32 : decode cX1_letRabbitsIn 32 = .ok (.iconst 1, 1) := by decide +kernel
theorem dX1_letRabbitsIn_33 : decode cX1_letRabbitsIn 33 = .ok (.iand, 1) := by decide +kernel
theorem dX1_letRabbitsIn_34 : decode cX1_letRabbitsIn 34 = .ok (.ifCond .ne 41, 3) := by decide +kernel
theorem dX1_letRabbitsIn_37 : decode cX1_letRabbitsIn 37 = .ok (.iload 4, 2) := by decide +kernel
theorem dX1_letRabbitsIn_39 : decode cX1_letRabbitsIn 39 = .ok (.bipush 8, 2) := by decide +kernel
theorem dX1_letRabbitsIn_41 : decode cX1_letRabbitsIn 41 = .ok (.invokestatic 75, 3) := by decide +kernel
theorem dX1_letRabbitsIn_44 : decode cX1_letRabbitsIn 44 = .ok (.ifCond .eq 6, 3) := by decide +kernel
theorem dX1_letRabbitsIn_47 : decode cX1_letRabbitsIn 47 = .ok (.goto 28, 3) := by decide +kernel
theorem dX1_letRabbitsIn_50 : decode cX1_letRabbitsIn 50 = .ok (.aload_n 0, 1) := by decide +kernel
theorem dX1_letRabbitsIn_51 : decode cX1_letRabbitsIn 51 = .ok (.getfield 27, 3) := by decide +kernel
theorem dX1_letRabbitsIn_54 : decode cX1_letRabbitsIn 54 = .ok (.iload 4, 2) := by decide +kernel
theorem dX1_letRabbitsIn_56 : decode cX1_letRabbitsIn 56 = .ok (.aload_n 0, 1) := by decide +kernel
theorem dX1_letRabbitsIn_57 : decode cX1_letRabbitsIn 57 = .ok (.getfield 27, 3) := by decide +kernel
theorem dX1_letRabbitsIn_60 : decode cX1_letRabbitsIn 60 = .ok (.iload 4, 2) := by decide +kernel
theorem dX1_letRabbitsIn_62 : decode cX1_letRabbitsIn 62 = .ok (.iaload, 1) := by decide +kernel
theorem dX1_letRabbitsIn_63 : decode cX1_letRabbitsIn 63 = .ok (.aload_n 1, 1) := by decide +kernel
theorem dX1_letRabbitsIn_64 : decode cX1_letRabbitsIn 64 = .ok (.iload_n 3, 1) := by decide +kernel
theorem dX1_letRabbitsIn_65 : decode cX1_letRabbitsIn 65 = .ok (.invokevirtual 65, 3) := by decide +kernel
theorem dX1_letRabbitsIn_68 : decode cX1_letRabbitsIn 68 = .ok (.bipush 8, 2) := by decide +kernel
theorem dX1_letRabbitsIn_70 : decode cX1_letRabbitsIn 70 = .ok (.idiv, 1) := by decide +kernel
theorem dX1_letRabbitsIn_71 : decode cX1_letRabbitsIn 71 = .ok (.invokestatic 79, 3) := by decide +kernel
theorem dX1_letRabbitsIn_74 : decode cX1_letRabbitsIn 74 = .ok (.iastore, 1) := by decide +kernel
theorem dX1_letRabbitsIn_75 : decode cX1_letRabbitsIn 75 = .ok (.iinc 3 1, 3) := by decide +kernel
theorem dX1_letRabbitsIn_78 : decode cX1_letRabbitsIn 78 = .ok (.goto (-67), 3) := by decide +kernel
theorem dX1_letRabbitsIn_81 : decode cX1_letRabbitsIn 81 = .ok (.return_, 1) := by decide +kernel
theorem dX1_comesOn_0 : decode cX1_comesOn 0 = .ok (.aload_n 0, 1) := by decide +kernel
theorem dX1_comesOn_1 : decode cX1_comesOn 1 = .ok (.getfield 21, 3) := by decide +kernel
theorem dX1_comesOn_4 : decode cX1_comesOn 4 = .ok (.iload_n 1, 1) := by decide +kernel
theorem dX1_comesOn_5 : decode cX1_comesOn 5 = .ok (.iaload, 1) := by decide +kernel
theorem dX1_comesOn_6 : decode cX1_comesOn 6 = .ok (.iload_n 2, 1) := by decide +kernel
theorem dX1_comesOn_7 : decode cX1_comesOn 7 = .ok (.if_icmp .gt 24, 3) := by decide +kernel
theorem dX1_comesOn_10 : decode cX1_comesOn 10 = .ok (.iload_n 2, 1) := by decide +kernel
theorem dX1_comesOn_11 : decode cX1_comesOn 11 = .ok (.aload_n 0, 1) := by decide +kernel
theorem dX1_comesOn_12 : decode cX1_comesOn 12 = .ok (.getfield 21, 3) := by decide +kernel
theorem dX1_comesOn_15 : decode cX1_comesOn 15 = .ok (.iload_n 1, 1) := by decide +kernel
theorem dX1_comesOn_16 : decode cX1_comesOn 16 = .ok (.iaload, 1) := by decide +kernel
theorem dX1_comesOn_17 : decode cX1_comesOn 17 = .ok (.aload_n 0, 1) := by decide +kernel
theorem dX1_comesOn_18 : decode cX1_comesOn 18 = .ok (.getfield 24, 3) := by decide +kernel
theorem dX1_comesOn_21 : decode cX1_comesOn 21 = .ok (.iload_n 1, 1) := by decide +kernel
theorem dX1_comesOn_22 : decode cX1_comesOn 22 = .ok (.iaload, 1) := by decide +kernel
theorem dX1_comesOn_23 : decode cX1_comesOn 23 = .ok (.iadd, 1) := by decide +kernel
theorem dX1_comesOn_24 : decode cX1_comesOn 24 = .ok (.if_icmp .ge 7, 3) := by decide +kernel
theorem dX1_comesOn_27 : decode cX1_comesOn 27 = .ok (.iconst 1, 1) := by decide +kernel
theorem dX1_comesOn_28 : decode cX1_comesOn 28 = .ok (.goto 4, 3) := by decide +kernel
theorem dX1_comesOn_31 : decode cX1_comesOn 31 = .ok (.iconst 0, 1) := by decide +kernel
theorem dX1_comesOn_32 : decode cX1_comesOn 32 = .ok (.ireturn, 1) := by decide +kernel
theorem dX1_isWantedBy_0 : decode cX1_isWantedBy 0 = .ok (.aload_n 0, 1) := by decide +kernel
theorem dX1_isWantedBy_1 : decode cX1_isWantedBy 1 = .ok (.getfield 18, 3) := by decide +kernel
theorem dX1_isWantedBy_4 : decode cX1_isWantedBy 4 = .ok (.iload_n 1, 1) := by decide +kernel
theorem dX1_isWantedBy_5 : decode cX1_isWantedBy 5 = .ok (.iaload, 1) := by decide +kernel
theorem dX1_isWantedBy_6 : decode cX1_isWantedBy 6 = .ok (.iconst 3, 1) := by decide +kernel
theorem dX1_isWantedBy_7 : decode cX1_isWantedBy 7 = .ok (.if_icmp .eq 13, 3) := by decide +kernel
theorem dX1_isWantedBy_10 : decode cX1_isWantedBy 10 = .ok (.aload_n 0, 1) := by decide +kernel
theorem dX1_isWantedBy_11 : decode cX1_isWantedBy 11 = .ok (.getfield 18, 3) := by decide +kernel
theorem dX1_isWantedBy_14 : decode cX1_isWantedBy 14 = .ok (.iload_n 1, 1) := by decide +kernel
theorem dX1_isWantedBy_15 : decode cX1_isWantedBy 15 = .ok (.iaload, 1) := by decide +kernel
theorem dX1_isWantedBy_16 : decode cX1_isWantedBy 16 = .ok (.iload_n 2, 1) := by decide +kernel
theorem dX1_isWantedBy_17 : decode cX1_isWantedBy 17 = .ok (.if_icmp .ne 7, 3) := by decide +kernel
theorem dX1_isWantedBy_20 : decode cX1_isWantedBy 20 = .ok (.iconst 1, 1) := by decide +kernel
theorem dX1_isWantedBy_21 : decode cX1_isWantedBy 21 = .ok (.goto 4, 3) := by decide +kernel
theorem dX1_isWantedBy_24 : decode cX1_isWantedBy 24 = .ok (.iconst 0, 1) := by decide +kernel
theorem dX1_isWantedBy_25 : decode cX1_isWantedBy 25 = .ok (.ireturn, 1) := by decide +kernel
theorem dX1_firstRipe_0 : decode cX1_firstRipe 0 = .ok (.aload_n 0, 1) := by decide +kernel
theorem dX1_firstRipe_1 : decode cX1_firstRipe 1 = .ok (.getfield 15, 3) := by decide +kernel
theorem dX1_firstRipe_4 : decode cX1_firstRipe 4 = .ok (.iload_n 1, 1) := by decide +kernel
theorem dX1_firstRipe_5 : decode cX1_firstRipe 5 = .ok (.iaload, 1) := by decide +kernel
theorem dX1_firstRipe_6 : decode cX1_firstRipe 6 = .ok (.istore_n 2, 1) := by decide +kernel
theorem dX1_firstRipe_7 : decode cX1_firstRipe 7 = .ok (.iconst 0, 1) := by decide +kernel
theorem dX1_firstRipe_8 : decode cX1_firstRipe 8 = .ok (.istore_n 3, 1) := by decide +kernel
theorem dX1_firstRipe_9 : decode cX1_firstRipe 9 = .ok (.iload_n 3, 1) := by decide +kernel
theorem dX1_firstRipe_10 : decode cX1_firstRipe 10 = .ok (.bipush 30, 2) := by decide +kernel
theorem dX1_firstRipe_12 : decode cX1_firstRipe 12 = .ok (.if_icmp .ge 61, 3) := by decide +kernel
theorem dX1_firstRipe_15 : decode cX1_firstRipe 15 = .ok (.iload_n 3, 1) := by decide +kernel
theorem dX1_firstRipe_16 : decode cX1_firstRipe 16 = .ok (.iload_n 2, 1) := by decide +kernel
theorem dX1_firstRipe_17 : decode cX1_firstRipe 17 = .ok (.if_icmp .ge 56, 3) := by decide +kernel
theorem dX1_firstRipe_20 : decode cX1_firstRipe 20 = .ok (.aload_n 0, 1) := by decide +kernel
theorem dX1_firstRipe_21 : decode cX1_firstRipe 21 = .ok (.getfield 57, 3) := by decide +kernel
theorem dX1_firstRipe_24 : decode cX1_firstRipe 24 = .ok (.iload_n 3, 1) := by decide +kernel
theorem dX1_firstRipe_25 : decode cX1_firstRipe 25 = .ok (.ishr, 1) := by decide +kernel
theorem dX1_firstRipe_26 : decode cX1_firstRipe 26 = .ok (.ifCond .eq 47, 3) := by decide +kernel
theorem dX1_firstRipe_29 : decode cX1_firstRipe 29 = .ok (.aload_n 0, 1) := by decide +kernel
theorem dX1_firstRipe_30 : decode cX1_firstRipe 30 = .ok (.getfield 57, 3) := by decide +kernel
theorem dX1_firstRipe_33 : decode cX1_firstRipe 33 = .ok (.iload_n 3, 1) := by decide +kernel
theorem dX1_firstRipe_34 : decode cX1_firstRipe 34 = .ok (.ishr, 1) := by decide +kernel
theorem dX1_firstRipe_35 : decode cX1_firstRipe 35 = .ok (.iconst 1, 1) := by decide +kernel
theorem dX1_firstRipe_36 : decode cX1_firstRipe 36 = .ok (.iand, 1) := by decide +kernel
theorem dX1_firstRipe_37 : decode cX1_firstRipe 37 = .ok (.ifCond .ne 6, 3) := by decide +kernel
theorem dX1_firstRipe_40 : decode cX1_firstRipe 40 = .ok (.goto 27, 3) := by decide +kernel
theorem dX1_firstRipe_43 : decode cX1_firstRipe 43 = .ok (.aload_n 0, 1) := by decide +kernel
theorem dX1_firstRipe_44 : decode cX1_firstRipe 44 = .ok (.getfield 9, 3) := by decide +kernel
theorem dX1_firstRipe_47 : decode cX1_firstRipe 47 = .ok (.iload_n 1, 1) := by decide +kernel
theorem dX1_firstRipe_48 : decode cX1_firstRipe 48 = .ok (.iaload, 1) := by decide +kernel
theorem dX1_firstRipe_49 : decode cX1_firstRipe 49 = .ok (.iconst 2, 1) := by decide +kernel
theorem dX1_firstRipe_50 : decode cX1_firstRipe 50 = .ok (.if_icmp .ne 5, 3) := by decide +kernel
theorem dX1_firstRipe_53 : decode cX1_firstRipe 53 = .ok (.iconst (-1), 1) := by decide +kernel
theorem dX1_firstRipe_54 : decode cX1_firstRipe 54 = .ok (.ireturn, 1) := by decide +kernel
theorem dX1_firstRipe_55 : decode cX1_firstRipe 55 = .ok (.aload_n 0, 1) := by decide +kernel
theorem dX1_firstRipe_56 : decode cX1_firstRipe 56 = .ok (.getfield 9, 3) := by decide +kernel
theorem dX1_firstRipe_59 : decode cX1_firstRipe 59 = .ok (.iload_n 1, 1) := by decide +kernel
theorem dX1_firstRipe_60 : decode cX1_firstRipe 60 = .ok (.iaload, 1) := by decide +kernel
theorem dX1_firstRipe_61 : decode cX1_firstRipe 61 = .ok (.ifCond .ne 6, 3) := by decide +kernel
theorem dX1_firstRipe_64 : decode cX1_firstRipe 64 = .ok (.iinc 2 1, 3) := by decide +kernel
theorem dX1_firstRipe_67 : decode cX1_firstRipe 67 = .ok (.iinc 3 1, 3) := by decide +kernel
theorem dX1_firstRipe_70 : decode cX1_firstRipe 70 = .ok (.goto (-61), 3) := by decide +kernel
theorem dX1_firstRipe_73 : decode cX1_firstRipe 73 = .ok (.iload_n 2, 1) := by decide +kernel
theorem dX1_firstRipe_74 : decode cX1_firstRipe 74 = .ok (.ireturn, 1) := by decide +kernel
theorem dX1_firstFrost_0 : decode cX1_firstFrost 0 = .ok (.iconst 0, 1) := by decide +kernel
theorem dX1_firstFrost_1 : decode cX1_firstFrost 1 = .ok (.istore_n 1, 1) := by decide +kernel
theorem dX1_firstFrost_2 : decode cX1_firstFrost 2 = .ok (.iload_n 1, 1) := by decide +kernel
theorem dX1_firstFrost_3 : decode cX1_firstFrost 3 = .ok (.bipush 30, 2) := by decide +kernel
theorem dX1_firstFrost_5 : decode cX1_firstFrost 5 = .ok (.if_icmp .ge 22, 3) := by decide +kernel
theorem dX1_firstFrost_8 : decode cX1_firstFrost 8 = .ok (.aload_n 0, 1) := by decide +kernel
theorem dX1_firstFrost_9 : decode cX1_firstFrost 9 = .ok (.getfield 57, 3) := by decide +kernel
theorem dX1_firstFrost_12 : decode cX1_firstFrost 12 = .ok (.iload_n 1, 1) := by decide +kernel
theorem dX1_firstFrost_13 : decode cX1_firstFrost 13 = .ok (.ishr, 1) := by decide +kernel
theorem dX1_firstFrost_14 : decode cX1_firstFrost 14 = .ok (.iconst 1, 1) := by decide +kernel
theorem dX1_firstFrost_15 : decode cX1_firstFrost 15 = .ok (.iand, 1) := by decide +kernel
theorem dX1_firstFrost_16 : decode cX1_firstFrost 16 = .ok (.ifCond .eq 5, 3) := by decide +kernel
theorem dX1_firstFrost_19 : decode cX1_firstFrost 19 = .ok (.iload_n 1, 1) := by decide +kernel
theorem dX1_firstFrost_20 : decode cX1_firstFrost 20 = .ok (.ireturn, 1) := by decide +kernel
theorem dX1_firstFrost_21 : decode cX1_firstFrost 21 = .ok (.iinc 1 1, 3) := by decide +kernel
theorem dX1_firstFrost_24 : decode cX1_firstFrost 24 = .ok (.goto (-22), 3) := by decide +kernel
theorem dX1_firstFrost_27 : decode cX1_firstFrost 27 = .ok (.bipush 40, 2) := by decide +kernel
theorem dX1_firstFrost_29 : decode cX1_firstFrost 29 = .ok (.ireturn, 1) := by decide +kernel
theorem dX2_init_0 : decode cX2_init 0 = .ok (.aload_n 0, 1) := by decide +kernel
theorem dX2_init_1 : decode cX2_init 1 = .ok (.invokespecial 3, 3) := by decide +kernel
theorem dX2_init_4 : decode cX2_init 4 = .ok (.aload_n 0, 1) := by decide +kernel
theorem dX2_init_5 : decode cX2_init 5 = .ok (.iload_n 1, 1) := by decide +kernel
theorem dX2_init_6 : decode cX2_init 6 = .ok (.iconst 0, 1) := by decide +kernel
theorem dX2_init_7 : decode cX2_init 7 = .ok (.invokestatic 9, 3) := by decide +kernel
theorem dX2_init_10 : decode cX2_init 10 = .ok (.newarray .int, 2) := by decide +kernel
theorem dX2_init_12 : decode cX2_init 12 = .ok (.putfield 15, 3) := by decide +kernel
theorem dX2_init_15 : decode cX2_init 15 = .ok (.aload_n 0, 1) := by decide +kernel
theorem dX2_init_16 : decode cX2_init 16 = .ok (.iconst 0, 1) := by decide +kernel
theorem dX2_init_17 : decode cX2_init 17 = .ok (.putfield 21, 3) := by decide +kernel
theorem dX2_init_20 : decode cX2_init 20 = .ok (.return_, 1) := by decide +kernel
theorem dX2_at_0 : decode cX2_at 0 = .ok (.iload_n 1, 1) := by decide +kernel
theorem dX2_at_1 : decode cX2_at 1 = .ok (.ifCond .lt 11, 3) := by decide +kernel
theorem dX2_at_4 : decode cX2_at 4 = .ok (.iload_n 1, 1) := by decide +kernel
theorem dX2_at_5 : decode cX2_at 5 = .ok (.aload_n 0, 1) := by decide +kernel
theorem dX2_at_6 : decode cX2_at 6 = .ok (.getfield 21, 3) := by decide +kernel
theorem dX2_at_9 : decode cX2_at 9 = .ok (.if_icmp .lt 7, 3) := by decide +kernel
theorem dX2_at_12 : decode cX2_at 12 = .ok (.iconst (-1), 1) := by decide +kernel
theorem dX2_at_13 : decode cX2_at 13 = .ok (.goto 9, 3) := by decide +kernel
theorem dX2_at_16 : decode cX2_at 16 = .ok (.aload_n 0, 1) := by decide +kernel
theorem dX2_at_17 : decode cX2_at 17 = .ok (.getfield 15, 3) := by decide +kernel
theorem dX2_at_20 : decode cX2_at 20 = .ok (.iload_n 1, 1) := by decide +kernel
theorem dX2_at_21 : decode cX2_at 21 = .ok (.iaload, 1) := by decide +kernel
theorem dX2_at_22 : decode cX2_at 22 = .ok (.ireturn, 1) := by decide +kernel
theorem dX2_add_0 : decode cX2_add 0 = .ok (.aload_n 0, 1) := by decide +kernel
theorem dX2_add_1 : decode cX2_add 1 = .ok (.getfield 21, 3) := by decide +kernel
theorem dX2_add_4 : decode cX2_add 4 = .ok (.aload_n 0, 1) := by decide +kernel
theorem dX2_add_5 : decode cX2_add 5 = .ok (.getfield 15, 3) := by decide +kernel
theorem dX2_add_8 : decode cX2_add 8 = .ok (.arraylength, 1) := by decide +kernel
theorem dX2_add_9 : decode cX2_add 9 = .ok (.if_icmp .lt 6, 3) := by decide +kernel
theorem dX2_add_12 : decode cX2_add 12 = .ok (.bipush (-4), 2) := by decide +kernel
theorem dX2_add_14 : decode cX2_add 14 = .ok (.ireturn, 1) := by decide +kernel
theorem dX2_add_15 : decode cX2_add 15 = .ok (.aload_n 0, 1) := by decide +kernel
theorem dX2_add_16 : decode cX2_add 16 = .ok (.getfield 15, 3) := by decide +kernel
theorem dX2_add_19 : decode cX2_add 19 = .ok (.aload_n 0, 1) := by decide +kernel
theorem dX2_add_20 : decode cX2_add 20 = .ok (.getfield 21, 3) := by decide +kernel
theorem dX2_add_23 : decode cX2_add 23 = .ok (.iload_n 1, 1) := by decide +kernel
theorem dX2_add_24 : decode cX2_add 24 = .ok (.iastore, 1) := by decide +kernel
theorem dX2_add_25 : decode cX2_add 25 = .ok (.aload_n 0, 1) := by decide +kernel
theorem dX2_add_26 : decode cX2_add 26 = .ok (.dup, 1) := by decide +kernel
theorem dX2_add_27 : decode cX2_add 27 = .ok (.getfield 21, 3) := by decide +kernel
theorem dX2_add_30 : decode cX2_add 30 = .ok (.iconst 1, 1) := by decide +kernel
theorem dX2_add_31 : decode cX2_add 31 = .ok (.iadd, 1) := by decide +kernel
theorem dX2_add_32 : decode cX2_add 32 = .ok (.putfield 21, 3) := by decide +kernel
theorem dX2_add_35 : decode cX2_add 35 = .ok (.aload_n 0, 1) := by decide +kernel
theorem dX2_add_36 : decode cX2_add 36 = .ok (.getfield 21, 3) := by decide +kernel
theorem dX2_add_39 : decode cX2_add 39 = .ok (.ireturn, 1) := by decide +kernel
theorem dX2_dropLast_0 : decode cX2_dropLast 0 = .ok (.aload_n 0, 1) := by decide +kernel
theorem dX2_dropLast_1 : decode cX2_dropLast 1 = .ok (.getfield 21, 3) := by decide +kernel
theorem dX2_dropLast_4 : decode cX2_dropLast 4 = .ok (.ifCond .ne 6, 3) := by decide +kernel
theorem dX2_dropLast_7 : decode cX2_dropLast 7 = .ok (.bipush (-3), 2) := by decide +kernel
theorem dX2_dropLast_9 : decode cX2_dropLast 9 = .ok (.ireturn, 1) := by decide +kernel
theorem dX2_dropLast_10 : decode cX2_dropLast 10 = .ok (.aload_n 0, 1) := by decide +kernel
theorem dX2_dropLast_11 : decode cX2_dropLast 11 = .ok (.dup, 1) := by decide +kernel
theorem dX2_dropLast_12 : decode cX2_dropLast 12 = .ok (.getfield 21, 3) := by decide +kernel
theorem dX2_dropLast_15 : decode cX2_dropLast 15 = .ok (.iconst 1, 1) := by decide +kernel
theorem dX2_dropLast_16 : decode cX2_dropLast 16 = .ok (.isub, 1) := by decide +kernel
theorem dX2_dropLast_17 : decode cX2_dropLast 17 = .ok (.putfield 21, 3) := by decide +kernel
theorem dX2_dropLast_20 : decode cX2_dropLast 20 = .ok (.aload_n 0, 1) := by decide +kernel
theorem dX2_dropLast_21 : decode cX2_dropLast 21 = .ok (.getfield 21, 3) := by decide +kernel
theorem dX2_dropLast_24 : decode cX2_dropLast 24 = .ok (.ireturn, 1) := by decide +kernel
theorem dX2_clear_0 : decode cX2_clear 0 = .ok (.aload_n 0, 1) := by decide +kernel
theorem dX2_clear_1 : decode cX2_clear 1 = .ok (.getfield 21, 3) := by decide +kernel
theorem dX2_clear_4 : decode cX2_clear 4 = .ok (.istore_n 1, 1) := by decide +kernel
theorem dX2_clear_5 : decode cX2_clear 5 = .ok (.aload_n 0, 1) := by decide +kernel
theorem dX2_clear_6 : decode cX2_clear 6 = .ok (.iconst 0, 1) := by decide +kernel
theorem dX2_clear_7 : decode cX2_clear 7 = .ok (.putfield 21, 3) := by decide +kernel
theorem dX2_clear_10 : decode cX2_clear 10 = .ok (.iload_n 1, 1) := by decide +kernel
theorem dX2_clear_11 : decode cX2_clear 11 = .ok (.ireturn, 1) := by decide +kernel
theorem dX3_init_0 : decode cX3_init 0 = .ok (.aload_n 0, 1) := by decide +kernel
theorem dX3_init_1 : decode cX3_init 1 = .ok (.invokespecial 3, 3) := by decide +kernel
theorem dX3_init_4 : decode cX3_init 4 = .ok (.aload_n 0, 1) := by decide +kernel
theorem dX3_init_5 : decode cX3_init 5 = .ok (.bipush 60, 2) := by decide +kernel
theorem dX3_init_7 : decode cX3_init 7 = .ok (.newarray .int, 2) := by decide +kernel
theorem dX3_init_9 : decode cX3_init 9 = .ok (.putfield 9, 3) := by decide +kernel
theorem dX3_init_12 : decode cX3_init 12 = .ok (.aload_n 0, 1) := by decide +kernel
theorem dX3_init_13 : decode cX3_init 13 = .ok (.iconst 0, 1) := by decide +kernel
theorem dX3_init_14 : decode cX3_init 14 = .ok (.putfield 15, 3) := by decide +kernel
theorem dX3_init_17 : decode cX3_init 17 = .ok (.aload_n 0, 1) := by decide +kernel
theorem dX3_init_18 : decode cX3_init 18 = .ok (.iconst (-1), 1) := by decide +kernel
theorem dX3_init_19 : decode cX3_init 19 = .ok (.putfield 19, 3) := by decide +kernel
theorem dX3_init_22 : decode cX3_init 22 = .ok (.return_, 1) := by decide +kernel
theorem dX3_isLost_0 : decode cX3_isLost 0 = .ok (.aload_n 0, 1) := by decide +kernel
theorem dX3_isLost_1 : decode cX3_isLost 1 = .ok (.getfield 19, 3) := by decide +kernel
theorem dX3_isLost_4 : decode cX3_isLost 4 = .ok (.ifCond .ge 7, 3) := by decide +kernel
theorem dX3_isLost_7 : decode cX3_isLost 7 = .ok (.iconst 1, 1) := by decide +kernel
theorem dX3_isLost_8 : decode cX3_isLost 8 = .ok (.goto 4, 3) := by decide +kernel
theorem dX3_isLost_11 : decode cX3_isLost 11 = .ok (.iconst 0, 1) := by decide +kernel
theorem dX3_isLost_12 : decode cX3_isLost 12 = .ok (.ireturn, 1) := by decide +kernel
theorem dX3_renew_0 : decode cX3_renew 0 = .ok (.aload_n 0, 1) := by decide +kernel
theorem dX3_renew_1 : decode cX3_renew 1 = .ok (.getfield 9, 3) := by decide +kernel
theorem dX3_renew_4 : decode cX3_renew 4 = .ok (.iconst 0, 1) := by decide +kernel
theorem dX3_renew_5 : decode cX3_renew 5 = .ok (.invokestatic 22, 3) := by decide +kernel
theorem dX3_renew_8 : decode cX3_renew 8 = .ok (.aload_n 0, 1) := by decide +kernel
theorem dX3_renew_9 : decode cX3_renew 9 = .ok (.iload_n 1, 1) := by decide +kernel
theorem dX3_renew_10 : decode cX3_renew 10 = .ok (.putfield 15, 3) := by decide +kernel
theorem dX3_renew_13 : decode cX3_renew 13 = .ok (.aload_n 0, 1) := by decide +kernel
theorem dX3_renew_14 : decode cX3_renew 14 = .ok (.iload_n 2, 1) := by decide +kernel
theorem dX3_renew_15 : decode cX3_renew 15 = .ok (.putfield 19, 3) := by decide +kernel
theorem dX3_renew_18 : decode cX3_renew 18 = .ok (.return_, 1) := by decide +kernel
theorem dX3_itemAt_0 : decode cX3_itemAt 0 = .ok (.iload_n 1, 1) := by decide +kernel
theorem dX3_itemAt_1 : decode cX3_itemAt 1 = .ok (.aload_n 0, 1) := by decide +kernel
theorem dX3_itemAt_2 : decode cX3_itemAt 2 = .ok (.getfield 19, 3) := by decide +kernel
theorem dX3_itemAt_5 : decode cX3_itemAt 5 = .ok (.invokestatic 28, 3) := by decide +kernel
theorem dX3_itemAt_8 : decode cX3_itemAt 8 = .ok (.ifCond .eq 7, 3) := by decide +kernel
theorem dX3_itemAt_11 : decode cX3_itemAt 11 = .ok (.iconst 0, 1) := by decide +kernel
theorem dX3_itemAt_12 : decode cX3_itemAt 12 = .ok (.goto 9, 3) := by decide +kernel
theorem dX3_itemAt_15 : decode cX3_itemAt 15 = .ok (.aload_n 0, 1) := by decide +kernel
theorem dX3_itemAt_16 : decode cX3_itemAt 16 = .ok (.getfield 9, 3) := by decide +kernel
theorem dX3_itemAt_19 : decode cX3_itemAt 19 = .ok (.iload_n 1, 1) := by decide +kernel
theorem dX3_itemAt_20 : decode cX3_itemAt 20 = .ok (.iaload, 1) := by decide +kernel
theorem dX3_itemAt_21 : decode cX3_itemAt 21 = .ok (.ireturn, 1) := by decide +kernel
theorem dX3_put_0 : decode cX3_put 0 = .ok (.iload_n 1, 1) := by decide +kernel
theorem dX3_put_1 : decode cX3_put 1 = .ok (.aload_n 0, 1) := by decide +kernel
theorem dX3_put_2 : decode cX3_put 2 = .ok (.getfield 19, 3) := by decide +kernel
theorem dX3_put_5 : decode cX3_put 5 = .ok (.invokestatic 28, 3) := by decide +kernel
theorem dX3_put_8 : decode cX3_put 8 = .ok (.ifCond .eq 4, 3) := by decide +kernel
theorem dX3_put_11 : decode cX3_put 11 = .ok (.return_, 1) := by decide +kernel
theorem dX3_put_12 : decode cX3_put 12 = .ok (.aload_n 0, 1) := by decide +kernel
theorem dX3_put_13 : decode cX3_put 13 = .ok (.getfield 9, 3) := by decide +kernel
theorem dX3_put_16 : decode cX3_put 16 = .ok (.iload_n 1, 1) := by decide +kernel
theorem dX3_put_17 : decode cX3_put 17 = .ok (.aload_n 0, 1) := by decide +kernel
theorem dX3_put_18 : decode cX3_put 18 = .ok (.getfield 15, 3) := by decide +kernel
theorem dX3_put_21 : decode cX3_put 21 = .ok (.ifCond .ne 8, 3) := by decide +kernel
theorem dX3_put_24 : decode cX3_put 24 = .ok (.iload_n 2, 1) := by decide +kernel
theorem dX3_put_25 : decode cX3_put 25 = .ok (.i2b, 1) := by decide +kernel
theorem dX3_put_26 : decode cX3_put 26 = .ok (.goto 17, 3) := by decide +kernel
theorem dX3_put_29 : decode cX3_put 29 = .ok (.aload_n 0, 1) := by decide +kernel
theorem dX3_put_30 : decode cX3_put 30 = .ok (.getfield 15, 3) := by decide +kernel
theorem dX3_put_33 : decode cX3_put 33 = .ok (.iconst 1, 1) := by decide +kernel
theorem dX3_put_34 : decode cX3_put 34 = .ok (.if_icmp .ne 8, 3) := by decide +kernel
theorem dX3_put_37 : decode cX3_put 37 = .ok (.iload_n 2, 1) := by decide +kernel
theorem dX3_put_38 : decode cX3_put 38 = .ok (.i2s, 1) := by decide +kernel
theorem dX3_put_39 : decode cX3_put 39 = .ok (.goto 4, 3) := by decide +kernel
theorem dX3_put_42 : decode cX3_put 42 = .ok (.iload_n 2, 1) := by decide +kernel
theorem dX3_put_43 : decode cX3_put 43 = .ok (.iastore, 1) := by decide +kernel
theorem dX3_put_44 : decode cX3_put 44 = .ok (.return_, 1) := by decide +kernel
theorem dX3_hasRun_0 : decode cX3_hasRun 0 = .ok (.iload_n 1, 1) := by decide +kernel
theorem dX3_hasRun_1 : decode cX3_hasRun 1 = .ok (.ifCond .lt 21, 3) := by decide +kernel
theorem dX3_hasRun_4 : decode cX3_hasRun 4 = .ok (.iload_n 2, 1) := by decide +kernel
theorem dX3_hasRun_5 : decode cX3_hasRun 5 = .ok (.ifCond .lt 17, 3) := by decide +kernel
theorem dX3_hasRun_8 : decode cX3_hasRun 8 = .ok (.iload_n 2, 1) := by decide +kernel
theorem dX3_hasRun_9 : decode cX3_hasRun 9 = .ok (.aload_n 0, 1) := by decide +kernel
theorem dX3_hasRun_10 : decode cX3_hasRun 10 = .ok (.getfield 19, 3) := by decide +kernel
theorem dX3_hasRun_13 : decode cX3_hasRun 13 = .ok (.iload_n 1, 1) := by decide +kernel
theorem dX3_hasRun_14 : decode cX3_hasRun 14 = .ok (.isub, 1) := by decide +kernel
theorem dX3_hasRun_15 : decode cX3_hasRun 15 = .ok (.if_icmp .gt 7, 3) := by decide +kernel
theorem dX3_hasRun_18 : decode cX3_hasRun 18 = .ok (.iconst 1, 1) := by decide +kernel
theorem dX3_hasRun_19 : decode cX3_hasRun 19 = .ok (.goto 4, 3) := by decide +kernel
theorem dX3_hasRun_22 : decode cX3_hasRun 22 = .ok (.iconst 0, 1) := by decide +kernel
theorem dX3_hasRun_23 : decode cX3_hasRun 23 = .ok (.ireturn, 1) := by decide +kernel
theorem dX4_init_0 : decode cX4_init 0 = .ok (.aload_n 0, 1) := by decide +kernel
theorem dX4_init_1 : decode cX4_init 1 = .ok (.invokespecial 3, 3) := by decide +kernel
theorem dX4_init_4 : decode cX4_init 4 = .ok (.aload_n 0, 1) := by decide +kernel
theorem dX4_init_5 : decode cX4_init 5 = .ok (.bipush 8, 2) := by decide +kernel
theorem dX4_init_7 : decode cX4_init 7 = .ok (.newarray .int, 2) := by decide +kernel
theorem dX4_init_9 : decode cX4_init 9 = .ok (.putfield 9, 3) := by decide +kernel
theorem dX4_init_12 : decode cX4_init 12 = .ok (.aload_n 0, 1) := by decide +kernel
theorem dX4_init_13 : decode cX4_init 13 = .ok (.bipush 8, 2) := by decide +kernel
theorem dX4_init_15 : decode cX4_init 15 = .ok (.newarray .int, 2) := by decide +kernel
theorem dX4_init_17 : decode cX4_init 17 = .ok (.putfield 15, 3) := by decide +kernel
theorem dX4_init_20 : decode cX4_init 20 = .ok (.aload_n 0, 1) := by decide +kernel
theorem dX4_init_21 : decode cX4_init 21 = .ok (.bipush 8, 2) := by decide +kernel
theorem dX4_init_23 : decode cX4_init 23 = .ok (.newarray .int, 2) := by decide +kernel
theorem dX4_init_25 : decode cX4_init 25 = .ok (.putfield 18, 3) := by decide +kernel
theorem dX4_init_28 : decode cX4_init 28 = .ok (.aload_n 0, 1) := by decide +kernel
theorem dX4_init_29 : decode cX4_init 29 = .ok (.iconst 0, 1) := by decide +kernel
theorem dX4_init_30 : decode cX4_init 30 = .ok (.putfield 21, 3) := by decide +kernel
theorem dX4_init_33 : decode cX4_init 33 = .ok (.aload_n 0, 1) := by decide +kernel
theorem dX4_init_34 : decode cX4_init 34 = .ok (.iconst (-1), 1) := by decide +kernel
theorem dX4_init_35 : decode cX4_init 35 = .ok (.putfield 25, 3) := by decide +kernel
theorem dX4_init_38 : decode cX4_init 38 = .ok (.aload_n 0, 1) := by decide +kernel
theorem dX4_init_39 : decode cX4_init 39 = .ok (.aload_n 1, 1) := by decide +kernel
theorem dX4_init_40 : decode cX4_init 40 = .ok (.putfield 28, 3) := by decide +kernel
theorem dX4_init_43 : decode cX4_init 43 = .ok (.aload_n 0, 1) := by decide +kernel
theorem dX4_init_44 : decode cX4_init 44 = .ok (.iload_n 2, 1) := by decide +kernel
theorem dX4_init_45 : decode cX4_init 45 = .ok (.putfield 32, 3) := by decide +kernel
theorem dX4_init_48 : decode cX4_init 48 = .ok (.aload_n 0, 1) := by decide +kernel
theorem dX4_init_49 : decode cX4_init 49 = .ok (.new 35, 3) := by decide +kernel
theorem dX4_init_52 : decode cX4_init 52 = .ok (.dup, 1) := by decide +kernel
theorem dX4_init_53 : decode cX4_init 53 = .ok (.bipush 8, 2) := by decide +kernel
theorem dX4_init_55 : decode cX4_init 55 = .ok (.iload_n 2, 1) := by decide +kernel
theorem dX4_init_56 : decode cX4_init 56 = .ok (.iconst 2, 1) := by decide +kernel
theorem dX4_init_57 : decode cX4_init 57 = .ok (.iadd, 1) := by decide +kernel
theorem dX4_init_58 : decode cX4_init 58 = .ok (.imul, 1) := by decide +kernel
theorem dX4_init_59 : decode cX4_init 59 = .ok (.iconst 1, 1) := by decide +kernel
theorem dX4_init_60 : decode cX4_init 60 = .ok (.isub, 1) := by decide +kernel
theorem dX4_init_61 : decode cX4_init 61 = .ok (.invokespecial 37, 3) := by decide +kernel
theorem dX4_init_64 : decode cX4_init 64 = .ok (.putfield 40, 3) := by decide +kernel
theorem dX4_init_67 : decode cX4_init 67 = .ok (.return_, 1) := by decide +kernel
theorem dX4_append_0 : decode cX4_append 0 = .ok (.aload_n 0, 1) := by decide +kernel
theorem dX4_append_1 : decode cX4_append 1 = .ok (.getfield 40, 3) := by decide +kernel
theorem dX4_append_4 : decode cX4_append 4 = .ok (.iload_n 1, 1) := by decide +kernel
theorem dX4_append_5 : decode cX4_append 5 = .ok (.invokevirtual 44, 3) := by decide +kernel
theorem dX4_append_8 : decode cX4_append 8 = .ok (.istore_n 2, 1) := by decide +kernel
theorem dX4_append_9 : decode cX4_append 9 = .ok (.aload_n 0, 1) := by decide +kernel
theorem dX4_append_10 : decode cX4_append 10 = .ok (.invokevirtual 48, 3) := by decide +kernel
theorem dX4_append_13 : decode cX4_append 13 = .ok (.iload_n 2, 1) := by decide +kernel
theorem dX4_append_14 : decode cX4_append 14 = .ok (.ireturn, 1) := by decide +kernel
theorem dX4_dropLast_0 : decode cX4_dropLast 0 = .ok (.aload_n 0, 1) := by decide +kernel
theorem dX4_dropLast_1 : decode cX4_dropLast 1 = .ok (.getfield 40, 3) := by decide +kernel
theorem dX4_dropLast_4 : decode cX4_dropLast 4 = .ok (.invokevirtual 51, 3) := by decide +kernel
theorem dX4_dropLast_7 : decode cX4_dropLast 7 = .ok (.istore_n 1, 1) := by decide +kernel
theorem dX4_dropLast_8 : decode cX4_dropLast 8 = .ok (.aload_n 0, 1) := by decide +kernel
theorem dX4_dropLast_9 : decode cX4_dropLast 9 = .ok (.invokevirtual 48, 3) := by decide +kernel
theorem dX4_dropLast_12 : decode cX4_dropLast 12 = .ok (.iload_n 1, 1) := by decide +kernel
theorem dX4_dropLast_13 : decode cX4_dropLast 13 = .ok (.ireturn, 1) := by decide +kernel
theorem dX4_empty_0 : decode cX4_empty 0 = .ok (.aload_n 0, 1) := by decide +kernel
theorem dX4_empty_1 : decode cX4_empty 1 = .ok (.getfield 40, 3) := by decide +kernel
theorem dX4_empty_4 : decode cX4_empty 4 = .ok (.invokevirtual 55, 3) := by decide +kernel
theorem dX4_empty_7 : decode cX4_empty 7 = .ok (.istore_n 1, 1) := by decide +kernel
theorem dX4_empty_8 : decode cX4_empty 8 = .ok (.aload_n 0, 1) := by decide +kernel
theorem dX4_empty_9 : decode cX4_empty 9 = .ok (.invokevirtual 48, 3) := by decide +kernel
theorem dX4_empty_12 : decode cX4_empty 12 = .ok (.iload_n 1, 1) := by decide +kernel
theorem dX4_empty_13 : decode cX4_empty 13 = .ok (.ireturn, 1) := by decide +kernel
theorem dX4_parse_0 : decode cX4_parse 0 = .ok (.aload_n 0, 1) := by decide +kernel
theorem dX4_parse_1 : decode cX4_parse 1 = .ok (.aload_n 0, 1) := by decide +kernel
theorem dX4_parse_2 : decode cX4_parse 2 = .ok (.invokevirtual 58, 3) := by decide +kernel
theorem dX4_parse_5 : decode cX4_parse 5 = .ok (.putfield 25, 3) := by decide +kernel
theorem dX4_parse_8 : decode cX4_parse 8 = .ok (.aload_n 0, 1) := by decide +kernel
theorem dX4_parse_9 : decode cX4_parse 9 = .ok (.iconst 0, 1) := by decide +kernel
theorem dX4_parse_10 : decode cX4_parse 10 = .ok (.putfield 21, 3) := by decide +kernel
theorem dX4_parse_13 : decode cX4_parse 13 = .ok (.aload_n 0, 1) := by decide +kernel
theorem dX4_parse_14 : decode cX4_parse 14 = .ok (.getfield 25, 3) := by decide +kernel
theorem dX4_parse_17 : decode cX4_parse 17 = .ok (.iconst (-1), 1) := by decide +kernel
theorem dX4_parse_18 : decode cX4_parse 18 = .ok (.if_icmp .ne 13, 3) := by decide +kernel
theorem dX4_parse_21 : decode cX4_parse 21 = .ok (.aload_n 0, 1) := by decide +kernel
theorem dX4_parse_22 : decode cX4_parse 22 = .ok (.getfield 40, 3) := by decide +kernel
theorem dX4_parse_25 : decode cX4_parse 25 = .ok (.getfield 61, 3) := by decide +kernel
theorem dX4_parse_28 : decode cX4_parse 28 = .ok (.goto 4, 3) := by decide +kernel
theorem dX4_parse_31 : decode cX4_parse 31 = .ok (.iconst 0, 1) := by decide +kernel
theorem dX4_parse_32 : decode cX4_parse 32 = .ok (.istore_n 1, 1) := by decide +kernel
theorem dX4_parse_33 : decode cX4_parse 33 = .ok (.iconst 0, 1) := by decide +kernel
theorem dX4_parse_34 : decode cX4_parse 34 = .ok (.istore_n 2, 1) := by decide +kernel
theorem dX4_parse_35 : decode cX4_parse 35 = .ok (.iload_n 2, 1) := by decide +kernel
theorem dX4_parse_36 : decode cX4_parse 36 = .ok (.iload_n 1, 1) := by decide +kernel
theorem dX4_parse_37 : decode cX4_parse 37 = .ok (.if_icmp .ge 114, 3) := by decide +kernel
theorem dX4_parse_40 : decode cX4_parse 40 = .ok (.aload_n 0, 1) := by decide +kernel
theorem dX4_parse_41 : decode cX4_parse 41 = .ok (.getfield 21, 3) := by decide +kernel
theorem dX4_parse_44 : decode cX4_parse 44 = .ok (.bipush 8, 2) := by decide +kernel
theorem dX4_parse_46 : decode cX4_parse 46 = .ok (.if_icmp .ge 105, 3) := by decide +kernel
theorem dX4_parse_49 : decode cX4_parse 49 = .ok (.aload_n 0, 1) := by decide +kernel
theorem dX4_parse_50 : decode cX4_parse 50 = .ok (.getfield 9, 3) := by decide +kernel
theorem dX4_parse_53 : decode cX4_parse 53 = .ok (.aload_n 0, 1) := by decide +kernel
theorem dX4_parse_54 : decode cX4_parse 54 = .ok (.getfield 21, 3) := by decide +kernel
theorem dX4_parse_57 : decode cX4_parse 57 = .ok (.aload_n 0, 1) := by decide +kernel
theorem dX4_parse_58 : decode cX4_parse 58 = .ok (.getfield 28, 3) := by decide +kernel
theorem dX4_parse_61 : decode cX4_parse 61 = .ok (.aload_n 0, 1) := by decide +kernel
theorem dX4_parse_62 : decode cX4_parse 62 = .ok (.getfield 40, 3) := by decide +kernel
theorem dX4_parse_65 : decode cX4_parse 65 = .ok (.iload_n 2, 1) := by decide +kernel
theorem dX4_parse_66 : decode cX4_parse 66 = .ok (.invokevirtual 64, 3) := by decide +kernel
theorem dX4_parse_69 : decode cX4_parse 69 = .ok (.i2c, 1) := by decide +kernel
theorem dX4_parse_70 : decode cX4_parse 70 = .ok (.invokevirtual 67, 3) := by decide +kernel
theorem dX4_parse_73 : decode cX4_parse 73 = .ok (.iastore, 1) := by decide +kernel
theorem dX4_parse_74 : decode cX4_parse 74 = .ok (.aload_n 0, 1) := by decide +kernel
theorem dX4_parse_75 : decode cX4_parse 75 = .ok (.getfield 15, 3) := by decide +kernel
theorem dX4_parse_78 : decode cX4_parse 78 = .ok (.aload_n 0, 1) := by decide +kernel
theorem dX4_parse_79 : decode cX4_parse 79 = .ok (.getfield 21, 3) := by decide +kernel
theorem dX4_parse_82 : decode cX4_parse 82 = .ok (.bipush 10, 2) := by decide +kernel
theorem dX4_parse_84 : decode cX4_parse 84 = .ok (.aload_n 0, 1) := by decide +kernel
theorem dX4_parse_85 : decode cX4_parse 85 = .ok (.iload_n 2, 1) := by decide +kernel
theorem dX4_parse_86 : decode cX4_parse 86 = .ok (.iconst 1, 1) := by decide +kernel
theorem dX4_parse_87 : decode cX4_parse 87 = .ok (.iadd, 1) := by decide +kernel
theorem dX4_parse_88 : decode cX4_parse 88 = .ok (.invokevirtual 72, 3) := by decide +kernel
theorem dX4_parse_91 : decode cX4_parse 91 = .ok (.imul, 1) := by decide +kernel
theorem dX4_parse_92 : decode cX4_parse 92 = .ok (.aload_n 0, 1) := by decide +kernel
theorem dX4_parse_93 : decode cX4_parse 93 = .ok (.iload_n 2, 1) := by decide +kernel
theorem dX4_parse_94 : decode cX4_parse 94 = .ok (.iconst 2, 1) := by decide +kernel
theorem dX4_parse_95 : decode cX4_parse 95 = .ok (.iadd, 1) := by decide +kernel
theorem dX4_parse_96 : decode cX4_parse 96 = .ok (.invokevirtual 72, 3) := by decide +kernel
theorem dX4_parse_99 : decode cX4_parse 99 = .ok (.iadd, 1) := by decide +kernel
theorem dX4_parse_100 : decode cX4_parse 100 = .ok (.iastore, 1) := by decide +kernel
theorem dX4_parse_101 : decode cX4_parse 101 = .ok (.aload_n 0, 1) := by decide +kernel
theorem dX4_parse_102 : decode cX4_parse 102 = .ok (.getfield 18, 3) := by decide +kernel
theorem dX4_parse_105 : decode cX4_parse 105 = .ok (.aload_n 0, 1) := by decide +kernel
theorem dX4_parse_106 : decode cX4_parse 106 = .ok (.getfield 21, 3) := by decide +kernel
theorem dX4_parse_109 : decode cX4_parse 109 = .ok (.aload_n 0, 1) := by decide +kernel
theorem dX4_parse_110 : decode cX4_parse 110 = .ok (.getfield 32, 3) := by decide +kernel
theorem dX4_parse_113 : decode cX4_parse 113 = .ok (.iconst 2, 1) := by decide +kernel
theorem dX4_parse_114 : decode cX4_parse 114 = .ok (.if_icmp .le 13, 3) := by decide +kernel
theorem dX4_parse_117 : decode cX4_parse 117 = .ok (.aload_n 0, 1) := by decide +kernel
theorem dX4_parse_118 : decode cX4_parse 118 = .ok (.iload_n 2, 1) := by decide +kernel
theorem dX4_parse_119 : decode cX4_parse 119 = .ok (.iconst 3, 1) := by decide +kernel
theorem dX4_parse_120 : decode cX4_parse 120 = .ok (.iadd, 1) := by decide +kernel
theorem dX4_parse_121 : decode cX4_parse 121 = .ok (.invokevirtual 72, 3) := by decide +kernel
theorem dX4_parse_124 : decode cX4_parse 124 = .ok (.goto 4, 3) := by decide +kernel
theorem dX4_parse_127 : decode cX4_parse 127 = .ok (.iconst 0, 1) := by decide +kernel
theorem dX4_parse_128 : decode cX4_parse 128 = .ok (.iastore, 1) := by decide +kernel
theorem dX4_parse_129 : decode cX4_parse 129 = .ok (.aload_n 0, 1) := by decide +kernel
theorem dX4_parse_130 : decode cX4_parse 130 = .ok (.dup, 1) := by decide +kernel
theorem dX4_parse_131 : decode cX4_parse 131 = .ok (.getfield 21, 3) := by decide +kernel
theorem dX4_parse_134 : decode cX4_parse 134 = .ok (.iconst 1, 1) := by decide +kernel
theorem dX4_parse_135 : decode cX4_parse 135 = .ok (.iadd, 1) := by decide +kernel
theorem dX4_parse_136 : decode cX4_parse 136 = .ok (.putfield 21, 3) := by decide +kernel
theorem dX4_parse_139 : decode cX4_parse 139 = .ok (.iload_n 2, 1) := by decide +kernel
theorem dX4_parse_140 : decode cX4_parse 140 = .ok (.aload_n 0, 1) := by decide +kernel
theorem dX4_parse_141 : decode cX4_parse 141 = .ok (.getfield 32, 3) := by decide +kernel
theorem dX4_parse_144 : decode cX4_parse 144 = .ok (.iconst 2, 1) := by decide +kernel
theorem dX4_parse_145 : decode cX4_parse 145 = .ok (.iadd, 1) := by decide +kernel
theorem dX4_parse_146 : decode cX4_parse 146 = .ok (.iadd, 1) := by decide +kernel
theorem dX4_parse_147 : decode cX4_parse 147 = .ok (.istore_n 2, 1) := by decide +kernel
theorem dX4_parse_148 : decode cX4_parse 148 = .ok (.goto (-113), 3) := by decide +kernel
theorem dX4_parse_151 : decode cX4_parse 151 = .ok (.return_, 1) := by decide +kernel
theorem dX4_firstFault_0 : decode cX4_firstFault 0 = .ok (.iconst 0, 1) := by decide +kernel
theorem dX4_firstFault_1 : decode cX4_firstFault 1 = .ok (.istore_n 1, 1) := by decide +kernel
theorem dX4_firstFault_2 : decode cX4_firstFault 2 = .ok (.iconst 0, 1) := by decide +kernel
theorem dX4_firstFault_3 : decode cX4_firstFault 3 = .ok (.istore_n 2, 1) := by decide +kernel
theorem dX4_firstFault_4 : decode cX4_firstFault 4 = .ok (.iload_n 2, 1) := by decide +kernel
theorem dX4_firstFault_5 : decode cX4_firstFault 5 = .ok (.aload_n 0, 1) := by decide +kernel
theorem dX4_firstFault_6 : decode cX4_firstFault 6 = .ok (.getfield 40, 3) := by decide +kernel
theorem dX4_firstFault_9 : decode cX4_firstFault 9 = .ok (.getfield 61, 3) := by decide +kernel
theorem dX4_firstFault_12 : decode cX4_firstFault 12 = .ok (.if_icmp .ge 43, 3) := by decide +kernel
theorem dX4_firstFault_15 : decode cX4_firstFault 15 = .ok (.aload_n 0, 1) := by decide +kernel
theorem dX4_firstFault_16 : decode cX4_firstFault 16 = .ok (.iload_n 1, 1) := by decide +kernel
theorem dX4_firstFault_17 : decode cX4_firstFault 17 = .ok (.aload_n 0, 1) := by decide +kernel
theorem dX4_firstFault_18 : decode cX4_firstFault 18 = .ok (.getfield 40, 3) := by decide +kernel
theorem dX4_firstFault_21 : decode cX4_firstFault 21 = .ok (.iload_n 2, 1) := by decide +kernel
theorem dX4_firstFault_22 : decode cX4_firstFault 22 = .ok (.invokevirtual 64, 3) := by decide +kernel
theorem dX4_firstFault_25 : decode cX4_firstFault 25 = .ok (.invokevirtual 75, 3) := by decide +kernel
theorem dX4_firstFault_28 : decode cX4_firstFault 28 = .ok (.ifCond .ne 5, 3) := by decide +kernel
theorem dX4_firstFault_31 : decode cX4_firstFault 31 = .ok (.iload_n 2, 1) := by decide +kernel
theorem dX4_firstFault_32 : decode cX4_firstFault 32 = .ok (.ireturn, 1) := by decide +kernel
theorem dX4_firstFault_33 : decode cX4_firstFault 33 = .ok (.iload_n 1, 1) := by decide +kernel
theorem dX4_firstFault_34 : decode cX4_firstFault 34 = .ok (.aload_n 0, 1) := by decide +kernel
theorem dX4_firstFault_35 : decode cX4_firstFault 35 = .ok (.getfield 32, 3) := by decide +kernel
theorem dX4_firstFault_38 : decode cX4_firstFault 38 = .ok (.if_icmp .le 7, 3) := by decide +kernel
theorem dX4_firstFault_41 : decode cX4_firstFault 41 = .ok (.iconst 0, 1) := by decide +kernel
theorem dX4_firstFault_42 : decode cX4_firstFault 42 = .ok (.goto 6, 3) := by decide +kernel
theorem dX4_firstFault_45 : decode cX4_firstFault 45 = .ok (.iload_n 1, 1) := by decide +kernel
theorem dX4_firstFault_46 : decode cX4_firstFault 46 = .ok (.iconst 1, 1) := by decide +kernel
theorem dX4_firstFault_47 : decode cX4_firstFault 47 = .ok (.iadd, 1) := by decide +kernel
theorem dX4_firstFault_48 : decode cX4_firstFault 48 = .ok (.istore_n 1, 1) := by decide +kernel
theorem dX4_firstFault_49 : decode cX4_firstFault 49 = .ok (.iinc 2 1, 3) := by decide +kernel
theorem dX4_firstFault_52 : decode cX4_firstFault 52 = .ok (.goto (-48), 3) := by decide +kernel
theorem dX4_firstFault_55 : decode cX4_firstFault 55 = .ok (.aload_n 0, 1) := by decide +kernel
theorem dX4_firstFault_56 : decode cX4_firstFault 56 = .ok (.getfield 40, 3) := by decide +kernel
theorem dX4_firstFault_59 : decode cX4_firstFault 59 = .ok (.getfield 61, 3) := by decide +kernel
theorem dX4_firstFault_62 : decode cX4_firstFault 62 = .ok (.ifCond .eq 11, 3) := by decide +kernel
theorem dX4_firstFault_65 : decode cX4_firstFault 65 = .ok (.iload_n 1, 1) := by decide +kernel
theorem dX4_firstFault_66 : decode cX4_firstFault 66 = .ok (.aload_n 0, 1) := by decide +kernel
theorem dX4_firstFault_67 : decode cX4_firstFault 67 = .ok (.getfield 32, 3) := by decide +kernel
theorem dX4_firstFault_70 : decode cX4_firstFault 70 = .ok (.if_icmp .le 7, 3) := by decide +kernel
theorem dX4_firstFault_73 : decode cX4_firstFault 73 = .ok (.iconst (-1), 1) := by decide +kernel
theorem dX4_firstFault_74 : decode cX4_firstFault 74 = .ok (.goto 10, 3) := by decide +kernel
theorem dX4_firstFault_77 : decode cX4_firstFault 77 = .ok (.aload_n 0, 1) := by decide +kernel
theorem dX4_firstFault_78 : decode cX4_firstFault 78 = .ok (.getfield 40, 3) := by decide +kernel
theorem dX4_firstFault_81 : decode cX4_firstFault 81 = .ok (.getfield 61, 3) := by decide +kernel
theorem dX4_firstFault_84 : decode cX4_firstFault 84 = .ok (.ireturn, 1) := by decide +kernel
theorem dX4_fits_0 : decode cX4_fits 0 = .ok (.iload_n 1, 1) := by decide +kernel
theorem dX4_fits_1 : decode cX4_fits 1 = .ok (.ifCond .ne 21, 3) := by decide +kernel
theorem dX4_fits_4 : decode cX4_fits 4 = .ok (.aload_n 0, 1) := by decide +kernel
theorem dX4_fits_5 : decode cX4_fits 5 = .ok (.getfield 28, 3) := by decide +kernel
theorem dX4_fits_8 : decode cX4_fits 8 = .ok (.iload_n 2, 1) := by decide +kernel
theorem dX4_fits_9 : decode cX4_fits 9 = .ok (.i2c, 1) := by decide +kernel
theorem dX4_fits_10 : decode cX4_fits 10 = .ok (.invokevirtual 67, 3) := by decide +kernel
theorem dX4_fits_13 : decode cX4_fits 13 = .ok (.ifCond .lt 7, 3) := by decide +kernel
theorem dX4_fits_16 : decode cX4_fits 16 = .ok (.iconst 1, 1) := by decide +kernel
theorem dX4_fits_17 : decode cX4_fits 17 = .ok (.goto 4, 3) := by decide +kernel
theorem dX4_fits_20 : decode cX4_fits 20 = .ok (.iconst 0, 1) := by decide +kernel
theorem dX4_fits_21 : decode cX4_fits 21 = .ok (.ireturn, 1) := by decide +kernel
theorem dX4_fits_22 : decode cX4_fits 22 = .ok (.iload_n 1, 1) := by decide +kernel
theorem dX4_fits_23 : decode cX4_fits 23 = .ok (.aload_n 0, 1) := by decide +kernel
theorem dX4_fits_24 : decode cX4_fits 24 = .ok (.getfield 32, 3) := by decide +kernel
theorem dX4_fits_27 : decode cX4_fits 27 = .ok (.if_icmp .le 15, 3) := by decide +kernel
theorem dX4_fits_30 : decode cX4_fits 30 = .ok (.iload_n 2, 1) := by decide +kernel
theorem dX4_fits_31 : decode cX4_fits 31 = .ok (.bipush 59, 2) := by decide +kernel
theorem dX4_fits_33 : decode cX4_fits 33 = .ok (.if_icmp .ne 7, 3) := by decide +kernel
theorem dX4_fits_36 : decode cX4_fits 36 = .ok (.iconst 1, 1) := by decide +kernel
theorem dX4_fits_37 : decode cX4_fits 37 = .ok (.goto 4, 3) := by decide +kernel
theorem dX4_fits_40 : decode cX4_fits 40 = .ok (.iconst 0, 1) := by decide +kernel
theorem dX4_fits_41 : decode cX4_fits 41 = .ok (.ireturn, 1) := by decide +kernel
theorem dX4_fits_42 : decode cX4_fits 42 = .ok (.iload_n 1, 1) := by decide +kernel
theorem dX4_fits_43 : decode cX4_fits 43 = .ok (.iconst 1, 1) := by decide +kernel
theorem dX4_fits_44 : decode cX4_fits 44 = .ok (.if_icmp .ne 21, 3) := by decide +kernel
theorem dX4_fits_47 : decode cX4_fits 47 = .ok (.iload_n 2, 1) := by decide +kernel
theorem dX4_fits_48 : decode cX4_fits 48 = .ok (.bipush 48, 2) := by decide +kernel
theorem dX4_fits_50 : decode cX4_fits 50 = .ok (.if_icmp .lt 13, 3) := by decide +kernel
theorem dX4_fits_53 : decode cX4_fits 53 = .ok (.iload_n 2, 1) := by decide +kernel
theorem dX4_fits_54 : decode cX4_fits 54 = .ok (.bipush 50, 2) := by decide +kernel
theorem dX4_fits_56 : decode cX4_fits 56 = .ok (.if_icmp .gt 7, 3) := by decide +kernel
theorem dX4_fits_59 : decode cX4_fits 59 = .ok (.iconst 1, 1) := by decide +kernel
theorem dX4_fits_60 : decode cX4_fits 60 = .ok (.goto 4, 3) := by decide +kernel
theorem dX4_fits_63 : decode cX4_fits 63 = .ok (.iconst 0, 1) := by decide +kernel
theorem dX4_fits_64 : decode cX4_fits 64 = .ok (.ireturn, 1) := by decide +kernel
theorem dX4_fits_65 : decode cX4_fits 65 = .ok (.iload_n 2, 1) := by decide +kernel
theorem dX4_fits_66 : decode cX4_fits 66 = .ok (.iload_n 1, 1) := by decide +kernel
theorem dX4_fits_67 : decode cX4_fits 67 = .ok (.iconst 2, 1) := by decide +kernel
theorem dX4_fits_68 : decode cX4_fits 68 = .ok (.if_icmp .ne 8, 3) := by decide +kernel
theorem dX4_fits_71 : decode cX4_fits 71 = .ok (.bipush 48, 2) := by decide +kernel
theorem dX4_fits_73 : decode cX4_fits 73 = .ok (.goto 5, 3) := by decide +kernel
theorem dX4_fits_76 : decode cX4_fits 76 = .ok (.bipush 49, 2) := by decide +kernel
theorem dX4_fits_78 : decode cX4_fits 78 = .ok (.if_icmp .lt 13, 3) := by decide +kernel
theorem dX4_fits_81 : decode cX4_fits 81 = .ok (.iload_n 2, 1) := by decide +kernel
theorem dX4_fits_82 : decode cX4_fits 82 = .ok (.bipush 57, 2) := by decide +kernel
theorem dX4_fits_84 : decode cX4_fits 84 = .ok (.if_icmp .gt 7, 3) := by decide +kernel
theorem dX4_fits_87 : decode cX4_fits 87 = .ok (.iconst 1, 1) := by decide +kernel
theorem dX4_fits_88 : decode cX4_fits 88 = .ok (.goto 4, 3) := by decide +kernel
theorem dX4_fits_91 : decode cX4_fits 91 = .ok (.iconst 0, 1) := by decide +kernel
theorem dX4_fits_92 : decode cX4_fits 92 = .ok (.ireturn, 1) := by decide +kernel
theorem dX4_figureAt_0 : decode cX4_figureAt 0 = .ok (.aload_n 0, 1) := by decide +kernel
theorem dX4_figureAt_1 : decode cX4_figureAt 1 = .ok (.getfield 40, 3) := by decide +kernel
theorem dX4_figureAt_4 : decode cX4_figureAt 4 = .ok (.iload_n 1, 1) := by decide +kernel
theorem dX4_figureAt_5 : decode cX4_figureAt 5 = .ok (.invokevirtual 64, 3) := by decide +kernel
theorem dX4_figureAt_8 : decode cX4_figureAt 8 = .ok (.bipush 48, 2) := by decide +kernel
theorem dX4_figureAt_10 : decode cX4_figureAt 10 = .ok (.isub, 1) := by decide +kernel
theorem dX4_figureAt_11 : decode cX4_figureAt 11 = .ok (.ireturn, 1) := by decide +kernel
theorem dX5_init_0 : decode cX5_init 0 = .ok (.aload_n 0, 1) := by decide +kernel
theorem dX5_init_1 : decode cX5_init 1 = .ok (.invokespecial 3, 3) := by decide +kernel
theorem dX5_init_4 : decode cX5_init 4 = .ok (.aload_n 0, 1) := by decide +kernel
theorem dX5_init_5 : decode cX5_init 5 = .ok (.bipush 8, 2) := by decide +kernel
theorem dX5_init_7 : decode cX5_init 7 = .ok (.newarray .int, 2) := by decide +kernel
theorem dX5_init_9 : decode cX5_init 9 = .ok (.putfield 9, 3) := by decide +kernel
theorem dX5_init_12 : decode cX5_init 12 = .ok (.aload_n 0, 1) := by decide +kernel
theorem dX5_init_13 : decode cX5_init 13 = .ok (.bipush 8, 2) := by decide +kernel
theorem dX5_init_15 : decode cX5_init 15 = .ok (.newarray .int, 2) := by decide +kernel
theorem dX5_init_17 : decode cX5_init 17 = .ok (.putfield 15, 3) := by decide +kernel
theorem dX5_init_20 : decode cX5_init 20 = .ok (.aload_n 0, 1) := by decide +kernel
theorem dX5_init_21 : decode cX5_init 21 = .ok (.bipush 8, 2) := by decide +kernel
theorem dX5_init_23 : decode cX5_init 23 = .ok (.newarray .int, 2) := by decide +kernel
theorem dX5_init_25 : decode cX5_init 25 = .ok (.putfield 18, 3) := by decide +kernel
theorem dX5_init_28 : decode cX5_init 28 = .ok (.aload_n 0, 1) := by decide +kernel
theorem dX5_init_29 : decode cX5_init 29 = .ok (.bipush 8, 2) := by decide +kernel
theorem dX5_init_31 : decode cX5_init 31 = .ok (.newarray .int, 2) := by decide +kernel
theorem dX5_init_33 : decode cX5_init 33 = .ok (.putfield 21, 3) := by decide +kernel
theorem dX5_init_36 : decode cX5_init 36 = .ok (.aload_n 0, 1) := by decide +kernel
theorem dX5_init_37 : decode cX5_init 37 = .ok (.bipush 8, 2) := by decide +kernel
theorem dX5_init_39 : decode cX5_init 39 = .ok (.newarray .int, 2) := by decide +kernel
theorem dX5_init_41 : decode cX5_init 41 = .ok (.putfield 24, 3) := by decide +kernel
theorem dX5_init_44 : decode cX5_init 44 = .ok (.aload_n 0, 1) := by decide +kernel
theorem dX5_init_45 : decode cX5_init 45 = .ok (.bipush 40, 2) := by decide +kernel
theorem dX5_init_47 : decode cX5_init 47 = .ok (.newarray .int, 2) := by decide +kernel
theorem dX5_init_49 : decode cX5_init 49 = .ok (.putfield 27, 3) := by decide +kernel
theorem dX5_init_52 : decode cX5_init 52 = .ok (.aload_n 0, 1) := by decide +kernel
theorem dX5_init_53 : decode cX5_init 53 = .ok (.bipush 40, 2) := by decide +kernel
theorem dX5_init_55 : decode cX5_init 55 = .ok (.newarray .int, 2) := by decide +kernel
theorem dX5_init_57 : decode cX5_init 57 = .ok (.putfield 30, 3) := by decide +kernel
theorem dX5_init_60 : decode cX5_init 60 = .ok (.aload_n 0, 1) := by decide +kernel
theorem dX5_init_61 : decode cX5_init 61 = .ok (.iconst 4, 1) := by decide +kernel
theorem dX5_init_62 : decode cX5_init 62 = .ok (.newarray .int, 2) := by decide +kernel
theorem dX5_init_64 : decode cX5_init 64 = .ok (.putfield 33, 3) := by decide +kernel
theorem dX5_init_67 : decode cX5_init 67 = .ok (.return_, 1) := by decide +kernel
theorem dX5_go_0 : decode cX5_go 0 = .ok (.aload_n 0, 1) := by decide +kernel
theorem dX5_go_1 : decode cX5_go 1 = .ok (.invokevirtual 36, 3) := by decide +kernel
theorem dX5_go_4 : decode cX5_go 4 = .ok (.iconst 0, 1) := by decide +kernel
theorem dX5_go_5 : decode cX5_go 5 = .ok (.istore_n 2, 1) := by decide +kernel
theorem dX5_go_6 : decode cX5_go 6 = .ok (.iload_n 2, 1) := by decide +kernel
theorem dX5_go_7 : decode cX5_go 7 = .ok (.aload_n 1, 1) := by decide +kernel
theorem dX5_go_8 : decode cX5_go 8 = .ok (.getfield 39, 3) := by decide +kernel
theorem dX5_go_11 : decode cX5_go 11 = .ok (.if_icmp .ge 15, 3) := by decide +kernel
theorem dX5_go_14 : decode cX5_go 14 = .ok (.aload_n 0, 1) := by decide +kernel
theorem dX5_go_15 : decode cX5_go 15 = .ok (.aload_n 1, 1) := by decide +kernel
theorem dX5_go_16 : decode cX5_go 16 = .ok (.iload_n 2, 1) := by decide +kernel
theorem dX5_go_17 : decode cX5_go 17 = .ok (.invokevirtual 45, 3) := by decide +kernel
theorem dX5_go_20 : decode cX5_go 20 = .ok (.iinc 2 1, 3) := by decide +kernel
theorem dX5_go_23 : decode cX5_go 23 = .ok (.goto (-17), 3) := by decide +kernel
theorem dX5_go_26 : decode cX5_go 26 = .ok (.iconst 0, 1) := by decide +kernel
theorem dX5_go_27 : decode cX5_go 27 = .ok (.istore_n 2, 1) := by decide +kernel
theorem dX5_go_28 : decode cX5_go 28 = .ok (.iload_n 2, 1) := by decide +kernel
theorem dX5_go_29 : decode cX5_go 29 = .ok (.aload_n 1, 1) := by decide +kernel
theorem dX5_go_30 : decode cX5_go 30 = .ok (.getfield 49, 3) := by decide +kernel
theorem dX5_go_33 : decode cX5_go 33 = .ok (.if_icmp .ge 15, 3) := by decide +kernel
theorem dX5_go_36 : decode cX5_go 36 = .ok (.aload_n 0, 1) := by decide +kernel
theorem dX5_go_37 : decode cX5_go 37 = .ok (.aload_n 1, 1) := by decide +kernel
theorem dX5_go_38 : decode cX5_go 38 = .ok (.iload_n 2, 1) := by decide +kernel
theorem dX5_go_39 : decode cX5_go 39 = .ok (.invokevirtual 52, 3) := by decide +kernel
theorem dX5_go_42 : decode cX5_go 42 = .ok (.iinc 2 1, 3) := by decide +kernel
theorem dX5_go_45 : decode cX5_go 45 = .ok (.goto (-17), 3) := by decide +kernel
theorem dX5_go_48 : decode cX5_go 48 = .ok (.iconst 0, 1) := by decide +kernel
theorem dX5_go_49 : decode cX5_go 49 = .ok (.istore_n 2, 1) := by decide +kernel
theorem dX5_go_50 : decode cX5_go 50 = .ok (.iload_n 2, 1) := by decide +kernel
theorem dX5_go_51 : decode cX5_go 51 = .ok (.bipush 40, 2) := by decide +kernel
theorem dX5_go_53 : decode cX5_go 53 = .ok (.if_icmp .ge 47, 3) := by decide +kernel
theorem dX5_go_56 : decode cX5_go 56 = .ok (.aload_n 0, 1) := by decide +kernel
theorem dX5_go_57 : decode cX5_go 57 = .ok (.getfield 27, 3) := by decide +kernel
theorem dX5_go_60 : decode cX5_go 60 = .ok (.iload_n 2, 1) := by decide +kernel
theorem dX5_go_61 : decode cX5_go 61 = .ok (.iaload, 1) := by decide +kernel
theorem dX5_go_62 : decode cX5_go 62 = .ok (.aload_n 0, 1) := by decide +kernel
theorem dX5_go_63 : decode cX5_go 63 = .ok (.getfield 55, 3) := by decide +kernel
theorem dX5_go_66 : decode cX5_go 66 = .ok (.iconst (-1), 1) := by decide +kernel
theorem dX5_go_67 : decode cX5_go 67 = .ok (.ixor, 1) := by decide +kernel
theorem dX5_go_68 : decode cX5_go 68 = .ok (.iand, 1) := by decide +kernel
theorem dX5_go_69 : decode cX5_go 69 = .ok (.ifCond .eq 25, 3) := by decide +kernel
theorem dX5_go_72 : decode cX5_go 72 = .ok (.aload_n 0, 1) := by decide +kernel
theorem dX5_go_73 : decode cX5_go 73 = .ok (.getfield 30, 3) := by decide +kernel
theorem dX5_go_76 : decode cX5_go 76 = .ok (.iload_n 2, 1) := by decide +kernel
theorem dX5_go_77 : decode cX5_go 77 = .ok (.iaload, 1) := by decide +kernel
theorem dX5_go_78 : decode cX5_go 78 = .ok (.aload_n 0, 1) := by decide +kernel
theorem dX5_go_79 : decode cX5_go 79 = .ok (.getfield 58, 3) := by decide +kernel
theorem dX5_go_82 : decode cX5_go 82 = .ok (.iconst (-1), 1) := by decide +kernel
theorem dX5_go_83 : decode cX5_go 83 = .ok (.ixor, 1) := by decide +kernel
theorem dX5_go_84 : decode cX5_go 84 = .ok (.iand, 1) := by decide +kernel
theorem dX5_go_85 : decode cX5_go 85 = .ok (.ifCond .eq 9, 3) := by decide +kernel
theorem dX5_go_88 : decode cX5_go 88 = .ok (.aload_n 0, 1) := by decide +kernel
theorem dX5_go_89 : decode cX5_go 89 = .ok (.aload_n 1, 1) := by decide +kernel
theorem dX5_go_90 : decode cX5_go 90 = .ok (.iload_n 2, 1) := by decide +kernel
theorem dX5_go_91 : decode cX5_go 91 = .ok (.invokevirtual 61, 3) := by decide +kernel
theorem dX5_go_94 : decode cX5_go 94 = .ok (.iinc 2 1, 3) := by decide +kernel
theorem dX5_go_97 : decode cX5_go 97 = .ok (.goto (-47), 3) := by decide +kernel
theorem dX5_go_100 : decode cX5_go 100 = .ok (.return_, 1) := by decide +kernel
theorem dX5_clear_0 : decode cX5_clear 0 = .ok (.aload_n 0, 1) := by decide +kernel
theorem dX5_clear_1 : decode cX5_clear 1 = .ok (.getfield 9, 3) := by decide +kernel
theorem dX5_clear_4 : decode cX5_clear 4 = .ok (.iconst (-1), 1) := by decide +kernel
theorem dX5_clear_5 : decode cX5_clear 5 = .ok (.invokestatic 64, 3) := by decide +kernel
theorem dX5_clear_8 : decode cX5_clear 8 = .ok (.aload_n 0, 1) := by decide +kernel
theorem dX5_clear_9 : decode cX5_clear 9 = .ok (.getfield 15, 3) := by decide +kernel
theorem dX5_clear_12 : decode cX5_clear 12 = .ok (.iconst (-1), 1) := by decide +kernel
theorem dX5_clear_13 : decode cX5_clear 13 = .ok (.invokestatic 64, 3) := by decide +kernel
theorem dX5_clear_16 : decode cX5_clear 16 = .ok (.aload_n 0, 1) := by decide +kernel
theorem dX5_clear_17 : decode cX5_clear 17 = .ok (.getfield 18, 3) := by decide +kernel
theorem dX5_clear_20 : decode cX5_clear 20 = .ok (.iconst (-1), 1) := by decide +kernel
theorem dX5_clear_21 : decode cX5_clear 21 = .ok (.invokestatic 64, 3) := by decide +kernel
theorem dX5_clear_24 : decode cX5_clear 24 = .ok (.aload_n 0, 1) := by decide +kernel
theorem dX5_clear_25 : decode cX5_clear 25 = .ok (.getfield 21, 3) := by decide +kernel
theorem dX5_clear_28 : decode cX5_clear 28 = .ok (.iconst (-1), 1) := by decide +kernel
theorem dX5_clear_29 : decode cX5_clear 29 = .ok (.invokestatic 64, 3) := by decide +kernel
theorem dX5_clear_32 : decode cX5_clear 32 = .ok (.aload_n 0, 1) := by decide +kernel
theorem dX5_clear_33 : decode cX5_clear 33 = .ok (.getfield 24, 3) := by decide +kernel
theorem dX5_clear_36 : decode cX5_clear 36 = .ok (.iconst 0, 1) := by decide +kernel
theorem dX5_clear_37 : decode cX5_clear 37 = .ok (.invokestatic 64, 3) := by decide +kernel
theorem dX5_clear_40 : decode cX5_clear 40 = .ok (.aload_n 0, 1) := by decide +kernel
theorem dX5_clear_41 : decode cX5_clear 41 = .ok (.getfield 27, 3) := by decide +kernel
theorem dX5_clear_44 : decode cX5_clear 44 = .ok (.iconst 0, 1) := by decide +kernel
theorem dX5_clear_45 : decode cX5_clear 45 = .ok (.invokestatic 64, 3) := by decide +kernel
theorem dX5_clear_48 : decode cX5_clear 48 = .ok (.aload_n 0, 1) := by decide +kernel
theorem dX5_clear_49 : decode cX5_clear 49 = .ok (.getfield 30, 3) := by decide +kernel
theorem dX5_clear_52 : decode cX5_clear 52 = .ok (.iconst 0, 1) := by decide +kernel
theorem dX5_clear_53 : decode cX5_clear 53 = .ok (.invokestatic 64, 3) := by decide +kernel
theorem dX5_clear_56 : decode cX5_clear 56 = .ok (.aload_n 0, 1) := by decide +kernel
theorem dX5_clear_57 : decode cX5_clear 57 = .ok (.getfield 33, 3) := by decide +kernel
theorem dX5_clear_60 : decode cX5_clear 60 = .ok (.iconst 0, 1) := by decide +kernel
theorem dX5_clear_61 : decode cX5_clear 61 = .ok (.invokestatic 64, 3) := by decide +kernel
theorem dX5_clear_64 : decode cX5_clear 64 = .ok (.aload_n 0, 1) := by decide +kernel
theorem dX5_clear_65 : decode cX5_clear 65 = .ok (.iconst 0, 1) := by decide +kernel
theorem dX5_clear_66 : decode cX5_clear 66 = .ok (.putfield 55, 3) := by decide +kernel
theorem dX5_clear_69 : decode cX5_clear 69 = .ok (.aload_n 0, 1) := by decide +kernel
theorem dX5_clear_70 : decode cX5_clear 70 = .ok (.iconst 0, 1) := by decide +kernel
theorem dX5_clear_71 : decode cX5_clear 71 = .ok (.putfield 58, 3) := by decide +kernel
theorem dX5_clear_74 : decode cX5_clear 74 = .ok (.return_, 1) := by decide +kernel
theorem dX5_bringHead_0 : decode cX5_bringHead 0 = .ok (.aload_n 1, 1) := by decide +kernel
theorem dX5_bringHead_1 : decode cX5_bringHead 1 = .ok (.getfield 70, 3) := by decide +kernel
theorem dX5_bringHead_4 : decode cX5_bringHead 4 = .ok (.iload_n 2, 1) := by decide +kernel
theorem dX5_bringHead_5 : decode cX5_bringHead 5 = .ok (.iaload, 1) := by decide +kernel
theorem dX5_bringHead_6 : decode cX5_bringHead 6 = .ok (.istore_n 3, 1) := by decide +kernel
theorem dX5_bringHead_7 : decode cX5_bringHead 7 = .ok (.iload_n 3, 1) := by decide +kernel
theorem dX5_bringHead_8 : decode cX5_bringHead 8 = .ok (.iconst 3, 1) := by decide +kernel
theorem dX5_bringHead_9 : decode cX5_bringHead 9 = .ok (.invokestatic 73, 3) := by decide +kernel
theorem dX5_bringHead_12 : decode cX5_bringHead 12 = .ok (.ifCond .eq 4, 3) := by decide +kernel
theorem dX5_bringHead_15 : decode cX5_bringHead 15 = .ok (.return_, 1) := by decide +kernel
theorem dX5_bringHead_16 : decode cX5_bringHead 16 = .ok (.aload_n 0, 1) := by decide +kernel
theorem dX5_bringHead_17 : decode cX5_bringHead 17 = .ok (.getfield 33, 3) := by decide +kernel
theorem dX5_bringHead_20 : decode cX5_bringHead 20 = .ok (.iload_n 3, 1) := by decide +kernel
theorem dX5_bringHead_21 : decode cX5_bringHead 21 = .ok (.dup2, 1) := by decide +kernel
theorem dX5_bringHead_22 : decode cX5_bringHead 22 = .ok (.iaload, 1) := by decide +kernel
theorem dX5_bringHead_23 : decode cX5_bringHead 23 = .ok (.iconst 1, 1) := by decide +kernel
theorem dX5_bringHead_24 : decode cX5_bringHead 24 = .ok (.iload_n 2, 1) := by decide +kernel
theorem dX5_bringHead_25 : decode cX5_bringHead 25 = .ok (.ishl, 1) := by decide +kernel
theorem dX5_bringHead_26 : decode cX5_bringHead 26 = .ok (.ior, 1) := by decide +kernel
theorem dX5_bringHead_27 : decode cX5_bringHead 27 = .ok (.iastore, 1) := by decide +kernel
theorem dX5_bringHead_28 : decode cX5_bringHead 28 = .ok (.aload_n 0, 1) := by decide +kernel
theorem dX5_bringHead_29 : decode cX5_bringHead 29 = .ok (.getfield 33, 3) := by decide +kernel
theorem dX5_bringHead_32 : decode cX5_bringHead 32 = .ok (.iconst 3, 1) := by decide +kernel
theorem dX5_bringHead_33 : decode cX5_bringHead 33 = .ok (.dup2, 1) := by decide +kernel
theorem dX5_bringHead_34 : decode cX5_bringHead 34 = .ok (.iaload, 1) := by decide +kernel
theorem dX5_bringHead_35 : decode cX5_bringHead 35 = .ok (.iconst 1, 1) := by decide +kernel
theorem dX5_bringHead_36 : decode cX5_bringHead 36 = .ok (.iload_n 2, 1) := by decide +kernel
theorem dX5_bringHead_37 : decode cX5_bringHead 37 = .ok (.ishl, 1) := by decide +kernel
theorem dX5_bringHead_38 : decode cX5_bringHead 38 = .ok (.ior, 1) := by decide +kernel
theorem dX5_bringHead_39 : decode cX5_bringHead 39 = .ok (.iastore, 1) := by decide +kernel
theorem dX5_bringHead_40 : decode cX5_bringHead 40 = .ok (.aload_n 0, 1) := by decide +kernel
theorem dX5_bringHead_41 : decode cX5_bringHead 41 = .ok (.getfield 9, 3) := by decide +kernel
theorem dX5_bringHead_44 : decode cX5_bringHead 44 = .ok (.iload_n 2, 1) := by decide +kernel
theorem dX5_bringHead_45 : decode cX5_bringHead 45 = .ok (.aload_n 1, 1) := by decide +kernel
theorem dX5_bringHead_46 : decode cX5_bringHead 46 = .ok (.iload_n 2, 1) := by decide +kernel
theorem dX5_bringHead_47 : decode cX5_bringHead 47 = .ok (.invokevirtual 77, 3) := by decide +kernel
theorem dX5_bringHead_50 : decode cX5_bringHead 50 = .ok (.iastore, 1) := by decide +kernel
theorem dX5_bringHead_51 : decode cX5_bringHead 51 = .ok (.aload_n 0, 1) := by decide +kernel
theorem dX5_bringHead_52 : decode cX5_bringHead 52 = .ok (.getfield 9, 3) := by decide +kernel
theorem dX5_bringHead_55 : decode cX5_bringHead 55 = .ok (.iload_n 2, 1) := by decide +kernel
theorem dX5_bringHead_56 : decode cX5_bringHead 56 = .ok (.iaload, 1) := by decide +kernel
theorem dX5_bringHead_57 : decode cX5_bringHead 57 = .ok (.iconst (-1), 1) := by decide +kernel
theorem dX5_bringHead_58 : decode cX5_bringHead 58 = .ok (.if_icmp .ne 4, 3) := by decide +kernel
theorem dX5_bringHead_61 : decode cX5_bringHead 61 = .ok (.return_, 1) := by decide +kernel
theorem dX5_bringHead_62 : decode cX5_bringHead 62 = .ok (.aload_n 0, 1) := by decide +kernel
theorem dX5_bringHead_63 : decode cX5_bringHead 63 = .ok (.getfield 15, 3) := by decide +kernel
theorem dX5_bringHead_66 : decode cX5_bringHead 66 = .ok (.iload_n 2, 1) := by decide +kernel
theorem dX5_bringHead_67 : decode cX5_bringHead 67 = .ok (.aload_n 0, 1) := by decide +kernel
theorem dX5_bringHead_68 : decode cX5_bringHead 68 = .ok (.getfield 9, 3) := by decide +kernel
theorem dX5_bringHead_71 : decode cX5_bringHead 71 = .ok (.iload_n 2, 1) := by decide +kernel
theorem dX5_bringHead_72 : decode cX5_bringHead 72 = .ok (.iaload, 1) := by decide +kernel
theorem dX5_bringHead_73 : decode cX5_bringHead 73 = .ok (.getstatic 81, 3) := by decide +kernel
theorem dX5_bringHead_76 : decode cX5_bringHead 76 = .ok (.iload_n 3, 1) := by decide +kernel
theorem dX5_bringHead_77 : decode cX5_bringHead 77 = .ok (.iaload, 1) := by decide +kernel
theorem dX5_bringHead_78 : decode cX5_bringHead 78 = .ok (.iadd, 1) := by decide +kernel
theorem dX5_bringHead_79 : decode cX5_bringHead 79 = .ok (.iastore, 1) := by decide +kernel
theorem dX5_bringHead_80 : decode cX5_bringHead 80 = .ok (.aload_n 0, 1) := by decide +kernel
theorem dX5_bringHead_81 : decode cX5_bringHead 81 = .ok (.getfield 15, 3) := by decide +kernel
theorem dX5_bringHead_84 : decode cX5_bringHead 84 = .ok (.iload_n 2, 1) := by decide +kernel
theorem dX5_bringHead_85 : decode cX5_bringHead 85 = .ok (.iaload, 1) := by decide +kernel
theorem dX5_bringHead_86 : decode cX5_bringHead 86 = .ok (.aload_n 1, 1) := by decide +kernel
theorem dX5_bringHead_87 : decode cX5_bringHead 87 = .ok (.getfield 84, 3) := by decide +kernel
theorem dX5_bringHead_90 : decode cX5_bringHead 90 = .ok (.iload_n 2, 1) := by decide +kernel
theorem dX5_bringHead_91 : decode cX5_bringHead 91 = .ok (.iaload, 1) := by decide +kernel
theorem dX5_bringHead_92 : decode cX5_bringHead 92 = .ok (.invokestatic 87, 3) := by decide +kernel
theorem dX5_bringHead_95 : decode cX5_bringHead 95 = .ok (.istore 4, 2) := by decide +kernel
theorem dX5_bringHead_97 : decode cX5_bringHead 97 = .ok (.aload_n 0, 1) := by decide +kernel
theorem dX5_bringHead_98 : decode cX5_bringHead 98 = .ok (.getfield 9, 3) := by decide +kernel
theorem dX5_bringHead_101 : decode cX5_bringHead 101 = .ok (.iload_n 2, 1) := by decide +kernel
theorem dX5_bringHead_102 : decode cX5_bringHead 102 = .ok (.iaload, 1) := by decide +kernel
theorem dX5_bringHead_103 : decode cX5_bringHead 103 = .ok (.istore 5, 2) := by decide +kernel
theorem dX5_bringHead_105 : decode cX5_bringHead 105 = .ok (.iload 5, 2) := by decide +kernel
theorem dX5_bringHead_107 : decode cX5_bringHead 107 = .ok (.iload 4, 2) := by decide +kernel
theorem dX5_bringHead_109 : decode cX5_bringHead 109 = .ok (.if_icmp .ge 29, 3) := by decide +kernel
theorem dX5_bringHead_112 : decode cX5_bringHead 112 = .ok (.iload 5, 2) := by decide +kernel
theorem dX5_bringHead_114 : decode cX5_bringHead 114 = .ok (.bipush 40, 2) := by decide +kernel
theorem dX5_bringHead_116 : decode cX5_bringHead 116 = .ok (.if_icmp .ge 22, 3) := by decide +kernel
theorem dX5_bringHead_119 : decode cX5_bringHead 119 = .ok (.aload_n 0, 1) := by decide +kernel
theorem dX5_bringHead_120 : decode cX5_bringHead 120 = .ok (.getfield 27, 3) := by decide +kernel
theorem dX5_bringHead_123 : decode cX5_bringHead 123 = .ok (.iload 5, 2) := by decide +kernel
theorem dX5_bringHead_125 : decode cX5_bringHead 125 = .ok (.dup2, 1) := by decide +kernel
theorem dX5_bringHead_126 : decode cX5_bringHead 126 = .ok (.iaload, 1) := by decide +kernel
theorem dX5_bringHead_127 : decode cX5_bringHead 127 = .ok (.iconst 1, 1) := by decide +kernel
theorem dX5_bringHead_128 : decode cX5_bringHead 128 = .ok (.iload_n 2, 1) := by decide +kernel
theorem dX5_bringHead_129 : decode cX5_bringHead 129 = .ok (.ishl, 1) := by decide +kernel
theorem dX5_bringHead_130 : decode cX5_bringHead 130 = .ok (.ior, 1) := by decide +kernel
theorem dX5_bringHead_131 : decode cX5_bringHead 131 = .ok (.iastore, 1) := by decide +kernel
theorem dX5_bringHead_132 : decode cX5_bringHead 132 = .ok (.iinc 5 1, 3) := by decide +kernel
theorem dX5_bringHead_135 : decode cX5_bringHead 135 = .ok (.goto (-30), 3) := by decide +kernel
theorem dX5_bringHead_138 : decode cX5_bringHead 138 = .ok (.return_, 1) := by decide +kernel
theorem dX5_bringCouple_0 : decode cX5_bringCouple 0 = .ok (.aload_n 1, 1) := by decide +kernel
theorem dX5_bringCouple_1 : decode cX5_bringCouple 1 = .ok (.getfield 93, 3) := by decide +kernel
theorem dX5_bringCouple_4 : decode cX5_bringCouple 4 = .ok (.iload_n 2, 1) := by decide +kernel
theorem dX5_bringCouple_5 : decode cX5_bringCouple 5 = .ok (.iaload, 1) := by decide +kernel
theorem dX5_bringCouple_6 : decode cX5_bringCouple 6 = .ok (.istore_n 3, 1) := by decide +kernel
theorem dX5_bringCouple_7 : decode cX5_bringCouple 7 = .ok (.iload_n 3, 1) := by decide +kernel
theorem dX5_bringCouple_8 : decode cX5_bringCouple 8 = .ok (.iconst 4, 1) := by decide +kernel
theorem dX5_bringCouple_9 : decode cX5_bringCouple 9 = .ok (.invokestatic 73, 3) := by decide +kernel
theorem dX5_bringCouple_12 : decode cX5_bringCouple 12 = .ok (.ifCond .ne 12, 3) := by decide +kernel
theorem dX5_bringCouple_15 : decode cX5_bringCouple 15 = .ok (.aload_n 1, 1) := by decide +kernel
theorem dX5_bringCouple_16 : decode cX5_bringCouple 16 = .ok (.getfield 96, 3) := by decide +kernel
theorem dX5_bringCouple_19 : decode cX5_bringCouple 19 = .ok (.iload_n 2, 1) := by decide +kernel
theorem dX5_bringCouple_20 : decode cX5_bringCouple 20 = .ok (.iaload, 1) := by decide +kernel
theorem dX5_bringCouple_21 : decode cX5_bringCouple 21 = .ok (.ifCond .ge 4, 3) := by decide +kernel
theorem dX5_bringCouple_24 : decode cX5_bringCouple 24 = .ok (.return_, 1) := by decide +kernel
theorem dX5_bringCouple_25 : decode cX5_bringCouple 25 = .ok (.aload_n 1, 1) := by decide +kernel
theorem dX5_bringCouple_26 : decode cX5_bringCouple 26 = .ok (.getfield 96, 3) := by decide +kernel
theorem dX5_bringCouple_29 : decode cX5_bringCouple 29 = .ok (.iload_n 2, 1) := by decide +kernel
theorem dX5_bringCouple_30 : decode cX5_bringCouple 30 = .ok (.iaload, 1) := by decide +kernel
theorem dX5_bringCouple_31 : decode cX5_bringCouple 31 = .ok (.aload_n 1, 1) := by decide +kernel
theorem dX5_bringCouple_32 : decode cX5_bringCouple 32 = .ok (.getfield 99, 3) := by decide +kernel
theorem dX5_bringCouple_35 : decode cX5_bringCouple 35 = .ok (.iload_n 2, 1) := by decide +kernel
theorem dX5_bringCouple_36 : decode cX5_bringCouple 36 = .ok (.iaload, 1) := by decide +kernel
theorem dX5_bringCouple_37 : decode cX5_bringCouple 37 = .ok (.iadd, 1) := by decide +kernel
theorem dX5_bringCouple_38 : decode cX5_bringCouple 38 = .ok (.bipush 40, 2) := by decide +kernel
theorem dX5_bringCouple_40 : decode cX5_bringCouple 40 = .ok (.invokestatic 87, 3) := by decide +kernel
theorem dX5_bringCouple_43 : decode cX5_bringCouple 43 = .ok (.istore 4, 2) := by decide +kernel
theorem dX5_bringCouple_45 : decode cX5_bringCouple 45 = .ok (.aload_n 1, 1) := by decide +kernel
theorem dX5_bringCouple_46 : decode cX5_bringCouple 46 = .ok (.getfield 96, 3) := by decide +kernel
theorem dX5_bringCouple_49 : decode cX5_bringCouple 49 = .ok (.iload_n 2, 1) := by decide +kernel
theorem dX5_bringCouple_50 : decode cX5_bringCouple 50 = .ok (.iaload, 1) := by decide +kernel
theorem dX5_bringCouple_51 : decode cX5_bringCouple 51 = .ok (.istore 5, 2) := by decide +kernel
theorem dX5_bringCouple_53 : decode cX5_bringCouple 53 = .ok (.iload 5, 2) := by decide +kernel
theorem dX5_bringCouple_55 : decode cX5_bringCouple 55 = .ok (.iload 4, 2) := by decide +kernel
theorem dX5_bringCouple_57 : decode cX5_bringCouple 57 = .ok (.if_icmp .ge 45, 3) := by decide +kernel
theorem dX5_bringCouple_60 : decode cX5_bringCouple 60 = .ok (.aload_n 0, 1) := by decide +kernel
theorem dX5_bringCouple_61 : decode cX5_bringCouple 61 = .ok (.getfield 30, 3) := by decide +kernel
theorem dX5_bringCouple_64 : decode cX5_bringCouple 64 = .ok (.iload 5, 2) := by decide +kernel
theorem dX5_bringCouple_66 : decode cX5_bringCouple 66 = .ok (.dup2, 1) := by decide +kernel
theorem dX5_bringCouple_67 : decode cX5_bringCouple 67 = .ok (.iaload, 1) := by decide +kernel
theorem dX5_bringCouple_68 : decode cX5_bringCouple 68 = .ok (.iconst 1, 1) := by decide +kernel
theorem dX5_bringCouple_69 : decode cX5_bringCouple 69 = .ok (.iload_n 2, 1) := by decide +kernel
theorem dX5_bringCouple_70 : decode cX5_bringCouple 70 = .ok (.ishl, 1) := by decide +kernel
theorem dX5_bringCouple_71 : decode cX5_bringCouple 71 = .ok (.ior, 1) := by decide +kernel
theorem dX5_bringCouple_72 : decode cX5_bringCouple 72 = .ok (.iastore, 1) := by decide +kernel
theorem dX5_bringCouple_73 : decode cX5_bringCouple 73 = .ok (.aload_n 0, 1) := by decide +kernel
theorem dX5_bringCouple_74 : decode cX5_bringCouple 74 = .ok (.getfield 24, 3) := by decide +kernel
theorem dX5_bringCouple_77 : decode cX5_bringCouple 77 = .ok (.iload_n 2, 1) := by decide +kernel
theorem dX5_bringCouple_78 : decode cX5_bringCouple 78 = .ok (.dup2, 1) := by decide +kernel
theorem dX5_bringCouple_79 : decode cX5_bringCouple 79 = .ok (.iaload, 1) := by decide +kernel
theorem dX5_bringCouple_80 : decode cX5_bringCouple 80 = .ok (.aload_n 0, 1) := by decide +kernel
theorem dX5_bringCouple_81 : decode cX5_bringCouple 81 = .ok (.getfield 27, 3) := by decide +kernel
theorem dX5_bringCouple_84 : decode cX5_bringCouple 84 = .ok (.iload 5, 2) := by decide +kernel
theorem dX5_bringCouple_86 : decode cX5_bringCouple 86 = .ok (.iaload, 1) := by decide +kernel
theorem dX5_bringCouple_87 : decode cX5_bringCouple 87 = .ok (.aload_n 0, 1) := by decide +kernel
theorem dX5_bringCouple_88 : decode cX5_bringCouple 88 = .ok (.getfield 33, 3) := by decide +kernel
theorem dX5_bringCouple_91 : decode cX5_bringCouple 91 = .ok (.iload_n 3, 1) := by decide +kernel
theorem dX5_bringCouple_92 : decode cX5_bringCouple 92 = .ok (.iaload, 1) := by decide +kernel
theorem dX5_bringCouple_93 : decode cX5_bringCouple 93 = .ok (.iand, 1) := by decide +kernel
theorem dX5_bringCouple_94 : decode cX5_bringCouple 94 = .ok (.ior, 1) := by decide +kernel
theorem dX5_bringCouple_95 : decode cX5_bringCouple 95 = .ok (.iastore, 1) := by decide +kernel
theorem dX5_bringCouple_96 : decode cX5_bringCouple 96 = .ok (.iinc 5 1, 3) := by decide +kernel
theorem dX5_bringCouple_99 : decode cX5_bringCouple 99 = .ok (.goto (-46), 3) := by decide +kernel
theorem dX5_bringCouple_102 : decode cX5_bringCouple 102 = .ok (.return_, 1) := by decide +kernel
theorem dX5_dawn_0 : decode cX5_dawn 0 = .ok (.iconst 0, 1) := by decide +kernel
theorem dX5_dawn_1 : decode cX5_dawn 1 = .ok (.istore_n 3, 1) := by decide +kernel
theorem dX5_dawn_2 : decode cX5_dawn 2 = .ok (.iload_n 3, 1) := by decide +kernel
theorem dX5_dawn_3 : decode cX5_dawn 3 = .ok (.aload_n 1, 1) := by decide +kernel
theorem dX5_dawn_4 : decode cX5_dawn 4 = .ok (.getfield 49, 3) := by decide +kernel
theorem dX5_dawn_7 : decode cX5_dawn 7 = .ok (.if_icmp .ge 106, 3) := by decide +kernel
theorem dX5_dawn_10 : decode cX5_dawn 10 = .ok (.aload_n 0, 1) := by decide +kernel
theorem dX5_dawn_11 : decode cX5_dawn 11 = .ok (.getfield 30, 3) := by decide +kernel
theorem dX5_dawn_14 : decode cX5_dawn 14 = .ok (.iload_n 2, 1) := by decide +kernel
theorem dX5_dawn_15 : decode cX5_dawn 15 = .ok (.iaload, 1) := by decide +kernel
theorem dX5_dawn_16 : decode cX5_dawn 16 = .ok (.aload_n 0, 1) := by decide +kernel
theorem dX5_dawn_17 : decode cX5_dawn 17 = .ok (.getfield 58, 3) := by decide +kernel
theorem dX5_dawn_20 : decode cX5_dawn 20 = .ok (.iconst (-1), 1) := by decide +kernel
theorem dX5_dawn_21 : decode cX5_dawn 21 = .ok (.ixor, 1) := by decide +kernel
theorem dX5_dawn_22 : decode cX5_dawn 22 = .ok (.iand, 1) := by decide +kernel
theorem dX5_dawn_23 : decode cX5_dawn 23 = .ok (.iconst 1, 1) := by decide +kernel
theorem dX5_dawn_24 : decode cX5_dawn 24 = .ok (.iload_n 3, 1) := by decide +kernel
theorem dX5_dawn_25 : decode cX5_dawn 25 = .ok (.ishl, 1) := by decide +kernel
theorem dX5_dawn_26 : decode cX5_dawn 26 = .ok (.iand, 1) := by decide +kernel
theorem dX5_dawn_27 : decode cX5_dawn 27 = .ok (.ifCond .ne 6, 3) := by decide +kernel
theorem dX5_dawn_30 : decode cX5_dawn 30 = .ok (.goto 77, 3) := by decide +kernel
theorem dX5_dawn_33 : decode cX5_dawn 33 = .ok (.aload_n 0, 1) := by decide +kernel
theorem dX5_dawn_34 : decode cX5_dawn 34 = .ok (.getfield 27, 3) := by decide +kernel
theorem dX5_dawn_37 : decode cX5_dawn 37 = .ok (.iload_n 2, 1) := by decide +kernel
theorem dX5_dawn_38 : decode cX5_dawn 38 = .ok (.iaload, 1) := by decide +kernel
theorem dX5_dawn_39 : decode cX5_dawn 39 = .ok (.aload_n 0, 1) := by decide +kernel
theorem dX5_dawn_40 : decode cX5_dawn 40 = .ok (.getfield 55, 3) := by decide +kernel
theorem dX5_dawn_43 : decode cX5_dawn 43 = .ok (.iconst (-1), 1) := by decide +kernel
theorem dX5_dawn_44 : decode cX5_dawn 44 = .ok (.ixor, 1) := by decide +kernel
theorem dX5_dawn_45 : decode cX5_dawn 45 = .ok (.iand, 1) := by decide +kernel
theorem dX5_dawn_46 : decode cX5_dawn 46 = .ok (.aload_n 0, 1) := by decide +kernel
theorem dX5_dawn_47 : decode cX5_dawn 47 = .ok (.getfield 24, 3) := by decide +kernel
theorem dX5_dawn_50 : decode cX5_dawn 50 = .ok (.iload_n 3, 1) := by decide +kernel
theorem dX5_dawn_51 : decode cX5_dawn 51 = .ok (.iaload, 1) := by decide +kernel
theorem dX5_dawn_52 : decode cX5_dawn 52 = .ok (.iand, 1) := by decide +kernel
theorem dX5_dawn_53 : decode cX5_dawn 53 = .ok (.invokestatic 102, 3) := by decide +kernel
theorem dX5_dawn_56 : decode cX5_dawn 56 = .ok (.istore 4, 2) := by decide +kernel
theorem dX5_dawn_58 : decode cX5_dawn 58 = .ok (.iload 4, 2) := by decide +kernel
theorem dX5_dawn_60 : decode cX5_dawn 60 = .ok (.iconst (-1), 1) := by decide +kernel
theorem dX5_dawn_61 : decode cX5_dawn 61 = .ok (.if_icmp .ne 6, 3) := by decide +kernel
theorem dX5_dawn_64 : decode cX5_dawn 64 = .ok (.goto 43, 3) := by decide +kernel
theorem dX5_dawn_67 : decode cX5_dawn 67 = .ok (.aload_n 0, 1) := by decide +kernel
theorem dX5_dawn_68 : decode cX5_dawn 68 = .ok (.dup, 1) := by decide +kernel
theorem dX5_dawn_69 : decode cX5_dawn 69 = .ok (.getfield 55, 3) := by decide +kernel
theorem dX5_dawn_72 : decode cX5_dawn 72 = .ok (.iconst 1, 1) := by decide +kernel
theorem dX5_dawn_73 : decode cX5_dawn 73 = .ok (.iload 4, 2) := by decide +kernel
theorem dX5_dawn_75 : decode cX5_dawn 75 = .ok (.ishl, 1) := by decide +kernel
theorem dX5_dawn_76 : decode cX5_dawn 76 = .ok (.ior, 1) := by decide +kernel
theorem dX5_dawn_77 : decode cX5_dawn 77 = .ok (.putfield 55, 3) := by decide +kernel
theorem dX5_dawn_80 : decode cX5_dawn 80 = .ok (.aload_n 0, 1) := by decide +kernel
theorem dX5_dawn_81 : decode cX5_dawn 81 = .ok (.dup, 1) := by decide +kernel
theorem dX5_dawn_82 : decode cX5_dawn 82 = .ok (.getfield 58, 3) := by decide +kernel
theorem dX5_dawn_85 : decode cX5_dawn 85 = .ok (.iconst 1, 1) := by decide +kernel
theorem dX5_dawn_86 : decode cX5_dawn 86 = .ok (.iload_n 3, 1) := by decide +kernel
theorem dX5_dawn_87 : decode cX5_dawn 87 = .ok (.ishl, 1) := by decide +kernel
theorem dX5_dawn_88 : decode cX5_dawn 88 = .ok (.ior, 1) := by decide +kernel
theorem dX5_dawn_89 : decode cX5_dawn 89 = .ok (.putfield 58, 3) := by decide +kernel
theorem dX5_dawn_92 : decode cX5_dawn 92 = .ok (.aload_n 0, 1) := by decide +kernel
theorem dX5_dawn_93 : decode cX5_dawn 93 = .ok (.getfield 18, 3) := by decide +kernel
theorem dX5_dawn_96 : decode cX5_dawn 96 = .ok (.iload_n 3, 1) := by decide +kernel
theorem dX5_dawn_97 : decode cX5_dawn 97 = .ok (.iload 4, 2) := by decide +kernel
theorem dX5_dawn_99 : decode cX5_dawn 99 = .ok (.iastore, 1) := by decide +kernel
theorem dX5_dawn_100 : decode cX5_dawn 100 = .ok (.aload_n 0, 1) := by decide +kernel
theorem dX5_dawn_101 : decode cX5_dawn 101 = .ok (.getfield 21, 3) := by decide +kernel
theorem dX5_dawn_104 : decode cX5_dawn 104 = .ok (.iload_n 3, 1) := by decide +kernel
theorem dX5_dawn_105 : decode cX5_dawn 105 = .ok (.iload_n 2, 1) := by decide +kernel
theorem dX5_dawn_106 : decode cX5_dawn 106 = .ok (.iastore, 1) := by decide +kernel
theorem dX5_dawn_107 : decode cX5_dawn 107 = .ok (.iinc 3 1, 3) := by decide +kernel
theorem dX5_dawn_110 : decode cX5_dawn 110 = .ok (.goto (-108), 3) := by decide +kernel
theorem dX5_dawn_113 : decode cX5_dawn 113 = .ok (.return_, 1) := by decide +kernel
theorem dX5_lifterOf_0 : decode cX5_lifterOf 0 = .ok (.iconst 0, 1) := by decide +kernel
theorem dX5_lifterOf_1 : decode cX5_lifterOf 1 = .ok (.istore_n 2, 1) := by decide +kernel
theorem dX5_lifterOf_2 : decode cX5_lifterOf 2 = .ok (.iload_n 2, 1) := by decide +kernel
theorem dX5_lifterOf_3 : decode cX5_lifterOf 3 = .ok (.bipush 8, 2) := by decide +kernel
theorem dX5_lifterOf_5 : decode cX5_lifterOf 5 = .ok (.if_icmp .ge 21, 3) := by decide +kernel
theorem dX5_lifterOf_8 : decode cX5_lifterOf 8 = .ok (.aload_n 0, 1) := by decide +kernel
theorem dX5_lifterOf_9 : decode cX5_lifterOf 9 = .ok (.getfield 18, 3) := by decide +kernel
theorem dX5_lifterOf_12 : decode cX5_lifterOf 12 = .ok (.iload_n 2, 1) := by decide +kernel
theorem dX5_lifterOf_13 : decode cX5_lifterOf 13 = .ok (.iaload, 1) := by decide +kernel
theorem dX5_lifterOf_14 : decode cX5_lifterOf 14 = .ok (.iload_n 1, 1) := by decide +kernel
theorem dX5_lifterOf_15 : decode cX5_lifterOf 15 = .ok (.if_icmp .ne 5, 3) := by decide +kernel
theorem dX5_lifterOf_18 : decode cX5_lifterOf 18 = .ok (.iload_n 2, 1) := by decide +kernel
theorem dX5_lifterOf_19 : decode cX5_lifterOf 19 = .ok (.ireturn, 1) := by decide +kernel
theorem dX5_lifterOf_20 : decode cX5_lifterOf 20 = .ok (.iinc 2 1, 3) := by decide +kernel
theorem dX5_lifterOf_23 : decode cX5_lifterOf 23 = .ok (.goto (-21), 3) := by decide +kernel
theorem dX5_lifterOf_26 : decode cX5_lifterOf 26 = .ok (.iconst (-1), 1) := by decide +kernel
theorem dX5_lifterOf_27 : decode cX5_lifterOf 27 = .ok (.ireturn, 1) := by decide +kernel
theorem dX5_stateOf_0 : decode cX5_stateOf 0 = .ok (.aload_n 0, 1) := by decide +kernel
theorem dX5_stateOf_1 : decode cX5_stateOf 1 = .ok (.iload_n 3, 1) := by decide +kernel
theorem dX5_stateOf_2 : decode cX5_stateOf 2 = .ok (.invokevirtual 105, 3) := by decide +kernel
theorem dX5_stateOf_5 : decode cX5_stateOf 5 = .ok (.istore 4, 2) := by decide +kernel
theorem dX5_stateOf_7 : decode cX5_stateOf 7 = .ok (.iload 4, 2) := by decide +kernel
theorem dX5_stateOf_9 : decode cX5_stateOf 9 = .ok (.iconst (-1), 1) := by decide +kernel
theorem dX5_stateOf_10 : decode cX5_stateOf 10 = .ok (.if_icmp .eq 16, 3) := by decide +kernel
theorem dX5_stateOf_13 : decode cX5_stateOf 13 = .ok (.aload_n 0, 1) := by decide +kernel
theorem dX5_stateOf_14 : decode cX5_stateOf 14 = .ok (.getfield 21, 3) := by decide +kernel
theorem dX5_stateOf_17 : decode cX5_stateOf 17 = .ok (.iload 4, 2) := by decide +kernel
theorem dX5_stateOf_19 : decode cX5_stateOf 19 = .ok (.iaload, 1) := by decide +kernel
theorem dX5_stateOf_20 : decode cX5_stateOf 20 = .ok (.iload_n 2, 1) := by decide +kernel
theorem dX5_stateOf_21 : decode cX5_stateOf 21 = .ok (.if_icmp .gt 5, 3) := by decide +kernel
theorem dX5_stateOf_24 : decode cX5_stateOf 24 = .ok (.iconst 2, 1) := by decide +kernel
theorem dX5_stateOf_25 : decode cX5_stateOf 25 = .ok (.ireturn, 1) := by decide +kernel
theorem dX5_stateOf_26 : decode cX5_stateOf 26 = .ok (.aload_n 1, 1) := by decide +kernel
theorem dX5_stateOf_27 : decode cX5_stateOf 27 = .ok (.getfield 84, 3) := by decide +kernel
theorem dX5_stateOf_30 : decode cX5_stateOf 30 = .ok (.iload_n 3, 1) := by decide +kernel
theorem dX5_stateOf_31 : decode cX5_stateOf 31 = .ok (.iaload, 1) := by decide +kernel
theorem dX5_stateOf_32 : decode cX5_stateOf 32 = .ok (.iload_n 2, 1) := by decide +kernel
theorem dX5_stateOf_33 : decode cX5_stateOf 33 = .ok (.if_icmp .gt 5, 3) := by decide +kernel
theorem dX5_stateOf_36 : decode cX5_stateOf 36 = .ok (.iconst 3, 1) := by decide +kernel
theorem dX5_stateOf_37 : decode cX5_stateOf 37 = .ok (.ireturn, 1) := by decide +kernel
theorem dX5_stateOf_38 : decode cX5_stateOf 38 = .ok (.aload_n 0, 1) := by decide +kernel
theorem dX5_stateOf_39 : decode cX5_stateOf 39 = .ok (.getfield 9, 3) := by decide +kernel
theorem dX5_stateOf_42 : decode cX5_stateOf 42 = .ok (.iload_n 3, 1) := by decide +kernel
theorem dX5_stateOf_43 : decode cX5_stateOf 43 = .ok (.iaload, 1) := by decide +kernel
theorem dX5_stateOf_44 : decode cX5_stateOf 44 = .ok (.iconst (-1), 1) := by decide +kernel
theorem dX5_stateOf_45 : decode cX5_stateOf 45 = .ok (.if_icmp .ne 17, 3) := by decide +kernel
theorem dX5_stateOf_48 : decode cX5_stateOf 48 = .ok (.aload_n 1, 1) := by decide +kernel
theorem dX5_stateOf_49 : decode cX5_stateOf 49 = .ok (.invokevirtual 108, 3) := by decide +kernel
theorem dX5_stateOf_52 : decode cX5_stateOf 52 = .ok (.iload_n 2, 1) := by decide +kernel
theorem dX5_stateOf_53 : decode cX5_stateOf 53 = .ok (.if_icmp .gt 7, 3) := by decide +kernel
theorem dX5_stateOf_56 : decode cX5_stateOf 56 = .ok (.iconst 3, 1) := by decide +kernel
theorem dX5_stateOf_57 : decode cX5_stateOf 57 = .ok (.goto 4, 3) := by decide +kernel
theorem dX5_stateOf_60 : decode cX5_stateOf 60 = .ok (.iconst 0, 1) := by decide +kernel
theorem dX5_stateOf_61 : decode cX5_stateOf 61 = .ok (.ireturn, 1) := by decide +kernel
theorem dX5_stateOf_62 : decode cX5_stateOf 62 = .ok (.iload_n 2, 1) := by decide +kernel
theorem dX5_stateOf_63 : decode cX5_stateOf 63 = .ok (.aload_n 0, 1) := by decide +kernel
theorem dX5_stateOf_64 : decode cX5_stateOf 64 = .ok (.getfield 9, 3) := by decide +kernel
theorem dX5_stateOf_67 : decode cX5_stateOf 67 = .ok (.iload_n 3, 1) := by decide +kernel
theorem dX5_stateOf_68 : decode cX5_stateOf 68 = .ok (.iaload, 1) := by decide +kernel
theorem dX5_stateOf_69 : decode cX5_stateOf 69 = .ok (.if_icmp .ge 5, 3) := by decide +kernel
theorem dX5_stateOf_72 : decode cX5_stateOf 72 = .ok (.iconst 0, 1) := by decide +kernel
theorem dX5_stateOf_73 : decode cX5_stateOf 73 = .ok (.ireturn, 1) := by decide +kernel
theorem dX5_stateOf_74 : decode cX5_stateOf 74 = .ok (.iload_n 2, 1) := by decide +kernel
theorem dX5_stateOf_75 : decode cX5_stateOf 75 = .ok (.aload_n 0, 1) := by decide +kernel
theorem dX5_stateOf_76 : decode cX5_stateOf 76 = .ok (.getfield 15, 3) := by decide +kernel
theorem dX5_stateOf_79 : decode cX5_stateOf 79 = .ok (.iload_n 3, 1) := by decide +kernel
theorem dX5_stateOf_80 : decode cX5_stateOf 80 = .ok (.iaload, 1) := by decide +kernel
theorem dX5_stateOf_81 : decode cX5_stateOf 81 = .ok (.if_icmp .ge 7, 3) := by decide +kernel
theorem dX5_stateOf_84 : decode cX5_stateOf 84 = .ok (.iconst 1, 1) := by decide +kernel
theorem dX5_stateOf_85 : decode cX5_stateOf 85 = .ok (.goto 4, 3) := by decide +kernel
theorem dX5_stateOf_88 : decode cX5_stateOf 88 = .ok (.iconst 4, 1) := by decide +kernel
theorem dX5_stateOf_89 : decode cX5_stateOf 89 = .ok (.ireturn, 1) := by decide +kernel
theorem dX5_firstOutOfTurn_0 : decode cX5_firstOutOfTurn 0 = .ok (.iconst (-1), 1) := by decide +kernel
theorem dX5_firstOutOfTurn_1 : decode cX5_firstOutOfTurn 1 = .ok (.istore_n 2, 1) := by decide +kernel
theorem dX5_firstOutOfTurn_2 : decode cX5_firstOutOfTurn 2 = .ok (.iconst 0, 1) := by decide +kernel
theorem dX5_firstOutOfTurn_3 : decode cX5_firstOutOfTurn 3 = .ok (.istore_n 3, 1) := by decide +kernel
theorem dX5_firstOutOfTurn_4 : decode cX5_firstOutOfTurn 4 = .ok (.iload_n 3, 1) := by decide +kernel
theorem dX5_firstOutOfTurn_5 : decode cX5_firstOutOfTurn 5 = .ok (.aload_n 1, 1) := by decide +kernel
theorem dX5_firstOutOfTurn_6 : decode cX5_firstOutOfTurn 6 = .ok (.getfield 49, 3) := by decide +kernel
theorem dX5_firstOutOfTurn_9 : decode cX5_firstOutOfTurn 9 = .ok (.if_icmp .ge 53, 3) := by decide +kernel
theorem dX5_firstOutOfTurn_12 : decode cX5_firstOutOfTurn 12 = .ok (.aload_n 0, 1) := by decide +kernel
theorem dX5_firstOutOfTurn_13 : decode cX5_firstOutOfTurn 13 = .ok (.getfield 18, 3) := by decide +kernel
theorem dX5_firstOutOfTurn_16 : decode cX5_firstOutOfTurn 16 = .ok (.iload_n 3, 1) := by decide +kernel
theorem dX5_firstOutOfTurn_17 : decode cX5_firstOutOfTurn 17 = .ok (.iaload, 1) := by decide +kernel
theorem dX5_firstOutOfTurn_18 : decode cX5_firstOutOfTurn 18 = .ok (.iconst (-1), 1) := by decide +kernel
theorem dX5_firstOutOfTurn_19 : decode cX5_firstOutOfTurn 19 = .ok (.if_icmp .eq 37, 3) := by decide +kernel
theorem dX5_firstOutOfTurn_22 : decode cX5_firstOutOfTurn 22 = .ok (.aload_n 0, 1) := by decide +kernel
theorem dX5_firstOutOfTurn_23 : decode cX5_firstOutOfTurn 23 = .ok (.aload_n 1, 1) := by decide +kernel
theorem dX5_firstOutOfTurn_24 : decode cX5_firstOutOfTurn 24 = .ok (.iload_n 3, 1) := by decide +kernel
theorem dX5_firstOutOfTurn_25 : decode cX5_firstOutOfTurn 25 = .ok (.invokevirtual 112, 3) := by decide +kernel
theorem dX5_firstOutOfTurn_28 : decode cX5_firstOutOfTurn 28 = .ok (.ifCond .ne 6, 3) := by decide +kernel
theorem dX5_firstOutOfTurn_31 : decode cX5_firstOutOfTurn 31 = .ok (.goto 25, 3) := by decide +kernel
theorem dX5_firstOutOfTurn_34 : decode cX5_firstOutOfTurn 34 = .ok (.iload_n 2, 1) := by decide +kernel
theorem dX5_firstOutOfTurn_35 : decode cX5_firstOutOfTurn 35 = .ok (.iconst (-1), 1) := by decide +kernel
theorem dX5_firstOutOfTurn_36 : decode cX5_firstOutOfTurn 36 = .ok (.if_icmp .eq 18, 3) := by decide +kernel
theorem dX5_firstOutOfTurn_39 : decode cX5_firstOutOfTurn 39 = .ok (.aload_n 0, 1) := by decide +kernel
theorem dX5_firstOutOfTurn_40 : decode cX5_firstOutOfTurn 40 = .ok (.getfield 21, 3) := by decide +kernel
theorem dX5_firstOutOfTurn_43 : decode cX5_firstOutOfTurn 43 = .ok (.iload_n 3, 1) := by decide +kernel
theorem dX5_firstOutOfTurn_44 : decode cX5_firstOutOfTurn 44 = .ok (.iaload, 1) := by decide +kernel
theorem dX5_firstOutOfTurn_45 : decode cX5_firstOutOfTurn 45 = .ok (.aload_n 0, 1) := by decide +kernel
theorem dX5_firstOutOfTurn_46 : decode cX5_firstOutOfTurn 46 = .ok (.getfield 21, 3) := by decide +kernel
theorem dX5_firstOutOfTurn_49 : decode cX5_firstOutOfTurn 49 = .ok (.iload_n 2, 1) := by decide +kernel
theorem dX5_firstOutOfTurn_50 : decode cX5_firstOutOfTurn 50 = .ok (.iaload, 1) := by decide +kernel
theorem dX5_firstOutOfTurn_51 : decode cX5_firstOutOfTurn 51 = .ok (.if_icmp .ge 5, 3) := by decide +kernel
theorem dX5_firstOutOfTurn_54 : decode cX5_firstOutOfTurn 54 = .ok (.iload_n 3, 1) := by decide +kernel
theorem dX5_firstOutOfTurn_55 : decode cX5_firstOutOfTurn 55 = .ok (.istore_n 2, 1) := by decide +kernel
theorem dX5_firstOutOfTurn_56 : decode cX5_firstOutOfTurn 56 = .ok (.iinc 3 1, 3) := by decide +kernel
theorem dX5_firstOutOfTurn_59 : decode cX5_firstOutOfTurn 59 = .ok (.goto (-55), 3) := by decide +kernel
theorem dX5_firstOutOfTurn_62 : decode cX5_firstOutOfTurn 62 = .ok (.iload_n 2, 1) := by decide +kernel
theorem dX5_firstOutOfTurn_63 : decode cX5_firstOutOfTurn 63 = .ok (.ireturn, 1) := by decide +kernel
theorem dX5_isOutOfTurn_0 : decode cX5_isOutOfTurn 0 = .ok (.aload_n 1, 1) := by decide +kernel
theorem dX5_isOutOfTurn_1 : decode cX5_isOutOfTurn 1 = .ok (.getfield 70, 3) := by decide +kernel
theorem dX5_isOutOfTurn_4 : decode cX5_isOutOfTurn 4 = .ok (.aload_n 0, 1) := by decide +kernel
theorem dX5_isOutOfTurn_5 : decode cX5_isOutOfTurn 5 = .ok (.getfield 18, 3) := by decide +kernel
theorem dX5_isOutOfTurn_8 : decode cX5_isOutOfTurn 8 = .ok (.iload_n 2, 1) := by decide +kernel
theorem dX5_isOutOfTurn_9 : decode cX5_isOutOfTurn 9 = .ok (.iaload, 1) := by decide +kernel
theorem dX5_isOutOfTurn_10 : decode cX5_isOutOfTurn 10 = .ok (.iaload, 1) := by decide +kernel
theorem dX5_isOutOfTurn_11 : decode cX5_isOutOfTurn 11 = .ok (.istore_n 3, 1) := by decide +kernel
theorem dX5_isOutOfTurn_12 : decode cX5_isOutOfTurn 12 = .ok (.iconst 0, 1) := by decide +kernel
theorem dX5_isOutOfTurn_13 : decode cX5_isOutOfTurn 13 = .ok (.istore 4, 2) := by decide +kernel
theorem dX5_isOutOfTurn_15 : decode cX5_isOutOfTurn 15 = .ok (.iload 4, 2) := by decide +kernel
theorem dX5_isOutOfTurn_17 : decode cX5_isOutOfTurn 17 = .ok (.aload_n 1, 1) := by decide +kernel
theorem dX5_isOutOfTurn_18 : decode cX5_isOutOfTurn 18 = .ok (.getfield 49, 3) := by decide +kernel
theorem dX5_isOutOfTurn_21 : decode cX5_isOutOfTurn 21 = .ok (.if_icmp .ge 62, 3) := by decide +kernel
theorem dX5_isOutOfTurn_24 : decode cX5_isOutOfTurn 24 = .ok (.aload_n 1, 1) := by decide +kernel
theorem dX5_isOutOfTurn_25 : decode cX5_isOutOfTurn 25 = .ok (.getfield 96, 3) := by decide +kernel
theorem dX5_isOutOfTurn_28 : decode cX5_isOutOfTurn 28 = .ok (.iload 4, 2) := by decide +kernel
theorem dX5_isOutOfTurn_30 : decode cX5_isOutOfTurn 30 = .ok (.iaload, 1) := by decide +kernel
theorem dX5_isOutOfTurn_31 : decode cX5_isOutOfTurn 31 = .ok (.aload_n 1, 1) := by decide +kernel
theorem dX5_isOutOfTurn_32 : decode cX5_isOutOfTurn 32 = .ok (.getfield 96, 3) := by decide +kernel
theorem dX5_isOutOfTurn_35 : decode cX5_isOutOfTurn 35 = .ok (.iload_n 2, 1) := by decide +kernel
theorem dX5_isOutOfTurn_36 : decode cX5_isOutOfTurn 36 = .ok (.iaload, 1) := by decide +kernel
theorem dX5_isOutOfTurn_37 : decode cX5_isOutOfTurn 37 = .ok (.if_icmp .ge 40, 3) := by decide +kernel
theorem dX5_isOutOfTurn_40 : decode cX5_isOutOfTurn 40 = .ok (.aload_n 1, 1) := by decide +kernel
theorem dX5_isOutOfTurn_41 : decode cX5_isOutOfTurn 41 = .ok (.iload 4, 2) := by decide +kernel
theorem dX5_isOutOfTurn_43 : decode cX5_isOutOfTurn 43 = .ok (.aload_n 0, 1) := by decide +kernel
theorem dX5_isOutOfTurn_44 : decode cX5_isOutOfTurn 44 = .ok (.getfield 21, 3) := by decide +kernel
theorem dX5_isOutOfTurn_47 : decode cX5_isOutOfTurn 47 = .ok (.iload_n 2, 1) := by decide +kernel
theorem dX5_isOutOfTurn_48 : decode cX5_isOutOfTurn 48 = .ok (.iaload, 1) := by decide +kernel
theorem dX5_isOutOfTurn_49 : decode cX5_isOutOfTurn 49 = .ok (.invokevirtual 116, 3) := by decide +kernel
theorem dX5_isOutOfTurn_52 : decode cX5_isOutOfTurn 52 = .ok (.ifCond .eq 25, 3) := by decide +kernel
theorem dX5_isOutOfTurn_55 : decode cX5_isOutOfTurn 55 = .ok (.aload_n 1, 1) := by decide +kernel
theorem dX5_isOutOfTurn_56 : decode cX5_isOutOfTurn 56 = .ok (.iload 4, 2) := by decide +kernel
theorem dX5_isOutOfTurn_58 : decode cX5_isOutOfTurn 58 = .ok (.iload_n 3, 1) := by decide +kernel
theorem dX5_isOutOfTurn_59 : decode cX5_isOutOfTurn 59 = .ok (.invokevirtual 119, 3) := by decide +kernel
theorem dX5_isOutOfTurn_62 : decode cX5_isOutOfTurn 62 = .ok (.ifCond .eq 15, 3) := by decide +kernel
theorem dX5_isOutOfTurn_65 : decode cX5_isOutOfTurn 65 = .ok (.aload_n 0, 1) := by decide +kernel
theorem dX5_isOutOfTurn_66 : decode cX5_isOutOfTurn 66 = .ok (.iload 4, 2) := by decide +kernel
theorem dX5_isOutOfTurn_68 : decode cX5_isOutOfTurn 68 = .ok (.iload_n 2, 1) := by decide +kernel
theorem dX5_isOutOfTurn_69 : decode cX5_isOutOfTurn 69 = .ok (.invokevirtual 122, 3) := by decide +kernel
theorem dX5_isOutOfTurn_72 : decode cX5_isOutOfTurn 72 = .ok (.ifCond .eq 5, 3) := by decide +kernel
theorem dX5_isOutOfTurn_75 : decode cX5_isOutOfTurn 75 = .ok (.iconst 1, 1) := by decide +kernel
theorem dX5_isOutOfTurn_76 : decode cX5_isOutOfTurn 76 = .ok (.ireturn, 1) := by decide +kernel
theorem dX5_isOutOfTurn_77 : decode cX5_isOutOfTurn 77 = .ok (.iinc 4 1, 3) := by decide +kernel
theorem dX5_isOutOfTurn_80 : decode cX5_isOutOfTurn 80 = .ok (.goto (-65), 3) := by decide +kernel
theorem dX5_isOutOfTurn_83 : decode cX5_isOutOfTurn 83 = .ok (.iconst 0, 1) := by decide +kernel
theorem dX5_isOutOfTurn_84 : decode cX5_isOutOfTurn 84 = .ok (.ireturn, 1) := by decide +kernel
theorem dX5_isStillWithout_0 : decode cX5_isStillWithout 0 = .ok (.aload_n 0, 1) := by decide +kernel
theorem dX5_isStillWithout_1 : decode cX5_isStillWithout 1 = .ok (.getfield 21, 3) := by decide +kernel
theorem dX5_isStillWithout_4 : decode cX5_isStillWithout 4 = .ok (.iload_n 1, 1) := by decide +kernel
theorem dX5_isStillWithout_5 : decode cX5_isStillWithout 5 = .ok (.iaload, 1) := by decide +kernel
theorem dX5_isStillWithout_6 : decode cX5_isStillWithout 6 = .ok (.iconst (-1), 1) := by decide +kernel
theorem dX5_isStillWithout_7 : decode cX5_isStillWithout 7 = .ok (.if_icmp .eq 18, 3) := by decide +kernel
theorem dX5_isStillWithout_10 : decode cX5_isStillWithout 10 = .ok (.aload_n 0, 1) := by decide +kernel
theorem dX5_isStillWithout_11 : decode cX5_isStillWithout 11 = .ok (.getfield 21, 3) := by decide +kernel
theorem dX5_isStillWithout_14 : decode cX5_isStillWithout 14 = .ok (.iload_n 1, 1) := by decide +kernel
theorem dX5_isStillWithout_15 : decode cX5_isStillWithout 15 = .ok (.iaload, 1) := by decide +kernel
theorem dX5_isStillWithout_16 : decode cX5_isStillWithout 16 = .ok (.aload_n 0, 1) := by decide +kernel
theorem dX5_isStillWithout_17 : decode cX5_isStillWithout 17 = .ok (.getfield 21, 3) := by decide +kernel
theorem dX5_isStillWithout_20 : decode cX5_isStillWithout 20 = .ok (.iload_n 2, 1) := by decide +kernel
theorem dX5_isStillWithout_21 : decode cX5_isStillWithout 21 = .ok (.iaload, 1) := by decide +kernel
theorem dX5_isStillWithout_22 : decode cX5_isStillWithout 22 = .ok (.if_icmp .le 5, 3) := by decide +kernel
theorem dX5_isStillWithout_25 : decode cX5_isStillWithout 25 = .ok (.iconst 1, 1) := by decide +kernel
theorem dX5_isStillWithout_26 : decode cX5_isStillWithout 26 = .ok (.ireturn, 1) := by decide +kernel
theorem dX5_isStillWithout_27 : decode cX5_isStillWithout 27 = .ok (.aload_n 0, 1) := by decide +kernel
theorem dX5_isStillWithout_28 : decode cX5_isStillWithout 28 = .ok (.getfield 21, 3) := by decide +kernel
theorem dX5_isStillWithout_31 : decode cX5_isStillWithout 31 = .ok (.iload_n 1, 1) := by decide +kernel
theorem dX5_isStillWithout_32 : decode cX5_isStillWithout 32 = .ok (.iaload, 1) := by decide +kernel
theorem dX5_isStillWithout_33 : decode cX5_isStillWithout 33 = .ok (.aload_n 0, 1) := by decide +kernel
theorem dX5_isStillWithout_34 : decode cX5_isStillWithout 34 = .ok (.getfield 21, 3) := by decide +kernel
theorem dX5_isStillWithout_37 : decode cX5_isStillWithout 37 = .ok (.iload_n 2, 1) := by decide +kernel
theorem dX5_isStillWithout_38 : decode cX5_isStillWithout 38 = .ok (.iaload, 1) := by decide +kernel
theorem dX5_isStillWithout_39 : decode cX5_isStillWithout 39 = .ok (.if_icmp .ne 12, 3) := by decide +kernel
theorem dX5_isStillWithout_42 : decode cX5_isStillWithout 42 = .ok (.iload_n 1, 1) := by decide +kernel
theorem dX5_isStillWithout_43 : decode cX5_isStillWithout 43 = .ok (.iload_n 2, 1) := by decide +kernel
theorem dX5_isStillWithout_44 : decode cX5_isStillWithout 44 = .ok (.if_icmp .le 7, 3) := by decide +kernel
theorem dX5_isStillWithout_47 : decode cX5_isStillWithout 47 = .ok (.iconst 1, 1) := by decide +kernel
theorem dX5_isStillWithout_48 : decode cX5_isStillWithout 48 = .ok (.goto 4, 3) := by decide +kernel
theorem dX5_isStillWithout_51 : decode cX5_isStillWithout 51 = .ok (.iconst 0, 1) := by decide +kernel
theorem dX5_isStillWithout_52 : decode cX5_isStillWithout 52 = .ok (.ireturn, 1) := by decide +kernel
