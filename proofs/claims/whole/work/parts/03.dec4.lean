theorem dX7_lives_127 : decode cX7_lives 127 = .ok (.return_, 1) := by decide +kernel
theorem dX7_find_0 : decode cX7_find 0 = .ok (.aload_n 0, 1) := by decide +kernel
theorem dX7_find_1 : decode cX7_find 1 = .ok (.invokevirtual 127, 3) := by decide +kernel
theorem dX7_find_4 : decode cX7_find 4 = .ok (.pop, 1) := by decide +kernel
theorem dX7_find_5 : decode cX7_find 5 = .ok (.aload_n 0, 1) := by decide +kernel
theorem dX7_find_6 : decode cX7_find 6 = .ok (.invokevirtual 131, 3) := by decide +kernel
theorem dX7_find_9 : decode cX7_find 9 = .ok (.pop, 1) := by decide +kernel
theorem dX7_find_10 : decode cX7_find 10 = .ok (.aload_n 0, 1) := by decide +kernel
theorem dX7_find_11 : decode cX7_find 11 = .ok (.invokevirtual 194, 3) := by decide +kernel
theorem dX7_find_14 : decode cX7_find 14 = .ok (.return_, 1) := by decide +kernel
theorem dX7_dueBy_0 : decode cX7_dueBy 0 = .ok (.aload_n 0, 1) := by decide +kernel
theorem dX7_dueBy_1 : decode cX7_dueBy 1 = .ok (.getfield 28, 3) := by decide +kernel
theorem dX7_dueBy_4 : decode cX7_dueBy 4 = .ok (.iconst 2, 1) := by decide +kernel
theorem dX7_dueBy_5 : decode cX7_dueBy 5 = .ok (.iload_n 1, 1) := by decide +kernel
theorem dX7_dueBy_6 : decode cX7_dueBy 6 = .ok (.imul, 1) := by decide +kernel
theorem dX7_dueBy_7 : decode cX7_dueBy 7 = .ok (.iconst 1, 1) := by decide +kernel
theorem dX7_dueBy_8 : decode cX7_dueBy 8 = .ok (.iadd, 1) := by decide +kernel
theorem dX7_dueBy_9 : decode cX7_dueBy 9 = .ok (.iaload, 1) := by decide +kernel
theorem dX7_dueBy_10 : decode cX7_dueBy 10 = .ok (.istore_n 3, 1) := by decide +kernel
theorem dX7_dueBy_11 : decode cX7_dueBy 11 = .ok (.iconst 0, 1) := by decide +kernel
theorem dX7_dueBy_12 : decode cX7_dueBy 12 = .ok (.istore 4, 2) := by decide +kernel
theorem dX7_dueBy_14 : decode cX7_dueBy 14 = .ok (.iload 4, 2) := by decide +kernel
theorem dX7_dueBy_16 : decode cX7_dueBy 16 = .ok (.iload_n 2, 1) := by decide +kernel
theorem dX7_dueBy_17 : decode cX7_dueBy 17 = .ok (.if_icmp .gt 44, 3) := by decide +kernel
theorem dX7_dueBy_20 : decode cX7_dueBy 20 = .ok (.iload 4, 2) := by decide +kernel
theorem dX7_dueBy_22 : decode cX7_dueBy 22 = .ok (.iload_n 3, 1) := by decide +kernel
theorem dX7_dueBy_23 : decode cX7_dueBy 23 = .ok (.if_icmp .ge 38, 3) := by decide +kernel
theorem dX7_dueBy_26 : decode cX7_dueBy 26 = .ok (.iload_n 3, 1) := by decide +kernel
theorem dX7_dueBy_27 : decode cX7_dueBy 27 = .ok (.aload_n 0, 1) := by decide +kernel
theorem dX7_dueBy_28 : decode cX7_dueBy 28 = .ok (.getfield 28, 3) := by decide +kernel
theorem dX7_dueBy_31 : decode cX7_dueBy 31 = .ok (.iconst 2, 1) := by decide +kernel
theorem dX7_dueBy_32 : decode cX7_dueBy 32 = .ok (.iload_n 1, 1) := by decide +kernel
theorem dX7_dueBy_33 : decode cX7_dueBy 33 = .ok (.imul, 1) := by decide +kernel
theorem dX7_dueBy_34 : decode cX7_dueBy 34 = .ok (.iaload, 1) := by decide +kernel
theorem dX7_dueBy_35 : decode cX7_dueBy 35 = .ok (.ifCond .ne 17, 3) := by decide +kernel
theorem dX7_dueBy_38 : decode cX7_dueBy 38 = .ok (.aload_n 0, 1) := by decide +kernel
theorem dX7_dueBy_39 : decode cX7_dueBy 39 = .ok (.iconst 0, 1) := by decide +kernel
theorem dX7_dueBy_40 : decode cX7_dueBy 40 = .ok (.iload 4, 2) := by decide +kernel
theorem dX7_dueBy_42 : decode cX7_dueBy 42 = .ok (.invokevirtual 158, 3) := by decide +kernel
theorem dX7_dueBy_45 : decode cX7_dueBy 45 = .ok (.ifCond .eq 7, 3) := by decide +kernel
theorem dX7_dueBy_48 : decode cX7_dueBy 48 = .ok (.iconst 1, 1) := by decide +kernel
theorem dX7_dueBy_49 : decode cX7_dueBy 49 = .ok (.goto 4, 3) := by decide +kernel
theorem dX7_dueBy_52 : decode cX7_dueBy 52 = .ok (.iconst 0, 1) := by decide +kernel
theorem dX7_dueBy_53 : decode cX7_dueBy 53 = .ok (.iadd, 1) := by decide +kernel
theorem dX7_dueBy_54 : decode cX7_dueBy 54 = .ok (.istore_n 3, 1) := by decide +kernel
theorem dX7_dueBy_55 : decode cX7_dueBy 55 = .ok (.iinc 4 1, 3) := by decide +kernel
theorem dX7_dueBy_58 : decode cX7_dueBy 58 = .ok (.goto (-44), 3) := by decide +kernel
theorem dX7_dueBy_61 : decode cX7_dueBy 61 = .ok (.iload_n 3, 1) := by decide +kernel
theorem dX7_dueBy_62 : decode cX7_dueBy 62 = .ok (.ireturn, 1) := by decide +kernel
theorem dX7_stateOf_0 : decode cX7_stateOf 0 = .ok (.aload_n 0, 1) := by decide +kernel
theorem dX7_stateOf_1 : decode cX7_stateOf 1 = .ok (.getfield 52, 3) := by decide +kernel
theorem dX7_stateOf_4 : decode cX7_stateOf 4 = .ok (.iload_n 2, 1) := by decide +kernel
theorem dX7_stateOf_5 : decode cX7_stateOf 5 = .ok (.iaload, 1) := by decide +kernel
theorem dX7_stateOf_6 : decode cX7_stateOf 6 = .ok (.iconst (-1), 1) := by decide +kernel
theorem dX7_stateOf_7 : decode cX7_stateOf 7 = .ok (.if_icmp .eq 15, 3) := by decide +kernel
theorem dX7_stateOf_10 : decode cX7_stateOf 10 = .ok (.aload_n 0, 1) := by decide +kernel
theorem dX7_stateOf_11 : decode cX7_stateOf 11 = .ok (.getfield 52, 3) := by decide +kernel
theorem dX7_stateOf_14 : decode cX7_stateOf 14 = .ok (.iload_n 2, 1) := by decide +kernel
theorem dX7_stateOf_15 : decode cX7_stateOf 15 = .ok (.iaload, 1) := by decide +kernel
theorem dX7_stateOf_16 : decode cX7_stateOf 16 = .ok (.iload_n 1, 1) := by decide +kernel
theorem dX7_stateOf_17 : decode cX7_stateOf 17 = .ok (.if_icmp .gt 5, 3) := by decide +kernel
theorem dX7_stateOf_20 : decode cX7_stateOf 20 = .ok (.iconst 2, 1) := by decide +kernel
theorem dX7_stateOf_21 : decode cX7_stateOf 21 = .ok (.ireturn, 1) := by decide +kernel
theorem dX7_stateOf_22 : decode cX7_stateOf 22 = .ok (.aload_n 0, 1) := by decide +kernel
theorem dX7_stateOf_23 : decode cX7_stateOf 23 = .ok (.getfield 46, 3) := by decide +kernel
theorem dX7_stateOf_26 : decode cX7_stateOf 26 = .ok (.iload_n 2, 1) := by decide +kernel
theorem dX7_stateOf_27 : decode cX7_stateOf 27 = .ok (.iaload, 1) := by decide +kernel
theorem dX7_stateOf_28 : decode cX7_stateOf 28 = .ok (.iconst (-1), 1) := by decide +kernel
theorem dX7_stateOf_29 : decode cX7_stateOf 29 = .ok (.if_icmp .eq 40, 3) := by decide +kernel
theorem dX7_stateOf_32 : decode cX7_stateOf 32 = .ok (.aload_n 0, 1) := by decide +kernel
theorem dX7_stateOf_33 : decode cX7_stateOf 33 = .ok (.getfield 46, 3) := by decide +kernel
theorem dX7_stateOf_36 : decode cX7_stateOf 36 = .ok (.iload_n 2, 1) := by decide +kernel
theorem dX7_stateOf_37 : decode cX7_stateOf 37 = .ok (.iaload, 1) := by decide +kernel
theorem dX7_stateOf_38 : decode cX7_stateOf 38 = .ok (.iload_n 1, 1) := by decide +kernel
theorem dX7_stateOf_39 : decode cX7_stateOf 39 = .ok (.if_icmp .gt 30, 3) := by decide +kernel
theorem dX7_stateOf_42 : decode cX7_stateOf 42 = .ok (.aload_n 0, 1) := by decide +kernel
theorem dX7_stateOf_43 : decode cX7_stateOf 43 = .ok (.getfield 52, 3) := by decide +kernel
theorem dX7_stateOf_46 : decode cX7_stateOf 46 = .ok (.iload_n 2, 1) := by decide +kernel
theorem dX7_stateOf_47 : decode cX7_stateOf 47 = .ok (.iaload, 1) := by decide +kernel
theorem dX7_stateOf_48 : decode cX7_stateOf 48 = .ok (.iconst (-1), 1) := by decide +kernel
theorem dX7_stateOf_49 : decode cX7_stateOf 49 = .ok (.if_icmp .eq 18, 3) := by decide +kernel
theorem dX7_stateOf_52 : decode cX7_stateOf 52 = .ok (.aload_n 0, 1) := by decide +kernel
theorem dX7_stateOf_53 : decode cX7_stateOf 53 = .ok (.getfield 46, 3) := by decide +kernel
theorem dX7_stateOf_56 : decode cX7_stateOf 56 = .ok (.iload_n 2, 1) := by decide +kernel
theorem dX7_stateOf_57 : decode cX7_stateOf 57 = .ok (.iaload, 1) := by decide +kernel
theorem dX7_stateOf_58 : decode cX7_stateOf 58 = .ok (.aload_n 0, 1) := by decide +kernel
theorem dX7_stateOf_59 : decode cX7_stateOf 59 = .ok (.getfield 52, 3) := by decide +kernel
theorem dX7_stateOf_62 : decode cX7_stateOf 62 = .ok (.iload_n 2, 1) := by decide +kernel
theorem dX7_stateOf_63 : decode cX7_stateOf 63 = .ok (.iaload, 1) := by decide +kernel
theorem dX7_stateOf_64 : decode cX7_stateOf 64 = .ok (.if_icmp .ge 5, 3) := by decide +kernel
theorem dX7_stateOf_67 : decode cX7_stateOf 67 = .ok (.iconst 3, 1) := by decide +kernel
theorem dX7_stateOf_68 : decode cX7_stateOf 68 = .ok (.ireturn, 1) := by decide +kernel
theorem dX7_stateOf_69 : decode cX7_stateOf 69 = .ok (.aload_n 0, 1) := by decide +kernel
theorem dX7_stateOf_70 : decode cX7_stateOf 70 = .ok (.iload_n 2, 1) := by decide +kernel
theorem dX7_stateOf_71 : decode cX7_stateOf 71 = .ok (.iload_n 1, 1) := by decide +kernel
theorem dX7_stateOf_72 : decode cX7_stateOf 72 = .ok (.invokevirtual 197, 3) := by decide +kernel
theorem dX7_stateOf_75 : decode cX7_stateOf 75 = .ok (.istore_n 3, 1) := by decide +kernel
theorem dX7_stateOf_76 : decode cX7_stateOf 76 = .ok (.iload_n 1, 1) := by decide +kernel
theorem dX7_stateOf_77 : decode cX7_stateOf 77 = .ok (.iload_n 3, 1) := by decide +kernel
theorem dX7_stateOf_78 : decode cX7_stateOf 78 = .ok (.if_icmp .ge 7, 3) := by decide +kernel
theorem dX7_stateOf_81 : decode cX7_stateOf 81 = .ok (.iconst 0, 1) := by decide +kernel
theorem dX7_stateOf_82 : decode cX7_stateOf 82 = .ok (.goto 25, 3) := by decide +kernel
theorem dX7_stateOf_85 : decode cX7_stateOf 85 = .ok (.iload_n 1, 1) := by decide +kernel
theorem dX7_stateOf_86 : decode cX7_stateOf 86 = .ok (.iload_n 3, 1) := by decide +kernel
theorem dX7_stateOf_87 : decode cX7_stateOf 87 = .ok (.aload_n 0, 1) := by decide +kernel
theorem dX7_stateOf_88 : decode cX7_stateOf 88 = .ok (.getfield 28, 3) := by decide +kernel
theorem dX7_stateOf_91 : decode cX7_stateOf 91 = .ok (.iconst 2, 1) := by decide +kernel
theorem dX7_stateOf_92 : decode cX7_stateOf 92 = .ok (.iload_n 2, 1) := by decide +kernel
theorem dX7_stateOf_93 : decode cX7_stateOf 93 = .ok (.imul, 1) := by decide +kernel
theorem dX7_stateOf_94 : decode cX7_stateOf 94 = .ok (.iaload, 1) := by decide +kernel
theorem dX7_stateOf_95 : decode cX7_stateOf 95 = .ok (.invokestatic 164, 3) := by decide +kernel
theorem dX7_stateOf_98 : decode cX7_stateOf 98 = .ok (.iadd, 1) := by decide +kernel
theorem dX7_stateOf_99 : decode cX7_stateOf 99 = .ok (.if_icmp .ge 7, 3) := by decide +kernel
theorem dX7_stateOf_102 : decode cX7_stateOf 102 = .ok (.iconst 1, 1) := by decide +kernel
theorem dX7_stateOf_103 : decode cX7_stateOf 103 = .ok (.goto 4, 3) := by decide +kernel
theorem dX7_stateOf_106 : decode cX7_stateOf 106 = .ok (.iconst 4, 1) := by decide +kernel
theorem dX7_stateOf_107 : decode cX7_stateOf 107 = .ok (.ireturn, 1) := by decide +kernel
theorem dX7_state_0 : decode cX7_state 0 = .ok (.aload_n 0, 1) := by decide +kernel
theorem dX7_state_1 : decode cX7_state 1 = .ok (.invokevirtual 200, 3) := by decide +kernel
theorem dX7_state_4 : decode cX7_state 4 = .ok (.iload_n 1, 1) := by decide +kernel
theorem dX7_state_5 : decode cX7_state 5 = .ok (.invokestatic 144, 3) := by decide +kernel
theorem dX7_state_8 : decode cX7_state 8 = .ok (.ifCond .eq 20, 3) := by decide +kernel
theorem dX7_state_11 : decode cX7_state 11 = .ok (.aload_n 0, 1) := by decide +kernel
theorem dX7_state_12 : decode cX7_state 12 = .ok (.iload_n 2, 1) := by decide +kernel
theorem dX7_state_13 : decode cX7_state 13 = .ok (.invokevirtual 136, 3) := by decide +kernel
theorem dX7_state_16 : decode cX7_state 16 = .ok (.ifCond .eq 12, 3) := by decide +kernel
theorem dX7_state_19 : decode cX7_state 19 = .ok (.aload_n 0, 1) := by decide +kernel
theorem dX7_state_20 : decode cX7_state 20 = .ok (.iload_n 1, 1) := by decide +kernel
theorem dX7_state_21 : decode cX7_state 21 = .ok (.iload_n 2, 1) := by decide +kernel
theorem dX7_state_22 : decode cX7_state 22 = .ok (.invokevirtual 203, 3) := by decide +kernel
theorem dX7_state_25 : decode cX7_state 25 = .ok (.goto 5, 3) := by decide +kernel
theorem dX7_state_28 : decode cX7_state 28 = .ok (.bipush (-2), 2) := by decide +kernel
theorem dX7_state_30 : decode cX7_state 30 = .ok (.ireturn, 1) := by decide +kernel
theorem dX7_liftedBy_0 : decode cX7_liftedBy 0 = .ok (.iload_n 2, 1) := by decide +kernel
theorem dX7_liftedBy_1 : decode cX7_liftedBy 1 = .ok (.ifCond .ne 12, 3) := by decide +kernel
theorem dX7_liftedBy_4 : decode cX7_liftedBy 4 = .ok (.aload_n 0, 1) := by decide +kernel
theorem dX7_liftedBy_5 : decode cX7_liftedBy 5 = .ok (.getfield 43, 3) := by decide +kernel
theorem dX7_liftedBy_8 : decode cX7_liftedBy 8 = .ok (.iload_n 1, 1) := by decide +kernel
theorem dX7_liftedBy_9 : decode cX7_liftedBy 9 = .ok (.iaload, 1) := by decide +kernel
theorem dX7_liftedBy_10 : decode cX7_liftedBy 10 = .ok (.goto 23, 3) := by decide +kernel
theorem dX7_liftedBy_13 : decode cX7_liftedBy 13 = .ok (.iload_n 2, 1) := by decide +kernel
theorem dX7_liftedBy_14 : decode cX7_liftedBy 14 = .ok (.iconst 1, 1) := by decide +kernel
theorem dX7_liftedBy_15 : decode cX7_liftedBy 15 = .ok (.if_icmp .ne 12, 3) := by decide +kernel
theorem dX7_liftedBy_18 : decode cX7_liftedBy 18 = .ok (.aload_n 0, 1) := by decide +kernel
theorem dX7_liftedBy_19 : decode cX7_liftedBy 19 = .ok (.getfield 49, 3) := by decide +kernel
theorem dX7_liftedBy_22 : decode cX7_liftedBy 22 = .ok (.iload_n 1, 1) := by decide +kernel
theorem dX7_liftedBy_23 : decode cX7_liftedBy 23 = .ok (.iaload, 1) := by decide +kernel
theorem dX7_liftedBy_24 : decode cX7_liftedBy 24 = .ok (.goto 9, 3) := by decide +kernel
theorem dX7_liftedBy_27 : decode cX7_liftedBy 27 = .ok (.aload_n 0, 1) := by decide +kernel
theorem dX7_liftedBy_28 : decode cX7_liftedBy 28 = .ok (.getfield 52, 3) := by decide +kernel
theorem dX7_liftedBy_31 : decode cX7_liftedBy 31 = .ok (.iload_n 1, 1) := by decide +kernel
theorem dX7_liftedBy_32 : decode cX7_liftedBy 32 = .ok (.iaload, 1) := by decide +kernel
theorem dX7_liftedBy_33 : decode cX7_liftedBy 33 = .ok (.ireturn, 1) := by decide +kernel
theorem dX7_lifted_0 : decode cX7_lifted 0 = .ok (.aload_n 0, 1) := by decide +kernel
theorem dX7_lifted_1 : decode cX7_lifted 1 = .ok (.invokevirtual 200, 3) := by decide +kernel
theorem dX7_lifted_4 : decode cX7_lifted 4 = .ok (.aload_n 0, 1) := by decide +kernel
theorem dX7_lifted_5 : decode cX7_lifted 5 = .ok (.iload_n 1, 1) := by decide +kernel
theorem dX7_lifted_6 : decode cX7_lifted 6 = .ok (.invokevirtual 136, 3) := by decide +kernel
theorem dX7_lifted_9 : decode cX7_lifted 9 = .ok (.ifCond .eq 24, 3) := by decide +kernel
theorem dX7_lifted_12 : decode cX7_lifted 12 = .ok (.iload_n 2, 1) := by decide +kernel
theorem dX7_lifted_13 : decode cX7_lifted 13 = .ok (.i2l, 1) := by decide +kernel
theorem dX7_lifted_14 : decode cX7_lifted 14 = .ok (.lconst 0, 1) := by decide +kernel
theorem dX7_lifted_15 : decode cX7_lifted 15 = .ok (.ldc2_w 92, 3) := by decide +kernel
theorem dX7_lifted_18 : decode cX7_lifted 18 = .ok (.invokestatic 79, 3) := by decide +kernel
theorem dX7_lifted_21 : decode cX7_lifted 21 = .ok (.ifCond .eq 12, 3) := by decide +kernel
theorem dX7_lifted_24 : decode cX7_lifted 24 = .ok (.aload_n 0, 1) := by decide +kernel
theorem dX7_lifted_25 : decode cX7_lifted 25 = .ok (.iload_n 1, 1) := by decide +kernel
theorem dX7_lifted_26 : decode cX7_lifted 26 = .ok (.iload_n 2, 1) := by decide +kernel
theorem dX7_lifted_27 : decode cX7_lifted 27 = .ok (.invokevirtual 206, 3) := by decide +kernel
theorem dX7_lifted_30 : decode cX7_lifted 30 = .ok (.goto 5, 3) := by decide +kernel
theorem dX7_lifted_33 : decode cX7_lifted 33 = .ok (.bipush (-2), 2) := by decide +kernel
theorem dX7_lifted_35 : decode cX7_lifted 35 = .ok (.ireturn, 1) := by decide +kernel
theorem dX7_getsBy_0 : decode cX7_getsBy 0 = .ok (.iload_n 2, 1) := by decide +kernel
theorem dX7_getsBy_1 : decode cX7_getsBy 1 = .ok (.ifCond .ne 12, 3) := by decide +kernel
theorem dX7_getsBy_4 : decode cX7_getsBy 4 = .ok (.aload_n 0, 1) := by decide +kernel
theorem dX7_getsBy_5 : decode cX7_getsBy 5 = .ok (.getfield 55, 3) := by decide +kernel
theorem dX7_getsBy_8 : decode cX7_getsBy 8 = .ok (.iload_n 1, 1) := by decide +kernel
theorem dX7_getsBy_9 : decode cX7_getsBy 9 = .ok (.iaload, 1) := by decide +kernel
theorem dX7_getsBy_10 : decode cX7_getsBy 10 = .ok (.goto 23, 3) := by decide +kernel
theorem dX7_getsBy_13 : decode cX7_getsBy 13 = .ok (.iload_n 2, 1) := by decide +kernel
theorem dX7_getsBy_14 : decode cX7_getsBy 14 = .ok (.iconst 1, 1) := by decide +kernel
theorem dX7_getsBy_15 : decode cX7_getsBy 15 = .ok (.if_icmp .ne 12, 3) := by decide +kernel
theorem dX7_getsBy_18 : decode cX7_getsBy 18 = .ok (.aload_n 0, 1) := by decide +kernel
theorem dX7_getsBy_19 : decode cX7_getsBy 19 = .ok (.getfield 58, 3) := by decide +kernel
theorem dX7_getsBy_22 : decode cX7_getsBy 22 = .ok (.iload_n 1, 1) := by decide +kernel
theorem dX7_getsBy_23 : decode cX7_getsBy 23 = .ok (.iaload, 1) := by decide +kernel
theorem dX7_getsBy_24 : decode cX7_getsBy 24 = .ok (.goto 9, 3) := by decide +kernel
theorem dX7_getsBy_27 : decode cX7_getsBy 27 = .ok (.aload_n 0, 1) := by decide +kernel
theorem dX7_getsBy_28 : decode cX7_getsBy 28 = .ok (.getfield 61, 3) := by decide +kernel
theorem dX7_getsBy_31 : decode cX7_getsBy 31 = .ok (.iload_n 1, 1) := by decide +kernel
theorem dX7_getsBy_32 : decode cX7_getsBy 32 = .ok (.iaload, 1) := by decide +kernel
theorem dX7_getsBy_33 : decode cX7_getsBy 33 = .ok (.ireturn, 1) := by decide +kernel
theorem dX7_gets_0 : decode cX7_gets 0 = .ok (.aload_n 0, 1) := by decide +kernel
theorem dX7_gets_1 : decode cX7_gets 1 = .ok (.invokevirtual 200, 3) := by decide +kernel
theorem dX7_gets_4 : decode cX7_gets 4 = .ok (.aload_n 0, 1) := by decide +kernel
theorem dX7_gets_5 : decode cX7_gets 5 = .ok (.iload_n 1, 1) := by decide +kernel
theorem dX7_gets_6 : decode cX7_gets 6 = .ok (.invokevirtual 139, 3) := by decide +kernel
theorem dX7_gets_9 : decode cX7_gets 9 = .ok (.ifCond .eq 24, 3) := by decide +kernel
theorem dX7_gets_12 : decode cX7_gets 12 = .ok (.iload_n 2, 1) := by decide +kernel
theorem dX7_gets_13 : decode cX7_gets 13 = .ok (.i2l, 1) := by decide +kernel
theorem dX7_gets_14 : decode cX7_gets 14 = .ok (.lconst 0, 1) := by decide +kernel
theorem dX7_gets_15 : decode cX7_gets 15 = .ok (.ldc2_w 92, 3) := by decide +kernel
theorem dX7_gets_18 : decode cX7_gets 18 = .ok (.invokestatic 79, 3) := by decide +kernel
theorem dX7_gets_21 : decode cX7_gets 21 = .ok (.ifCond .eq 12, 3) := by decide +kernel
theorem dX7_gets_24 : decode cX7_gets 24 = .ok (.aload_n 0, 1) := by decide +kernel
theorem dX7_gets_25 : decode cX7_gets 25 = .ok (.iload_n 1, 1) := by decide +kernel
theorem dX7_gets_26 : decode cX7_gets 26 = .ok (.iload_n 2, 1) := by decide +kernel
theorem dX7_gets_27 : decode cX7_gets 27 = .ok (.invokevirtual 209, 3) := by decide +kernel
theorem dX7_gets_30 : decode cX7_gets 30 = .ok (.goto 5, 3) := by decide +kernel
theorem dX7_gets_33 : decode cX7_gets 33 = .ok (.bipush (-2), 2) := by decide +kernel
theorem dX7_gets_35 : decode cX7_gets 35 = .ok (.ireturn, 1) := by decide +kernel
theorem dX7_childrenBy_0 : decode cX7_childrenBy 0 = .ok (.iconst 0, 1) := by decide +kernel
theorem dX7_childrenBy_1 : decode cX7_childrenBy 1 = .ok (.istore_n 2, 1) := by decide +kernel
theorem dX7_childrenBy_2 : decode cX7_childrenBy 2 = .ok (.iconst 0, 1) := by decide +kernel
theorem dX7_childrenBy_3 : decode cX7_childrenBy 3 = .ok (.istore_n 3, 1) := by decide +kernel
theorem dX7_childrenBy_4 : decode cX7_childrenBy 4 = .ok (.iload_n 3, 1) := by decide +kernel
theorem dX7_childrenBy_5 : decode cX7_childrenBy 5 = .ok (.aload_n 0, 1) := by decide +kernel
theorem dX7_childrenBy_6 : decode cX7_childrenBy 6 = .ok (.getfield 124, 3) := by decide +kernel
theorem dX7_childrenBy_9 : decode cX7_childrenBy 9 = .ok (.if_icmp .ge 32, 3) := by decide +kernel
theorem dX7_childrenBy_12 : decode cX7_childrenBy 12 = .ok (.iload_n 2, 1) := by decide +kernel
theorem dX7_childrenBy_13 : decode cX7_childrenBy 13 = .ok (.aload_n 0, 1) := by decide +kernel
theorem dX7_childrenBy_14 : decode cX7_childrenBy 14 = .ok (.getfield 58, 3) := by decide +kernel
theorem dX7_childrenBy_17 : decode cX7_childrenBy 17 = .ok (.iload_n 3, 1) := by decide +kernel
theorem dX7_childrenBy_18 : decode cX7_childrenBy 18 = .ok (.iaload, 1) := by decide +kernel
theorem dX7_childrenBy_19 : decode cX7_childrenBy 19 = .ok (.iload_n 1, 1) := by decide +kernel
theorem dX7_childrenBy_20 : decode cX7_childrenBy 20 = .ok (.if_icmp .gt 12, 3) := by decide +kernel
theorem dX7_childrenBy_23 : decode cX7_childrenBy 23 = .ok (.aload_n 0, 1) := by decide +kernel
theorem dX7_childrenBy_24 : decode cX7_childrenBy 24 = .ok (.getfield 61, 3) := by decide +kernel
theorem dX7_childrenBy_27 : decode cX7_childrenBy 27 = .ok (.iload_n 3, 1) := by decide +kernel
theorem dX7_childrenBy_28 : decode cX7_childrenBy 28 = .ok (.iaload, 1) := by decide +kernel
theorem dX7_childrenBy_29 : decode cX7_childrenBy 29 = .ok (.goto 4, 3) := by decide +kernel
theorem dX7_childrenBy_32 : decode cX7_childrenBy 32 = .ok (.iconst 0, 1) := by decide +kernel
theorem dX7_childrenBy_33 : decode cX7_childrenBy 33 = .ok (.iadd, 1) := by decide +kernel
theorem dX7_childrenBy_34 : decode cX7_childrenBy 34 = .ok (.istore_n 2, 1) := by decide +kernel
theorem dX7_childrenBy_35 : decode cX7_childrenBy 35 = .ok (.iinc 3 1, 3) := by decide +kernel
theorem dX7_childrenBy_38 : decode cX7_childrenBy 38 = .ok (.goto (-34), 3) := by decide +kernel
theorem dX7_childrenBy_41 : decode cX7_childrenBy 41 = .ok (.iload_n 2, 1) := by decide +kernel
theorem dX7_childrenBy_42 : decode cX7_childrenBy 42 = .ok (.ireturn, 1) := by decide +kernel
theorem dX7_children_0 : decode cX7_children 0 = .ok (.aload_n 0, 1) := by decide +kernel
theorem dX7_children_1 : decode cX7_children 1 = .ok (.invokevirtual 200, 3) := by decide +kernel
theorem dX7_children_4 : decode cX7_children 4 = .ok (.iload_n 1, 1) := by decide +kernel
theorem dX7_children_5 : decode cX7_children 5 = .ok (.invokestatic 144, 3) := by decide +kernel
theorem dX7_children_8 : decode cX7_children 8 = .ok (.ifCond .eq 11, 3) := by decide +kernel
theorem dX7_children_11 : decode cX7_children 11 = .ok (.aload_n 0, 1) := by decide +kernel
theorem dX7_children_12 : decode cX7_children 12 = .ok (.iload_n 1, 1) := by decide +kernel
theorem dX7_children_13 : decode cX7_children 13 = .ok (.invokevirtual 212, 3) := by decide +kernel
theorem dX7_children_16 : decode cX7_children 16 = .ok (.goto 5, 3) := by decide +kernel
theorem dX7_children_19 : decode cX7_children 19 = .ok (.bipush (-2), 2) := by decide +kernel
theorem dX7_children_21 : decode cX7_children 21 = .ok (.ireturn, 1) := by decide +kernel
theorem dX7_withoutNow_0 : decode cX7_withoutNow 0 = .ok (.iconst 0, 1) := by decide +kernel
theorem dX7_withoutNow_1 : decode cX7_withoutNow 1 = .ok (.istore_n 1, 1) := by decide +kernel
theorem dX7_withoutNow_2 : decode cX7_withoutNow 2 = .ok (.iconst 0, 1) := by decide +kernel
theorem dX7_withoutNow_3 : decode cX7_withoutNow 3 = .ok (.istore_n 2, 1) := by decide +kernel
theorem dX7_withoutNow_4 : decode cX7_withoutNow 4 = .ok (.iload_n 2, 1) := by decide +kernel
theorem dX7_withoutNow_5 : decode cX7_withoutNow 5 = .ok (.aload_n 0, 1) := by decide +kernel
theorem dX7_withoutNow_6 : decode cX7_withoutNow 6 = .ok (.getfield 124, 3) := by decide +kernel
theorem dX7_withoutNow_9 : decode cX7_withoutNow 9 = .ok (.if_icmp .ge 29, 3) := by decide +kernel
theorem dX7_withoutNow_12 : decode cX7_withoutNow 12 = .ok (.iload_n 1, 1) := by decide +kernel
theorem dX7_withoutNow_13 : decode cX7_withoutNow 13 = .ok (.aload_n 0, 1) := by decide +kernel
theorem dX7_withoutNow_14 : decode cX7_withoutNow 14 = .ok (.getfield 55, 3) := by decide +kernel
theorem dX7_withoutNow_17 : decode cX7_withoutNow 17 = .ok (.iload_n 2, 1) := by decide +kernel
theorem dX7_withoutNow_18 : decode cX7_withoutNow 18 = .ok (.iaload, 1) := by decide +kernel
theorem dX7_withoutNow_19 : decode cX7_withoutNow 19 = .ok (.iconst (-1), 1) := by decide +kernel
theorem dX7_withoutNow_20 : decode cX7_withoutNow 20 = .ok (.if_icmp .ne 9, 3) := by decide +kernel
theorem dX7_withoutNow_23 : decode cX7_withoutNow 23 = .ok (.iconst 1, 1) := by decide +kernel
theorem dX7_withoutNow_24 : decode cX7_withoutNow 24 = .ok (.iload_n 2, 1) := by decide +kernel
theorem dX7_withoutNow_25 : decode cX7_withoutNow 25 = .ok (.ishl, 1) := by decide +kernel
theorem dX7_withoutNow_26 : decode cX7_withoutNow 26 = .ok (.goto 4, 3) := by decide +kernel
theorem dX7_withoutNow_29 : decode cX7_withoutNow 29 = .ok (.iconst 0, 1) := by decide +kernel
theorem dX7_withoutNow_30 : decode cX7_withoutNow 30 = .ok (.ior, 1) := by decide +kernel
theorem dX7_withoutNow_31 : decode cX7_withoutNow 31 = .ok (.istore_n 1, 1) := by decide +kernel
theorem dX7_withoutNow_32 : decode cX7_withoutNow 32 = .ok (.iinc 2 1, 3) := by decide +kernel
theorem dX7_withoutNow_35 : decode cX7_withoutNow 35 = .ok (.goto (-31), 3) := by decide +kernel
theorem dX7_withoutNow_38 : decode cX7_withoutNow 38 = .ok (.iload_n 1, 1) := by decide +kernel
theorem dX7_withoutNow_39 : decode cX7_withoutNow 39 = .ok (.ireturn, 1) := by decide +kernel
theorem dX7_without_0 : decode cX7_without 0 = .ok (.aload_n 0, 1) := by decide +kernel
theorem dX7_without_1 : decode cX7_without 1 = .ok (.invokevirtual 200, 3) := by decide +kernel
theorem dX7_without_4 : decode cX7_without 4 = .ok (.aload_n 0, 1) := by decide +kernel
theorem dX7_without_5 : decode cX7_without 5 = .ok (.invokevirtual 215, 3) := by decide +kernel
theorem dX7_without_8 : decode cX7_without 8 = .ok (.ireturn, 1) := by decide +kernel
theorem dX7_turn_0 : decode cX7_turn 0 = .ok (.aload_n 0, 1) := by decide +kernel
theorem dX7_turn_1 : decode cX7_turn 1 = .ok (.invokevirtual 200, 3) := by decide +kernel
theorem dX7_turn_4 : decode cX7_turn 4 = .ok (.iload_n 1, 1) := by decide +kernel
theorem dX7_turn_5 : decode cX7_turn 5 = .ok (.invokestatic 107, 3) := by decide +kernel
theorem dX7_turn_8 : decode cX7_turn 8 = .ok (.ifCond .ne 8, 3) := by decide +kernel
theorem dX7_turn_11 : decode cX7_turn 11 = .ok (.bipush (-2), 2) := by decide +kernel
theorem dX7_turn_13 : decode cX7_turn 13 = .ok (.goto 18, 3) := by decide +kernel
theorem dX7_turn_16 : decode cX7_turn 16 = .ok (.iload_n 1, 1) := by decide +kernel
theorem dX7_turn_17 : decode cX7_turn 17 = .ok (.ifCond .ne 10, 3) := by decide +kernel
theorem dX7_turn_20 : decode cX7_turn 20 = .ok (.aload_n 0, 1) := by decide +kernel
theorem dX7_turn_21 : decode cX7_turn 21 = .ok (.getfield 167, 3) := by decide +kernel
theorem dX7_turn_24 : decode cX7_turn 24 = .ok (.goto 7, 3) := by decide +kernel
theorem dX7_turn_27 : decode cX7_turn 27 = .ok (.aload_n 0, 1) := by decide +kernel
theorem dX7_turn_28 : decode cX7_turn 28 = .ok (.getfield 176, 3) := by decide +kernel
theorem dX7_turn_31 : decode cX7_turn 31 = .ok (.ireturn, 1) := by decide +kernel
theorem dX7_mightMeet_0 : decode cX7_mightMeet 0 = .ok (.iconst 0, 1) := by decide +kernel
theorem dX7_mightMeet_1 : decode cX7_mightMeet 1 = .ok (.istore_n 3, 1) := by decide +kernel
theorem dX7_mightMeet_2 : decode cX7_mightMeet 2 = .ok (.iconst 0, 1) := by decide +kernel
theorem dX7_mightMeet_3 : decode cX7_mightMeet 3 = .ok (.istore 4, 2) := by decide +kernel
theorem dX7_mightMeet_5 : decode cX7_mightMeet 5 = .ok (.iload 4, 2) := by decide +kernel
theorem dX7_mightMeet_7 : decode cX7_mightMeet 7 = .ok (.bipush 40, 2) := by decide +kernel
theorem dX7_mightMeet_9 : decode cX7_mightMeet 9 = .ok (.if_icmp .ge 48, 3) := by decide +kernel
theorem dX7_mightMeet_12 : decode cX7_mightMeet 12 = .ok (.aload_n 0, 1) := by decide +kernel
theorem dX7_mightMeet_13 : decode cX7_mightMeet 13 = .ok (.iload_n 1, 1) := by decide +kernel
theorem dX7_mightMeet_14 : decode cX7_mightMeet 14 = .ok (.iload_n 2, 1) := by decide +kernel
theorem dX7_mightMeet_15 : decode cX7_mightMeet 15 = .ok (.invokevirtual 170, 3) := by decide +kernel
theorem dX7_mightMeet_18 : decode cX7_mightMeet 18 = .ok (.ifCond .eq 39, 3) := by decide +kernel
theorem dX7_mightMeet_21 : decode cX7_mightMeet 21 = .ok (.iload_n 3, 1) := by decide +kernel
theorem dX7_mightMeet_22 : decode cX7_mightMeet 22 = .ok (.ifCond .ne 23, 3) := by decide +kernel
theorem dX7_mightMeet_25 : decode cX7_mightMeet 25 = .ok (.aload_n 0, 1) := by decide +kernel
theorem dX7_mightMeet_26 : decode cX7_mightMeet 26 = .ok (.iload_n 1, 1) := by decide +kernel
theorem dX7_mightMeet_27 : decode cX7_mightMeet 27 = .ok (.iload 4, 2) := by decide +kernel
theorem dX7_mightMeet_29 : decode cX7_mightMeet 29 = .ok (.invokevirtual 173, 3) := by decide +kernel
theorem dX7_mightMeet_32 : decode cX7_mightMeet 32 = .ok (.ifCond .eq 17, 3) := by decide +kernel
theorem dX7_mightMeet_35 : decode cX7_mightMeet 35 = .ok (.aload_n 0, 1) := by decide +kernel
theorem dX7_mightMeet_36 : decode cX7_mightMeet 36 = .ok (.iload_n 2, 1) := by decide +kernel
theorem dX7_mightMeet_37 : decode cX7_mightMeet 37 = .ok (.iload 4, 2) := by decide +kernel
theorem dX7_mightMeet_39 : decode cX7_mightMeet 39 = .ok (.invokevirtual 179, 3) := by decide +kernel
theorem dX7_mightMeet_42 : decode cX7_mightMeet 42 = .ok (.ifCond .eq 7, 3) := by decide +kernel
theorem dX7_mightMeet_45 : decode cX7_mightMeet 45 = .ok (.iconst 1, 1) := by decide +kernel
theorem dX7_mightMeet_46 : decode cX7_mightMeet 46 = .ok (.goto 4, 3) := by decide +kernel
theorem dX7_mightMeet_49 : decode cX7_mightMeet 49 = .ok (.iconst 0, 1) := by decide +kernel
theorem dX7_mightMeet_50 : decode cX7_mightMeet 50 = .ok (.istore_n 3, 1) := by decide +kernel
theorem dX7_mightMeet_51 : decode cX7_mightMeet 51 = .ok (.iinc 4 1, 3) := by decide +kernel
theorem dX7_mightMeet_54 : decode cX7_mightMeet 54 = .ok (.goto (-49), 3) := by decide +kernel
theorem dX7_mightMeet_57 : decode cX7_mightMeet 57 = .ok (.iload_n 3, 1) := by decide +kernel
theorem dX7_mightMeet_58 : decode cX7_mightMeet 58 = .ok (.ireturn, 1) := by decide +kernel
theorem dX7_metNow_0 : decode cX7_metNow 0 = .ok (.iconst 1, 1) := by decide +kernel
theorem dX7_metNow_1 : decode cX7_metNow 1 = .ok (.aload_n 0, 1) := by decide +kernel
theorem dX7_metNow_2 : decode cX7_metNow 2 = .ok (.getfield 118, 3) := by decide +kernel
theorem dX7_metNow_5 : decode cX7_metNow 5 = .ok (.ishl, 1) := by decide +kernel
theorem dX7_metNow_6 : decode cX7_metNow 6 = .ok (.istore_n 1, 1) := by decide +kernel
theorem dX7_metNow_7 : decode cX7_metNow 7 = .ok (.iconst 0, 1) := by decide +kernel
theorem dX7_metNow_8 : decode cX7_metNow 8 = .ok (.istore_n 2, 1) := by decide +kernel
theorem dX7_metNow_9 : decode cX7_metNow 9 = .ok (.iload_n 2, 1) := by decide +kernel
theorem dX7_metNow_10 : decode cX7_metNow 10 = .ok (.iload_n 1, 1) := by decide +kernel
theorem dX7_metNow_11 : decode cX7_metNow 11 = .ok (.if_icmp .ge 16, 3) := by decide +kernel
theorem dX7_metNow_14 : decode cX7_metNow 14 = .ok (.aload_n 0, 1) := by decide +kernel
theorem dX7_metNow_15 : decode cX7_metNow 15 = .ok (.getfield 64, 3) := by decide +kernel
theorem dX7_metNow_18 : decode cX7_metNow 18 = .ok (.iload_n 2, 1) := by decide +kernel
theorem dX7_metNow_19 : decode cX7_metNow 19 = .ok (.iconst 0, 1) := by decide +kernel
theorem dX7_metNow_20 : decode cX7_metNow 20 = .ok (.iastore, 1) := by decide +kernel
theorem dX7_metNow_21 : decode cX7_metNow 21 = .ok (.iinc 2 1, 3) := by decide +kernel
theorem dX7_metNow_24 : decode cX7_metNow 24 = .ok (.goto (-15), 3) := by decide +kernel
theorem dX7_metNow_27 : decode cX7_metNow 27 = .ok (.iconst 0, 1) := by decide +kernel
theorem dX7_metNow_28 : decode cX7_metNow 28 = .ok (.istore_n 2, 1) := by decide +kernel
theorem dX7_metNow_29 : decode cX7_metNow 29 = .ok (.iload_n 2, 1) := by decide +kernel
theorem dX7_metNow_30 : decode cX7_metNow 30 = .ok (.aload_n 0, 1) := by decide +kernel
theorem dX7_metNow_31 : decode cX7_metNow 31 = .ok (.getfield 124, 3) := by decide +kernel
theorem dX7_metNow_34 : decode cX7_metNow 34 = .ok (.if_icmp .ge 141, 3) := by decide +kernel
theorem dX7_metNow_37 : decode cX7_metNow 37 = .ok (.iconst 0, 1) := by decide +kernel
theorem dX7_metNow_38 : decode cX7_metNow 38 = .ok (.istore_n 3, 1) := by decide +kernel
theorem dX7_metNow_39 : decode cX7_metNow 39 = .ok (.iconst 0, 1) := by decide +kernel
theorem dX7_metNow_40 : decode cX7_metNow 40 = .ok (.istore 4, 2) := by decide +kernel
theorem dX7_metNow_42 : decode cX7_metNow 42 = .ok (.iload 4, 2) := by decide +kernel
theorem dX7_metNow_44 : decode cX7_metNow 44 = .ok (.aload_n 0, 1) := by decide +kernel
theorem dX7_metNow_45 : decode cX7_metNow 45 = .ok (.getfield 118, 3) := by decide +kernel
theorem dX7_metNow_48 : decode cX7_metNow 48 = .ok (.if_icmp .ge 30, 3) := by decide +kernel
theorem dX7_metNow_51 : decode cX7_metNow 51 = .ok (.iload_n 3, 1) := by decide +kernel
theorem dX7_metNow_52 : decode cX7_metNow 52 = .ok (.aload_n 0, 1) := by decide +kernel
theorem dX7_metNow_53 : decode cX7_metNow 53 = .ok (.iload_n 2, 1) := by decide +kernel
theorem dX7_metNow_54 : decode cX7_metNow 54 = .ok (.iload 4, 2) := by decide +kernel
theorem dX7_metNow_56 : decode cX7_metNow 56 = .ok (.invokevirtual 218, 3) := by decide +kernel
theorem dX7_metNow_59 : decode cX7_metNow 59 = .ok (.ifCond .eq 10, 3) := by decide +kernel
theorem dX7_metNow_62 : decode cX7_metNow 62 = .ok (.iconst 1, 1) := by decide +kernel
theorem dX7_metNow_63 : decode cX7_metNow 63 = .ok (.iload 4, 2) := by decide +kernel
theorem dX7_metNow_65 : decode cX7_metNow 65 = .ok (.ishl, 1) := by decide +kernel
theorem dX7_metNow_66 : decode cX7_metNow 66 = .ok (.goto 4, 3) := by decide +kernel
theorem dX7_metNow_69 : decode cX7_metNow 69 = .ok (.iconst 0, 1) := by decide +kernel
theorem dX7_metNow_70 : decode cX7_metNow 70 = .ok (.ior, 1) := by decide +kernel
theorem dX7_metNow_71 : decode cX7_metNow 71 = .ok (.istore_n 3, 1) := by decide +kernel
theorem dX7_metNow_72 : decode cX7_metNow 72 = .ok (.iinc 4 1, 3) := by decide +kernel
theorem dX7_metNow_75 : decode cX7_metNow 75 = .ok (.goto (-33), 3) := by decide +kernel
theorem dX7_metNow_78 : decode cX7_metNow 78 = .ok (.iload_n 1, 1) := by decide +kernel
theorem dX7_metNow_79 : decode cX7_metNow 79 = .ok (.iconst 1, 1) := by decide +kernel
theorem dX7_metNow_80 : decode cX7_metNow 80 = .ok (.isub, 1) := by decide +kernel
theorem dX7_metNow_81 : decode cX7_metNow 81 = .ok (.istore 4, 2) := by decide +kernel
theorem dX7_metNow_83 : decode cX7_metNow 83 = .ok (.iload 4, 2) := by decide +kernel
theorem dX7_metNow_85 : decode cX7_metNow 85 = .ok (.ifCond .le 84, 3) := by decide +kernel
theorem dX7_metNow_88 : decode cX7_metNow 88 = .ok (.iconst 0, 1) := by decide +kernel
theorem dX7_metNow_89 : decode cX7_metNow 89 = .ok (.istore 5, 2) := by decide +kernel
theorem dX7_metNow_91 : decode cX7_metNow 91 = .ok (.iload 5, 2) := by decide +kernel
theorem dX7_metNow_93 : decode cX7_metNow 93 = .ok (.aload_n 0, 1) := by decide +kernel
theorem dX7_metNow_94 : decode cX7_metNow 94 = .ok (.getfield 118, 3) := by decide +kernel
theorem dX7_metNow_97 : decode cX7_metNow 97 = .ok (.if_icmp .ge 66, 3) := by decide +kernel
theorem dX7_metNow_100 : decode cX7_metNow 100 = .ok (.iload 4, 2) := by decide +kernel
theorem dX7_metNow_102 : decode cX7_metNow 102 = .ok (.iload_n 3, 1) := by decide +kernel
theorem dX7_metNow_103 : decode cX7_metNow 103 = .ok (.iand, 1) := by decide +kernel
theorem dX7_metNow_104 : decode cX7_metNow 104 = .ok (.iload 5, 2) := by decide +kernel
theorem dX7_metNow_106 : decode cX7_metNow 106 = .ok (.invokestatic 154, 3) := by decide +kernel
theorem dX7_metNow_109 : decode cX7_metNow 109 = .ok (.istore 6, 2) := by decide +kernel
theorem dX7_metNow_111 : decode cX7_metNow 111 = .ok (.aload_n 0, 1) := by decide +kernel
theorem dX7_metNow_112 : decode cX7_metNow 112 = .ok (.getfield 64, 3) := by decide +kernel
theorem dX7_metNow_115 : decode cX7_metNow 115 = .ok (.iload 4, 2) := by decide +kernel
theorem dX7_metNow_117 : decode cX7_metNow 117 = .ok (.iload 6, 2) := by decide +kernel
theorem dX7_metNow_119 : decode cX7_metNow 119 = .ok (.ifCond .eq 30, 3) := by decide +kernel
theorem dX7_metNow_122 : decode cX7_metNow 122 = .ok (.aload_n 0, 1) := by decide +kernel
theorem dX7_metNow_123 : decode cX7_metNow 123 = .ok (.getfield 64, 3) := by decide +kernel
theorem dX7_metNow_126 : decode cX7_metNow 126 = .ok (.iload 4, 2) := by decide +kernel
theorem dX7_metNow_128 : decode cX7_metNow 128 = .ok (.iconst 1, 1) := by decide +kernel
theorem dX7_metNow_129 : decode cX7_metNow 129 = .ok (.iload 5, 2) := by decide +kernel
theorem dX7_metNow_131 : decode cX7_metNow 131 = .ok (.ishl, 1) := by decide +kernel
theorem dX7_metNow_132 : decode cX7_metNow 132 = .ok (.ixor, 1) := by decide +kernel
theorem dX7_metNow_133 : decode cX7_metNow 133 = .ok (.iaload, 1) := by decide +kernel
theorem dX7_metNow_134 : decode cX7_metNow 134 = .ok (.iconst 1, 1) := by decide +kernel
theorem dX7_metNow_135 : decode cX7_metNow 135 = .ok (.iadd, 1) := by decide +kernel
theorem dX7_metNow_136 : decode cX7_metNow 136 = .ok (.aload_n 0, 1) := by decide +kernel
theorem dX7_metNow_137 : decode cX7_metNow 137 = .ok (.getfield 64, 3) := by decide +kernel
theorem dX7_metNow_140 : decode cX7_metNow 140 = .ok (.iload 4, 2) := by decide +kernel
theorem dX7_metNow_142 : decode cX7_metNow 142 = .ok (.iaload, 1) := by decide +kernel
theorem dX7_metNow_143 : decode cX7_metNow 143 = .ok (.invokestatic 221, 3) := by decide +kernel
theorem dX7_metNow_146 : decode cX7_metNow 146 = .ok (.goto 10, 3) := by decide +kernel
theorem dX7_metNow_149 : decode cX7_metNow 149 = .ok (.aload_n 0, 1) := by decide +kernel
theorem dX7_metNow_150 : decode cX7_metNow 150 = .ok (.getfield 64, 3) := by decide +kernel
theorem dX7_metNow_153 : decode cX7_metNow 153 = .ok (.iload 4, 2) := by decide +kernel
theorem dX7_metNow_155 : decode cX7_metNow 155 = .ok (.iaload, 1) := by decide +kernel
theorem dX7_metNow_156 : decode cX7_metNow 156 = .ok (.iastore, 1) := by decide +kernel
theorem dX7_metNow_157 : decode cX7_metNow 157 = .ok (.iinc 5 1, 3) := by decide +kernel
theorem dX7_metNow_160 : decode cX7_metNow 160 = .ok (.goto (-69), 3) := by decide +kernel
theorem dX7_metNow_163 : decode cX7_metNow 163 = .ok (.iinc 4 (-1), 3) := by decide +kernel
theorem dX7_metNow_166 : decode cX7_metNow 166 = .ok (.goto (-83), 3) := by decide +kernel
theorem dX7_metNow_169 : decode cX7_metNow 169 = .ok (.iinc 2 1, 3) := by decide +kernel
theorem dX7_metNow_172 : decode cX7_metNow 172 = .ok (.goto (-143), 3) := by decide +kernel
theorem dX7_metNow_175 : decode cX7_metNow 175 = .ok (.aload_n 0, 1) := by decide +kernel
theorem dX7_metNow_176 : decode cX7_metNow 176 = .ok (.getfield 64, 3) := by decide +kernel
theorem dX7_metNow_179 : decode cX7_metNow 179 = .ok (.iload_n 1, 1) := by decide +kernel
theorem dX7_metNow_180 : decode cX7_metNow 180 = .ok (.iconst 1, 1) := by decide +kernel
theorem dX7_metNow_181 : decode cX7_metNow 181 = .ok (.isub, 1) := by decide +kernel
theorem dX7_metNow_182 : decode cX7_metNow 182 = .ok (.iaload, 1) := by decide +kernel
theorem dX7_metNow_183 : decode cX7_metNow 183 = .ok (.ireturn, 1) := by decide +kernel
theorem dX7_met_0 : decode cX7_met 0 = .ok (.aload_n 0, 1) := by decide +kernel
theorem dX7_met_1 : decode cX7_met 1 = .ok (.invokevirtual 200, 3) := by decide +kernel
theorem dX7_met_4 : decode cX7_met 4 = .ok (.aload_n 0, 1) := by decide +kernel
theorem dX7_met_5 : decode cX7_met 5 = .ok (.invokevirtual 224, 3) := by decide +kernel
theorem dX7_met_8 : decode cX7_met 8 = .ok (.ireturn, 1) := by decide +kernel
theorem dX7_isMet_0 : decode cX7_isMet 0 = .ok (.aload_n 0, 1) := by decide +kernel
theorem dX7_isMet_1 : decode cX7_isMet 1 = .ok (.iload_n 2, 1) := by decide +kernel
theorem dX7_isMet_2 : decode cX7_isMet 2 = .ok (.putfield 161, 3) := by decide +kernel
theorem dX7_isMet_5 : decode cX7_isMet 5 = .ok (.aload_n 0, 1) := by decide +kernel
theorem dX7_isMet_6 : decode cX7_isMet 6 = .ok (.invokevirtual 194, 3) := by decide +kernel
theorem dX7_isMet_9 : decode cX7_isMet 9 = .ok (.aload_n 0, 1) := by decide +kernel
theorem dX7_isMet_10 : decode cX7_isMet 10 = .ok (.iconst 0, 1) := by decide +kernel
theorem dX7_isMet_11 : decode cX7_isMet 11 = .ok (.putfield 161, 3) := by decide +kernel
theorem dX7_isMet_14 : decode cX7_isMet 14 = .ok (.aload_n 0, 1) := by decide +kernel
theorem dX7_isMet_15 : decode cX7_isMet 15 = .ok (.getfield 55, 3) := by decide +kernel
theorem dX7_isMet_18 : decode cX7_isMet 18 = .ok (.iload_n 1, 1) := by decide +kernel
theorem dX7_isMet_19 : decode cX7_isMet 19 = .ok (.iaload, 1) := by decide +kernel
theorem dX7_isMet_20 : decode cX7_isMet 20 = .ok (.iconst (-1), 1) := by decide +kernel
theorem dX7_isMet_21 : decode cX7_isMet 21 = .ok (.if_icmp .eq 7, 3) := by decide +kernel
theorem dX7_isMet_24 : decode cX7_isMet 24 = .ok (.iconst 1, 1) := by decide +kernel
theorem dX7_isMet_25 : decode cX7_isMet 25 = .ok (.goto 4, 3) := by decide +kernel
theorem dX7_isMet_28 : decode cX7_isMet 28 = .ok (.iconst 0, 1) := by decide +kernel
theorem dX7_isMet_29 : decode cX7_isMet 29 = .ok (.ireturn, 1) := by decide +kernel
theorem dX7_keepOf_0 : decode cX7_keepOf 0 = .ok (.aload_n 0, 1) := by decide +kernel
theorem dX7_keepOf_1 : decode cX7_keepOf 1 = .ok (.iload_n 1, 1) := by decide +kernel
theorem dX7_keepOf_2 : decode cX7_keepOf 2 = .ok (.iconst 0, 1) := by decide +kernel
theorem dX7_keepOf_3 : decode cX7_keepOf 3 = .ok (.invokevirtual 227, 3) := by decide +kernel
theorem dX7_keepOf_6 : decode cX7_keepOf 6 = .ok (.ifCond .eq 14, 3) := by decide +kernel
theorem dX7_keepOf_9 : decode cX7_keepOf 9 = .ok (.iload_n 2, 1) := by decide +kernel
theorem dX7_keepOf_10 : decode cX7_keepOf 10 = .ok (.iconst (-1), 1) := by decide +kernel
theorem dX7_keepOf_11 : decode cX7_keepOf 11 = .ok (.if_icmp .ne 7, 3) := by decide +kernel
theorem dX7_keepOf_14 : decode cX7_keepOf 14 = .ok (.iconst 0, 1) := by decide +kernel
theorem dX7_keepOf_15 : decode cX7_keepOf 15 = .ok (.goto 4, 3) := by decide +kernel
theorem dX7_keepOf_18 : decode cX7_keepOf 18 = .ok (.iconst (-1), 1) := by decide +kernel
theorem dX7_keepOf_19 : decode cX7_keepOf 19 = .ok (.ireturn, 1) := by decide +kernel
theorem dX7_keepOf_20 : decode cX7_keepOf 20 = .ok (.iconst 0, 1) := by decide +kernel
theorem dX7_keepOf_21 : decode cX7_keepOf 21 = .ok (.istore_n 3, 1) := by decide +kernel
theorem dX7_keepOf_22 : decode cX7_keepOf 22 = .ok (.iload_n 3, 1) := by decide +kernel
theorem dX7_keepOf_23 : decode cX7_keepOf 23 = .ok (.aload_n 0, 1) := by decide +kernel
theorem dX7_keepOf_24 : decode cX7_keepOf 24 = .ok (.getfield 149, 3) := by decide +kernel
theorem dX7_keepOf_27 : decode cX7_keepOf 27 = .ok (.if_icmp .ge 39, 3) := by decide +kernel
theorem dX7_keepOf_30 : decode cX7_keepOf 30 = .ok (.aload_n 0, 1) := by decide +kernel
theorem dX7_keepOf_31 : decode cX7_keepOf 31 = .ok (.iload_n 1, 1) := by decide +kernel
theorem dX7_keepOf_32 : decode cX7_keepOf 32 = .ok (.iconst 1, 1) := by decide +kernel
theorem dX7_keepOf_33 : decode cX7_keepOf 33 = .ok (.iload_n 3, 1) := by decide +kernel
theorem dX7_keepOf_34 : decode cX7_keepOf 34 = .ok (.ishl, 1) := by decide +kernel
theorem dX7_keepOf_35 : decode cX7_keepOf 35 = .ok (.invokevirtual 227, 3) := by decide +kernel
theorem dX7_keepOf_38 : decode cX7_keepOf 38 = .ok (.ifCond .eq 22, 3) := by decide +kernel
theorem dX7_keepOf_41 : decode cX7_keepOf 41 = .ok (.iload_n 2, 1) := by decide +kernel
theorem dX7_keepOf_42 : decode cX7_keepOf 42 = .ok (.iconst (-1), 1) := by decide +kernel
theorem dX7_keepOf_43 : decode cX7_keepOf 43 = .ok (.if_icmp .ne 7, 3) := by decide +kernel
theorem dX7_keepOf_46 : decode cX7_keepOf 46 = .ok (.iconst 1, 1) := by decide +kernel
theorem dX7_keepOf_47 : decode cX7_keepOf 47 = .ok (.goto 12, 3) := by decide +kernel
theorem dX7_keepOf_50 : decode cX7_keepOf 50 = .ok (.iload_n 2, 1) := by decide +kernel
theorem dX7_keepOf_51 : decode cX7_keepOf 51 = .ok (.ifCond .ne 7, 3) := by decide +kernel
theorem dX7_keepOf_54 : decode cX7_keepOf 54 = .ok (.iload_n 3, 1) := by decide +kernel
theorem dX7_keepOf_55 : decode cX7_keepOf 55 = .ok (.goto 4, 3) := by decide +kernel
theorem dX7_keepOf_58 : decode cX7_keepOf 58 = .ok (.iconst (-1), 1) := by decide +kernel
theorem dX7_keepOf_59 : decode cX7_keepOf 59 = .ok (.ireturn, 1) := by decide +kernel
theorem dX7_keepOf_60 : decode cX7_keepOf 60 = .ok (.iinc 3 1, 3) := by decide +kernel
theorem dX7_keepOf_63 : decode cX7_keepOf 63 = .ok (.goto (-41), 3) := by decide +kernel
theorem dX7_keepOf_66 : decode cX7_keepOf 66 = .ok (.iconst 0, 1) := by decide +kernel
theorem dX7_keepOf_67 : decode cX7_keepOf 67 = .ok (.istore_n 3, 1) := by decide +kernel
theorem dX7_keepOf_68 : decode cX7_keepOf 68 = .ok (.iload_n 3, 1) := by decide +kernel
theorem dX7_keepOf_69 : decode cX7_keepOf 69 = .ok (.aload_n 0, 1) := by decide +kernel
theorem dX7_keepOf_70 : decode cX7_keepOf 70 = .ok (.getfield 149, 3) := by decide +kernel
theorem dX7_keepOf_73 : decode cX7_keepOf 73 = .ok (.if_icmp .ge 65, 3) := by decide +kernel
theorem dX7_keepOf_76 : decode cX7_keepOf 76 = .ok (.iload_n 3, 1) := by decide +kernel
theorem dX7_keepOf_77 : decode cX7_keepOf 77 = .ok (.iconst 1, 1) := by decide +kernel
theorem dX7_keepOf_78 : decode cX7_keepOf 78 = .ok (.iadd, 1) := by decide +kernel
theorem dX7_keepOf_79 : decode cX7_keepOf 79 = .ok (.istore 4, 2) := by decide +kernel
theorem dX7_keepOf_81 : decode cX7_keepOf 81 = .ok (.iload 4, 2) := by decide +kernel
theorem dX7_keepOf_83 : decode cX7_keepOf 83 = .ok (.aload_n 0, 1) := by decide +kernel
theorem dX7_keepOf_84 : decode cX7_keepOf 84 = .ok (.getfield 149, 3) := by decide +kernel
theorem dX7_keepOf_87 : decode cX7_keepOf 87 = .ok (.if_icmp .ge 45, 3) := by decide +kernel
theorem dX7_keepOf_90 : decode cX7_keepOf 90 = .ok (.aload_n 0, 1) := by decide +kernel
theorem dX7_keepOf_91 : decode cX7_keepOf 91 = .ok (.iload_n 1, 1) := by decide +kernel
theorem dX7_keepOf_92 : decode cX7_keepOf 92 = .ok (.iconst 1, 1) := by decide +kernel
theorem dX7_keepOf_93 : decode cX7_keepOf 93 = .ok (.iload_n 3, 1) := by decide +kernel
theorem dX7_keepOf_94 : decode cX7_keepOf 94 = .ok (.ishl, 1) := by decide +kernel
theorem dX7_keepOf_95 : decode cX7_keepOf 95 = .ok (.iconst 1, 1) := by decide +kernel
theorem dX7_keepOf_96 : decode cX7_keepOf 96 = .ok (.iload 4, 2) := by decide +kernel
theorem dX7_keepOf_98 : decode cX7_keepOf 98 = .ok (.ishl, 1) := by decide +kernel
theorem dX7_keepOf_99 : decode cX7_keepOf 99 = .ok (.ior, 1) := by decide +kernel
theorem dX7_keepOf_100 : decode cX7_keepOf 100 = .ok (.invokevirtual 227, 3) := by decide +kernel
theorem dX7_keepOf_103 : decode cX7_keepOf 103 = .ok (.ifCond .eq 23, 3) := by decide +kernel
theorem dX7_keepOf_106 : decode cX7_keepOf 106 = .ok (.iload_n 2, 1) := by decide +kernel
theorem dX7_keepOf_107 : decode cX7_keepOf 107 = .ok (.iconst (-1), 1) := by decide +kernel
theorem dX7_keepOf_108 : decode cX7_keepOf 108 = .ok (.if_icmp .ne 7, 3) := by decide +kernel
theorem dX7_keepOf_111 : decode cX7_keepOf 111 = .ok (.iconst 2, 1) := by decide +kernel
theorem dX7_keepOf_112 : decode cX7_keepOf 112 = .ok (.goto 13, 3) := by decide +kernel
theorem dX7_keepOf_115 : decode cX7_keepOf 115 = .ok (.iload_n 2, 1) := by decide +kernel
theorem dX7_keepOf_116 : decode cX7_keepOf 116 = .ok (.ifCond .ne 7, 3) := by decide +kernel
theorem dX7_keepOf_119 : decode cX7_keepOf 119 = .ok (.iload_n 3, 1) := by decide +kernel
theorem dX7_keepOf_120 : decode cX7_keepOf 120 = .ok (.goto 5, 3) := by decide +kernel
theorem dX7_keepOf_123 : decode cX7_keepOf 123 = .ok (.iload 4, 2) := by decide +kernel
theorem dX7_keepOf_125 : decode cX7_keepOf 125 = .ok (.ireturn, 1) := by decide +kernel
theorem dX7_keepOf_126 : decode cX7_keepOf 126 = .ok (.iinc 4 1, 3) := by decide +kernel
theorem dX7_keepOf_129 : decode cX7_keepOf 129 = .ok (.goto (-48), 3) := by decide +kernel
theorem dX7_keepOf_132 : decode cX7_keepOf 132 = .ok (.iinc 3 1, 3) := by decide +kernel
theorem dX7_keepOf_135 : decode cX7_keepOf 135 = .ok (.goto (-67), 3) := by decide +kernel
theorem dX7_keepOf_138 : decode cX7_keepOf 138 = .ok (.iconst (-1), 1) := by decide +kernel
theorem dX7_keepOf_139 : decode cX7_keepOf 139 = .ok (.ireturn, 1) := by decide +kernel
theorem dX7_keep_0 : decode cX7_keep 0 = .ok (.aload_n 0, 1) := by decide +kernel
theorem dX7_keep_1 : decode cX7_keep 1 = .ok (.invokevirtual 200, 3) := by decide +kernel
theorem dX7_keep_4 : decode cX7_keep 4 = .ok (.aload_n 0, 1) := by decide +kernel
theorem dX7_keep_5 : decode cX7_keep 5 = .ok (.iload_n 1, 1) := by decide +kernel
theorem dX7_keep_6 : decode cX7_keep 6 = .ok (.invokevirtual 139, 3) := by decide +kernel
theorem dX7_keep_9 : decode cX7_keep 9 = .ok (.ifCond .eq 24, 3) := by decide +kernel
theorem dX7_keep_12 : decode cX7_keep 12 = .ok (.iload_n 2, 1) := by decide +kernel
theorem dX7_keep_13 : decode cX7_keep 13 = .ok (.i2l, 1) := by decide +kernel
theorem dX7_keep_14 : decode cX7_keep 14 = .ok (.ldc2_w 230, 3) := by decide +kernel
theorem dX7_keep_17 : decode cX7_keep 17 = .ok (.lconst 1, 1) := by decide +kernel
theorem dX7_keep_18 : decode cX7_keep 18 = .ok (.invokestatic 79, 3) := by decide +kernel
theorem dX7_keep_21 : decode cX7_keep 21 = .ok (.ifCond .eq 12, 3) := by decide +kernel
theorem dX7_keep_24 : decode cX7_keep 24 = .ok (.aload_n 0, 1) := by decide +kernel
theorem dX7_keep_25 : decode cX7_keep 25 = .ok (.iload_n 1, 1) := by decide +kernel
theorem dX7_keep_26 : decode cX7_keep 26 = .ok (.iload_n 2, 1) := by decide +kernel
theorem dX7_keep_27 : decode cX7_keep 27 = .ok (.invokevirtual 232, 3) := by decide +kernel
theorem dX7_keep_30 : decode cX7_keep 30 = .ok (.goto 5, 3) := by decide +kernel
theorem dX7_keep_33 : decode cX7_keep 33 = .ok (.bipush (-2), 2) := by decide +kernel
theorem dX7_keep_35 : decode cX7_keep 35 = .ok (.ireturn, 1) := by decide +kernel
theorem dX7_sowOf_0 : decode cX7_sowOf 0 = .ok (.aload_n 0, 1) := by decide +kernel
theorem dX7_sowOf_1 : decode cX7_sowOf 1 = .ok (.getfield 28, 3) := by decide +kernel
theorem dX7_sowOf_4 : decode cX7_sowOf 4 = .ok (.iconst 2, 1) := by decide +kernel
theorem dX7_sowOf_5 : decode cX7_sowOf 5 = .ok (.iload_n 1, 1) := by decide +kernel
theorem dX7_sowOf_6 : decode cX7_sowOf 6 = .ok (.imul, 1) := by decide +kernel
theorem dX7_sowOf_7 : decode cX7_sowOf 7 = .ok (.iconst 1, 1) := by decide +kernel
theorem dX7_sowOf_8 : decode cX7_sowOf 8 = .ok (.iadd, 1) := by decide +kernel
theorem dX7_sowOf_9 : decode cX7_sowOf 9 = .ok (.iaload, 1) := by decide +kernel
theorem dX7_sowOf_10 : decode cX7_sowOf 10 = .ok (.istore_n 3, 1) := by decide +kernel
theorem dX7_sowOf_11 : decode cX7_sowOf 11 = .ok (.iconst (-1), 1) := by decide +kernel
theorem dX7_sowOf_12 : decode cX7_sowOf 12 = .ok (.istore 4, 2) := by decide +kernel
theorem dX7_sowOf_14 : decode cX7_sowOf 14 = .ok (.iconst 0, 1) := by decide +kernel
theorem dX7_sowOf_15 : decode cX7_sowOf 15 = .ok (.istore 5, 2) := by decide +kernel
theorem dX7_sowOf_17 : decode cX7_sowOf 17 = .ok (.iconst 0, 1) := by decide +kernel
theorem dX7_sowOf_18 : decode cX7_sowOf 18 = .ok (.istore 6, 2) := by decide +kernel
theorem dX7_sowOf_20 : decode cX7_sowOf 20 = .ok (.iload 6, 2) := by decide +kernel
theorem dX7_sowOf_22 : decode cX7_sowOf 22 = .ok (.bipush 30, 2) := by decide +kernel
theorem dX7_sowOf_24 : decode cX7_sowOf 24 = .ok (.if_icmp .ge 82, 3) := by decide +kernel
theorem dX7_sowOf_27 : decode cX7_sowOf 27 = .ok (.aload_n 0, 1) := by decide +kernel
theorem dX7_sowOf_28 : decode cX7_sowOf 28 = .ok (.getfield 28, 3) := by decide +kernel
theorem dX7_sowOf_31 : decode cX7_sowOf 31 = .ok (.iconst 2, 1) := by decide +kernel
theorem dX7_sowOf_32 : decode cX7_sowOf 32 = .ok (.iload_n 1, 1) := by decide +kernel
theorem dX7_sowOf_33 : decode cX7_sowOf 33 = .ok (.imul, 1) := by decide +kernel
theorem dX7_sowOf_34 : decode cX7_sowOf 34 = .ok (.iconst 1, 1) := by decide +kernel
theorem dX7_sowOf_35 : decode cX7_sowOf 35 = .ok (.iadd, 1) := by decide +kernel
theorem dX7_sowOf_36 : decode cX7_sowOf 36 = .ok (.iload 6, 2) := by decide +kernel
theorem dX7_sowOf_38 : decode cX7_sowOf 38 = .ok (.iastore, 1) := by decide +kernel
theorem dX7_sowOf_39 : decode cX7_sowOf 39 = .ok (.aload_n 0, 1) := by decide +kernel
theorem dX7_sowOf_40 : decode cX7_sowOf 40 = .ok (.invokevirtual 194, 3) := by decide +kernel
theorem dX7_sowOf_43 : decode cX7_sowOf 43 = .ok (.aload_n 0, 1) := by decide +kernel
theorem dX7_sowOf_44 : decode cX7_sowOf 44 = .ok (.invokevirtual 215, 3) := by decide +kernel
theorem dX7_sowOf_47 : decode cX7_sowOf 47 = .ok (.invokestatic 235, 3) := by decide +kernel
theorem dX7_sowOf_50 : decode cX7_sowOf 50 = .ok (.istore 7, 2) := by decide +kernel
theorem dX7_sowOf_52 : decode cX7_sowOf 52 = .ok (.iload 4, 2) := by decide +kernel
theorem dX7_sowOf_54 : decode cX7_sowOf 54 = .ok (.iconst (-1), 1) := by decide +kernel
theorem dX7_sowOf_55 : decode cX7_sowOf 55 = .ok (.if_icmp .eq 10, 3) := by decide +kernel
theorem dX7_sowOf_58 : decode cX7_sowOf 58 = .ok (.iload 7, 2) := by decide +kernel
theorem dX7_sowOf_60 : decode cX7_sowOf 60 = .ok (.iload 5, 2) := by decide +kernel
theorem dX7_sowOf_62 : decode cX7_sowOf 62 = .ok (.if_icmp .ge 7, 3) := by decide +kernel
theorem dX7_sowOf_65 : decode cX7_sowOf 65 = .ok (.iconst 1, 1) := by decide +kernel
theorem dX7_sowOf_66 : decode cX7_sowOf 66 = .ok (.goto 4, 3) := by decide +kernel
theorem dX7_sowOf_69 : decode cX7_sowOf 69 = .ok (.iconst 0, 1) := by decide +kernel
theorem dX7_sowOf_70 : decode cX7_sowOf 70 = .ok (.istore 8, 2) := by decide +kernel
theorem dX7_sowOf_72 : decode cX7_sowOf 72 = .ok (.iload 8, 2) := by decide +kernel
theorem dX7_sowOf_74 : decode cX7_sowOf 74 = .ok (.ifCond .eq 8, 3) := by decide +kernel
theorem dX7_sowOf_77 : decode cX7_sowOf 77 = .ok (.iload 6, 2) := by decide +kernel
theorem dX7_sowOf_79 : decode cX7_sowOf 79 = .ok (.goto 5, 3) := by decide +kernel
theorem dX7_sowOf_82 : decode cX7_sowOf 82 = .ok (.iload 4, 2) := by decide +kernel
theorem dX7_sowOf_84 : decode cX7_sowOf 84 = .ok (.istore 4, 2) := by decide +kernel
theorem dX7_sowOf_86 : decode cX7_sowOf 86 = .ok (.iload 8, 2) := by decide +kernel
theorem dX7_sowOf_88 : decode cX7_sowOf 88 = .ok (.ifCond .eq 8, 3) := by decide +kernel
theorem dX7_sowOf_91 : decode cX7_sowOf 91 = .ok (.iload 7, 2) := by decide +kernel
theorem dX7_sowOf_93 : decode cX7_sowOf 93 = .ok (.goto 5, 3) := by decide +kernel
theorem dX7_sowOf_96 : decode cX7_sowOf 96 = .ok (.iload 5, 2) := by decide +kernel
theorem dX7_sowOf_98 : decode cX7_sowOf 98 = .ok (.istore 5, 2) := by decide +kernel
theorem dX7_sowOf_100 : decode cX7_sowOf 100 = .ok (.iinc 6 1, 3) := by decide +kernel
theorem dX7_sowOf_103 : decode cX7_sowOf 103 = .ok (.goto (-83), 3) := by decide +kernel
theorem dX7_sowOf_106 : decode cX7_sowOf 106 = .ok (.aload_n 0, 1) := by decide +kernel
theorem dX7_sowOf_107 : decode cX7_sowOf 107 = .ok (.getfield 28, 3) := by decide +kernel
theorem dX7_sowOf_110 : decode cX7_sowOf 110 = .ok (.iconst 2, 1) := by decide +kernel
theorem dX7_sowOf_111 : decode cX7_sowOf 111 = .ok (.iload_n 1, 1) := by decide +kernel
theorem dX7_sowOf_112 : decode cX7_sowOf 112 = .ok (.imul, 1) := by decide +kernel
theorem dX7_sowOf_113 : decode cX7_sowOf 113 = .ok (.iconst 1, 1) := by decide +kernel
theorem dX7_sowOf_114 : decode cX7_sowOf 114 = .ok (.iadd, 1) := by decide +kernel
theorem dX7_sowOf_115 : decode cX7_sowOf 115 = .ok (.iload_n 3, 1) := by decide +kernel
theorem dX7_sowOf_116 : decode cX7_sowOf 116 = .ok (.iastore, 1) := by decide +kernel
theorem dX7_sowOf_117 : decode cX7_sowOf 117 = .ok (.iload_n 2, 1) := by decide +kernel
theorem dX7_sowOf_118 : decode cX7_sowOf 118 = .ok (.ifCond .ne 8, 3) := by decide +kernel
theorem dX7_sowOf_121 : decode cX7_sowOf 121 = .ok (.iload 4, 2) := by decide +kernel
theorem dX7_sowOf_123 : decode cX7_sowOf 123 = .ok (.goto 5, 3) := by decide +kernel
theorem dX7_sowOf_126 : decode cX7_sowOf 126 = .ok (.iload 5, 2) := by decide +kernel
theorem dX7_sowOf_128 : decode cX7_sowOf 128 = .ok (.ireturn, 1) := by decide +kernel
theorem dX7_sow_0 : decode cX7_sow 0 = .ok (.aload_n 0, 1) := by decide +kernel
theorem dX7_sow_1 : decode cX7_sow 1 = .ok (.invokevirtual 200, 3) := by decide +kernel
theorem dX7_sow_4 : decode cX7_sow 4 = .ok (.aload_n 0, 1) := by decide +kernel
theorem dX7_sow_5 : decode cX7_sow 5 = .ok (.iload_n 1, 1) := by decide +kernel
theorem dX7_sow_6 : decode cX7_sow 6 = .ok (.invokevirtual 136, 3) := by decide +kernel
theorem dX7_sow_9 : decode cX7_sow 9 = .ok (.ifCond .eq 19, 3) := by decide +kernel
theorem dX7_sow_12 : decode cX7_sow 12 = .ok (.iload_n 2, 1) := by decide +kernel
theorem dX7_sow_13 : decode cX7_sow 13 = .ok (.invokestatic 107, 3) := by decide +kernel
theorem dX7_sow_16 : decode cX7_sow 16 = .ok (.ifCond .eq 12, 3) := by decide +kernel
theorem dX7_sow_19 : decode cX7_sow 19 = .ok (.aload_n 0, 1) := by decide +kernel
theorem dX7_sow_20 : decode cX7_sow 20 = .ok (.iload_n 1, 1) := by decide +kernel
theorem dX7_sow_21 : decode cX7_sow 21 = .ok (.iload_n 2, 1) := by decide +kernel
theorem dX7_sow_22 : decode cX7_sow 22 = .ok (.invokevirtual 238, 3) := by decide +kernel
theorem dX7_sow_25 : decode cX7_sow 25 = .ok (.goto 5, 3) := by decide +kernel
theorem dX7_sow_28 : decode cX7_sow 28 = .ok (.bipush (-2), 2) := by decide +kernel
theorem dX7_sow_30 : decode cX7_sow 30 = .ok (.ireturn, 1) := by decide +kernel
theorem dX7_comeOf_0 : decode cX7_comeOf 0 = .ok (.aload_n 0, 1) := by decide +kernel
theorem dX7_comeOf_1 : decode cX7_comeOf 1 = .ok (.getfield 31, 3) := by decide +kernel
theorem dX7_comeOf_4 : decode cX7_comeOf 4 = .ok (.iconst 3, 1) := by decide +kernel
theorem dX7_comeOf_5 : decode cX7_comeOf 5 = .ok (.iload_n 1, 1) := by decide +kernel
theorem dX7_comeOf_6 : decode cX7_comeOf 6 = .ok (.imul, 1) := by decide +kernel
theorem dX7_comeOf_7 : decode cX7_comeOf 7 = .ok (.iconst 1, 1) := by decide +kernel
theorem dX7_comeOf_8 : decode cX7_comeOf 8 = .ok (.iadd, 1) := by decide +kernel
theorem dX7_comeOf_9 : decode cX7_comeOf 9 = .ok (.iaload, 1) := by decide +kernel
theorem dX7_comeOf_10 : decode cX7_comeOf 10 = .ok (.istore_n 3, 1) := by decide +kernel
theorem dX7_comeOf_11 : decode cX7_comeOf 11 = .ok (.iconst (-1), 1) := by decide +kernel
theorem dX7_comeOf_12 : decode cX7_comeOf 12 = .ok (.istore 4, 2) := by decide +kernel
theorem dX7_comeOf_14 : decode cX7_comeOf 14 = .ok (.iconst (-1), 1) := by decide +kernel
theorem dX7_comeOf_15 : decode cX7_comeOf 15 = .ok (.istore 5, 2) := by decide +kernel
theorem dX7_comeOf_17 : decode cX7_comeOf 17 = .ok (.iconst 0, 1) := by decide +kernel
theorem dX7_comeOf_18 : decode cX7_comeOf 18 = .ok (.istore 6, 2) := by decide +kernel
theorem dX7_comeOf_20 : decode cX7_comeOf 20 = .ok (.iload 6, 2) := by decide +kernel
theorem dX7_comeOf_22 : decode cX7_comeOf 22 = .ok (.bipush 30, 2) := by decide +kernel
theorem dX7_comeOf_24 : decode cX7_comeOf 24 = .ok (.if_icmp .ge 91, 3) := by decide +kernel
theorem dX7_comeOf_27 : decode cX7_comeOf 27 = .ok (.aload_n 0, 1) := by decide +kernel
theorem dX7_comeOf_28 : decode cX7_comeOf 28 = .ok (.getfield 31, 3) := by decide +kernel
theorem dX7_comeOf_31 : decode cX7_comeOf 31 = .ok (.iconst 3, 1) := by decide +kernel
theorem dX7_comeOf_32 : decode cX7_comeOf 32 = .ok (.iload_n 1, 1) := by decide +kernel
theorem dX7_comeOf_33 : decode cX7_comeOf 33 = .ok (.imul, 1) := by decide +kernel
theorem dX7_comeOf_34 : decode cX7_comeOf 34 = .ok (.iconst 1, 1) := by decide +kernel
theorem dX7_comeOf_35 : decode cX7_comeOf 35 = .ok (.iadd, 1) := by decide +kernel
theorem dX7_comeOf_36 : decode cX7_comeOf 36 = .ok (.iload 6, 2) := by decide +kernel
theorem dX7_comeOf_38 : decode cX7_comeOf 38 = .ok (.iastore, 1) := by decide +kernel
theorem dX7_comeOf_39 : decode cX7_comeOf 39 = .ok (.aload_n 0, 1) := by decide +kernel
theorem dX7_comeOf_40 : decode cX7_comeOf 40 = .ok (.invokevirtual 194, 3) := by decide +kernel
theorem dX7_comeOf_43 : decode cX7_comeOf 43 = .ok (.aload_n 0, 1) := by decide +kernel
theorem dX7_comeOf_44 : decode cX7_comeOf 44 = .ok (.getfield 55, 3) := by decide +kernel
theorem dX7_comeOf_47 : decode cX7_comeOf 47 = .ok (.iload_n 1, 1) := by decide +kernel
theorem dX7_comeOf_48 : decode cX7_comeOf 48 = .ok (.iaload, 1) := by decide +kernel
theorem dX7_comeOf_49 : decode cX7_comeOf 49 = .ok (.iconst (-1), 1) := by decide +kernel
theorem dX7_comeOf_50 : decode cX7_comeOf 50 = .ok (.if_icmp .eq 24, 3) := by decide +kernel
theorem dX7_comeOf_53 : decode cX7_comeOf 53 = .ok (.iload 4, 2) := by decide +kernel
theorem dX7_comeOf_55 : decode cX7_comeOf 55 = .ok (.iconst (-1), 1) := by decide +kernel
theorem dX7_comeOf_56 : decode cX7_comeOf 56 = .ok (.if_icmp .eq 14, 3) := by decide +kernel
theorem dX7_comeOf_59 : decode cX7_comeOf 59 = .ok (.aload_n 0, 1) := by decide +kernel
theorem dX7_comeOf_60 : decode cX7_comeOf 60 = .ok (.getfield 58, 3) := by decide +kernel
theorem dX7_comeOf_63 : decode cX7_comeOf 63 = .ok (.iload_n 1, 1) := by decide +kernel
theorem dX7_comeOf_64 : decode cX7_comeOf 64 = .ok (.iaload, 1) := by decide +kernel
theorem dX7_comeOf_65 : decode cX7_comeOf 65 = .ok (.iload 5, 2) := by decide +kernel
theorem dX7_comeOf_67 : decode cX7_comeOf 67 = .ok (.if_icmp .ge 7, 3) := by decide +kernel
theorem dX7_comeOf_70 : decode cX7_comeOf 70 = .ok (.iconst 1, 1) := by decide +kernel
theorem dX7_comeOf_71 : decode cX7_comeOf 71 = .ok (.goto 4, 3) := by decide +kernel
theorem dX7_comeOf_74 : decode cX7_comeOf 74 = .ok (.iconst 0, 1) := by decide +kernel
theorem dX7_comeOf_75 : decode cX7_comeOf 75 = .ok (.istore 7, 2) := by decide +kernel
theorem dX7_comeOf_77 : decode cX7_comeOf 77 = .ok (.iload 7, 2) := by decide +kernel
theorem dX7_comeOf_79 : decode cX7_comeOf 79 = .ok (.ifCond .eq 8, 3) := by decide +kernel
theorem dX7_comeOf_82 : decode cX7_comeOf 82 = .ok (.iload 6, 2) := by decide +kernel
theorem dX7_comeOf_84 : decode cX7_comeOf 84 = .ok (.goto 5, 3) := by decide +kernel
theorem dX7_comeOf_87 : decode cX7_comeOf 87 = .ok (.iload 4, 2) := by decide +kernel
theorem dX7_comeOf_89 : decode cX7_comeOf 89 = .ok (.istore 4, 2) := by decide +kernel
theorem dX7_comeOf_91 : decode cX7_comeOf 91 = .ok (.iload 7, 2) := by decide +kernel
theorem dX7_comeOf_93 : decode cX7_comeOf 93 = .ok (.ifCond .eq 12, 3) := by decide +kernel
theorem dX7_comeOf_96 : decode cX7_comeOf 96 = .ok (.aload_n 0, 1) := by decide +kernel
theorem dX7_comeOf_97 : decode cX7_comeOf 97 = .ok (.getfield 58, 3) := by decide +kernel
theorem dX7_comeOf_100 : decode cX7_comeOf 100 = .ok (.iload_n 1, 1) := by decide +kernel
theorem dX7_comeOf_101 : decode cX7_comeOf 101 = .ok (.iaload, 1) := by decide +kernel
theorem dX7_comeOf_102 : decode cX7_comeOf 102 = .ok (.goto 5, 3) := by decide +kernel
theorem dX7_comeOf_105 : decode cX7_comeOf 105 = .ok (.iload 5, 2) := by decide +kernel
theorem dX7_comeOf_107 : decode cX7_comeOf 107 = .ok (.istore 5, 2) := by decide +kernel
theorem dX7_comeOf_109 : decode cX7_comeOf 109 = .ok (.iinc 6 1, 3) := by decide +kernel
theorem dX7_comeOf_112 : decode cX7_comeOf 112 = .ok (.goto (-92), 3) := by decide +kernel
theorem dX7_comeOf_115 : decode cX7_comeOf 115 = .ok (.aload_n 0, 1) := by decide +kernel
theorem dX7_comeOf_116 : decode cX7_comeOf 116 = .ok (.getfield 31, 3) := by decide +kernel
theorem dX7_comeOf_119 : decode cX7_comeOf 119 = .ok (.iconst 3, 1) := by decide +kernel
theorem dX7_comeOf_120 : decode cX7_comeOf 120 = .ok (.iload_n 1, 1) := by decide +kernel
theorem dX7_comeOf_121 : decode cX7_comeOf 121 = .ok (.imul, 1) := by decide +kernel
theorem dX7_comeOf_122 : decode cX7_comeOf 122 = .ok (.iconst 1, 1) := by decide +kernel
theorem dX7_comeOf_123 : decode cX7_comeOf 123 = .ok (.iadd, 1) := by decide +kernel
theorem dX7_comeOf_124 : decode cX7_comeOf 124 = .ok (.iload_n 3, 1) := by decide +kernel
theorem dX7_comeOf_125 : decode cX7_comeOf 125 = .ok (.iastore, 1) := by decide +kernel
theorem dX7_comeOf_126 : decode cX7_comeOf 126 = .ok (.iload_n 2, 1) := by decide +kernel
theorem dX7_comeOf_127 : decode cX7_comeOf 127 = .ok (.ifCond .ne 8, 3) := by decide +kernel
theorem dX7_comeOf_130 : decode cX7_comeOf 130 = .ok (.iload 4, 2) := by decide +kernel
theorem dX7_comeOf_132 : decode cX7_comeOf 132 = .ok (.goto 5, 3) := by decide +kernel
theorem dX7_comeOf_135 : decode cX7_comeOf 135 = .ok (.iload 5, 2) := by decide +kernel
theorem dX7_comeOf_137 : decode cX7_comeOf 137 = .ok (.ireturn, 1) := by decide +kernel
theorem dX7_come_0 : decode cX7_come 0 = .ok (.aload_n 0, 1) := by decide +kernel
theorem dX7_come_1 : decode cX7_come 1 = .ok (.invokevirtual 200, 3) := by decide +kernel
theorem dX7_come_4 : decode cX7_come 4 = .ok (.aload_n 0, 1) := by decide +kernel
theorem dX7_come_5 : decode cX7_come 5 = .ok (.iload_n 1, 1) := by decide +kernel
theorem dX7_come_6 : decode cX7_come 6 = .ok (.invokevirtual 139, 3) := by decide +kernel
theorem dX7_come_9 : decode cX7_come 9 = .ok (.ifCond .eq 19, 3) := by decide +kernel
theorem dX7_come_12 : decode cX7_come 12 = .ok (.iload_n 2, 1) := by decide +kernel
theorem dX7_come_13 : decode cX7_come 13 = .ok (.invokestatic 107, 3) := by decide +kernel
theorem dX7_come_16 : decode cX7_come 16 = .ok (.ifCond .eq 12, 3) := by decide +kernel
theorem dX7_come_19 : decode cX7_come 19 = .ok (.aload_n 0, 1) := by decide +kernel
theorem dX7_come_20 : decode cX7_come 20 = .ok (.iload_n 1, 1) := by decide +kernel
theorem dX7_come_21 : decode cX7_come 21 = .ok (.iload_n 2, 1) := by decide +kernel
theorem dX7_come_22 : decode cX7_come 22 = .ok (.invokevirtual 241, 3) := by decide +kernel
theorem dX7_come_25 : decode cX7_come 25 = .ok (.goto 5, 3) := by decide +kernel
theorem dX7_come_28 : decode cX7_come 28 = .ok (.bipush (-2), 2) := by decide +kernel
theorem dX7_come_30 : decode cX7_come 30 = .ok (.ireturn, 1) := by decide +kernel
theorem dX7_seen_0 : decode cX7_seen 0 = .ok (.iload_n 1, 1) := by decide +kernel
theorem dX7_seen_1 : decode cX7_seen 1 = .ok (.i2l, 1) := by decide +kernel
theorem dX7_seen_2 : decode cX7_seen 2 = .ok (.lconst 0, 1) := by decide +kernel
theorem dX7_seen_3 : decode cX7_seen 3 = .ok (.ldc2_w 147, 3) := by decide +kernel
theorem dX7_seen_6 : decode cX7_seen 6 = .ok (.invokestatic 79, 3) := by decide +kernel
theorem dX7_seen_9 : decode cX7_seen 9 = .ok (.ifCond .eq 15, 3) := by decide +kernel
theorem dX7_seen_12 : decode cX7_seen 12 = .ok (.iload_n 2, 1) := by decide +kernel
theorem dX7_seen_13 : decode cX7_seen 13 = .ok (.i2l, 1) := by decide +kernel
theorem dX7_seen_14 : decode cX7_seen 14 = .ok (.lconst 0, 1) := by decide +kernel
theorem dX7_seen_15 : decode cX7_seen 15 = .ok (.ldc2_w 244, 3) := by decide +kernel
theorem dX7_seen_18 : decode cX7_seen 18 = .ok (.invokestatic 79, 3) := by decide +kernel
theorem dX7_seen_21 : decode cX7_seen 21 = .ok (.ifCond .ne 6, 3) := by decide +kernel
theorem dX7_seen_24 : decode cX7_seen 24 = .ok (.bipush (-2), 2) := by decide +kernel
theorem dX7_seen_26 : decode cX7_seen 26 = .ok (.ireturn, 1) := by decide +kernel
theorem dX7_seen_27 : decode cX7_seen 27 = .ok (.aload_n 0, 1) := by decide +kernel
theorem dX7_seen_28 : decode cX7_seen 28 = .ok (.getfield 246, 3) := by decide +kernel
theorem dX7_seen_31 : decode cX7_seen 31 = .ok (.bipush 8, 2) := by decide +kernel
theorem dX7_seen_33 : decode cX7_seen 33 = .ok (.if_icmp .ne 6, 3) := by decide +kernel
theorem dX7_seen_36 : decode cX7_seen 36 = .ok (.bipush (-4), 2) := by decide +kernel
theorem dX7_seen_38 : decode cX7_seen 38 = .ok (.ireturn, 1) := by decide +kernel
theorem dX7_seen_39 : decode cX7_seen 39 = .ok (.aload_n 0, 1) := by decide +kernel
theorem dX7_seen_40 : decode cX7_seen 40 = .ok (.getfield 67, 3) := by decide +kernel
theorem dX7_seen_43 : decode cX7_seen 43 = .ok (.iconst 2, 1) := by decide +kernel
theorem dX7_seen_44 : decode cX7_seen 44 = .ok (.aload_n 0, 1) := by decide +kernel
theorem dX7_seen_45 : decode cX7_seen 45 = .ok (.getfield 246, 3) := by decide +kernel
theorem dX7_seen_48 : decode cX7_seen 48 = .ok (.imul, 1) := by decide +kernel
theorem dX7_seen_49 : decode cX7_seen 49 = .ok (.iload_n 1, 1) := by decide +kernel
theorem dX7_seen_50 : decode cX7_seen 50 = .ok (.iastore, 1) := by decide +kernel
theorem dX7_seen_51 : decode cX7_seen 51 = .ok (.aload_n 0, 1) := by decide +kernel
theorem dX7_seen_52 : decode cX7_seen 52 = .ok (.getfield 67, 3) := by decide +kernel
theorem dX7_seen_55 : decode cX7_seen 55 = .ok (.iconst 2, 1) := by decide +kernel
theorem dX7_seen_56 : decode cX7_seen 56 = .ok (.aload_n 0, 1) := by decide +kernel
theorem dX7_seen_57 : decode cX7_seen 57 = .ok (.getfield 246, 3) := by decide +kernel
theorem dX7_seen_60 : decode cX7_seen 60 = .ok (.imul, 1) := by decide +kernel
theorem dX7_seen_61 : decode cX7_seen 61 = .ok (.iconst 1, 1) := by decide +kernel
theorem dX7_seen_62 : decode cX7_seen 62 = .ok (.iadd, 1) := by decide +kernel
theorem dX7_seen_63 : decode cX7_seen 63 = .ok (.iload_n 2, 1) := by decide +kernel
theorem dX7_seen_64 : decode cX7_seen 64 = .ok (.iastore, 1) := by decide +kernel
theorem dX7_seen_65 : decode cX7_seen 65 = .ok (.aload_n 0, 1) := by decide +kernel
theorem dX7_seen_66 : decode cX7_seen 66 = .ok (.dup, 1) := by decide +kernel
theorem dX7_seen_67 : decode cX7_seen 67 = .ok (.getfield 246, 3) := by decide +kernel
theorem dX7_seen_70 : decode cX7_seen 70 = .ok (.iconst 1, 1) := by decide +kernel
theorem dX7_seen_71 : decode cX7_seen 71 = .ok (.iadd, 1) := by decide +kernel
theorem dX7_seen_72 : decode cX7_seen 72 = .ok (.putfield 246, 3) := by decide +kernel
theorem dX7_seen_75 : decode cX7_seen 75 = .ok (.aload_n 0, 1) := by decide +kernel
theorem dX7_seen_76 : decode cX7_seen 76 = .ok (.getfield 246, 3) := by decide +kernel
theorem dX7_seen_79 : decode cX7_seen 79 = .ok (.ireturn, 1) := by decide +kernel
theorem dX7_forget_0 : decode cX7_forget 0 = .ok (.aload_n 0, 1) := by decide +kernel
theorem dX7_forget_1 : decode cX7_forget 1 = .ok (.getfield 246, 3) := by decide +kernel
theorem dX7_forget_4 : decode cX7_forget 4 = .ok (.istore_n 1, 1) := by decide +kernel
theorem dX7_forget_5 : decode cX7_forget 5 = .ok (.aload_n 0, 1) := by decide +kernel
theorem dX7_forget_6 : decode cX7_forget 6 = .ok (.iconst 0, 1) := by decide +kernel
theorem dX7_forget_7 : decode cX7_forget 7 = .ok (.putfield 246, 3) := by decide +kernel
theorem dX7_forget_10 : decode cX7_forget 10 = .ok (.iload_n 1, 1) := by decide +kernel
theorem dX7_forget_11 : decode cX7_forget 11 = .ok (.ireturn, 1) := by decide +kernel
theorem dX7_isSeen_0 : decode cX7_isSeen 0 = .ok (.aload_n 0, 1) := by decide +kernel
theorem dX7_isSeen_1 : decode cX7_isSeen 1 = .ok (.invokevirtual 194, 3) := by decide +kernel
theorem dX7_isSeen_4 : decode cX7_isSeen 4 = .ok (.iconst 1, 1) := by decide +kernel
theorem dX7_isSeen_5 : decode cX7_isSeen 5 = .ok (.istore_n 1, 1) := by decide +kernel
theorem dX7_isSeen_6 : decode cX7_isSeen 6 = .ok (.iconst 0, 1) := by decide +kernel
theorem dX7_isSeen_7 : decode cX7_isSeen 7 = .ok (.istore_n 2, 1) := by decide +kernel
theorem dX7_isSeen_8 : decode cX7_isSeen 8 = .ok (.iload_n 2, 1) := by decide +kernel
theorem dX7_isSeen_9 : decode cX7_isSeen 9 = .ok (.aload_n 0, 1) := by decide +kernel
theorem dX7_isSeen_10 : decode cX7_isSeen 10 = .ok (.getfield 246, 3) := by decide +kernel
theorem dX7_isSeen_13 : decode cX7_isSeen 13 = .ok (.if_icmp .ge 74, 3) := by decide +kernel
theorem dX7_isSeen_16 : decode cX7_isSeen 16 = .ok (.iload_n 1, 1) := by decide +kernel
theorem dX7_isSeen_17 : decode cX7_isSeen 17 = .ok (.ifCond .eq 70, 3) := by decide +kernel
theorem dX7_isSeen_20 : decode cX7_isSeen 20 = .ok (.aload_n 0, 1) := by decide +kernel
theorem dX7_isSeen_21 : decode cX7_isSeen 21 = .ok (.getfield 67, 3) := by decide +kernel
theorem dX7_isSeen_24 : decode cX7_isSeen 24 = .ok (.iconst 2, 1) := by decide +kernel
theorem dX7_isSeen_25 : decode cX7_isSeen 25 = .ok (.iload_n 2, 1) := by decide +kernel
theorem dX7_isSeen_26 : decode cX7_isSeen 26 = .ok (.imul, 1) := by decide +kernel
theorem dX7_isSeen_27 : decode cX7_isSeen 27 = .ok (.iaload, 1) := by decide +kernel
theorem dX7_isSeen_28 : decode cX7_isSeen 28 = .ok (.istore_n 3, 1) := by decide +kernel
theorem dX7_isSeen_29 : decode cX7_isSeen 29 = .ok (.aload_n 0, 1) := by decide +kernel
theorem dX7_isSeen_30 : decode cX7_isSeen 30 = .ok (.iload_n 3, 1) := by decide +kernel
theorem dX7_isSeen_31 : decode cX7_isSeen 31 = .ok (.invokevirtual 139, 3) := by decide +kernel
theorem dX7_isSeen_34 : decode cX7_isSeen 34 = .ok (.ifCond .eq 45, 3) := by decide +kernel
theorem dX7_isSeen_37 : decode cX7_isSeen 37 = .ok (.aload_n 0, 1) := by decide +kernel
theorem dX7_isSeen_38 : decode cX7_isSeen 38 = .ok (.getfield 55, 3) := by decide +kernel
theorem dX7_isSeen_41 : decode cX7_isSeen 41 = .ok (.iload_n 3, 1) := by decide +kernel
theorem dX7_isSeen_42 : decode cX7_isSeen 42 = .ok (.iaload, 1) := by decide +kernel
theorem dX7_isSeen_43 : decode cX7_isSeen 43 = .ok (.aload_n 0, 1) := by decide +kernel
theorem dX7_isSeen_44 : decode cX7_isSeen 44 = .ok (.getfield 67, 3) := by decide +kernel
theorem dX7_isSeen_47 : decode cX7_isSeen 47 = .ok (.iconst 2, 1) := by decide +kernel
theorem dX7_isSeen_48 : decode cX7_isSeen 48 = .ok (.iload_n 2, 1) := by decide +kernel
theorem dX7_isSeen_49 : decode cX7_isSeen 49 = .ok (.imul, 1) := by decide +kernel
theorem dX7_isSeen_50 : decode cX7_isSeen 50 = .ok (.iconst 1, 1) := by decide +kernel
theorem dX7_isSeen_51 : decode cX7_isSeen 51 = .ok (.iadd, 1) := by decide +kernel
theorem dX7_isSeen_52 : decode cX7_isSeen 52 = .ok (.iaload, 1) := by decide +kernel
theorem dX7_isSeen_53 : decode cX7_isSeen 53 = .ok (.bipush 8, 2) := by decide +kernel
theorem dX7_isSeen_55 : decode cX7_isSeen 55 = .ok (.if_icmp .ne 7, 3) := by decide +kernel
theorem dX7_isSeen_58 : decode cX7_isSeen 58 = .ok (.iconst (-1), 1) := by decide +kernel
theorem dX7_isSeen_59 : decode cX7_isSeen 59 = .ok (.goto 13, 3) := by decide +kernel
theorem dX7_isSeen_62 : decode cX7_isSeen 62 = .ok (.aload_n 0, 1) := by decide +kernel
theorem dX7_isSeen_63 : decode cX7_isSeen 63 = .ok (.getfield 67, 3) := by decide +kernel
theorem dX7_isSeen_66 : decode cX7_isSeen 66 = .ok (.iconst 2, 1) := by decide +kernel
theorem dX7_isSeen_67 : decode cX7_isSeen 67 = .ok (.iload_n 2, 1) := by decide +kernel
theorem dX7_isSeen_68 : decode cX7_isSeen 68 = .ok (.imul, 1) := by decide +kernel
theorem dX7_isSeen_69 : decode cX7_isSeen 69 = .ok (.iconst 1, 1) := by decide +kernel
theorem dX7_isSeen_70 : decode cX7_isSeen 70 = .ok (.iadd, 1) := by decide +kernel
theorem dX7_isSeen_71 : decode cX7_isSeen 71 = .ok (.iaload, 1) := by decide +kernel
theorem dX7_isSeen_72 : decode cX7_isSeen 72 = .ok (.if_icmp .ne 7, 3) := by decide +kernel
theorem dX7_isSeen_75 : decode cX7_isSeen 75 = .ok (.iconst 1, 1) := by decide +kernel
theorem dX7_isSeen_76 : decode cX7_isSeen 76 = .ok (.goto 4, 3) := by decide +kernel
theorem dX7_isSeen_79 : decode cX7_isSeen 79 = .ok (.iconst 0, 1) := by decide +kernel
theorem dX7_isSeen_80 : decode cX7_isSeen 80 = .ok (.istore_n 1, 1) := by decide +kernel
theorem dX7_isSeen_81 : decode cX7_isSeen 81 = .ok (.iinc 2 1, 3) := by decide +kernel
theorem dX7_isSeen_84 : decode cX7_isSeen 84 = .ok (.goto (-76), 3) := by decide +kernel
theorem dX7_isSeen_87 : decode cX7_isSeen 87 = .ok (.iload_n 1, 1) := by decide +kernel
theorem dX7_isSeen_88 : decode cX7_isSeen 88 = .ok (.ireturn, 1) := by decide +kernel
theorem dX7_neverNow_0 : decode cX7_neverNow 0 = .ok (.iconst 0, 1) := by decide +kernel
theorem dX7_neverNow_1 : decode cX7_neverNow 1 = .ok (.istore_n 1, 1) := by decide +kernel
theorem dX7_neverNow_2 : decode cX7_neverNow 2 = .ok (.iconst 0, 1) := by decide +kernel
theorem dX7_neverNow_3 : decode cX7_neverNow 3 = .ok (.istore_n 2, 1) := by decide +kernel
theorem dX7_neverNow_4 : decode cX7_neverNow 4 = .ok (.iload_n 2, 1) := by decide +kernel
theorem dX7_neverNow_5 : decode cX7_neverNow 5 = .ok (.aload_n 0, 1) := by decide +kernel
theorem dX7_neverNow_6 : decode cX7_neverNow 6 = .ok (.getfield 149, 3) := by decide +kernel
theorem dX7_neverNow_9 : decode cX7_neverNow 9 = .ok (.if_icmp .ge 33, 3) := by decide +kernel
theorem dX7_neverNow_12 : decode cX7_neverNow 12 = .ok (.aload_n 0, 1) := by decide +kernel
theorem dX7_neverNow_13 : decode cX7_neverNow 13 = .ok (.iconst 1, 1) := by decide +kernel
theorem dX7_neverNow_14 : decode cX7_neverNow 14 = .ok (.iload_n 2, 1) := by decide +kernel
theorem dX7_neverNow_15 : decode cX7_neverNow 15 = .ok (.ishl, 1) := by decide +kernel
theorem dX7_neverNow_16 : decode cX7_neverNow 16 = .ok (.putfield 161, 3) := by decide +kernel
theorem dX7_neverNow_19 : decode cX7_neverNow 19 = .ok (.iload_n 1, 1) := by decide +kernel
theorem dX7_neverNow_20 : decode cX7_neverNow 20 = .ok (.aload_n 0, 1) := by decide +kernel
theorem dX7_neverNow_21 : decode cX7_neverNow 21 = .ok (.invokevirtual 249, 3) := by decide +kernel
theorem dX7_neverNow_24 : decode cX7_neverNow 24 = .ok (.ifCond .eq 9, 3) := by decide +kernel
theorem dX7_neverNow_27 : decode cX7_neverNow 27 = .ok (.iconst 1, 1) := by decide +kernel
theorem dX7_neverNow_28 : decode cX7_neverNow 28 = .ok (.iload_n 2, 1) := by decide +kernel
theorem dX7_neverNow_29 : decode cX7_neverNow 29 = .ok (.ishl, 1) := by decide +kernel
theorem dX7_neverNow_30 : decode cX7_neverNow 30 = .ok (.goto 4, 3) := by decide +kernel
theorem dX7_neverNow_33 : decode cX7_neverNow 33 = .ok (.iconst 0, 1) := by decide +kernel
theorem dX7_neverNow_34 : decode cX7_neverNow 34 = .ok (.ior, 1) := by decide +kernel
theorem dX7_neverNow_35 : decode cX7_neverNow 35 = .ok (.istore_n 1, 1) := by decide +kernel
theorem dX7_neverNow_36 : decode cX7_neverNow 36 = .ok (.iinc 2 1, 3) := by decide +kernel
theorem dX7_neverNow_39 : decode cX7_neverNow 39 = .ok (.goto (-35), 3) := by decide +kernel
theorem dX7_neverNow_42 : decode cX7_neverNow 42 = .ok (.aload_n 0, 1) := by decide +kernel
theorem dX7_neverNow_43 : decode cX7_neverNow 43 = .ok (.iconst 0, 1) := by decide +kernel
theorem dX7_neverNow_44 : decode cX7_neverNow 44 = .ok (.putfield 161, 3) := by decide +kernel
theorem dX7_neverNow_47 : decode cX7_neverNow 47 = .ok (.iload_n 1, 1) := by decide +kernel
theorem dX7_neverNow_48 : decode cX7_neverNow 48 = .ok (.ireturn, 1) := by decide +kernel
theorem dX7_never_0 : decode cX7_never 0 = .ok (.aload_n 0, 1) := by decide +kernel
theorem dX7_never_1 : decode cX7_never 1 = .ok (.invokevirtual 200, 3) := by decide +kernel
theorem dX7_never_4 : decode cX7_never 4 = .ok (.aload_n 0, 1) := by decide +kernel
theorem dX7_never_5 : decode cX7_never 5 = .ok (.invokevirtual 253, 3) := by decide +kernel
theorem dX7_never_8 : decode cX7_never 8 = .ok (.ireturn, 1) := by decide +kernel
theorem dX7_wasOf_0 : decode cX7_wasOf 0 = .ok (.aload_n 0, 1) := by decide +kernel
theorem dX7_wasOf_1 : decode cX7_wasOf 1 = .ok (.getfield 28, 3) := by decide +kernel
theorem dX7_wasOf_4 : decode cX7_wasOf 4 = .ok (.iconst 2, 1) := by decide +kernel
theorem dX7_wasOf_5 : decode cX7_wasOf 5 = .ok (.iload_n 1, 1) := by decide +kernel
theorem dX7_wasOf_6 : decode cX7_wasOf 6 = .ok (.imul, 1) := by decide +kernel
theorem dX7_wasOf_7 : decode cX7_wasOf 7 = .ok (.iload_n 2, 1) := by decide +kernel
theorem dX7_wasOf_8 : decode cX7_wasOf 8 = .ok (.iadd, 1) := by decide +kernel
theorem dX7_wasOf_9 : decode cX7_wasOf 9 = .ok (.iaload, 1) := by decide +kernel
theorem dX7_wasOf_10 : decode cX7_wasOf 10 = .ok (.istore_n 3, 1) := by decide +kernel
theorem dX7_wasOf_11 : decode cX7_wasOf 11 = .ok (.iconst 0, 1) := by decide +kernel
theorem dX7_wasOf_12 : decode cX7_wasOf 12 = .ok (.istore 4, 2) := by decide +kernel
theorem dX7_wasOf_14 : decode cX7_wasOf 14 = .ok (.iconst 0, 1) := by decide +kernel
theorem dX7_wasOf_15 : decode cX7_wasOf 15 = .ok (.istore 5, 2) := by decide +kernel
theorem dX7_wasOf_17 : decode cX7_wasOf 17 = .ok (.iload 5, 2) := by decide +kernel
theorem dX7_wasOf_19 : decode cX7_wasOf 19 = .ok (.iload_n 2, 1) := by decide +kernel
theorem dX7_wasOf_20 : decode cX7_wasOf 20 = .ok (.ifCond .ne 7, 3) := by decide +kernel
theorem dX7_wasOf_23 : decode cX7_wasOf 23 = .ok (.iconst 3, 1) := by decide +kernel
theorem dX7_wasOf_24 : decode cX7_wasOf 24 = .ok (.goto 5, 3) := by decide +kernel
theorem dX7_wasOf_27 : decode cX7_wasOf 27 = .ok (.bipush 30, 2) := by decide +kernel
theorem dX7_wasOf_29 : decode cX7_wasOf 29 = .ok (.if_icmp .ge 41, 3) := by decide +kernel
theorem dX7_wasOf_32 : decode cX7_wasOf 32 = .ok (.aload_n 0, 1) := by decide +kernel
theorem dX7_wasOf_33 : decode cX7_wasOf 33 = .ok (.getfield 28, 3) := by decide +kernel
theorem dX7_wasOf_36 : decode cX7_wasOf 36 = .ok (.iconst 2, 1) := by decide +kernel
theorem dX7_wasOf_37 : decode cX7_wasOf 37 = .ok (.iload_n 1, 1) := by decide +kernel
theorem dX7_wasOf_38 : decode cX7_wasOf 38 = .ok (.imul, 1) := by decide +kernel
theorem dX7_wasOf_39 : decode cX7_wasOf 39 = .ok (.iload_n 2, 1) := by decide +kernel
theorem dX7_wasOf_40 : decode cX7_wasOf 40 = .ok (.iadd, 1) := by decide +kernel
theorem dX7_wasOf_41 : decode cX7_wasOf 41 = .ok (.iload 5, 2) := by decide +kernel
theorem dX7_wasOf_43 : decode cX7_wasOf 43 = .ok (.iastore, 1) := by decide +kernel
theorem dX7_wasOf_44 : decode cX7_wasOf 44 = .ok (.iload 4, 2) := by decide +kernel
theorem dX7_wasOf_46 : decode cX7_wasOf 46 = .ok (.aload_n 0, 1) := by decide +kernel
theorem dX7_wasOf_47 : decode cX7_wasOf 47 = .ok (.invokevirtual 249, 3) := by decide +kernel
theorem dX7_wasOf_50 : decode cX7_wasOf 50 = .ok (.ifCond .eq 10, 3) := by decide +kernel
theorem dX7_wasOf_53 : decode cX7_wasOf 53 = .ok (.iconst 1, 1) := by decide +kernel
theorem dX7_wasOf_54 : decode cX7_wasOf 54 = .ok (.iload 5, 2) := by decide +kernel
theorem dX7_wasOf_56 : decode cX7_wasOf 56 = .ok (.ishl, 1) := by decide +kernel
theorem dX7_wasOf_57 : decode cX7_wasOf 57 = .ok (.goto 4, 3) := by decide +kernel
theorem dX7_wasOf_60 : decode cX7_wasOf 60 = .ok (.iconst 0, 1) := by decide +kernel
theorem dX7_wasOf_61 : decode cX7_wasOf 61 = .ok (.ior, 1) := by decide +kernel
theorem dX7_wasOf_62 : decode cX7_wasOf 62 = .ok (.istore 4, 2) := by decide +kernel
theorem dX7_wasOf_64 : decode cX7_wasOf 64 = .ok (.iinc 5 1, 3) := by decide +kernel
theorem dX7_wasOf_67 : decode cX7_wasOf 67 = .ok (.goto (-50), 3) := by decide +kernel
theorem dX7_wasOf_70 : decode cX7_wasOf 70 = .ok (.aload_n 0, 1) := by decide +kernel
theorem dX7_wasOf_71 : decode cX7_wasOf 71 = .ok (.getfield 28, 3) := by decide +kernel
theorem dX7_wasOf_74 : decode cX7_wasOf 74 = .ok (.iconst 2, 1) := by decide +kernel
theorem dX7_wasOf_75 : decode cX7_wasOf 75 = .ok (.iload_n 1, 1) := by decide +kernel
theorem dX7_wasOf_76 : decode cX7_wasOf 76 = .ok (.imul, 1) := by decide +kernel
theorem dX7_wasOf_77 : decode cX7_wasOf 77 = .ok (.iload_n 2, 1) := by decide +kernel
theorem dX7_wasOf_78 : decode cX7_wasOf 78 = .ok (.iadd, 1) := by decide +kernel
theorem dX7_wasOf_79 : decode cX7_wasOf 79 = .ok (.iload_n 3, 1) := by decide +kernel
theorem dX7_wasOf_80 : decode cX7_wasOf 80 = .ok (.iastore, 1) := by decide +kernel
theorem dX7_wasOf_81 : decode cX7_wasOf 81 = .ok (.iload 4, 2) := by decide +kernel
theorem dX7_wasOf_83 : decode cX7_wasOf 83 = .ok (.ireturn, 1) := by decide +kernel
theorem dX7_was_0 : decode cX7_was 0 = .ok (.aload_n 0, 1) := by decide +kernel
theorem dX7_was_1 : decode cX7_was 1 = .ok (.invokevirtual 200, 3) := by decide +kernel
theorem dX7_was_4 : decode cX7_was 4 = .ok (.aload_n 0, 1) := by decide +kernel
theorem dX7_was_5 : decode cX7_was 5 = .ok (.iload_n 1, 1) := by decide +kernel
theorem dX7_was_6 : decode cX7_was 6 = .ok (.invokevirtual 136, 3) := by decide +kernel
theorem dX7_was_9 : decode cX7_was 9 = .ok (.ifCond .eq 19, 3) := by decide +kernel
theorem dX7_was_12 : decode cX7_was 12 = .ok (.iload_n 2, 1) := by decide +kernel
theorem dX7_was_13 : decode cX7_was 13 = .ok (.invokestatic 107, 3) := by decide +kernel
theorem dX7_was_16 : decode cX7_was 16 = .ok (.ifCond .eq 12, 3) := by decide +kernel
theorem dX7_was_19 : decode cX7_was 19 = .ok (.aload_n 0, 1) := by decide +kernel
theorem dX7_was_20 : decode cX7_was 20 = .ok (.iload_n 1, 1) := by decide +kernel
theorem dX7_was_21 : decode cX7_was 21 = .ok (.iload_n 2, 1) := by decide +kernel
theorem dX7_was_22 : decode cX7_was 22 = .ok (.invokevirtual 256, 3) := by decide +kernel
theorem dX7_was_25 : decode cX7_was 25 = .ok (.goto 5, 3) := by decide +kernel
theorem dX7_was_28 : decode cX7_was 28 = .ok (.bipush (-2), 2) := by decide +kernel
theorem dX7_was_30 : decode cX7_was 30 = .ok (.ireturn, 1) := by decide +kernel
theorem dX7_askOf_0 : decode cX7_askOf 0 = .ok (.aload_n 0, 1) := by decide +kernel
theorem dX7_askOf_1 : decode cX7_askOf 1 = .ok (.iload_n 1, 1) := by decide +kernel
theorem dX7_askOf_2 : decode cX7_askOf 2 = .ok (.iconst 1, 1) := by decide +kernel
theorem dX7_askOf_3 : decode cX7_askOf 3 = .ok (.invokevirtual 256, 3) := by decide +kernel
theorem dX7_askOf_6 : decode cX7_askOf 6 = .ok (.istore_n 2, 1) := by decide +kernel
theorem dX7_askOf_7 : decode cX7_askOf 7 = .ok (.aload_n 0, 1) := by decide +kernel
theorem dX7_askOf_8 : decode cX7_askOf 8 = .ok (.getfield 28, 3) := by decide +kernel
theorem dX7_askOf_11 : decode cX7_askOf 11 = .ok (.iconst 2, 1) := by decide +kernel
theorem dX7_askOf_12 : decode cX7_askOf 12 = .ok (.iload_n 1, 1) := by decide +kernel
theorem dX7_askOf_13 : decode cX7_askOf 13 = .ok (.imul, 1) := by decide +kernel
theorem dX7_askOf_14 : decode cX7_askOf 14 = .ok (.iconst 1, 1) := by decide +kernel
theorem dX7_askOf_15 : decode cX7_askOf 15 = .ok (.iadd, 1) := by decide +kernel
theorem dX7_askOf_16 : decode cX7_askOf 16 = .ok (.iaload, 1) := by decide +kernel
theorem dX7_askOf_17 : decode cX7_askOf 17 = .ok (.istore_n 3, 1) := by decide +kernel
theorem dX7_askOf_18 : decode cX7_askOf 18 = .ok (.iconst 0, 1) := by decide +kernel
theorem dX7_askOf_19 : decode cX7_askOf 19 = .ok (.istore 4, 2) := by decide +kernel
theorem dX7_askOf_21 : decode cX7_askOf 21 = .ok (.iload 4, 2) := by decide +kernel
theorem dX7_askOf_23 : decode cX7_askOf 23 = .ok (.bipush 72, 2) := by decide +kernel
theorem dX7_askOf_25 : decode cX7_askOf 25 = .ok (.if_icmp .ge 17, 3) := by decide +kernel
theorem dX7_askOf_28 : decode cX7_askOf 28 = .ok (.aload_n 0, 1) := by decide +kernel
theorem dX7_askOf_29 : decode cX7_askOf 29 = .ok (.getfield 70, 3) := by decide +kernel
theorem dX7_askOf_32 : decode cX7_askOf 32 = .ok (.iload 4, 2) := by decide +kernel
theorem dX7_askOf_34 : decode cX7_askOf 34 = .ok (.iconst 0, 1) := by decide +kernel
theorem dX7_askOf_35 : decode cX7_askOf 35 = .ok (.iastore, 1) := by decide +kernel
theorem dX7_askOf_36 : decode cX7_askOf 36 = .ok (.iinc 4 1, 3) := by decide +kernel
theorem dX7_askOf_39 : decode cX7_askOf 39 = .ok (.goto (-18), 3) := by decide +kernel
theorem dX7_askOf_42 : decode cX7_askOf 42 = .ok (.iconst 0, 1) := by decide +kernel
theorem dX7_askOf_43 : decode cX7_askOf 43 = .ok (.istore 4, 2) := by decide +kernel
theorem dX7_askOf_45 : decode cX7_askOf 45 = .ok (.iload 4, 2) := by decide +kernel
theorem dX7_askOf_47 : decode cX7_askOf 47 = .ok (.bipush 30, 2) := by decide +kernel
theorem dX7_askOf_49 : decode cX7_askOf 49 = .ok (.if_icmp .ge 76, 3) := by decide +kernel
theorem dX7_askOf_52 : decode cX7_askOf 52 = .ok (.iload_n 2, 1) := by decide +kernel
theorem dX7_askOf_53 : decode cX7_askOf 53 = .ok (.iload 4, 2) := by decide +kernel
theorem dX7_askOf_55 : decode cX7_askOf 55 = .ok (.invokestatic 154, 3) := by decide +kernel
theorem dX7_askOf_58 : decode cX7_askOf 58 = .ok (.ifCond .eq 61, 3) := by decide +kernel
theorem dX7_askOf_61 : decode cX7_askOf 61 = .ok (.aload_n 0, 1) := by decide +kernel
theorem dX7_askOf_62 : decode cX7_askOf 62 = .ok (.getfield 28, 3) := by decide +kernel
theorem dX7_askOf_65 : decode cX7_askOf 65 = .ok (.iconst 2, 1) := by decide +kernel
theorem dX7_askOf_66 : decode cX7_askOf 66 = .ok (.iload_n 1, 1) := by decide +kernel
theorem dX7_askOf_67 : decode cX7_askOf 67 = .ok (.imul, 1) := by decide +kernel
theorem dX7_askOf_68 : decode cX7_askOf 68 = .ok (.iconst 1, 1) := by decide +kernel
theorem dX7_askOf_69 : decode cX7_askOf 69 = .ok (.iadd, 1) := by decide +kernel
theorem dX7_askOf_70 : decode cX7_askOf 70 = .ok (.iload 4, 2) := by decide +kernel
theorem dX7_askOf_72 : decode cX7_askOf 72 = .ok (.iastore, 1) := by decide +kernel
theorem dX7_askOf_73 : decode cX7_askOf 73 = .ok (.aload_n 0, 1) := by decide +kernel
theorem dX7_askOf_74 : decode cX7_askOf 74 = .ok (.invokevirtual 194, 3) := by decide +kernel
theorem dX7_askOf_77 : decode cX7_askOf 77 = .ok (.iconst 0, 1) := by decide +kernel
theorem dX7_askOf_78 : decode cX7_askOf 78 = .ok (.istore 5, 2) := by decide +kernel
theorem dX7_askOf_80 : decode cX7_askOf 80 = .ok (.iload 5, 2) := by decide +kernel
theorem dX7_askOf_82 : decode cX7_askOf 82 = .ok (.aload_n 0, 1) := by decide +kernel
theorem dX7_askOf_83 : decode cX7_askOf 83 = .ok (.getfield 124, 3) := by decide +kernel
theorem dX7_askOf_86 : decode cX7_askOf 86 = .ok (.if_icmp .ge 33, 3) := by decide +kernel
theorem dX7_askOf_89 : decode cX7_askOf 89 = .ok (.aload_n 0, 1) := by decide +kernel
theorem dX7_askOf_90 : decode cX7_askOf 90 = .ok (.getfield 70, 3) := by decide +kernel
theorem dX7_askOf_93 : decode cX7_askOf 93 = .ok (.bipush 9, 2) := by decide +kernel
theorem dX7_askOf_95 : decode cX7_askOf 95 = .ok (.iload 5, 2) := by decide +kernel
theorem dX7_askOf_97 : decode cX7_askOf 97 = .ok (.imul, 1) := by decide +kernel
theorem dX7_askOf_98 : decode cX7_askOf 98 = .ok (.aload_n 0, 1) := by decide +kernel
theorem dX7_askOf_99 : decode cX7_askOf 99 = .ok (.getfield 55, 3) := by decide +kernel
theorem dX7_askOf_102 : decode cX7_askOf 102 = .ok (.iload 5, 2) := by decide +kernel
theorem dX7_askOf_104 : decode cX7_askOf 104 = .ok (.iaload, 1) := by decide +kernel
theorem dX7_askOf_105 : decode cX7_askOf 105 = .ok (.iadd, 1) := by decide +kernel
theorem dX7_askOf_106 : decode cX7_askOf 106 = .ok (.iconst 1, 1) := by decide +kernel
theorem dX7_askOf_107 : decode cX7_askOf 107 = .ok (.iadd, 1) := by decide +kernel
theorem dX7_askOf_108 : decode cX7_askOf 108 = .ok (.dup2, 1) := by decide +kernel
theorem dX7_askOf_109 : decode cX7_askOf 109 = .ok (.iaload, 1) := by decide +kernel
theorem dX7_askOf_110 : decode cX7_askOf 110 = .ok (.iconst 1, 1) := by decide +kernel
theorem dX7_askOf_111 : decode cX7_askOf 111 = .ok (.iadd, 1) := by decide +kernel
theorem dX7_askOf_112 : decode cX7_askOf 112 = .ok (.iastore, 1) := by decide +kernel
theorem dX7_askOf_113 : decode cX7_askOf 113 = .ok (.iinc 5 1, 3) := by decide +kernel
theorem dX7_askOf_116 : decode cX7_askOf 116 = .ok (.goto (-36), 3) := by decide +kernel
theorem dX7_askOf_119 : decode cX7_askOf 119 = .ok (.iinc 4 1, 3) := by decide +kernel
theorem dX7_askOf_122 : decode cX7_askOf 122 = .ok (.goto (-77), 3) := by decide +kernel
theorem dX7_askOf_125 : decode cX7_askOf 125 = .ok (.aload_n 0, 1) := by decide +kernel
theorem dX7_askOf_126 : decode cX7_askOf 126 = .ok (.getfield 28, 3) := by decide +kernel
theorem dX7_askOf_129 : decode cX7_askOf 129 = .ok (.iconst 2, 1) := by decide +kernel
theorem dX7_askOf_130 : decode cX7_askOf 130 = .ok (.iload_n 1, 1) := by decide +kernel
theorem dX7_askOf_131 : decode cX7_askOf 131 = .ok (.imul, 1) := by decide +kernel
theorem dX7_askOf_132 : decode cX7_askOf 132 = .ok (.iconst 1, 1) := by decide +kernel
theorem dX7_askOf_133 : decode cX7_askOf 133 = .ok (.iadd, 1) := by decide +kernel
theorem dX7_askOf_134 : decode cX7_askOf 134 = .ok (.iload_n 3, 1) := by decide +kernel
theorem dX7_askOf_135 : decode cX7_askOf 135 = .ok (.iastore, 1) := by decide +kernel
theorem dX7_askOf_136 : decode cX7_askOf 136 = .ok (.iconst (-1), 1) := by decide +kernel
theorem dX7_askOf_137 : decode cX7_askOf 137 = .ok (.istore 4, 2) := by decide +kernel
theorem dX7_askOf_139 : decode cX7_askOf 139 = .ok (.iconst 0, 1) := by decide +kernel
theorem dX7_askOf_140 : decode cX7_askOf 140 = .ok (.istore 5, 2) := by decide +kernel
theorem dX7_askOf_142 : decode cX7_askOf 142 = .ok (.iconst 0, 1) := by decide +kernel
theorem dX7_askOf_143 : decode cX7_askOf 143 = .ok (.istore 6, 2) := by decide +kernel
theorem dX7_askOf_145 : decode cX7_askOf 145 = .ok (.iload 6, 2) := by decide +kernel
theorem dX7_askOf_147 : decode cX7_askOf 147 = .ok (.aload_n 0, 1) := by decide +kernel
theorem dX7_askOf_148 : decode cX7_askOf 148 = .ok (.getfield 124, 3) := by decide +kernel
theorem dX7_askOf_151 : decode cX7_askOf 151 = .ok (.if_icmp .ge 96, 3) := by decide +kernel
theorem dX7_askOf_154 : decode cX7_askOf 154 = .ok (.iconst 0, 1) := by decide +kernel
theorem dX7_askOf_155 : decode cX7_askOf 155 = .ok (.istore 7, 2) := by decide +kernel
theorem dX7_askOf_157 : decode cX7_askOf 157 = .ok (.iconst 0, 1) := by decide +kernel
theorem dX7_askOf_158 : decode cX7_askOf 158 = .ok (.istore 8, 2) := by decide +kernel
theorem dX7_askOf_160 : decode cX7_askOf 160 = .ok (.iload 8, 2) := by decide +kernel
theorem dX7_askOf_162 : decode cX7_askOf 162 = .ok (.bipush 9, 2) := by decide +kernel
theorem dX7_askOf_164 : decode cX7_askOf 164 = .ok (.if_icmp .ge 29, 3) := by decide +kernel
theorem dX7_askOf_167 : decode cX7_askOf 167 = .ok (.aload_n 0, 1) := by decide +kernel
theorem dX7_askOf_168 : decode cX7_askOf 168 = .ok (.getfield 70, 3) := by decide +kernel
theorem dX7_askOf_171 : decode cX7_askOf 171 = .ok (.bipush 9, 2) := by decide +kernel
theorem dX7_askOf_173 : decode cX7_askOf 173 = .ok (.iload 6, 2) := by decide +kernel
theorem dX7_askOf_175 : decode cX7_askOf 175 = .ok (.imul, 1) := by decide +kernel
theorem dX7_askOf_176 : decode cX7_askOf 176 = .ok (.iload 8, 2) := by decide +kernel
theorem dX7_askOf_178 : decode cX7_askOf 178 = .ok (.iadd, 1) := by decide +kernel
theorem dX7_askOf_179 : decode cX7_askOf 179 = .ok (.iaload, 1) := by decide +kernel
theorem dX7_askOf_180 : decode cX7_askOf 180 = .ok (.iload 7, 2) := by decide +kernel
theorem dX7_askOf_182 : decode cX7_askOf 182 = .ok (.invokestatic 221, 3) := by decide +kernel
theorem dX7_askOf_185 : decode cX7_askOf 185 = .ok (.istore 7, 2) := by decide +kernel
theorem dX7_askOf_187 : decode cX7_askOf 187 = .ok (.iinc 8 1, 3) := by decide +kernel
theorem dX7_askOf_190 : decode cX7_askOf 190 = .ok (.goto (-30), 3) := by decide +kernel
theorem dX7_askOf_193 : decode cX7_askOf 193 = .ok (.iload 4, 2) := by decide +kernel
theorem dX7_askOf_195 : decode cX7_askOf 195 = .ok (.iconst (-1), 1) := by decide +kernel
theorem dX7_askOf_196 : decode cX7_askOf 196 = .ok (.if_icmp .eq 10, 3) := by decide +kernel
theorem dX7_askOf_199 : decode cX7_askOf 199 = .ok (.iload 7, 2) := by decide +kernel
theorem dX7_askOf_201 : decode cX7_askOf 201 = .ok (.iload 5, 2) := by decide +kernel
theorem dX7_askOf_203 : decode cX7_askOf 203 = .ok (.if_icmp .ge 7, 3) := by decide +kernel
theorem dX7_askOf_206 : decode cX7_askOf 206 = .ok (.iconst 1, 1) := by decide +kernel
theorem dX7_askOf_207 : decode cX7_askOf 207 = .ok (.goto 4, 3) := by decide +kernel
theorem dX7_askOf_210 : decode cX7_askOf 210 = .ok (.iconst 0, 1) := by decide +kernel
theorem dX7_askOf_211 : decode cX7_askOf 211 = .ok (.istore 8, 2) := by decide +kernel
theorem dX7_askOf_213 : decode cX7_askOf 213 = .ok (.iload 8, 2) := by decide +kernel
theorem dX7_askOf_215 : decode cX7_askOf 215 = .ok (.ifCond .eq 8, 3) := by decide +kernel
theorem dX7_askOf_218 : decode cX7_askOf 218 = .ok (.iload 6, 2) := by decide +kernel
theorem dX7_askOf_220 : decode cX7_askOf 220 = .ok (.goto 5, 3) := by decide +kernel
theorem dX7_askOf_223 : decode cX7_askOf 223 = .ok (.iload 4, 2) := by decide +kernel
theorem dX7_askOf_225 : decode cX7_askOf 225 = .ok (.istore 4, 2) := by decide +kernel
theorem dX7_askOf_227 : decode cX7_askOf 227 = .ok (.iload 8, 2) := by decide +kernel
theorem dX7_askOf_229 : decode cX7_askOf 229 = .ok (.ifCond .eq 8, 3) := by decide +kernel
theorem dX7_askOf_232 : decode cX7_askOf 232 = .ok (.iload 7, 2) := by decide +kernel
theorem dX7_askOf_234 : decode cX7_askOf 234 = .ok (.goto 5, 3) := by decide +kernel
theorem dX7_askOf_237 : decode cX7_askOf 237 = .ok (.iload 5, 2) := by decide +kernel
theorem dX7_askOf_239 : decode cX7_askOf 239 = .ok (.istore 5, 2) := by decide +kernel
theorem dX7_askOf_241 : decode cX7_askOf 241 = .ok (.iinc 6 1, 3) := by decide +kernel
theorem dX7_askOf_244 : decode cX7_askOf 244 = .ok (.goto (-99), 3) := by decide +kernel
theorem dX7_askOf_247 : decode cX7_askOf 247 = .ok (.iload 4, 2) := by decide +kernel
theorem dX7_askOf_249 : decode cX7_askOf 249 = .ok (.ireturn, 1) := by decide +kernel
theorem dX7_ask_0 : decode cX7_ask 0 = .ok (.aload_n 0, 1) := by decide +kernel
theorem dX7_ask_1 : decode cX7_ask 1 = .ok (.invokevirtual 200, 3) := by decide +kernel
theorem dX7_ask_4 : decode cX7_ask 4 = .ok (.aload_n 0, 1) := by decide +kernel
theorem dX7_ask_5 : decode cX7_ask 5 = .ok (.iload_n 1, 1) := by decide +kernel
theorem dX7_ask_6 : decode cX7_ask 6 = .ok (.invokevirtual 136, 3) := by decide +kernel
theorem dX7_ask_9 : decode cX7_ask 9 = .ok (.ifCond .eq 11, 3) := by decide +kernel
theorem dX7_ask_12 : decode cX7_ask 12 = .ok (.aload_n 0, 1) := by decide +kernel
theorem dX7_ask_13 : decode cX7_ask 13 = .ok (.iload_n 1, 1) := by decide +kernel
theorem dX7_ask_14 : decode cX7_ask 14 = .ok (.invokevirtual 259, 3) := by decide +kernel
theorem dX7_ask_17 : decode cX7_ask 17 = .ok (.goto 5, 3) := by decide +kernel
theorem dX7_ask_20 : decode cX7_ask 20 = .ok (.bipush (-2), 2) := by decide +kernel
theorem dX7_ask_22 : decode cX7_ask 22 = .ok (.ireturn, 1) := by decide +kernel
theorem dX7_chillOf_0 : decode cX7_chillOf 0 = .ok (.lconst 0, 1) := by decide +kernel
theorem dX7_chillOf_1 : decode cX7_chillOf 1 = .ok (.lstore 5, 2) := by decide +kernel
theorem dX7_chillOf_3 : decode cX7_chillOf 3 = .ok (.iconst 0, 1) := by decide +kernel
theorem dX7_chillOf_4 : decode cX7_chillOf 4 = .ok (.istore 7, 2) := by decide +kernel
theorem dX7_chillOf_6 : decode cX7_chillOf 6 = .ok (.iload 7, 2) := by decide +kernel
theorem dX7_chillOf_8 : decode cX7_chillOf 8 = .ok (.iconst 2, 1) := by decide +kernel
theorem dX7_chillOf_9 : decode cX7_chillOf 9 = .ok (.iload_n 2, 1) := by decide +kernel
theorem dX7_chillOf_10 : decode cX7_chillOf 10 = .ok (.ishl, 1) := by decide +kernel
theorem dX7_chillOf_11 : decode cX7_chillOf 11 = .ok (.if_icmp .ge 79, 3) := by decide +kernel
theorem dX7_chillOf_14 : decode cX7_chillOf 14 = .ok (.aload_n 0, 1) := by decide +kernel
theorem dX7_chillOf_15 : decode cX7_chillOf 15 = .ok (.iload 7, 2) := by decide +kernel
theorem dX7_chillOf_17 : decode cX7_chillOf 17 = .ok (.putfield 73, 3) := by decide +kernel
theorem dX7_chillOf_20 : decode cX7_chillOf 20 = .ok (.aload_n 0, 1) := by decide +kernel
theorem dX7_chillOf_21 : decode cX7_chillOf 21 = .ok (.invokevirtual 194, 3) := by decide +kernel
theorem dX7_chillOf_24 : decode cX7_chillOf 24 = .ok (.aload_n 0, 1) := by decide +kernel
theorem dX7_chillOf_25 : decode cX7_chillOf 25 = .ok (.getfield 55, 3) := by decide +kernel
theorem dX7_chillOf_28 : decode cX7_chillOf 28 = .ok (.iload_n 3, 1) := by decide +kernel
theorem dX7_chillOf_29 : decode cX7_chillOf 29 = .ok (.iaload, 1) := by decide +kernel
theorem dX7_chillOf_30 : decode cX7_chillOf 30 = .ok (.iconst (-1), 1) := by decide +kernel
theorem dX7_chillOf_31 : decode cX7_chillOf 31 = .ok (.if_icmp .eq 53, 3) := by decide +kernel
theorem dX7_chillOf_34 : decode cX7_chillOf 34 = .ok (.lconst 1, 1) := by decide +kernel
theorem dX7_chillOf_35 : decode cX7_chillOf 35 = .ok (.lstore 8, 2) := by decide +kernel
theorem dX7_chillOf_37 : decode cX7_chillOf 37 = .ok (.iconst 0, 1) := by decide +kernel
theorem dX7_chillOf_38 : decode cX7_chillOf 38 = .ok (.istore 10, 2) := by decide +kernel
theorem dX7_chillOf_40 : decode cX7_chillOf 40 = .ok (.iload 10, 2) := by decide +kernel
theorem dX7_chillOf_42 : decode cX7_chillOf 42 = .ok (.iload_n 2, 1) := by decide +kernel
theorem dX7_chillOf_43 : decode cX7_chillOf 43 = .ok (.if_icmp .gt 34, 3) := by decide +kernel
theorem dX7_chillOf_46 : decode cX7_chillOf 46 = .ok (.lload 8, 2) := by decide +kernel
theorem dX7_chillOf_48 : decode cX7_chillOf 48 = .ok (.iload 7, 2) := by decide +kernel
theorem dX7_chillOf_50 : decode cX7_chillOf 50 = .ok (.iload 10, 2) := by decide +kernel
theorem dX7_chillOf_52 : decode cX7_chillOf 52 = .ok (.invokestatic 154, 3) := by decide +kernel
theorem dX7_chillOf_55 : decode cX7_chillOf 55 = .ok (.ifCond .eq 8, 3) := by decide +kernel
theorem dX7_chillOf_58 : decode cX7_chillOf 58 = .ok (.iload_n 1, 1) := by decide +kernel
theorem dX7_chillOf_59 : decode cX7_chillOf 59 = .ok (.i2l, 1) := by decide +kernel
theorem dX7_chillOf_60 : decode cX7_chillOf 60 = .ok (.goto 8, 3) := by decide +kernel
theorem dX7_chillOf_63 : decode cX7_chillOf 63 = .ok (.bipush 16, 2) := by decide +kernel
theorem dX7_chillOf_65 : decode cX7_chillOf 65 = .ok (.iload_n 1, 1) := by decide +kernel
theorem dX7_chillOf_66 : decode cX7_chillOf 66 = .ok (.isub, 1) := by decide +kernel
theorem dX7_chillOf_67 : decode cX7_chillOf 67 = .ok (.i2l, 1) := by decide +kernel
theorem dX7_chillOf_68 : decode cX7_chillOf 68 = .ok (.lmul, 1) := by decide +kernel
theorem dX7_chillOf_69 : decode cX7_chillOf 69 = .ok (.lstore 8, 2) := by decide +kernel
theorem dX7_chillOf_71 : decode cX7_chillOf 71 = .ok (.iinc 10 1, 3) := by decide +kernel
theorem dX7_chillOf_74 : decode cX7_chillOf 74 = .ok (.goto (-34), 3) := by decide +kernel
theorem dX7_chillOf_77 : decode cX7_chillOf 77 = .ok (.lload 5, 2) := by decide +kernel
theorem dX7_chillOf_79 : decode cX7_chillOf 79 = .ok (.lload 8, 2) := by decide +kernel
theorem dX7_chillOf_81 : decode cX7_chillOf 81 = .ok (.ladd, 1) := by decide +kernel
theorem dX7_chillOf_82 : decode cX7_chillOf 82 = .ok (.lstore 5, 2) := by decide +kernel
theorem dX7_chillOf_84 : decode cX7_chillOf 84 = .ok (.iinc 7 1, 3) := by decide +kernel
theorem dX7_chillOf_87 : decode cX7_chillOf 87 = .ok (.goto (-81), 3) := by decide +kernel
theorem dX7_chillOf_90 : decode cX7_chillOf 90 = .ok (.aload_n 0, 1) := by decide +kernel
theorem dX7_chillOf_91 : decode cX7_chillOf 91 = .ok (.iconst (-1), 1) := by decide +kernel
theorem dX7_chillOf_92 : decode cX7_chillOf 92 = .ok (.putfield 73, 3) := by decide +kernel
theorem dX7_chillOf_95 : decode cX7_chillOf 95 = .ok (.lload 5, 2) := by decide +kernel
theorem dX7_chillOf_97 : decode cX7_chillOf 97 = .ok (.lconst 1, 1) := by decide +kernel
theorem dX7_chillOf_98 : decode cX7_chillOf 98 = .ok (.iconst 4, 1) := by decide +kernel
theorem dX7_chillOf_99 : decode cX7_chillOf 99 = .ok (.iload_n 2, 1) := by decide +kernel
theorem dX7_chillOf_100 : decode cX7_chillOf 100 = .ok (.iconst 1, 1) := by decide +kernel
theorem dX7_chillOf_101 : decode cX7_chillOf 101 = .ok (.iadd, 1) := by decide +kernel
theorem dX7_chillOf_102 : decode cX7_chillOf 102 = .ok (.imul, 1) := by decide +kernel
theorem dX7_chillOf_103 : decode cX7_chillOf 103 = .ok (.lshl, 1) := by decide +kernel
theorem dX7_chillOf_104 : decode cX7_chillOf 104 = .ok (.iload 4, 2) := by decide +kernel
theorem dX7_chillOf_106 : decode cX7_chillOf 106 = .ok (.invokestatic 262, 3) := by decide +kernel
theorem dX7_chillOf_109 : decode cX7_chillOf 109 = .ok (.lreturn, 1) := by decide +kernel
theorem dX7_chill_0 : decode cX7_chill 0 = .ok (.aload_n 0, 1) := by decide +kernel
theorem dX7_chill_1 : decode cX7_chill 1 = .ok (.invokevirtual 200, 3) := by decide +kernel
theorem dX7_chill_4 : decode cX7_chill 4 = .ok (.iload_n 1, 1) := by decide +kernel
theorem dX7_chill_5 : decode cX7_chill 5 = .ok (.i2l, 1) := by decide +kernel
theorem dX7_chill_6 : decode cX7_chill 6 = .ok (.lconst 0, 1) := by decide +kernel
theorem dX7_chill_7 : decode cX7_chill 7 = .ok (.ldc2_w 266, 3) := by decide +kernel
theorem dX7_chill_10 : decode cX7_chill 10 = .ok (.invokestatic 79, 3) := by decide +kernel
theorem dX7_chill_13 : decode cX7_chill 13 = .ok (.ifCond .eq 43, 3) := by decide +kernel
theorem dX7_chill_16 : decode cX7_chill 16 = .ok (.iload_n 2, 1) := by decide +kernel
theorem dX7_chill_17 : decode cX7_chill 17 = .ok (.i2l, 1) := by decide +kernel
theorem dX7_chill_18 : decode cX7_chill 18 = .ok (.lconst 0, 1) := by decide +kernel
theorem dX7_chill_19 : decode cX7_chill 19 = .ok (.ldc2_w 268, 3) := by decide +kernel
theorem dX7_chill_22 : decode cX7_chill 22 = .ok (.invokestatic 79, 3) := by decide +kernel
theorem dX7_chill_25 : decode cX7_chill 25 = .ok (.ifCond .eq 31, 3) := by decide +kernel
theorem dX7_chill_28 : decode cX7_chill 28 = .ok (.aload_n 0, 1) := by decide +kernel
theorem dX7_chill_29 : decode cX7_chill 29 = .ok (.iload_n 3, 1) := by decide +kernel
theorem dX7_chill_30 : decode cX7_chill 30 = .ok (.invokevirtual 139, 3) := by decide +kernel
theorem dX7_chill_33 : decode cX7_chill 33 = .ok (.ifCond .eq 23, 3) := by decide +kernel
theorem dX7_chill_36 : decode cX7_chill 36 = .ok (.iload 4, 2) := by decide +kernel
theorem dX7_chill_38 : decode cX7_chill 38 = .ok (.invokestatic 107, 3) := by decide +kernel
theorem dX7_chill_41 : decode cX7_chill 41 = .ok (.ifCond .eq 15, 3) := by decide +kernel
theorem dX7_chill_44 : decode cX7_chill 44 = .ok (.aload_n 0, 1) := by decide +kernel
theorem dX7_chill_45 : decode cX7_chill 45 = .ok (.iload_n 1, 1) := by decide +kernel
theorem dX7_chill_46 : decode cX7_chill 46 = .ok (.iload_n 2, 1) := by decide +kernel
theorem dX7_chill_47 : decode cX7_chill 47 = .ok (.iload_n 3, 1) := by decide +kernel
theorem dX7_chill_48 : decode cX7_chill 48 = .ok (.iload 4, 2) := by decide +kernel
theorem dX7_chill_50 : decode cX7_chill 50 = .ok (.invokevirtual 270, 3) := by decide +kernel
theorem dX7_chill_53 : decode cX7_chill 53 = .ok (.goto 8, 3) := by decide +kernel
theorem dX7_chill_56 : decode cX7_chill 56 = .ok (.bipush (-2), 2) := by decide +kernel
theorem dX7_chill_58 : decode cX7_chill 58 = .ok (.invokestatic 274, 3) := by decide +kernel
theorem dX7_chill_61 : decode cX7_chill 61 = .ok (.lreturn, 1) := by decide +kernel
theorem dX7_lot_0 : decode cX7_lot 0 = .ok (.aload_n 0, 1) := by decide +kernel
theorem dX7_lot_1 : decode cX7_lot 1 = .ok (.ldc_w 278, 3) := by decide +kernel
theorem dX7_lot_4 : decode cX7_lot 4 = .ok (.aload_n 0, 1) := by decide +kernel
theorem dX7_lot_5 : decode cX7_lot 5 = .ok (.getfield 279, 3) := by decide +kernel
theorem dX7_lot_8 : decode cX7_lot 8 = .ok (.imul, 1) := by decide +kernel
theorem dX7_lot_9 : decode cX7_lot 9 = .ok (.sipush 12345, 3) := by decide +kernel
theorem dX7_lot_12 : decode cX7_lot 12 = .ok (.iadd, 1) := by decide +kernel
theorem dX7_lot_13 : decode cX7_lot 13 = .ok (.putfield 279, 3) := by decide +kernel
theorem dX7_lot_16 : decode cX7_lot 16 = .ok (.aload_n 0, 1) := by decide +kernel
theorem dX7_lot_17 : decode cX7_lot 17 = .ok (.getfield 279, 3) := by decide +kernel
theorem dX7_lot_20 : decode cX7_lot 20 = .ok (.bipush 16, 2) := by decide +kernel
theorem dX7_lot_22 : decode cX7_lot 22 = .ok (.iushr, 1) := by decide +kernel
theorem dX7_lot_23 : decode cX7_lot 23 = .ok (.iload_n 1, 1) := by decide +kernel
theorem dX7_lot_24 : decode cX7_lot 24 = .ok (.irem, 1) := by decide +kernel
theorem dX7_lot_25 : decode cX7_lot 25 = .ok (.ireturn, 1) := by decide +kernel
theorem dX7_yearOf_0 : decode cX7_yearOf 0 = .ok (.aload_n 0, 1) := by decide +kernel
theorem dX7_yearOf_1 : decode cX7_yearOf 1 = .ok (.iload_n 1, 1) := by decide +kernel
theorem dX7_yearOf_2 : decode cX7_yearOf 2 = .ok (.putfield 279, 3) := by decide +kernel
theorem dX7_yearOf_5 : decode cX7_yearOf 5 = .ok (.iconst 0, 1) := by decide +kernel
theorem dX7_yearOf_6 : decode cX7_yearOf 6 = .ok (.istore_n 3, 1) := by decide +kernel
theorem dX7_yearOf_7 : decode cX7_yearOf 7 = .ok (.iload_n 3, 1) := by decide +kernel
theorem dX7_yearOf_8 : decode cX7_yearOf 8 = .ok (.aload_n 0, 1) := by decide +kernel
theorem dX7_yearOf_9 : decode cX7_yearOf 9 = .ok (.getfield 118, 3) := by decide +kernel
theorem dX7_yearOf_12 : decode cX7_yearOf 12 = .ok (.if_icmp .ge 25, 3) := by decide +kernel
theorem dX7_yearOf_15 : decode cX7_yearOf 15 = .ok (.aload_n 0, 1) := by decide +kernel
theorem dX7_yearOf_16 : decode cX7_yearOf 16 = .ok (.getfield 28, 3) := by decide +kernel
theorem dX7_yearOf_19 : decode cX7_yearOf 19 = .ok (.iconst 2, 1) := by decide +kernel
theorem dX7_yearOf_20 : decode cX7_yearOf 20 = .ok (.iload_n 3, 1) := by decide +kernel
theorem dX7_yearOf_21 : decode cX7_yearOf 21 = .ok (.imul, 1) := by decide +kernel
theorem dX7_yearOf_22 : decode cX7_yearOf 22 = .ok (.iconst 1, 1) := by decide +kernel
theorem dX7_yearOf_23 : decode cX7_yearOf 23 = .ok (.iadd, 1) := by decide +kernel
theorem dX7_yearOf_24 : decode cX7_yearOf 24 = .ok (.aload_n 0, 1) := by decide +kernel
theorem dX7_yearOf_25 : decode cX7_yearOf 25 = .ok (.bipush 30, 2) := by decide +kernel
theorem dX7_yearOf_27 : decode cX7_yearOf 27 = .ok (.invokevirtual 282, 3) := by decide +kernel
theorem dX7_yearOf_30 : decode cX7_yearOf 30 = .ok (.iastore, 1) := by decide +kernel
theorem dX7_yearOf_31 : decode cX7_yearOf 31 = .ok (.iinc 3 1, 3) := by decide +kernel
theorem dX7_yearOf_34 : decode cX7_yearOf 34 = .ok (.goto (-27), 3) := by decide +kernel
theorem dX7_yearOf_37 : decode cX7_yearOf 37 = .ok (.aload_n 0, 1) := by decide +kernel
theorem dX7_yearOf_38 : decode cX7_yearOf 38 = .ok (.invokevirtual 194, 3) := by decide +kernel
theorem dX7_yearOf_41 : decode cX7_yearOf 41 = .ok (.aload_n 0, 1) := by decide +kernel
theorem dX7_yearOf_42 : decode cX7_yearOf 42 = .ok (.invokevirtual 127, 3) := by decide +kernel
theorem dX7_yearOf_45 : decode cX7_yearOf 45 = .ok (.pop, 1) := by decide +kernel
theorem dX7_yearOf_46 : decode cX7_yearOf 46 = .ok (.iload_n 2, 1) := by decide +kernel
theorem dX7_yearOf_47 : decode cX7_yearOf 47 = .ok (.ifCond .ne 12, 3) := by decide +kernel
theorem dX7_yearOf_50 : decode cX7_yearOf 50 = .ok (.aload_n 0, 1) := by decide +kernel
theorem dX7_yearOf_51 : decode cX7_yearOf 51 = .ok (.bipush 39, 2) := by decide +kernel
theorem dX7_yearOf_53 : decode cX7_yearOf 53 = .ok (.invokevirtual 212, 3) := by decide +kernel
theorem dX7_yearOf_56 : decode cX7_yearOf 56 = .ok (.goto 10, 3) := by decide +kernel
theorem dX7_yearOf_59 : decode cX7_yearOf 59 = .ok (.aload_n 0, 1) := by decide +kernel
theorem dX7_yearOf_60 : decode cX7_yearOf 60 = .ok (.invokevirtual 215, 3) := by decide +kernel
theorem dX7_yearOf_63 : decode cX7_yearOf 63 = .ok (.invokestatic 235, 3) := by decide +kernel
theorem dX7_yearOf_66 : decode cX7_yearOf 66 = .ok (.ireturn, 1) := by decide +kernel
theorem dX7_year_0 : decode cX7_year 0 = .ok (.aload_n 0, 1) := by decide +kernel
theorem dX7_year_1 : decode cX7_year 1 = .ok (.invokevirtual 200, 3) := by decide +kernel
theorem dX7_year_4 : decode cX7_year 4 = .ok (.iload_n 2, 1) := by decide +kernel
theorem dX7_year_5 : decode cX7_year 5 = .ok (.invokestatic 107, 3) := by decide +kernel
theorem dX7_year_8 : decode cX7_year 8 = .ok (.ifCond .eq 12, 3) := by decide +kernel
theorem dX7_year_11 : decode cX7_year 11 = .ok (.aload_n 0, 1) := by decide +kernel
theorem dX7_year_12 : decode cX7_year 12 = .ok (.iload_n 1, 1) := by decide +kernel
theorem dX7_year_13 : decode cX7_year 13 = .ok (.iload_n 2, 1) := by decide +kernel
theorem dX7_year_14 : decode cX7_year 14 = .ok (.invokevirtual 285, 3) := by decide +kernel
theorem dX7_year_17 : decode cX7_year 17 = .ok (.goto 5, 3) := by decide +kernel
theorem dX7_year_20 : decode cX7_year 20 = .ok (.bipush (-2), 2) := by decide +kernel
theorem dX7_year_22 : decode cX7_year 22 = .ok (.ireturn, 1) := by decide +kernel
theorem dX7_write_0 : decode cX7_write 0 = .ok (.iload_n 1, 1) := by decide +kernel
theorem dX7_write_1 : decode cX7_write 1 = .ok (.invokestatic 144, 3) := by decide +kernel
theorem dX7_write_4 : decode cX7_write 4 = .ok (.ifCond .eq 10, 3) := by decide +kernel
theorem dX7_write_7 : decode cX7_write 7 = .ok (.iload_n 2, 1) := by decide +kernel
theorem dX7_write_8 : decode cX7_write 8 = .ok (.invokestatic 88, 3) := by decide +kernel
theorem dX7_write_11 : decode cX7_write 11 = .ok (.ifCond .ne 6, 3) := by decide +kernel
theorem dX7_write_14 : decode cX7_write 14 = .ok (.bipush (-2), 2) := by decide +kernel
theorem dX7_write_16 : decode cX7_write 16 = .ok (.ireturn, 1) := by decide +kernel
theorem dX7_write_17 : decode cX7_write 17 = .ok (.aload_n 0, 1) := by decide +kernel
theorem dX7_write_18 : decode cX7_write 18 = .ok (.getfield 7, 3) := by decide +kernel
theorem dX7_write_21 : decode cX7_write 21 = .ok (.iload_n 2, 1) := by decide +kernel
theorem dX7_write_22 : decode cX7_write 22 = .ok (.iaload, 1) := by decide +kernel
theorem dX7_write_23 : decode cX7_write 23 = .ok (.ifCond .ge 9, 3) := by decide +kernel
theorem dX7_write_26 : decode cX7_write 26 = .ok (.aload_n 0, 1) := by decide +kernel
theorem dX7_write_27 : decode cX7_write 27 = .ok (.iconst 1, 1) := by decide +kernel
theorem dX7_write_28 : decode cX7_write 28 = .ok (.invokevirtual 94, 3) := by decide +kernel
theorem dX7_write_31 : decode cX7_write 31 = .ok (.ireturn, 1) := by decide +kernel
theorem dX7_write_32 : decode cX7_write 32 = .ok (.aload_n 0, 1) := by decide +kernel
theorem dX7_write_33 : decode cX7_write 33 = .ok (.invokevirtual 200, 3) := by decide +kernel
theorem dX7_write_36 : decode cX7_write 36 = .ok (.aload_n 0, 1) := by decide +kernel
theorem dX7_write_37 : decode cX7_write 37 = .ok (.getfield 13, 3) := by decide +kernel
theorem dX7_write_40 : decode cX7_write 40 = .ok (.iload_n 2, 1) := by decide +kernel
theorem dX7_write_41 : decode cX7_write 41 = .ok (.iaload, 1) := by decide +kernel
theorem dX7_write_42 : decode cX7_write 42 = .ok (.aload_n 0, 1) := by decide +kernel
theorem dX7_write_43 : decode cX7_write 43 = .ok (.getfield 118, 3) := by decide +kernel
theorem dX7_write_46 : decode cX7_write 46 = .ok (.invokestatic 288, 3) := by decide +kernel
theorem dX7_write_49 : decode cX7_write 49 = .ok (.istore_n 3, 1) := by decide +kernel
theorem dX7_write_50 : decode cX7_write 50 = .ok (.iconst 0, 1) := by decide +kernel
theorem dX7_write_51 : decode cX7_write 51 = .ok (.istore 4, 2) := by decide +kernel
theorem dX7_write_53 : decode cX7_write 53 = .ok (.iload 4, 2) := by decide +kernel
theorem dX7_write_55 : decode cX7_write 55 = .ok (.iload_n 3, 1) := by decide +kernel
theorem dX7_write_56 : decode cX7_write 56 = .ok (.if_icmp .ge 37, 3) := by decide +kernel
theorem dX7_write_59 : decode cX7_write 59 = .ok (.aload_n 0, 1) := by decide +kernel
theorem dX7_write_60 : decode cX7_write 60 = .ok (.getfield 16, 3) := by decide +kernel
theorem dX7_write_63 : decode cX7_write 63 = .ok (.bipush 60, 2) := by decide +kernel
theorem dX7_write_65 : decode cX7_write 65 = .ok (.iload_n 2, 1) := by decide +kernel
theorem dX7_write_66 : decode cX7_write 66 = .ok (.imul, 1) := by decide +kernel
theorem dX7_write_67 : decode cX7_write 67 = .ok (.iload 4, 2) := by decide +kernel
theorem dX7_write_69 : decode cX7_write 69 = .ok (.iadd, 1) := by decide +kernel
theorem dX7_write_70 : decode cX7_write 70 = .ok (.aload_n 0, 1) := by decide +kernel
theorem dX7_write_71 : decode cX7_write 71 = .ok (.getfield 7, 3) := by decide +kernel
theorem dX7_write_74 : decode cX7_write 74 = .ok (.iload_n 2, 1) := by decide +kernel
theorem dX7_write_75 : decode cX7_write 75 = .ok (.iaload, 1) := by decide +kernel
theorem dX7_write_76 : decode cX7_write 76 = .ok (.aload_n 0, 1) := by decide +kernel
theorem dX7_write_77 : decode cX7_write 77 = .ok (.iload_n 1, 1) := by decide +kernel
theorem dX7_write_78 : decode cX7_write 78 = .ok (.iload 4, 2) := by decide +kernel
theorem dX7_write_80 : decode cX7_write 80 = .ok (.invokevirtual 203, 3) := by decide +kernel
theorem dX7_write_83 : decode cX7_write 83 = .ok (.invokestatic 102, 3) := by decide +kernel
theorem dX7_write_86 : decode cX7_write 86 = .ok (.iastore, 1) := by decide +kernel
theorem dX7_write_87 : decode cX7_write 87 = .ok (.iinc 4 1, 3) := by decide +kernel
theorem dX7_write_90 : decode cX7_write 90 = .ok (.goto (-37), 3) := by decide +kernel
theorem dX7_write_93 : decode cX7_write 93 = .ok (.iload_n 3, 1) := by decide +kernel
theorem dX7_write_94 : decode cX7_write 94 = .ok (.ireturn, 1) := by decide +kernel
theorem dX7_count_0 : decode cX7_count 0 = .ok (.aload_n 0, 1) := by decide +kernel
theorem dX7_count_1 : decode cX7_count 1 = .ok (.invokevirtual 200, 3) := by decide +kernel
theorem dX7_count_4 : decode cX7_count 4 = .ok (.iload_n 1, 1) := by decide +kernel
theorem dX7_count_5 : decode cX7_count 5 = .ok (.tableswitch 106 0 8 #[51, 56, 61, 61, 70, 84, 89, 96, 101], 51) := by decide +kernel
theorem dX7_count_56 : decode cX7_count 56 = .ok (.aload_n 0, 1) := by decide +kernel
theorem dX7_count_57 : decode cX7_count 57 = .ok (.getfield 118, 3) := by decide +kernel
theorem dX7_count_60 : decode cX7_count 60 = .ok (.ireturn, 1) := by decide +kernel
theorem dX7_count_61 : decode cX7_count 61 = .ok (.aload_n 0, 1) := by decide +kernel
theorem dX7_count_62 : decode cX7_count 62 = .ok (.getfield 124, 3) := by decide +kernel
theorem dX7_count_65 : decode cX7_count 65 = .ok (.ireturn, 1) := by decide +kernel
theorem dX7_count_66 : decode cX7_count 66 = .ok (.aload_n 0, 1) := by decide +kernel
theorem dX7_count_67 : decode cX7_count 67 = .ok (.getfield 25, 3) := by decide +kernel
theorem dX7_count_70 : decode cX7_count 70 = .ok (.iload_n 1, 1) := by decide +kernel
theorem dX7_count_71 : decode cX7_count 71 = .ok (.iconst 2, 1) := by decide +kernel
theorem dX7_count_72 : decode cX7_count 72 = .ok (.isub, 1) := by decide +kernel
theorem dX7_count_73 : decode cX7_count 73 = .ok (.iaload, 1) := by decide +kernel
theorem dX7_count_74 : decode cX7_count 74 = .ok (.ireturn, 1) := by decide +kernel
theorem dX7_count_75 : decode cX7_count 75 = .ok (.aload_n 0, 1) := by decide +kernel
theorem dX7_count_76 : decode cX7_count 76 = .ok (.getfield 34, 3) := by decide +kernel
theorem dX7_count_79 : decode cX7_count 79 = .ok (.iconst 0, 1) := by decide +kernel
theorem dX7_count_80 : decode cX7_count 80 = .ok (.iaload, 1) := by decide +kernel
theorem dX7_count_81 : decode cX7_count 81 = .ok (.aload_n 0, 1) := by decide +kernel
theorem dX7_count_82 : decode cX7_count 82 = .ok (.getfield 34, 3) := by decide +kernel
theorem dX7_count_85 : decode cX7_count 85 = .ok (.iconst 1, 1) := by decide +kernel
theorem dX7_count_86 : decode cX7_count 86 = .ok (.iaload, 1) := by decide +kernel
theorem dX7_count_87 : decode cX7_count 87 = .ok (.iadd, 1) := by decide +kernel
theorem dX7_count_88 : decode cX7_count 88 = .ok (.ireturn, 1) := by decide +kernel
theorem dX7_count_89 : decode cX7_count 89 = .ok (.aload_n 0, 1) := by decide +kernel
theorem dX7_count_90 : decode cX7_count 90 = .ok (.getfield 149, 3) := by decide +kernel
theorem dX7_count_93 : decode cX7_count 93 = .ok (.ireturn, 1) := by decide +kernel
theorem dX7_count_94 : decode cX7_count 94 = .ok (.aload_n 0, 1) := by decide +kernel
theorem dX7_count_95 : decode cX7_count 95 = .ok (.bipush 39, 2) := by decide +kernel
theorem dX7_count_97 : decode cX7_count 97 = .ok (.invokevirtual 212, 3) := by decide +kernel
theorem dX7_count_100 : decode cX7_count 100 = .ok (.ireturn, 1) := by decide +kernel
theorem dX7_count_101 : decode cX7_count 101 = .ok (.aload_n 0, 1) := by decide +kernel
theorem dX7_count_102 : decode cX7_count 102 = .ok (.getfield 246, 3) := by decide +kernel
theorem dX7_count_105 : decode cX7_count 105 = .ok (.ireturn, 1) := by decide +kernel
theorem dX7_count_106 : decode cX7_count 106 = .ok (.aload_n 0, 1) := by decide +kernel
theorem dX7_count_107 : decode cX7_count 107 = .ok (.getfield 83, 3) := by decide +kernel
theorem dX7_count_110 : decode cX7_count 110 = .ok (.ireturn, 1) := by decide +kernel
theorem dX7_count_111 : decode cX7_count 111 = .ok (.bipush (-2), 2) := by decide +kernel
theorem dX7_count_113 : decode cX7_count 113 = .ok (.ireturn, 1) := by decide +kernel
theorem dX7_tellsHead_0 : decode cX7_tellsHead 0 = .ok (.aload_n 0, 1) := by decide +kernel
theorem dX7_tellsHead_1 : decode cX7_tellsHead 1 = .ok (.invokevirtual 194, 3) := by decide +kernel
theorem dX7_tellsHead_4 : decode cX7_tellsHead 4 = .ok (.ldc2_w 291, 3) := by decide +kernel
theorem dX7_tellsHead_7 : decode cX7_tellsHead 7 = .ok (.lload_n 1, 1) := by decide +kernel
theorem dX7_tellsHead_8 : decode cX7_tellsHead 8 = .ok (.lmul, 1) := by decide +kernel
theorem dX7_tellsHead_9 : decode cX7_tellsHead 9 = .ok (.aload_n 0, 1) := by decide +kernel
theorem dX7_tellsHead_10 : decode cX7_tellsHead 10 = .ok (.getfield 28, 3) := by decide +kernel
theorem dX7_tellsHead_13 : decode cX7_tellsHead 13 = .ok (.iconst 2, 1) := by decide +kernel
theorem dX7_tellsHead_14 : decode cX7_tellsHead 14 = .ok (.iload_n 3, 1) := by decide +kernel
theorem dX7_tellsHead_15 : decode cX7_tellsHead 15 = .ok (.imul, 1) := by decide +kernel
theorem dX7_tellsHead_16 : decode cX7_tellsHead 16 = .ok (.iaload, 1) := by decide +kernel
theorem dX7_tellsHead_17 : decode cX7_tellsHead 17 = .ok (.i2l, 1) := by decide +kernel
theorem dX7_tellsHead_18 : decode cX7_tellsHead 18 = .ok (.ladd, 1) := by decide +kernel
theorem dX7_tellsHead_19 : decode cX7_tellsHead 19 = .ok (.lstore 4, 2) := by decide +kernel
theorem dX7_tellsHead_21 : decode cX7_tellsHead 21 = .ok (.ldc2_w 291, 3) := by decide +kernel
theorem dX7_tellsHead_24 : decode cX7_tellsHead 24 = .ok (.lload 4, 2) := by decide +kernel
theorem dX7_tellsHead_26 : decode cX7_tellsHead 26 = .ok (.lmul, 1) := by decide +kernel
theorem dX7_tellsHead_27 : decode cX7_tellsHead 27 = .ok (.aload_n 0, 1) := by decide +kernel
theorem dX7_tellsHead_28 : decode cX7_tellsHead 28 = .ok (.getfield 28, 3) := by decide +kernel
theorem dX7_tellsHead_31 : decode cX7_tellsHead 31 = .ok (.iconst 2, 1) := by decide +kernel
theorem dX7_tellsHead_32 : decode cX7_tellsHead 32 = .ok (.iload_n 3, 1) := by decide +kernel
theorem dX7_tellsHead_33 : decode cX7_tellsHead 33 = .ok (.imul, 1) := by decide +kernel
theorem dX7_tellsHead_34 : decode cX7_tellsHead 34 = .ok (.iconst 1, 1) := by decide +kernel
theorem dX7_tellsHead_35 : decode cX7_tellsHead 35 = .ok (.iadd, 1) := by decide +kernel
theorem dX7_tellsHead_36 : decode cX7_tellsHead 36 = .ok (.iaload, 1) := by decide +kernel
theorem dX7_tellsHead_37 : decode cX7_tellsHead 37 = .ok (.i2l, 1) := by decide +kernel
theorem dX7_tellsHead_38 : decode cX7_tellsHead 38 = .ok (.ladd, 1) := by decide +kernel
theorem dX7_tellsHead_39 : decode cX7_tellsHead 39 = .ok (.lstore 4, 2) := by decide +kernel
theorem dX7_tellsHead_41 : decode cX7_tellsHead 41 = .ok (.ldc2_w 291, 3) := by decide +kernel
theorem dX7_tellsHead_44 : decode cX7_tellsHead 44 = .ok (.lload 4, 2) := by decide +kernel
theorem dX7_tellsHead_46 : decode cX7_tellsHead 46 = .ok (.lmul, 1) := by decide +kernel
theorem dX7_tellsHead_47 : decode cX7_tellsHead 47 = .ok (.aload_n 0, 1) := by decide +kernel
theorem dX7_tellsHead_48 : decode cX7_tellsHead 48 = .ok (.bipush 9, 2) := by decide +kernel
theorem dX7_tellsHead_50 : decode cX7_tellsHead 50 = .ok (.iload_n 3, 1) := by decide +kernel
theorem dX7_tellsHead_51 : decode cX7_tellsHead 51 = .ok (.invokevirtual 203, 3) := by decide +kernel
theorem dX7_tellsHead_54 : decode cX7_tellsHead 54 = .ok (.i2l, 1) := by decide +kernel
theorem dX7_tellsHead_55 : decode cX7_tellsHead 55 = .ok (.ladd, 1) := by decide +kernel
theorem dX7_tellsHead_56 : decode cX7_tellsHead 56 = .ok (.lstore 4, 2) := by decide +kernel
theorem dX7_tellsHead_58 : decode cX7_tellsHead 58 = .ok (.ldc2_w 291, 3) := by decide +kernel
theorem dX7_tellsHead_61 : decode cX7_tellsHead 61 = .ok (.lload 4, 2) := by decide +kernel
theorem dX7_tellsHead_63 : decode cX7_tellsHead 63 = .ok (.lmul, 1) := by decide +kernel
theorem dX7_tellsHead_64 : decode cX7_tellsHead 64 = .ok (.aload_n 0, 1) := by decide +kernel
theorem dX7_tellsHead_65 : decode cX7_tellsHead 65 = .ok (.bipush 39, 2) := by decide +kernel
theorem dX7_tellsHead_67 : decode cX7_tellsHead 67 = .ok (.iload_n 3, 1) := by decide +kernel
theorem dX7_tellsHead_68 : decode cX7_tellsHead 68 = .ok (.invokevirtual 203, 3) := by decide +kernel
theorem dX7_tellsHead_71 : decode cX7_tellsHead 71 = .ok (.i2l, 1) := by decide +kernel
theorem dX7_tellsHead_72 : decode cX7_tellsHead 72 = .ok (.ladd, 1) := by decide +kernel
theorem dX7_tellsHead_73 : decode cX7_tellsHead 73 = .ok (.lstore 4, 2) := by decide +kernel
theorem dX7_tellsHead_75 : decode cX7_tellsHead 75 = .ok (.iconst 0, 1) := by decide +kernel
theorem dX7_tellsHead_76 : decode cX7_tellsHead 76 = .ok (.istore 6, 2) := by decide +kernel
theorem dX7_tellsHead_78 : decode cX7_tellsHead 78 = .ok (.iload 6, 2) := by decide +kernel
theorem dX7_tellsHead_80 : decode cX7_tellsHead 80 = .ok (.iconst 3, 1) := by decide +kernel
theorem dX7_tellsHead_81 : decode cX7_tellsHead 81 = .ok (.if_icmp .ge 26, 3) := by decide +kernel
theorem dX7_tellsHead_84 : decode cX7_tellsHead 84 = .ok (.ldc2_w 291, 3) := by decide +kernel
theorem dX7_tellsHead_87 : decode cX7_tellsHead 87 = .ok (.lload 4, 2) := by decide +kernel
theorem dX7_tellsHead_89 : decode cX7_tellsHead 89 = .ok (.lmul, 1) := by decide +kernel
theorem dX7_tellsHead_90 : decode cX7_tellsHead 90 = .ok (.aload_n 0, 1) := by decide +kernel
theorem dX7_tellsHead_91 : decode cX7_tellsHead 91 = .ok (.iload_n 3, 1) := by decide +kernel
theorem dX7_tellsHead_92 : decode cX7_tellsHead 92 = .ok (.iload 6, 2) := by decide +kernel
theorem dX7_tellsHead_94 : decode cX7_tellsHead 94 = .ok (.invokevirtual 206, 3) := by decide +kernel
theorem dX7_tellsHead_97 : decode cX7_tellsHead 97 = .ok (.i2l, 1) := by decide +kernel
theorem dX7_tellsHead_98 : decode cX7_tellsHead 98 = .ok (.ladd, 1) := by decide +kernel
theorem dX7_tellsHead_99 : decode cX7_tellsHead 99 = .ok (.lstore 4, 2) := by decide +kernel
theorem dX7_tellsHead_101 : decode cX7_tellsHead 101 = .ok (.iinc 6 1, 3) := by decide +kernel
theorem dX7_tellsHead_104 : decode cX7_tellsHead 104 = .ok (.goto (-26), 3) := by decide +kernel
theorem dX7_tellsHead_107 : decode cX7_tellsHead 107 = .ok (.ldc2_w 291, 3) := by decide +kernel
theorem dX7_tellsHead_110 : decode cX7_tellsHead 110 = .ok (.lload 4, 2) := by decide +kernel
theorem dX7_tellsHead_112 : decode cX7_tellsHead 112 = .ok (.lmul, 1) := by decide +kernel
theorem dX7_tellsHead_113 : decode cX7_tellsHead 113 = .ok (.aload_n 0, 1) := by decide +kernel
theorem dX7_tellsHead_114 : decode cX7_tellsHead 114 = .ok (.iload_n 3, 1) := by decide +kernel
theorem dX7_tellsHead_115 : decode cX7_tellsHead 115 = .ok (.iconst 0, 1) := by decide +kernel
theorem dX7_tellsHead_116 : decode cX7_tellsHead 116 = .ok (.invokevirtual 238, 3) := by decide +kernel
theorem dX7_tellsHead_119 : decode cX7_tellsHead 119 = .ok (.i2l, 1) := by decide +kernel
theorem dX7_tellsHead_120 : decode cX7_tellsHead 120 = .ok (.ladd, 1) := by decide +kernel
theorem dX7_tellsHead_121 : decode cX7_tellsHead 121 = .ok (.lstore 4, 2) := by decide +kernel
theorem dX7_tellsHead_123 : decode cX7_tellsHead 123 = .ok (.ldc2_w 291, 3) := by decide +kernel
theorem dX7_tellsHead_126 : decode cX7_tellsHead 126 = .ok (.lload 4, 2) := by decide +kernel
theorem dX7_tellsHead_128 : decode cX7_tellsHead 128 = .ok (.lmul, 1) := by decide +kernel
theorem dX7_tellsHead_129 : decode cX7_tellsHead 129 = .ok (.aload_n 0, 1) := by decide +kernel
theorem dX7_tellsHead_130 : decode cX7_tellsHead 130 = .ok (.iload_n 3, 1) := by decide +kernel
theorem dX7_tellsHead_131 : decode cX7_tellsHead 131 = .ok (.iconst 1, 1) := by decide +kernel
theorem dX7_tellsHead_132 : decode cX7_tellsHead 132 = .ok (.invokevirtual 238, 3) := by decide +kernel
theorem dX7_tellsHead_135 : decode cX7_tellsHead 135 = .ok (.i2l, 1) := by decide +kernel
theorem dX7_tellsHead_136 : decode cX7_tellsHead 136 = .ok (.ladd, 1) := by decide +kernel
theorem dX7_tellsHead_137 : decode cX7_tellsHead 137 = .ok (.lstore 4, 2) := by decide +kernel
theorem dX7_tellsHead_139 : decode cX7_tellsHead 139 = .ok (.ldc2_w 291, 3) := by decide +kernel
theorem dX7_tellsHead_142 : decode cX7_tellsHead 142 = .ok (.lload 4, 2) := by decide +kernel
theorem dX7_tellsHead_144 : decode cX7_tellsHead 144 = .ok (.lmul, 1) := by decide +kernel
theorem dX7_tellsHead_145 : decode cX7_tellsHead 145 = .ok (.aload_n 0, 1) := by decide +kernel
theorem dX7_tellsHead_146 : decode cX7_tellsHead 146 = .ok (.iload_n 3, 1) := by decide +kernel
theorem dX7_tellsHead_147 : decode cX7_tellsHead 147 = .ok (.iconst 0, 1) := by decide +kernel
theorem dX7_tellsHead_148 : decode cX7_tellsHead 148 = .ok (.invokevirtual 256, 3) := by decide +kernel
theorem dX7_tellsHead_151 : decode cX7_tellsHead 151 = .ok (.i2l, 1) := by decide +kernel
theorem dX7_tellsHead_152 : decode cX7_tellsHead 152 = .ok (.ladd, 1) := by decide +kernel
theorem dX7_tellsHead_153 : decode cX7_tellsHead 153 = .ok (.lstore 4, 2) := by decide +kernel
theorem dX7_tellsHead_155 : decode cX7_tellsHead 155 = .ok (.ldc2_w 291, 3) := by decide +kernel
theorem dX7_tellsHead_158 : decode cX7_tellsHead 158 = .ok (.lload 4, 2) := by decide +kernel
theorem dX7_tellsHead_160 : decode cX7_tellsHead 160 = .ok (.lmul, 1) := by decide +kernel
theorem dX7_tellsHead_161 : decode cX7_tellsHead 161 = .ok (.aload_n 0, 1) := by decide +kernel
theorem dX7_tellsHead_162 : decode cX7_tellsHead 162 = .ok (.iload_n 3, 1) := by decide +kernel
theorem dX7_tellsHead_163 : decode cX7_tellsHead 163 = .ok (.iconst 1, 1) := by decide +kernel
theorem dX7_tellsHead_164 : decode cX7_tellsHead 164 = .ok (.invokevirtual 256, 3) := by decide +kernel
theorem dX7_tellsHead_167 : decode cX7_tellsHead 167 = .ok (.i2l, 1) := by decide +kernel
theorem dX7_tellsHead_168 : decode cX7_tellsHead 168 = .ok (.ladd, 1) := by decide +kernel
theorem dX7_tellsHead_169 : decode cX7_tellsHead 169 = .ok (.lstore 4, 2) := by decide +kernel
theorem dX7_tellsHead_171 : decode cX7_tellsHead 171 = .ok (.ldc2_w 291, 3) := by decide +kernel
theorem dX7_tellsHead_174 : decode cX7_tellsHead 174 = .ok (.lload 4, 2) := by decide +kernel
theorem dX7_tellsHead_176 : decode cX7_tellsHead 176 = .ok (.lmul, 1) := by decide +kernel
theorem dX7_tellsHead_177 : decode cX7_tellsHead 177 = .ok (.aload_n 0, 1) := by decide +kernel
theorem dX7_tellsHead_178 : decode cX7_tellsHead 178 = .ok (.iload_n 3, 1) := by decide +kernel
theorem dX7_tellsHead_179 : decode cX7_tellsHead 179 = .ok (.invokevirtual 259, 3) := by decide +kernel
theorem dX7_tellsHead_182 : decode cX7_tellsHead 182 = .ok (.i2l, 1) := by decide +kernel
theorem dX7_tellsHead_183 : decode cX7_tellsHead 183 = .ok (.ladd, 1) := by decide +kernel
theorem dX7_tellsHead_184 : decode cX7_tellsHead 184 = .ok (.lreturn, 1) := by decide +kernel
theorem dX7_tellsCouple_0 : decode cX7_tellsCouple 0 = .ok (.aload_n 0, 1) := by decide +kernel
theorem dX7_tellsCouple_1 : decode cX7_tellsCouple 1 = .ok (.invokevirtual 194, 3) := by decide +kernel
theorem dX7_tellsCouple_4 : decode cX7_tellsCouple 4 = .ok (.lload_n 1, 1) := by decide +kernel
theorem dX7_tellsCouple_5 : decode cX7_tellsCouple 5 = .ok (.lstore 4, 2) := by decide +kernel
theorem dX7_tellsCouple_7 : decode cX7_tellsCouple 7 = .ok (.iconst 0, 1) := by decide +kernel
theorem dX7_tellsCouple_8 : decode cX7_tellsCouple 8 = .ok (.istore 6, 2) := by decide +kernel
theorem dX7_tellsCouple_10 : decode cX7_tellsCouple 10 = .ok (.iload 6, 2) := by decide +kernel
theorem dX7_tellsCouple_12 : decode cX7_tellsCouple 12 = .ok (.iconst 3, 1) := by decide +kernel
theorem dX7_tellsCouple_13 : decode cX7_tellsCouple 13 = .ok (.if_icmp .ge 30, 3) := by decide +kernel
theorem dX7_tellsCouple_16 : decode cX7_tellsCouple 16 = .ok (.ldc2_w 291, 3) := by decide +kernel
theorem dX7_tellsCouple_19 : decode cX7_tellsCouple 19 = .ok (.lload 4, 2) := by decide +kernel
theorem dX7_tellsCouple_21 : decode cX7_tellsCouple 21 = .ok (.lmul, 1) := by decide +kernel
theorem dX7_tellsCouple_22 : decode cX7_tellsCouple 22 = .ok (.aload_n 0, 1) := by decide +kernel
theorem dX7_tellsCouple_23 : decode cX7_tellsCouple 23 = .ok (.getfield 31, 3) := by decide +kernel
theorem dX7_tellsCouple_26 : decode cX7_tellsCouple 26 = .ok (.iconst 3, 1) := by decide +kernel
theorem dX7_tellsCouple_27 : decode cX7_tellsCouple 27 = .ok (.iload_n 3, 1) := by decide +kernel
theorem dX7_tellsCouple_28 : decode cX7_tellsCouple 28 = .ok (.imul, 1) := by decide +kernel
theorem dX7_tellsCouple_29 : decode cX7_tellsCouple 29 = .ok (.iload 6, 2) := by decide +kernel
theorem dX7_tellsCouple_31 : decode cX7_tellsCouple 31 = .ok (.iadd, 1) := by decide +kernel
theorem dX7_tellsCouple_32 : decode cX7_tellsCouple 32 = .ok (.iaload, 1) := by decide +kernel
theorem dX7_tellsCouple_33 : decode cX7_tellsCouple 33 = .ok (.i2l, 1) := by decide +kernel
theorem dX7_tellsCouple_34 : decode cX7_tellsCouple 34 = .ok (.ladd, 1) := by decide +kernel
theorem dX7_tellsCouple_35 : decode cX7_tellsCouple 35 = .ok (.lstore 4, 2) := by decide +kernel
theorem dX7_tellsCouple_37 : decode cX7_tellsCouple 37 = .ok (.iinc 6 1, 3) := by decide +kernel
theorem dX7_tellsCouple_40 : decode cX7_tellsCouple 40 = .ok (.goto (-30), 3) := by decide +kernel
theorem dX7_tellsCouple_43 : decode cX7_tellsCouple 43 = .ok (.iconst 0, 1) := by decide +kernel
theorem dX7_tellsCouple_44 : decode cX7_tellsCouple 44 = .ok (.istore 6, 2) := by decide +kernel
theorem dX7_tellsCouple_46 : decode cX7_tellsCouple 46 = .ok (.iload 6, 2) := by decide +kernel
theorem dX7_tellsCouple_48 : decode cX7_tellsCouple 48 = .ok (.iconst 3, 1) := by decide +kernel
theorem dX7_tellsCouple_49 : decode cX7_tellsCouple 49 = .ok (.if_icmp .ge 26, 3) := by decide +kernel
theorem dX7_tellsCouple_52 : decode cX7_tellsCouple 52 = .ok (.ldc2_w 291, 3) := by decide +kernel
theorem dX7_tellsCouple_55 : decode cX7_tellsCouple 55 = .ok (.lload 4, 2) := by decide +kernel
theorem dX7_tellsCouple_57 : decode cX7_tellsCouple 57 = .ok (.lmul, 1) := by decide +kernel
theorem dX7_tellsCouple_58 : decode cX7_tellsCouple 58 = .ok (.aload_n 0, 1) := by decide +kernel
theorem dX7_tellsCouple_59 : decode cX7_tellsCouple 59 = .ok (.iload_n 3, 1) := by decide +kernel
theorem dX7_tellsCouple_60 : decode cX7_tellsCouple 60 = .ok (.iload 6, 2) := by decide +kernel
theorem dX7_tellsCouple_62 : decode cX7_tellsCouple 62 = .ok (.invokevirtual 209, 3) := by decide +kernel
theorem dX7_tellsCouple_65 : decode cX7_tellsCouple 65 = .ok (.i2l, 1) := by decide +kernel
theorem dX7_tellsCouple_66 : decode cX7_tellsCouple 66 = .ok (.ladd, 1) := by decide +kernel
theorem dX7_tellsCouple_67 : decode cX7_tellsCouple 67 = .ok (.lstore 4, 2) := by decide +kernel
theorem dX7_tellsCouple_69 : decode cX7_tellsCouple 69 = .ok (.iinc 6 1, 3) := by decide +kernel
theorem dX7_tellsCouple_72 : decode cX7_tellsCouple 72 = .ok (.goto (-26), 3) := by decide +kernel
theorem dX7_tellsCouple_75 : decode cX7_tellsCouple 75 = .ok (.ldc2_w 291, 3) := by decide +kernel
theorem dX7_tellsCouple_78 : decode cX7_tellsCouple 78 = .ok (.lload 4, 2) := by decide +kernel
theorem dX7_tellsCouple_80 : decode cX7_tellsCouple 80 = .ok (.lmul, 1) := by decide +kernel
theorem dX7_tellsCouple_81 : decode cX7_tellsCouple 81 = .ok (.aload_n 0, 1) := by decide +kernel
theorem dX7_tellsCouple_82 : decode cX7_tellsCouple 82 = .ok (.iload_n 3, 1) := by decide +kernel
theorem dX7_tellsCouple_83 : decode cX7_tellsCouple 83 = .ok (.iconst (-1), 1) := by decide +kernel
theorem dX7_tellsCouple_84 : decode cX7_tellsCouple 84 = .ok (.invokevirtual 232, 3) := by decide +kernel
theorem dX7_tellsCouple_87 : decode cX7_tellsCouple 87 = .ok (.i2l, 1) := by decide +kernel
theorem dX7_tellsCouple_88 : decode cX7_tellsCouple 88 = .ok (.ladd, 1) := by decide +kernel
theorem dX7_tellsCouple_89 : decode cX7_tellsCouple 89 = .ok (.lstore 4, 2) := by decide +kernel
theorem dX7_tellsCouple_91 : decode cX7_tellsCouple 91 = .ok (.ldc2_w 291, 3) := by decide +kernel
theorem dX7_tellsCouple_94 : decode cX7_tellsCouple 94 = .ok (.lload 4, 2) := by decide +kernel
theorem dX7_tellsCouple_96 : decode cX7_tellsCouple 96 = .ok (.lmul, 1) := by decide +kernel
theorem dX7_tellsCouple_97 : decode cX7_tellsCouple 97 = .ok (.aload_n 0, 1) := by decide +kernel
theorem dX7_tellsCouple_98 : decode cX7_tellsCouple 98 = .ok (.iload_n 3, 1) := by decide +kernel
theorem dX7_tellsCouple_99 : decode cX7_tellsCouple 99 = .ok (.iconst 0, 1) := by decide +kernel
theorem dX7_tellsCouple_100 : decode cX7_tellsCouple 100 = .ok (.invokevirtual 232, 3) := by decide +kernel
theorem dX7_tellsCouple_103 : decode cX7_tellsCouple 103 = .ok (.i2l, 1) := by decide +kernel
theorem dX7_tellsCouple_104 : decode cX7_tellsCouple 104 = .ok (.ladd, 1) := by decide +kernel
theorem dX7_tellsCouple_105 : decode cX7_tellsCouple 105 = .ok (.lstore 4, 2) := by decide +kernel
theorem dX7_tellsCouple_107 : decode cX7_tellsCouple 107 = .ok (.ldc2_w 291, 3) := by decide +kernel
theorem dX7_tellsCouple_110 : decode cX7_tellsCouple 110 = .ok (.lload 4, 2) := by decide +kernel
theorem dX7_tellsCouple_112 : decode cX7_tellsCouple 112 = .ok (.lmul, 1) := by decide +kernel
theorem dX7_tellsCouple_113 : decode cX7_tellsCouple 113 = .ok (.aload_n 0, 1) := by decide +kernel
theorem dX7_tellsCouple_114 : decode cX7_tellsCouple 114 = .ok (.iload_n 3, 1) := by decide +kernel
theorem dX7_tellsCouple_115 : decode cX7_tellsCouple 115 = .ok (.iconst 0, 1) := by decide +kernel
theorem dX7_tellsCouple_116 : decode cX7_tellsCouple 116 = .ok (.invokevirtual 241, 3) := by decide +kernel
theorem dX7_tellsCouple_119 : decode cX7_tellsCouple 119 = .ok (.i2l, 1) := by decide +kernel
theorem dX7_tellsCouple_120 : decode cX7_tellsCouple 120 = .ok (.ladd, 1) := by decide +kernel
theorem dX7_tellsCouple_121 : decode cX7_tellsCouple 121 = .ok (.lstore 4, 2) := by decide +kernel
theorem dX7_tellsCouple_123 : decode cX7_tellsCouple 123 = .ok (.ldc2_w 291, 3) := by decide +kernel
theorem dX7_tellsCouple_126 : decode cX7_tellsCouple 126 = .ok (.lload 4, 2) := by decide +kernel
theorem dX7_tellsCouple_128 : decode cX7_tellsCouple 128 = .ok (.lmul, 1) := by decide +kernel
theorem dX7_tellsCouple_129 : decode cX7_tellsCouple 129 = .ok (.aload_n 0, 1) := by decide +kernel
theorem dX7_tellsCouple_130 : decode cX7_tellsCouple 130 = .ok (.iload_n 3, 1) := by decide +kernel
theorem dX7_tellsCouple_131 : decode cX7_tellsCouple 131 = .ok (.iconst 1, 1) := by decide +kernel
theorem dX7_tellsCouple_132 : decode cX7_tellsCouple 132 = .ok (.invokevirtual 241, 3) := by decide +kernel
theorem dX7_tellsCouple_135 : decode cX7_tellsCouple 135 = .ok (.i2l, 1) := by decide +kernel
theorem dX7_tellsCouple_136 : decode cX7_tellsCouple 136 = .ok (.ladd, 1) := by decide +kernel
theorem dX7_tellsCouple_137 : decode cX7_tellsCouple 137 = .ok (.lstore 4, 2) := by decide +kernel
theorem dX7_tellsCouple_139 : decode cX7_tellsCouple 139 = .ok (.ldc2_w 291, 3) := by decide +kernel
theorem dX7_tellsCouple_142 : decode cX7_tellsCouple 142 = .ok (.lload 4, 2) := by decide +kernel
theorem dX7_tellsCouple_144 : decode cX7_tellsCouple 144 = .ok (.lmul, 1) := by decide +kernel
theorem dX7_tellsCouple_145 : decode cX7_tellsCouple 145 = .ok (.aload_n 0, 1) := by decide +kernel
theorem dX7_tellsCouple_146 : decode cX7_tellsCouple 146 = .ok (.iconst 5, 1) := by decide +kernel
theorem dX7_tellsCouple_147 : decode cX7_tellsCouple 147 = .ok (.bipush 7, 2) := by decide +kernel
theorem dX7_tellsCouple_149 : decode cX7_tellsCouple 149 = .ok (.iload_n 3, 1) := by decide +kernel
theorem dX7_tellsCouple_150 : decode cX7_tellsCouple 150 = .ok (.iconst 0, 1) := by decide +kernel
theorem dX7_tellsCouple_151 : decode cX7_tellsCouple 151 = .ok (.invokevirtual 270, 3) := by decide +kernel
theorem dX7_tellsCouple_154 : decode cX7_tellsCouple 154 = .ok (.ladd, 1) := by decide +kernel
theorem dX7_tellsCouple_155 : decode cX7_tellsCouple 155 = .ok (.lstore 4, 2) := by decide +kernel
theorem dX7_tellsCouple_157 : decode cX7_tellsCouple 157 = .ok (.ldc2_w 291, 3) := by decide +kernel
theorem dX7_tellsCouple_160 : decode cX7_tellsCouple 160 = .ok (.lload 4, 2) := by decide +kernel
theorem dX7_tellsCouple_162 : decode cX7_tellsCouple 162 = .ok (.lmul, 1) := by decide +kernel
theorem dX7_tellsCouple_163 : decode cX7_tellsCouple 163 = .ok (.aload_n 0, 1) := by decide +kernel
theorem dX7_tellsCouple_164 : decode cX7_tellsCouple 164 = .ok (.iconst 5, 1) := by decide +kernel
theorem dX7_tellsCouple_165 : decode cX7_tellsCouple 165 = .ok (.bipush 7, 2) := by decide +kernel
theorem dX7_tellsCouple_167 : decode cX7_tellsCouple 167 = .ok (.iload_n 3, 1) := by decide +kernel
theorem dX7_tellsCouple_168 : decode cX7_tellsCouple 168 = .ok (.iconst 1, 1) := by decide +kernel
theorem dX7_tellsCouple_169 : decode cX7_tellsCouple 169 = .ok (.invokevirtual 270, 3) := by decide +kernel
theorem dX7_tellsCouple_172 : decode cX7_tellsCouple 172 = .ok (.ladd, 1) := by decide +kernel
theorem dX7_tellsCouple_173 : decode cX7_tellsCouple 173 = .ok (.lreturn, 1) := by decide +kernel
theorem dX7_digest_0 : decode cX7_digest 0 = .ok (.ldc2_w 293, 3) := by decide +kernel
theorem dX7_digest_3 : decode cX7_digest 3 = .ok (.lstore_n 1, 1) := by decide +kernel
theorem dX7_digest_4 : decode cX7_digest 4 = .ok (.iconst 0, 1) := by decide +kernel
theorem dX7_digest_5 : decode cX7_digest 5 = .ok (.istore_n 3, 1) := by decide +kernel
theorem dX7_digest_6 : decode cX7_digest 6 = .ok (.iload_n 3, 1) := by decide +kernel
theorem dX7_digest_7 : decode cX7_digest 7 = .ok (.bipush 8, 2) := by decide +kernel
theorem dX7_digest_9 : decode cX7_digest 9 = .ok (.if_icmp .ge 22, 3) := by decide +kernel
theorem dX7_digest_12 : decode cX7_digest 12 = .ok (.ldc2_w 291, 3) := by decide +kernel
theorem dX7_digest_15 : decode cX7_digest 15 = .ok (.lload_n 1, 1) := by decide +kernel
theorem dX7_digest_16 : decode cX7_digest 16 = .ok (.lmul, 1) := by decide +kernel
theorem dX7_digest_17 : decode cX7_digest 17 = .ok (.aload_n 0, 1) := by decide +kernel
theorem dX7_digest_18 : decode cX7_digest 18 = .ok (.iload_n 3, 1) := by decide +kernel
theorem dX7_digest_19 : decode cX7_digest 19 = .ok (.invokevirtual 295, 3) := by decide +kernel
theorem dX7_digest_22 : decode cX7_digest 22 = .ok (.i2l, 1) := by decide +kernel
theorem dX7_digest_23 : decode cX7_digest 23 = .ok (.ladd, 1) := by decide +kernel
theorem dX7_digest_24 : decode cX7_digest 24 = .ok (.lstore_n 1, 1) := by decide +kernel
theorem dX7_digest_25 : decode cX7_digest 25 = .ok (.iinc 3 1, 3) := by decide +kernel
theorem dX7_digest_28 : decode cX7_digest 28 = .ok (.goto (-22), 3) := by decide +kernel
theorem dX7_digest_31 : decode cX7_digest 31 = .ok (.ldc2_w 291, 3) := by decide +kernel
theorem dX7_digest_34 : decode cX7_digest 34 = .ok (.lload_n 1, 1) := by decide +kernel
theorem dX7_digest_35 : decode cX7_digest 35 = .ok (.lmul, 1) := by decide +kernel
theorem dX7_digest_36 : decode cX7_digest 36 = .ok (.aload_n 0, 1) := by decide +kernel
theorem dX7_digest_37 : decode cX7_digest 37 = .ok (.invokevirtual 127, 3) := by decide +kernel
theorem dX7_digest_40 : decode cX7_digest 40 = .ok (.i2l, 1) := by decide +kernel
theorem dX7_digest_41 : decode cX7_digest 41 = .ok (.ladd, 1) := by decide +kernel
theorem dX7_digest_42 : decode cX7_digest 42 = .ok (.lstore_n 1, 1) := by decide +kernel
theorem dX7_digest_43 : decode cX7_digest 43 = .ok (.ldc2_w 291, 3) := by decide +kernel
theorem dX7_digest_46 : decode cX7_digest 46 = .ok (.lload_n 1, 1) := by decide +kernel
theorem dX7_digest_47 : decode cX7_digest 47 = .ok (.lmul, 1) := by decide +kernel
theorem dX7_digest_48 : decode cX7_digest 48 = .ok (.aload_n 0, 1) := by decide +kernel
theorem dX7_digest_49 : decode cX7_digest 49 = .ok (.invokevirtual 131, 3) := by decide +kernel
theorem dX7_digest_52 : decode cX7_digest 52 = .ok (.i2l, 1) := by decide +kernel
theorem dX7_digest_53 : decode cX7_digest 53 = .ok (.ladd, 1) := by decide +kernel
theorem dX7_digest_54 : decode cX7_digest 54 = .ok (.lstore_n 1, 1) := by decide +kernel
theorem dX7_digest_55 : decode cX7_digest 55 = .ok (.iconst 0, 1) := by decide +kernel
theorem dX7_digest_56 : decode cX7_digest 56 = .ok (.istore_n 3, 1) := by decide +kernel
theorem dX7_digest_57 : decode cX7_digest 57 = .ok (.iload_n 3, 1) := by decide +kernel
theorem dX7_digest_58 : decode cX7_digest 58 = .ok (.aload_n 0, 1) := by decide +kernel
theorem dX7_digest_59 : decode cX7_digest 59 = .ok (.getfield 118, 3) := by decide +kernel
theorem dX7_digest_62 : decode cX7_digest 62 = .ok (.if_icmp .ge 16, 3) := by decide +kernel
theorem dX7_digest_65 : decode cX7_digest 65 = .ok (.aload_n 0, 1) := by decide +kernel
theorem dX7_digest_66 : decode cX7_digest 66 = .ok (.lload_n 1, 1) := by decide +kernel
theorem dX7_digest_67 : decode cX7_digest 67 = .ok (.iload_n 3, 1) := by decide +kernel
theorem dX7_digest_68 : decode cX7_digest 68 = .ok (.invokevirtual 298, 3) := by decide +kernel
theorem dX7_digest_71 : decode cX7_digest 71 = .ok (.lstore_n 1, 1) := by decide +kernel
theorem dX7_digest_72 : decode cX7_digest 72 = .ok (.iinc 3 1, 3) := by decide +kernel
theorem dX7_digest_75 : decode cX7_digest 75 = .ok (.goto (-18), 3) := by decide +kernel
theorem dX7_digest_78 : decode cX7_digest 78 = .ok (.iconst 0, 1) := by decide +kernel
theorem dX7_digest_79 : decode cX7_digest 79 = .ok (.istore_n 3, 1) := by decide +kernel
theorem dX7_digest_80 : decode cX7_digest 80 = .ok (.iload_n 3, 1) := by decide +kernel
theorem dX7_digest_81 : decode cX7_digest 81 = .ok (.aload_n 0, 1) := by decide +kernel
theorem dX7_digest_82 : decode cX7_digest 82 = .ok (.getfield 124, 3) := by decide +kernel
theorem dX7_digest_85 : decode cX7_digest 85 = .ok (.if_icmp .ge 16, 3) := by decide +kernel
theorem dX7_digest_88 : decode cX7_digest 88 = .ok (.aload_n 0, 1) := by decide +kernel
theorem dX7_digest_89 : decode cX7_digest 89 = .ok (.lload_n 1, 1) := by decide +kernel
theorem dX7_digest_90 : decode cX7_digest 90 = .ok (.iload_n 3, 1) := by decide +kernel
theorem dX7_digest_91 : decode cX7_digest 91 = .ok (.invokevirtual 302, 3) := by decide +kernel
theorem dX7_digest_94 : decode cX7_digest 94 = .ok (.lstore_n 1, 1) := by decide +kernel
theorem dX7_digest_95 : decode cX7_digest 95 = .ok (.iinc 3 1, 3) := by decide +kernel
theorem dX7_digest_98 : decode cX7_digest 98 = .ok (.goto (-18), 3) := by decide +kernel
theorem dX7_digest_101 : decode cX7_digest 101 = .ok (.aload_n 0, 1) := by decide +kernel
theorem dX7_digest_102 : decode cX7_digest 102 = .ok (.invokevirtual 194, 3) := by decide +kernel
theorem dX7_digest_105 : decode cX7_digest 105 = .ok (.ldc2_w 291, 3) := by decide +kernel
theorem dX7_digest_108 : decode cX7_digest 108 = .ok (.lload_n 1, 1) := by decide +kernel
theorem dX7_digest_109 : decode cX7_digest 109 = .ok (.lmul, 1) := by decide +kernel
theorem dX7_digest_110 : decode cX7_digest 110 = .ok (.aload_n 0, 1) := by decide +kernel
theorem dX7_digest_111 : decode cX7_digest 111 = .ok (.bipush 9, 2) := by decide +kernel
theorem dX7_digest_113 : decode cX7_digest 113 = .ok (.invokevirtual 212, 3) := by decide +kernel
theorem dX7_digest_116 : decode cX7_digest 116 = .ok (.i2l, 1) := by decide +kernel
theorem dX7_digest_117 : decode cX7_digest 117 = .ok (.ladd, 1) := by decide +kernel
theorem dX7_digest_118 : decode cX7_digest 118 = .ok (.lstore_n 1, 1) := by decide +kernel
theorem dX7_digest_119 : decode cX7_digest 119 = .ok (.ldc2_w 291, 3) := by decide +kernel
theorem dX7_digest_122 : decode cX7_digest 122 = .ok (.lload_n 1, 1) := by decide +kernel
theorem dX7_digest_123 : decode cX7_digest 123 = .ok (.lmul, 1) := by decide +kernel
theorem dX7_digest_124 : decode cX7_digest 124 = .ok (.aload_n 0, 1) := by decide +kernel
theorem dX7_digest_125 : decode cX7_digest 125 = .ok (.invokevirtual 215, 3) := by decide +kernel
theorem dX7_digest_128 : decode cX7_digest 128 = .ok (.i2l, 1) := by decide +kernel
theorem dX7_digest_129 : decode cX7_digest 129 = .ok (.ladd, 1) := by decide +kernel
theorem dX7_digest_130 : decode cX7_digest 130 = .ok (.lstore_n 1, 1) := by decide +kernel
theorem dX7_digest_131 : decode cX7_digest 131 = .ok (.ldc2_w 291, 3) := by decide +kernel
theorem dX7_digest_134 : decode cX7_digest 134 = .ok (.lload_n 1, 1) := by decide +kernel
theorem dX7_digest_135 : decode cX7_digest 135 = .ok (.lmul, 1) := by decide +kernel
theorem dX7_digest_136 : decode cX7_digest 136 = .ok (.aload_n 0, 1) := by decide +kernel
theorem dX7_digest_137 : decode cX7_digest 137 = .ok (.getfield 167, 3) := by decide +kernel
theorem dX7_digest_140 : decode cX7_digest 140 = .ok (.i2l, 1) := by decide +kernel
theorem dX7_digest_141 : decode cX7_digest 141 = .ok (.ladd, 1) := by decide +kernel
theorem dX7_digest_142 : decode cX7_digest 142 = .ok (.lstore_n 1, 1) := by decide +kernel
theorem dX7_digest_143 : decode cX7_digest 143 = .ok (.ldc2_w 291, 3) := by decide +kernel
theorem dX7_digest_146 : decode cX7_digest 146 = .ok (.lload_n 1, 1) := by decide +kernel
theorem dX7_digest_147 : decode cX7_digest 147 = .ok (.lmul, 1) := by decide +kernel
theorem dX7_digest_148 : decode cX7_digest 148 = .ok (.aload_n 0, 1) := by decide +kernel
theorem dX7_digest_149 : decode cX7_digest 149 = .ok (.getfield 176, 3) := by decide +kernel
theorem dX7_digest_152 : decode cX7_digest 152 = .ok (.i2l, 1) := by decide +kernel
theorem dX7_digest_153 : decode cX7_digest 153 = .ok (.ladd, 1) := by decide +kernel
theorem dX7_digest_154 : decode cX7_digest 154 = .ok (.lstore_n 1, 1) := by decide +kernel
theorem dX7_digest_155 : decode cX7_digest 155 = .ok (.ldc2_w 291, 3) := by decide +kernel
theorem dX7_digest_158 : decode cX7_digest 158 = .ok (.lload_n 1, 1) := by decide +kernel
theorem dX7_digest_159 : decode cX7_digest 159 = .ok (.lmul, 1) := by decide +kernel
theorem dX7_digest_160 : decode cX7_digest 160 = .ok (.aload_n 0, 1) := by decide +kernel
theorem dX7_digest_161 : decode cX7_digest 161 = .ok (.invokevirtual 224, 3) := by decide +kernel
theorem dX7_digest_164 : decode cX7_digest 164 = .ok (.i2l, 1) := by decide +kernel
theorem dX7_digest_165 : decode cX7_digest 165 = .ok (.ladd, 1) := by decide +kernel
theorem dX7_digest_166 : decode cX7_digest 166 = .ok (.lstore_n 1, 1) := by decide +kernel
theorem dX7_digest_167 : decode cX7_digest 167 = .ok (.ldc2_w 291, 3) := by decide +kernel
theorem dX7_digest_170 : decode cX7_digest 170 = .ok (.lload_n 1, 1) := by decide +kernel
theorem dX7_digest_171 : decode cX7_digest 171 = .ok (.lmul, 1) := by decide +kernel
theorem dX7_digest_172 : decode cX7_digest 172 = .ok (.aload_n 0, 1) := by decide +kernel
theorem dX7_digest_173 : decode cX7_digest 173 = .ok (.invokevirtual 253, 3) := by decide +kernel
theorem dX7_digest_176 : decode cX7_digest 176 = .ok (.i2l, 1) := by decide +kernel
theorem dX7_digest_177 : decode cX7_digest 177 = .ok (.ladd, 1) := by decide +kernel
theorem dX7_digest_178 : decode cX7_digest 178 = .ok (.lstore_n 1, 1) := by decide +kernel
theorem dX7_digest_179 : decode cX7_digest 179 = .ok (.ldc2_w 291, 3) := by decide +kernel
theorem dX7_digest_182 : decode cX7_digest 182 = .ok (.lload_n 1, 1) := by decide +kernel
theorem dX7_digest_183 : decode cX7_digest 183 = .ok (.lmul, 1) := by decide +kernel
theorem dX7_digest_184 : decode cX7_digest 184 = .ok (.aload_n 0, 1) := by decide +kernel
theorem dX7_digest_185 : decode cX7_digest 185 = .ok (.bipush 7, 2) := by decide +kernel
theorem dX7_digest_187 : decode cX7_digest 187 = .ok (.iconst 0, 1) := by decide +kernel
theorem dX7_digest_188 : decode cX7_digest 188 = .ok (.invokevirtual 285, 3) := by decide +kernel
theorem dX7_digest_191 : decode cX7_digest 191 = .ok (.i2l, 1) := by decide +kernel
theorem dX7_digest_192 : decode cX7_digest 192 = .ok (.ladd, 1) := by decide +kernel
theorem dX7_digest_193 : decode cX7_digest 193 = .ok (.lstore_n 1, 1) := by decide +kernel
theorem dX7_digest_194 : decode cX7_digest 194 = .ok (.ldc2_w 291, 3) := by decide +kernel
theorem dX7_digest_197 : decode cX7_digest 197 = .ok (.lload_n 1, 1) := by decide +kernel
theorem dX7_digest_198 : decode cX7_digest 198 = .ok (.lmul, 1) := by decide +kernel
theorem dX7_digest_199 : decode cX7_digest 199 = .ok (.aload_n 0, 1) := by decide +kernel
theorem dX7_digest_200 : decode cX7_digest 200 = .ok (.bipush 7, 2) := by decide +kernel
theorem dX7_digest_202 : decode cX7_digest 202 = .ok (.iconst 1, 1) := by decide +kernel
theorem dX7_digest_203 : decode cX7_digest 203 = .ok (.invokevirtual 285, 3) := by decide +kernel
theorem dX7_digest_206 : decode cX7_digest 206 = .ok (.i2l, 1) := by decide +kernel
theorem dX7_digest_207 : decode cX7_digest 207 = .ok (.ladd, 1) := by decide +kernel
theorem dX7_digest_208 : decode cX7_digest 208 = .ok (.lreturn, 1) := by decide +kernel
