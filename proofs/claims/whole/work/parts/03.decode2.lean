theorem dX10_days_72 : decode cX10_days 72 = .ok (.iload 7, 2) := by decide +kernel
theorem dX10_days_74 : decode cX10_days 74 = .ok (.iload_n 1, 1) := by decide +kernel
theorem dX10_days_75 : decode cX10_days 75 = .ok (.iload_n 2, 1) := by decide +kernel
theorem dX10_days_76 : decode cX10_days 76 = .ok (.invokevirtual 228, 3) := by decide +kernel
theorem dX10_days_79 : decode cX10_days 79 = .ok (.istore 9, 2) := by decide +kernel
theorem dX10_days_81 : decode cX10_days 81 = .ok (.iload 4, 2) := by decide +kernel
theorem dX10_days_83 : decode cX10_days 83 = .ok (.iload 8, 2) := by decide +kernel
theorem dX10_days_85 : decode cX10_days 85 = .ok (.invokestatic 231, 3) := by decide +kernel
theorem dX10_days_88 : decode cX10_days 88 = .ok (.iadd, 1) := by decide +kernel
theorem dX10_days_89 : decode cX10_days 89 = .ok (.istore 4, 2) := by decide +kernel
theorem dX10_days_91 : decode cX10_days 91 = .ok (.iload 5, 2) := by decide +kernel
theorem dX10_days_93 : decode cX10_days 93 = .ok (.iload 8, 2) := by decide +kernel
theorem dX10_days_95 : decode cX10_days 95 = .ok (.iload 9, 2) := by decide +kernel
theorem dX10_days_97 : decode cX10_days 97 = .ok (.iand, 1) := by decide +kernel
theorem dX10_days_98 : decode cX10_days 98 = .ok (.invokestatic 231, 3) := by decide +kernel
theorem dX10_days_101 : decode cX10_days 101 = .ok (.iadd, 1) := by decide +kernel
theorem dX10_days_102 : decode cX10_days 102 = .ok (.istore 5, 2) := by decide +kernel
theorem dX10_days_104 : decode cX10_days 104 = .ok (.iload 6, 2) := by decide +kernel
theorem dX10_days_106 : decode cX10_days 106 = .ok (.iload 9, 2) := by decide +kernel
theorem dX10_days_108 : decode cX10_days 108 = .ok (.invokestatic 231, 3) := by decide +kernel
theorem dX10_days_111 : decode cX10_days 111 = .ok (.iadd, 1) := by decide +kernel
theorem dX10_days_112 : decode cX10_days 112 = .ok (.istore 6, 2) := by decide +kernel
theorem dX10_days_114 : decode cX10_days 114 = .ok (.iinc 7 1, 3) := by decide +kernel
theorem dX10_days_117 : decode cX10_days 117 = .ok (.goto (-77), 3) := by decide +kernel
theorem dX10_days_120 : decode cX10_days 120 = .ok (.iload_n 3, 1) := by decide +kernel
theorem dX10_days_121 : decode cX10_days 121 = .ok (.ifCond .ne 6, 3) := by decide +kernel
theorem dX10_days_124 : decode cX10_days 124 = .ok (.iload 4, 2) := by decide +kernel
theorem dX10_days_126 : decode cX10_days 126 = .ok (.ireturn, 1) := by decide +kernel
theorem dX10_days_127 : decode cX10_days 127 = .ok (.iload_n 3, 1) := by decide +kernel
theorem dX10_days_128 : decode cX10_days 128 = .ok (.iconst 1, 1) := by decide +kernel
theorem dX10_days_129 : decode cX10_days 129 = .ok (.if_icmp .ne 8, 3) := by decide +kernel
theorem dX10_days_132 : decode cX10_days 132 = .ok (.iload 5, 2) := by decide +kernel
theorem dX10_days_134 : decode cX10_days 134 = .ok (.goto 8, 3) := by decide +kernel
theorem dX10_days_137 : decode cX10_days 137 = .ok (.iload 6, 2) := by decide +kernel
theorem dX10_days_139 : decode cX10_days 139 = .ok (.iload 5, 2) := by decide +kernel
theorem dX10_days_141 : decode cX10_days 141 = .ok (.isub, 1) := by decide +kernel
theorem dX10_days_142 : decode cX10_days 142 = .ok (.ireturn, 1) := by decide +kernel
theorem dX10_best_0 : decode cX10_best 0 = .ok (.iload_n 1, 1) := by decide +kernel
theorem dX10_best_1 : decode cX10_best 1 = .ok (.invokestatic 124, 3) := by decide +kernel
theorem dX10_best_4 : decode cX10_best 4 = .ok (.ifCond .eq 12, 3) := by decide +kernel
theorem dX10_best_7 : decode cX10_best 7 = .ok (.iload_n 2, 1) := by decide +kernel
theorem dX10_best_8 : decode cX10_best 8 = .ok (.iconst 0, 1) := by decide +kernel
theorem dX10_best_9 : decode cX10_best 9 = .ok (.iconst 1, 1) := by decide +kernel
theorem dX10_best_10 : decode cX10_best 10 = .ok (.invokestatic 77, 3) := by decide +kernel
theorem dX10_best_13 : decode cX10_best 13 = .ok (.ifCond .ne 5, 3) := by decide +kernel
theorem dX10_best_16 : decode cX10_best 16 = .ok (.iconst (-1), 1) := by decide +kernel
theorem dX10_best_17 : decode cX10_best 17 = .ok (.ireturn, 1) := by decide +kernel
theorem dX10_best_18 : decode cX10_best 18 = .ok (.iconst 0, 1) := by decide +kernel
theorem dX10_best_19 : decode cX10_best 19 = .ok (.istore_n 3, 1) := by decide +kernel
theorem dX10_best_20 : decode cX10_best 20 = .ok (.bipush 9, 2) := by decide +kernel
theorem dX10_best_22 : decode cX10_best 22 = .ok (.istore 4, 2) := by decide +kernel
theorem dX10_best_24 : decode cX10_best 24 = .ok (.iconst 0, 1) := by decide +kernel
theorem dX10_best_25 : decode cX10_best 25 = .ok (.istore 5, 2) := by decide +kernel
theorem dX10_best_27 : decode cX10_best 27 = .ok (.iload 5, 2) := by decide +kernel
theorem dX10_best_29 : decode cX10_best 29 = .ok (.bipush 9, 2) := by decide +kernel
theorem dX10_best_31 : decode cX10_best 31 = .ok (.if_icmp .gt 32, 3) := by decide +kernel
theorem dX10_best_34 : decode cX10_best 34 = .ok (.aload_n 0, 1) := by decide +kernel
theorem dX10_best_35 : decode cX10_best 35 = .ok (.iload_n 1, 1) := by decide +kernel
theorem dX10_best_36 : decode cX10_best 36 = .ok (.iload 5, 2) := by decide +kernel
theorem dX10_best_38 : decode cX10_best 38 = .ok (.invokevirtual 236, 3) := by decide +kernel
theorem dX10_best_41 : decode cX10_best 41 = .ok (.istore 6, 2) := by decide +kernel
theorem dX10_best_43 : decode cX10_best 43 = .ok (.iload 6, 2) := by decide +kernel
theorem dX10_best_45 : decode cX10_best 45 = .ok (.iload 4, 2) := by decide +kernel
theorem dX10_best_47 : decode cX10_best 47 = .ok (.if_icmp .ge 10, 3) := by decide +kernel
theorem dX10_best_50 : decode cX10_best 50 = .ok (.iload 6, 2) := by decide +kernel
theorem dX10_best_52 : decode cX10_best 52 = .ok (.istore 4, 2) := by decide +kernel
theorem dX10_best_54 : decode cX10_best 54 = .ok (.iload 5, 2) := by decide +kernel
theorem dX10_best_56 : decode cX10_best 56 = .ok (.istore_n 3, 1) := by decide +kernel
theorem dX10_best_57 : decode cX10_best 57 = .ok (.iinc 5 1, 3) := by decide +kernel
theorem dX10_best_60 : decode cX10_best 60 = .ok (.goto (-33), 3) := by decide +kernel
theorem dX10_best_63 : decode cX10_best 63 = .ok (.iload_n 2, 1) := by decide +kernel
theorem dX10_best_64 : decode cX10_best 64 = .ok (.ifCond .ne 7, 3) := by decide +kernel
theorem dX10_best_67 : decode cX10_best 67 = .ok (.iload_n 3, 1) := by decide +kernel
theorem dX10_best_68 : decode cX10_best 68 = .ok (.goto 5, 3) := by decide +kernel
theorem dX10_best_71 : decode cX10_best 71 = .ok (.iload 4, 2) := by decide +kernel
theorem dX10_best_73 : decode cX10_best 73 = .ok (.ireturn, 1) := by decide +kernel
theorem dX10_say_0 : decode cX10_say 0 = .ok (.aload_n 0, 1) := by decide +kernel
theorem dX10_say_1 : decode cX10_say 1 = .ok (.iload_n 1, 1) := by decide +kernel
theorem dX10_say_2 : decode cX10_say 2 = .ok (.iload_n 2, 1) := by decide +kernel
theorem dX10_say_3 : decode cX10_say 3 = .ok (.iload_n 3, 1) := by decide +kernel
theorem dX10_say_4 : decode cX10_say 4 = .ok (.invokevirtual 239, 3) := by decide +kernel
theorem dX10_say_7 : decode cX10_say 7 = .ok (.ireturn, 1) := by decide +kernel
theorem dX10_unsay_0 : decode cX10_unsay 0 = .ok (.iload_n 1, 1) := by decide +kernel
theorem dX10_unsay_1 : decode cX10_unsay 1 = .ok (.iconst 0, 1) := by decide +kernel
theorem dX10_unsay_2 : decode cX10_unsay 2 = .ok (.aload_n 0, 1) := by decide +kernel
theorem dX10_unsay_3 : decode cX10_unsay 3 = .ok (.getfield 10, 3) := by decide +kernel
theorem dX10_unsay_6 : decode cX10_unsay 6 = .ok (.getfield 242, 3) := by decide +kernel
theorem dX10_unsay_9 : decode cX10_unsay 9 = .ok (.getfield 245, 3) := by decide +kernel
theorem dX10_unsay_12 : decode cX10_unsay 12 = .ok (.invokestatic 77, 3) := by decide +kernel
theorem dX10_unsay_15 : decode cX10_unsay 15 = .ok (.ifCond .ne 5, 3) := by decide +kernel
theorem dX10_unsay_18 : decode cX10_unsay 18 = .ok (.iconst (-1), 1) := by decide +kernel
theorem dX10_unsay_19 : decode cX10_unsay 19 = .ok (.ireturn, 1) := by decide +kernel
theorem dX10_unsay_20 : decode cX10_unsay 20 = .ok (.aload_n 0, 1) := by decide +kernel
theorem dX10_unsay_21 : decode cX10_unsay 21 = .ok (.getfield 10, 3) := by decide +kernel
theorem dX10_unsay_24 : decode cX10_unsay 24 = .ok (.getfield 242, 3) := by decide +kernel
theorem dX10_unsay_27 : decode cX10_unsay 27 = .ok (.getfield 245, 3) := by decide +kernel
theorem dX10_unsay_30 : decode cX10_unsay 30 = .ok (.istore_n 2, 1) := by decide +kernel
theorem dX10_unsay_31 : decode cX10_unsay 31 = .ok (.aload_n 0, 1) := by decide +kernel
theorem dX10_unsay_32 : decode cX10_unsay 32 = .ok (.getfield 10, 3) := by decide +kernel
theorem dX10_unsay_35 : decode cX10_unsay 35 = .ok (.getfield 242, 3) := by decide +kernel
theorem dX10_unsay_38 : decode cX10_unsay 38 = .ok (.iload_n 1, 1) := by decide +kernel
theorem dX10_unsay_39 : decode cX10_unsay 39 = .ok (.putfield 245, 3) := by decide +kernel
theorem dX10_unsay_42 : decode cX10_unsay 42 = .ok (.iload_n 2, 1) := by decide +kernel
theorem dX10_unsay_43 : decode cX10_unsay 43 = .ok (.ireturn, 1) := by decide +kernel
theorem dX10_said_0 : decode cX10_said 0 = .ok (.aload_n 0, 1) := by decide +kernel
theorem dX10_said_1 : decode cX10_said 1 = .ok (.iload_n 1, 1) := by decide +kernel
theorem dX10_said_2 : decode cX10_said 2 = .ok (.invokevirtual 246, 3) := by decide +kernel
theorem dX10_said_5 : decode cX10_said 5 = .ok (.ifCond .eq 12, 3) := by decide +kernel
theorem dX10_said_8 : decode cX10_said 8 = .ok (.iload_n 2, 1) := by decide +kernel
theorem dX10_said_9 : decode cX10_said 9 = .ok (.iconst 0, 1) := by decide +kernel
theorem dX10_said_10 : decode cX10_said 10 = .ok (.iconst 3, 1) := by decide +kernel
theorem dX10_said_11 : decode cX10_said 11 = .ok (.invokestatic 77, 3) := by decide +kernel
theorem dX10_said_14 : decode cX10_said 14 = .ok (.ifCond .ne 5, 3) := by decide +kernel
theorem dX10_said_17 : decode cX10_said 17 = .ok (.iconst (-1), 1) := by decide +kernel
theorem dX10_said_18 : decode cX10_said 18 = .ok (.ireturn, 1) := by decide +kernel
theorem dX10_said_19 : decode cX10_said 19 = .ok (.iload_n 2, 1) := by decide +kernel
theorem dX10_said_20 : decode cX10_said 20 = .ok (.iconst 3, 1) := by decide +kernel
theorem dX10_said_21 : decode cX10_said 21 = .ok (.if_icmp .ge 16, 3) := by decide +kernel
theorem dX10_said_24 : decode cX10_said 24 = .ok (.aload_n 0, 1) := by decide +kernel
theorem dX10_said_25 : decode cX10_said 25 = .ok (.getfield 10, 3) := by decide +kernel
theorem dX10_said_28 : decode cX10_said 28 = .ok (.getfield 242, 3) := by decide +kernel
theorem dX10_said_31 : decode cX10_said 31 = .ok (.iload_n 1, 1) := by decide +kernel
theorem dX10_said_32 : decode cX10_said 32 = .ok (.iload_n 2, 1) := by decide +kernel
theorem dX10_said_33 : decode cX10_said 33 = .ok (.invokevirtual 154, 3) := by decide +kernel
theorem dX10_said_36 : decode cX10_said 36 = .ok (.ireturn, 1) := by decide +kernel
theorem dX10_said_37 : decode cX10_said 37 = .ok (.aload_n 0, 1) := by decide +kernel
theorem dX10_said_38 : decode cX10_said 38 = .ok (.getfield 43, 3) := by decide +kernel
theorem dX10_said_41 : decode cX10_said 41 = .ok (.aload_n 0, 1) := by decide +kernel
theorem dX10_said_42 : decode cX10_said 42 = .ok (.getfield 10, 3) := by decide +kernel
theorem dX10_said_45 : decode cX10_said 45 = .ok (.iload_n 1, 1) := by decide +kernel
theorem dX10_said_46 : decode cX10_said 46 = .ok (.invokevirtual 249, 3) := by decide +kernel
theorem dX10_said_49 : decode cX10_said 49 = .ok (.pop, 1) := by decide +kernel
theorem dX10_said_50 : decode cX10_said 50 = .ok (.aload_n 0, 1) := by decide +kernel
theorem dX10_said_51 : decode cX10_said 51 = .ok (.getfield 43, 3) := by decide +kernel
theorem dX10_said_54 : decode cX10_said 54 = .ok (.aload_n 0, 1) := by decide +kernel
theorem dX10_said_55 : decode cX10_said 55 = .ok (.getfield 10, 3) := by decide +kernel
theorem dX10_said_58 : decode cX10_said 58 = .ok (.iload_n 1, 1) := by decide +kernel
theorem dX10_said_59 : decode cX10_said 59 = .ok (.invokevirtual 252, 3) := by decide +kernel
theorem dX10_said_62 : decode cX10_said 62 = .ok (.ireturn, 1) := by decide +kernel
theorem dX10_knows_0 : decode cX10_knows 0 = .ok (.aload_n 0, 1) := by decide +kernel
theorem dX10_knows_1 : decode cX10_knows 1 = .ok (.iload_n 1, 1) := by decide +kernel
theorem dX10_knows_2 : decode cX10_knows 2 = .ok (.invokevirtual 166, 3) := by decide +kernel
theorem dX10_knows_5 : decode cX10_knows 5 = .ok (.ifCond .eq 21, 3) := by decide +kernel
theorem dX10_knows_8 : decode cX10_knows 8 = .ok (.iload_n 2, 1) := by decide +kernel
theorem dX10_knows_9 : decode cX10_knows 9 = .ok (.iconst 0, 1) := by decide +kernel
theorem dX10_knows_10 : decode cX10_knows 10 = .ok (.aload_n 0, 1) := by decide +kernel
theorem dX10_knows_11 : decode cX10_knows 11 = .ok (.getfield 10, 3) := by decide +kernel
theorem dX10_knows_14 : decode cX10_knows 14 = .ok (.getfield 242, 3) := by decide +kernel
theorem dX10_knows_17 : decode cX10_knows 17 = .ok (.getfield 245, 3) := by decide +kernel
theorem dX10_knows_20 : decode cX10_knows 20 = .ok (.invokestatic 77, 3) := by decide +kernel
theorem dX10_knows_23 : decode cX10_knows 23 = .ok (.ifCond .ne 5, 3) := by decide +kernel
theorem dX10_knows_26 : decode cX10_knows 26 = .ok (.iconst (-1), 1) := by decide +kernel
theorem dX10_knows_27 : decode cX10_knows 27 = .ok (.ireturn, 1) := by decide +kernel
theorem dX10_knows_28 : decode cX10_knows 28 = .ok (.aload_n 0, 1) := by decide +kernel
theorem dX10_knows_29 : decode cX10_knows 29 = .ok (.getfield 43, 3) := by decide +kernel
theorem dX10_knows_32 : decode cX10_knows 32 = .ok (.aload_n 0, 1) := by decide +kernel
theorem dX10_knows_33 : decode cX10_knows 33 = .ok (.getfield 10, 3) := by decide +kernel
theorem dX10_knows_36 : decode cX10_knows 36 = .ok (.iload_n 2, 1) := by decide +kernel
theorem dX10_knows_37 : decode cX10_knows 37 = .ok (.invokevirtual 249, 3) := by decide +kernel
theorem dX10_knows_40 : decode cX10_knows 40 = .ok (.pop, 1) := by decide +kernel
theorem dX10_knows_41 : decode cX10_knows 41 = .ok (.aload_n 0, 1) := by decide +kernel
theorem dX10_knows_42 : decode cX10_knows 42 = .ok (.getfield 43, 3) := by decide +kernel
theorem dX10_knows_45 : decode cX10_knows 45 = .ok (.iload_n 1, 1) := by decide +kernel
theorem dX10_knows_46 : decode cX10_knows 46 = .ok (.invokevirtual 255, 3) := by decide +kernel
theorem dX10_knows_49 : decode cX10_knows 49 = .ok (.ireturn, 1) := by decide +kernel
theorem dX10_since_0 : decode cX10_since 0 = .ok (.aload_n 0, 1) := by decide +kernel
theorem dX10_since_1 : decode cX10_since 1 = .ok (.iload_n 1, 1) := by decide +kernel
theorem dX10_since_2 : decode cX10_since 2 = .ok (.invokevirtual 166, 3) := by decide +kernel
theorem dX10_since_5 : decode cX10_since 5 = .ok (.ifCond .eq 10, 3) := by decide +kernel
theorem dX10_since_8 : decode cX10_since 8 = .ok (.iload_n 2, 1) := by decide +kernel
theorem dX10_since_9 : decode cX10_since 9 = .ok (.invokestatic 258, 3) := by decide +kernel
theorem dX10_since_12 : decode cX10_since 12 = .ok (.ifCond .ne 5, 3) := by decide +kernel
theorem dX10_since_15 : decode cX10_since 15 = .ok (.iconst (-1), 1) := by decide +kernel
theorem dX10_since_16 : decode cX10_since 16 = .ok (.ireturn, 1) := by decide +kernel
theorem dX10_since_17 : decode cX10_since 17 = .ok (.aload_n 0, 1) := by decide +kernel
theorem dX10_since_18 : decode cX10_since 18 = .ok (.getfield 43, 3) := by decide +kernel
theorem dX10_since_21 : decode cX10_since 21 = .ok (.aload_n 0, 1) := by decide +kernel
theorem dX10_since_22 : decode cX10_since 22 = .ok (.getfield 10, 3) := by decide +kernel
theorem dX10_since_25 : decode cX10_since 25 = .ok (.iload_n 2, 1) := by decide +kernel
theorem dX10_since_26 : decode cX10_since 26 = .ok (.iconst 1, 1) := by decide +kernel
theorem dX10_since_27 : decode cX10_since 27 = .ok (.iload_n 1, 1) := by decide +kernel
theorem dX10_since_28 : decode cX10_since 28 = .ok (.ishl, 1) := by decide +kernel
theorem dX10_since_29 : decode cX10_since 29 = .ok (.iconst (-1), 1) := by decide +kernel
theorem dX10_since_30 : decode cX10_since 30 = .ok (.ixor, 1) := by decide +kernel
theorem dX10_since_31 : decode cX10_since 31 = .ok (.invokevirtual 261, 3) := by decide +kernel
theorem dX10_since_34 : decode cX10_since 34 = .ok (.ireturn, 1) := by decide +kernel
theorem dX10_leak_0 : decode cX10_leak 0 = .ok (.iload_n 1, 1) := by decide +kernel
theorem dX10_leak_1 : decode cX10_leak 1 = .ok (.invokestatic 258, 3) := by decide +kernel
theorem dX10_leak_4 : decode cX10_leak 4 = .ok (.ifCond .eq 26, 3) := by decide +kernel
theorem dX10_leak_7 : decode cX10_leak 7 = .ok (.iload_n 2, 1) := by decide +kernel
theorem dX10_leak_8 : decode cX10_leak 8 = .ok (.aload_n 0, 1) := by decide +kernel
theorem dX10_leak_9 : decode cX10_leak 9 = .ok (.getfield 10, 3) := by decide +kernel
theorem dX10_leak_12 : decode cX10_leak 12 = .ok (.getfield 264, 3) := by decide +kernel
theorem dX10_leak_15 : decode cX10_leak 15 = .ok (.invokestatic 267, 3) := by decide +kernel
theorem dX10_leak_18 : decode cX10_leak 18 = .ok (.ifCond .eq 12, 3) := by decide +kernel
theorem dX10_leak_21 : decode cX10_leak 21 = .ok (.iload_n 3, 1) := by decide +kernel
theorem dX10_leak_22 : decode cX10_leak 22 = .ok (.iconst 0, 1) := by decide +kernel
theorem dX10_leak_23 : decode cX10_leak 23 = .ok (.iconst 2, 1) := by decide +kernel
theorem dX10_leak_24 : decode cX10_leak 24 = .ok (.invokestatic 77, 3) := by decide +kernel
theorem dX10_leak_27 : decode cX10_leak 27 = .ok (.ifCond .ne 5, 3) := by decide +kernel
theorem dX10_leak_30 : decode cX10_leak 30 = .ok (.iconst (-1), 1) := by decide +kernel
theorem dX10_leak_31 : decode cX10_leak 31 = .ok (.ireturn, 1) := by decide +kernel
theorem dX10_leak_32 : decode cX10_leak 32 = .ok (.aload_n 0, 1) := by decide +kernel
theorem dX10_leak_33 : decode cX10_leak 33 = .ok (.getfield 43, 3) := by decide +kernel
theorem dX10_leak_36 : decode cX10_leak 36 = .ok (.aload_n 0, 1) := by decide +kernel
theorem dX10_leak_37 : decode cX10_leak 37 = .ok (.getfield 10, 3) := by decide +kernel
theorem dX10_leak_40 : decode cX10_leak 40 = .ok (.iload_n 1, 1) := by decide +kernel
theorem dX10_leak_41 : decode cX10_leak 41 = .ok (.iload_n 2, 1) := by decide +kernel
theorem dX10_leak_42 : decode cX10_leak 42 = .ok (.invokevirtual 261, 3) := by decide +kernel
theorem dX10_leak_45 : decode cX10_leak 45 = .ok (.istore 4, 2) := by decide +kernel
theorem dX10_leak_47 : decode cX10_leak 47 = .ok (.iload 4, 2) := by decide +kernel
theorem dX10_leak_49 : decode cX10_leak 49 = .ok (.bipush (-4), 2) := by decide +kernel
theorem dX10_leak_51 : decode cX10_leak 51 = .ok (.if_icmp .eq 7, 3) := by decide +kernel
theorem dX10_leak_54 : decode cX10_leak 54 = .ok (.iload_n 3, 1) := by decide +kernel
theorem dX10_leak_55 : decode cX10_leak 55 = .ok (.ifCond .ne 6, 3) := by decide +kernel
theorem dX10_leak_58 : decode cX10_leak 58 = .ok (.iload 4, 2) := by decide +kernel
theorem dX10_leak_60 : decode cX10_leak 60 = .ok (.ireturn, 1) := by decide +kernel
theorem dX10_leak_61 : decode cX10_leak 61 = .ok (.iload_n 3, 1) := by decide +kernel
theorem dX10_leak_62 : decode cX10_leak 62 = .ok (.iconst 1, 1) := by decide +kernel
theorem dX10_leak_63 : decode cX10_leak 63 = .ok (.if_icmp .ne 19, 3) := by decide +kernel
theorem dX10_leak_66 : decode cX10_leak 66 = .ok (.aload_n 0, 1) := by decide +kernel
theorem dX10_leak_67 : decode cX10_leak 67 = .ok (.getfield 10, 3) := by decide +kernel
theorem dX10_leak_70 : decode cX10_leak 70 = .ok (.getfield 242, 3) := by decide +kernel
theorem dX10_leak_73 : decode cX10_leak 73 = .ok (.iload 4, 2) := by decide +kernel
theorem dX10_leak_75 : decode cX10_leak 75 = .ok (.iconst 1, 1) := by decide +kernel
theorem dX10_leak_76 : decode cX10_leak 76 = .ok (.invokevirtual 154, 3) := by decide +kernel
theorem dX10_leak_79 : decode cX10_leak 79 = .ok (.goto 15, 3) := by decide +kernel
theorem dX10_leak_82 : decode cX10_leak 82 = .ok (.aload_n 0, 1) := by decide +kernel
theorem dX10_leak_83 : decode cX10_leak 83 = .ok (.getfield 43, 3) := by decide +kernel
theorem dX10_leak_86 : decode cX10_leak 86 = .ok (.iload_n 1, 1) := by decide +kernel
theorem dX10_leak_87 : decode cX10_leak 87 = .ok (.invokevirtual 271, 3) := by decide +kernel
theorem dX10_leak_90 : decode cX10_leak 90 = .ok (.iload_n 2, 1) := by decide +kernel
theorem dX10_leak_91 : decode cX10_leak 91 = .ok (.iconst (-1), 1) := by decide +kernel
theorem dX10_leak_92 : decode cX10_leak 92 = .ok (.ixor, 1) := by decide +kernel
theorem dX10_leak_93 : decode cX10_leak 93 = .ok (.iand, 1) := by decide +kernel
theorem dX10_leak_94 : decode cX10_leak 94 = .ok (.ireturn, 1) := by decide +kernel
theorem dX10_without_0 : decode cX10_without 0 = .ok (.aload_n 0, 1) := by decide +kernel
theorem dX10_without_1 : decode cX10_without 1 = .ok (.iload_n 1, 1) := by decide +kernel
theorem dX10_without_2 : decode cX10_without 2 = .ok (.invokevirtual 246, 3) := by decide +kernel
theorem dX10_without_5 : decode cX10_without 5 = .ok (.ifCond .ne 5, 3) := by decide +kernel
theorem dX10_without_8 : decode cX10_without 8 = .ok (.iconst (-1), 1) := by decide +kernel
theorem dX10_without_9 : decode cX10_without 9 = .ok (.ireturn, 1) := by decide +kernel
theorem dX10_without_10 : decode cX10_without 10 = .ok (.aload_n 0, 1) := by decide +kernel
theorem dX10_without_11 : decode cX10_without 11 = .ok (.getfield 10, 3) := by decide +kernel
theorem dX10_without_14 : decode cX10_without 14 = .ok (.getfield 242, 3) := by decide +kernel
theorem dX10_without_17 : decode cX10_without 17 = .ok (.iload_n 1, 1) := by decide +kernel
theorem dX10_without_18 : decode cX10_without 18 = .ok (.iconst 2, 1) := by decide +kernel
theorem dX10_without_19 : decode cX10_without 19 = .ok (.invokevirtual 154, 3) := by decide +kernel
theorem dX10_without_22 : decode cX10_without 22 = .ok (.istore_n 2, 1) := by decide +kernel
theorem dX10_without_23 : decode cX10_without 23 = .ok (.aload_n 0, 1) := by decide +kernel
theorem dX10_without_24 : decode cX10_without 24 = .ok (.getfield 43, 3) := by decide +kernel
theorem dX10_without_27 : decode cX10_without 27 = .ok (.aload_n 0, 1) := by decide +kernel
theorem dX10_without_28 : decode cX10_without 28 = .ok (.getfield 10, 3) := by decide +kernel
theorem dX10_without_31 : decode cX10_without 31 = .ok (.aload_n 0, 1) := by decide +kernel
theorem dX10_without_32 : decode cX10_without 32 = .ok (.getfield 10, 3) := by decide +kernel
theorem dX10_without_35 : decode cX10_without 35 = .ok (.getfield 242, 3) := by decide +kernel
theorem dX10_without_38 : decode cX10_without 38 = .ok (.getfield 245, 3) := by decide +kernel
theorem dX10_without_41 : decode cX10_without 41 = .ok (.invokevirtual 249, 3) := by decide +kernel
theorem dX10_without_44 : decode cX10_without 44 = .ok (.pop, 1) := by decide +kernel
theorem dX10_without_45 : decode cX10_without 45 = .ok (.aload_n 0, 1) := by decide +kernel
theorem dX10_without_46 : decode cX10_without 46 = .ok (.getfield 43, 3) := by decide +kernel
theorem dX10_without_49 : decode cX10_without 49 = .ok (.iload_n 2, 1) := by decide +kernel
theorem dX10_without_50 : decode cX10_without 50 = .ok (.invokevirtual 271, 3) := by decide +kernel
theorem dX10_without_53 : decode cX10_without 53 = .ok (.invokestatic 231, 3) := by decide +kernel
theorem dX10_without_56 : decode cX10_without 56 = .ok (.istore_n 3, 1) := by decide +kernel
theorem dX10_without_57 : decode cX10_without 57 = .ok (.aload_n 0, 1) := by decide +kernel
theorem dX10_without_58 : decode cX10_without 58 = .ok (.getfield 43, 3) := by decide +kernel
theorem dX10_without_61 : decode cX10_without 61 = .ok (.aload_n 0, 1) := by decide +kernel
theorem dX10_without_62 : decode cX10_without 62 = .ok (.getfield 10, 3) := by decide +kernel
theorem dX10_without_65 : decode cX10_without 65 = .ok (.iload_n 1, 1) := by decide +kernel
theorem dX10_without_66 : decode cX10_without 66 = .ok (.invokevirtual 274, 3) := by decide +kernel
theorem dX10_without_69 : decode cX10_without 69 = .ok (.iload_n 3, 1) := by decide +kernel
theorem dX10_without_70 : decode cX10_without 70 = .ok (.aload_n 0, 1) := by decide +kernel
theorem dX10_without_71 : decode cX10_without 71 = .ok (.getfield 43, 3) := by decide +kernel
theorem dX10_without_74 : decode cX10_without 74 = .ok (.iload_n 2, 1) := by decide +kernel
theorem dX10_without_75 : decode cX10_without 75 = .ok (.invokevirtual 271, 3) := by decide +kernel
theorem dX10_without_78 : decode cX10_without 78 = .ok (.invokestatic 231, 3) := by decide +kernel
theorem dX10_without_81 : decode cX10_without 81 = .ok (.isub, 1) := by decide +kernel
theorem dX10_without_82 : decode cX10_without 82 = .ok (.istore 4, 2) := by decide +kernel
theorem dX10_without_84 : decode cX10_without 84 = .ok (.iload 4, 2) := by decide +kernel
theorem dX10_without_86 : decode cX10_without 86 = .ok (.ifCond .ge 11, 3) := by decide +kernel
theorem dX10_without_89 : decode cX10_without 89 = .ok (.iload 4, 2) := by decide +kernel
theorem dX10_without_91 : decode cX10_without 91 = .ok (.bipush 100, 2) := by decide +kernel
theorem dX10_without_93 : decode cX10_without 93 = .ok (.isub, 1) := by decide +kernel
theorem dX10_without_94 : decode cX10_without 94 = .ok (.goto 5, 3) := by decide +kernel
theorem dX10_without_97 : decode cX10_without 97 = .ok (.iload 4, 2) := by decide +kernel
theorem dX10_without_99 : decode cX10_without 99 = .ok (.ireturn, 1) := by decide +kernel
theorem dX10_murmur_0 : decode cX10_murmur 0 = .ok (.iload_n 2, 1) := by decide +kernel
theorem dX10_murmur_1 : decode cX10_murmur 1 = .ok (.iconst 1, 1) := by decide +kernel
theorem dX10_murmur_2 : decode cX10_murmur 2 = .ok (.bipush 12, 2) := by decide +kernel
theorem dX10_murmur_4 : decode cX10_murmur 4 = .ok (.invokestatic 77, 3) := by decide +kernel
theorem dX10_murmur_7 : decode cX10_murmur 7 = .ok (.ifCond .eq 10, 3) := by decide +kernel
theorem dX10_murmur_10 : decode cX10_murmur 10 = .ok (.iload_n 3, 1) := by decide +kernel
theorem dX10_murmur_11 : decode cX10_murmur 11 = .ok (.invokestatic 124, 3) := by decide +kernel
theorem dX10_murmur_14 : decode cX10_murmur 14 = .ok (.ifCond .ne 5, 3) := by decide +kernel
theorem dX10_murmur_17 : decode cX10_murmur 17 = .ok (.iconst (-1), 1) := by decide +kernel
theorem dX10_murmur_18 : decode cX10_murmur 18 = .ok (.ireturn, 1) := by decide +kernel
theorem dX10_murmur_19 : decode cX10_murmur 19 = .ok (.aload_n 0, 1) := by decide +kernel
theorem dX10_murmur_20 : decode cX10_murmur 20 = .ok (.getfield 10, 3) := by decide +kernel
theorem dX10_murmur_23 : decode cX10_murmur 23 = .ok (.getfield 264, 3) := by decide +kernel
theorem dX10_murmur_26 : decode cX10_murmur 26 = .ok (.ifCond .gt 6, 3) := by decide +kernel
theorem dX10_murmur_29 : decode cX10_murmur 29 = .ok (.bipush (-2), 2) := by decide +kernel
theorem dX10_murmur_31 : decode cX10_murmur 31 = .ok (.ireturn, 1) := by decide +kernel
theorem dX10_murmur_32 : decode cX10_murmur 32 = .ok (.aload_n 0, 1) := by decide +kernel
theorem dX10_murmur_33 : decode cX10_murmur 33 = .ok (.getfield 10, 3) := by decide +kernel
theorem dX10_murmur_36 : decode cX10_murmur 36 = .ok (.getfield 242, 3) := by decide +kernel
theorem dX10_murmur_39 : decode cX10_murmur 39 = .ok (.iconst 0, 1) := by decide +kernel
theorem dX10_murmur_40 : decode cX10_murmur 40 = .ok (.putfield 245, 3) := by decide +kernel
theorem dX10_murmur_43 : decode cX10_murmur 43 = .ok (.iload_n 1, 1) := by decide +kernel
theorem dX10_murmur_44 : decode cX10_murmur 44 = .ok (.istore 4, 2) := by decide +kernel
theorem dX10_murmur_46 : decode cX10_murmur 46 = .ok (.iconst 0, 1) := by decide +kernel
theorem dX10_murmur_47 : decode cX10_murmur 47 = .ok (.istore 5, 2) := by decide +kernel
theorem dX10_murmur_49 : decode cX10_murmur 49 = .ok (.iload 5, 2) := by decide +kernel
theorem dX10_murmur_51 : decode cX10_murmur 51 = .ok (.iload_n 2, 1) := by decide +kernel
theorem dX10_murmur_52 : decode cX10_murmur 52 = .ok (.if_icmp .ge 59, 3) := by decide +kernel
theorem dX10_murmur_55 : decode cX10_murmur 55 = .ok (.iload 4, 2) := by decide +kernel
theorem dX10_murmur_57 : decode cX10_murmur 57 = .ok (.invokestatic 277, 3) := by decide +kernel
theorem dX10_murmur_60 : decode cX10_murmur 60 = .ok (.istore 4, 2) := by decide +kernel
theorem dX10_murmur_62 : decode cX10_murmur 62 = .ok (.iload 4, 2) := by decide +kernel
theorem dX10_murmur_64 : decode cX10_murmur 64 = .ok (.invokestatic 280, 3) := by decide +kernel
theorem dX10_murmur_67 : decode cX10_murmur 67 = .ok (.aload_n 0, 1) := by decide +kernel
theorem dX10_murmur_68 : decode cX10_murmur 68 = .ok (.getfield 10, 3) := by decide +kernel
theorem dX10_murmur_71 : decode cX10_murmur 71 = .ok (.getfield 264, 3) := by decide +kernel
theorem dX10_murmur_74 : decode cX10_murmur 74 = .ok (.irem, 1) := by decide +kernel
theorem dX10_murmur_75 : decode cX10_murmur 75 = .ok (.istore 6, 2) := by decide +kernel
theorem dX10_murmur_77 : decode cX10_murmur 77 = .ok (.iload 4, 2) := by decide +kernel
theorem dX10_murmur_79 : decode cX10_murmur 79 = .ok (.invokestatic 277, 3) := by decide +kernel
theorem dX10_murmur_82 : decode cX10_murmur 82 = .ok (.istore 4, 2) := by decide +kernel
theorem dX10_murmur_84 : decode cX10_murmur 84 = .ok (.aload_n 0, 1) := by decide +kernel
theorem dX10_murmur_85 : decode cX10_murmur 85 = .ok (.getfield 10, 3) := by decide +kernel
theorem dX10_murmur_88 : decode cX10_murmur 88 = .ok (.getfield 242, 3) := by decide +kernel
theorem dX10_murmur_91 : decode cX10_murmur 91 = .ok (.iload_n 3, 1) := by decide +kernel
theorem dX10_murmur_92 : decode cX10_murmur 92 = .ok (.iload 6, 2) := by decide +kernel
theorem dX10_murmur_94 : decode cX10_murmur 94 = .ok (.iload 4, 2) := by decide +kernel
theorem dX10_murmur_96 : decode cX10_murmur 96 = .ok (.invokestatic 280, 3) := by decide +kernel
theorem dX10_murmur_99 : decode cX10_murmur 99 = .ok (.bipush 8, 2) := by decide +kernel
theorem dX10_murmur_101 : decode cX10_murmur 101 = .ok (.irem, 1) := by decide +kernel
theorem dX10_murmur_102 : decode cX10_murmur 102 = .ok (.invokevirtual 283, 3) := by decide +kernel
theorem dX10_murmur_105 : decode cX10_murmur 105 = .ok (.iinc 5 1, 3) := by decide +kernel
theorem dX10_murmur_108 : decode cX10_murmur 108 = .ok (.goto (-59), 3) := by decide +kernel
theorem dX10_murmur_111 : decode cX10_murmur 111 = .ok (.aload_n 0, 1) := by decide +kernel
theorem dX10_murmur_112 : decode cX10_murmur 112 = .ok (.getfield 43, 3) := by decide +kernel
theorem dX10_murmur_115 : decode cX10_murmur 115 = .ok (.aload_n 0, 1) := by decide +kernel
theorem dX10_murmur_116 : decode cX10_murmur 116 = .ok (.getfield 10, 3) := by decide +kernel
theorem dX10_murmur_119 : decode cX10_murmur 119 = .ok (.iload_n 2, 1) := by decide +kernel
theorem dX10_murmur_120 : decode cX10_murmur 120 = .ok (.invokevirtual 249, 3) := by decide +kernel
theorem dX10_murmur_123 : decode cX10_murmur 123 = .ok (.ireturn, 1) := by decide +kernel
theorem dX10_from_0 : decode cX10_from 0 = .ok (.iload_n 1, 1) := by decide +kernel
theorem dX10_from_1 : decode cX10_from 1 = .ok (.aload_n 0, 1) := by decide +kernel
theorem dX10_from_2 : decode cX10_from 2 = .ok (.getfield 10, 3) := by decide +kernel
theorem dX10_from_5 : decode cX10_from 5 = .ok (.getfield 127, 3) := by decide +kernel
theorem dX10_from_8 : decode cX10_from 8 = .ok (.getfield 199, 3) := by decide +kernel
theorem dX10_from_11 : decode cX10_from 11 = .ok (.invokestatic 267, 3) := by decide +kernel
theorem dX10_from_14 : decode cX10_from 14 = .ok (.ifCond .eq 10, 3) := by decide +kernel
theorem dX10_from_17 : decode cX10_from 17 = .ok (.iload_n 2, 1) := by decide +kernel
theorem dX10_from_18 : decode cX10_from 18 = .ok (.invokestatic 124, 3) := by decide +kernel
theorem dX10_from_21 : decode cX10_from 21 = .ok (.ifCond .ne 5, 3) := by decide +kernel
theorem dX10_from_24 : decode cX10_from 24 = .ok (.iconst (-1), 1) := by decide +kernel
theorem dX10_from_25 : decode cX10_from 25 = .ok (.ireturn, 1) := by decide +kernel
theorem dX10_from_26 : decode cX10_from 26 = .ok (.iconst 0, 1) := by decide +kernel
theorem dX10_from_27 : decode cX10_from 27 = .ok (.istore_n 3, 1) := by decide +kernel
theorem dX10_from_28 : decode cX10_from 28 = .ok (.iconst 0, 1) := by decide +kernel
theorem dX10_from_29 : decode cX10_from 29 = .ok (.istore 4, 2) := by decide +kernel
theorem dX10_from_31 : decode cX10_from 31 = .ok (.iload 4, 2) := by decide +kernel
theorem dX10_from_33 : decode cX10_from 33 = .ok (.aload_n 0, 1) := by decide +kernel
theorem dX10_from_34 : decode cX10_from 34 = .ok (.getfield 10, 3) := by decide +kernel
theorem dX10_from_37 : decode cX10_from 37 = .ok (.getfield 127, 3) := by decide +kernel
theorem dX10_from_40 : decode cX10_from 40 = .ok (.getfield 199, 3) := by decide +kernel
theorem dX10_from_43 : decode cX10_from 43 = .ok (.if_icmp .ge 34, 3) := by decide +kernel
theorem dX10_from_46 : decode cX10_from 46 = .ok (.aload_n 0, 1) := by decide +kernel
theorem dX10_from_47 : decode cX10_from 47 = .ok (.getfield 36, 3) := by decide +kernel
theorem dX10_from_50 : decode cX10_from 50 = .ok (.aload_n 0, 1) := by decide +kernel
theorem dX10_from_51 : decode cX10_from 51 = .ok (.getfield 10, 3) := by decide +kernel
theorem dX10_from_54 : decode cX10_from 54 = .ok (.iload 4, 2) := by decide +kernel
theorem dX10_from_56 : decode cX10_from 56 = .ok (.iload_n 2, 1) := by decide +kernel
theorem dX10_from_57 : decode cX10_from 57 = .ok (.invokevirtual 196, 3) := by decide +kernel
theorem dX10_from_60 : decode cX10_from 60 = .ok (.iload_n 1, 1) := by decide +kernel
theorem dX10_from_61 : decode cX10_from 61 = .ok (.if_icmp .ne 10, 3) := by decide +kernel
theorem dX10_from_64 : decode cX10_from 64 = .ok (.iload_n 3, 1) := by decide +kernel
theorem dX10_from_65 : decode cX10_from 65 = .ok (.iconst 1, 1) := by decide +kernel
theorem dX10_from_66 : decode cX10_from 66 = .ok (.iload 4, 2) := by decide +kernel
theorem dX10_from_68 : decode cX10_from 68 = .ok (.ishl, 1) := by decide +kernel
theorem dX10_from_69 : decode cX10_from 69 = .ok (.ior, 1) := by decide +kernel
theorem dX10_from_70 : decode cX10_from 70 = .ok (.istore_n 3, 1) := by decide +kernel
theorem dX10_from_71 : decode cX10_from 71 = .ok (.iinc 4 1, 3) := by decide +kernel
theorem dX10_from_74 : decode cX10_from 74 = .ok (.goto (-43), 3) := by decide +kernel
theorem dX10_from_77 : decode cX10_from 77 = .ok (.iload_n 3, 1) := by decide +kernel
theorem dX10_from_78 : decode cX10_from 78 = .ok (.ireturn, 1) := by decide +kernel
theorem dX10_where_0 : decode cX10_where 0 = .ok (.iload_n 1, 1) := by decide +kernel
theorem dX10_where_1 : decode cX10_where 1 = .ok (.aload_n 0, 1) := by decide +kernel
theorem dX10_where_2 : decode cX10_where 2 = .ok (.getfield 10, 3) := by decide +kernel
theorem dX10_where_5 : decode cX10_where 5 = .ok (.getfield 127, 3) := by decide +kernel
theorem dX10_where_8 : decode cX10_where 8 = .ok (.getfield 199, 3) := by decide +kernel
theorem dX10_where_11 : decode cX10_where 11 = .ok (.invokestatic 267, 3) := by decide +kernel
theorem dX10_where_14 : decode cX10_where 14 = .ok (.ifCond .eq 23, 3) := by decide +kernel
theorem dX10_where_17 : decode cX10_where 17 = .ok (.iload_n 1, 1) := by decide +kernel
theorem dX10_where_18 : decode cX10_where 18 = .ok (.ifCond .eq 19, 3) := by decide +kernel
theorem dX10_where_21 : decode cX10_where 21 = .ok (.iload_n 2, 1) := by decide +kernel
theorem dX10_where_22 : decode cX10_where 22 = .ok (.invokestatic 124, 3) := by decide +kernel
theorem dX10_where_25 : decode cX10_where 25 = .ok (.ifCond .eq 12, 3) := by decide +kernel
theorem dX10_where_28 : decode cX10_where 28 = .ok (.iload_n 3, 1) := by decide +kernel
theorem dX10_where_29 : decode cX10_where 29 = .ok (.iconst 0, 1) := by decide +kernel
theorem dX10_where_30 : decode cX10_where 30 = .ok (.iconst 2, 1) := by decide +kernel
theorem dX10_where_31 : decode cX10_where 31 = .ok (.invokestatic 77, 3) := by decide +kernel
theorem dX10_where_34 : decode cX10_where 34 = .ok (.ifCond .ne 5, 3) := by decide +kernel
theorem dX10_where_37 : decode cX10_where 37 = .ok (.iconst (-1), 1) := by decide +kernel
theorem dX10_where_38 : decode cX10_where 38 = .ok (.ireturn, 1) := by decide +kernel
theorem dX10_where_39 : decode cX10_where 39 = .ok (.iconst 0, 1) := by decide +kernel
theorem dX10_where_40 : decode cX10_where 40 = .ok (.istore 4, 2) := by decide +kernel
theorem dX10_where_42 : decode cX10_where 42 = .ok (.bipush (-4), 2) := by decide +kernel
theorem dX10_where_44 : decode cX10_where 44 = .ok (.istore 5, 2) := by decide +kernel
theorem dX10_where_46 : decode cX10_where 46 = .ok (.bipush (-4), 2) := by decide +kernel
theorem dX10_where_48 : decode cX10_where 48 = .ok (.istore 6, 2) := by decide +kernel
theorem dX10_where_50 : decode cX10_where 50 = .ok (.iconst 0, 1) := by decide +kernel
theorem dX10_where_51 : decode cX10_where 51 = .ok (.istore 7, 2) := by decide +kernel
theorem dX10_where_53 : decode cX10_where 53 = .ok (.iload 7, 2) := by decide +kernel
theorem dX10_where_55 : decode cX10_where 55 = .ok (.bipush 81, 2) := by decide +kernel
theorem dX10_where_57 : decode cX10_where 57 = .ok (.if_icmp .ge 73, 3) := by decide +kernel
theorem dX10_where_60 : decode cX10_where 60 = .ok (.aload_n 0, 1) := by decide +kernel
theorem dX10_where_61 : decode cX10_where 61 = .ok (.getfield 10, 3) := by decide +kernel
theorem dX10_where_64 : decode cX10_where 64 = .ok (.iload 7, 2) := by decide +kernel
theorem dX10_where_66 : decode cX10_where 66 = .ok (.invokevirtual 287, 3) := by decide +kernel
theorem dX10_where_69 : decode cX10_where 69 = .ok (.ifCond .eq 14, 3) := by decide +kernel
theorem dX10_where_72 : decode cX10_where 72 = .ok (.aload_n 0, 1) := by decide +kernel
theorem dX10_where_73 : decode cX10_where 73 = .ok (.iload_n 1, 1) := by decide +kernel
theorem dX10_where_74 : decode cX10_where 74 = .ok (.iload 7, 2) := by decide +kernel
theorem dX10_where_76 : decode cX10_where 76 = .ok (.iload_n 2, 1) := by decide +kernel
theorem dX10_where_77 : decode cX10_where 77 = .ok (.invokevirtual 290, 3) := by decide +kernel
theorem dX10_where_80 : decode cX10_where 80 = .ok (.goto 5, 3) := by decide +kernel
theorem dX10_where_83 : decode cX10_where 83 = .ok (.bipush (-4), 2) := by decide +kernel
theorem dX10_where_85 : decode cX10_where 85 = .ok (.istore 8, 2) := by decide +kernel
theorem dX10_where_87 : decode cX10_where 87 = .ok (.iload 8, 2) := by decide +kernel
theorem dX10_where_89 : decode cX10_where 89 = .ok (.bipush (-4), 2) := by decide +kernel
theorem dX10_where_91 : decode cX10_where 91 = .ok (.if_icmp .eq 16, 3) := by decide +kernel
theorem dX10_where_94 : decode cX10_where 94 = .ok (.iload 4, 2) := by decide +kernel
theorem dX10_where_96 : decode cX10_where 96 = .ok (.ifCond .ne 11, 3) := by decide +kernel
theorem dX10_where_99 : decode cX10_where 99 = .ok (.iload 7, 2) := by decide +kernel
theorem dX10_where_101 : decode cX10_where 101 = .ok (.istore 5, 2) := by decide +kernel
theorem dX10_where_103 : decode cX10_where 103 = .ok (.iload 8, 2) := by decide +kernel
theorem dX10_where_105 : decode cX10_where 105 = .ok (.istore 6, 2) := by decide +kernel
theorem dX10_where_107 : decode cX10_where 107 = .ok (.iload 4, 2) := by decide +kernel
theorem dX10_where_109 : decode cX10_where 109 = .ok (.iload 8, 2) := by decide +kernel
theorem dX10_where_111 : decode cX10_where 111 = .ok (.bipush (-4), 2) := by decide +kernel
theorem dX10_where_113 : decode cX10_where 113 = .ok (.if_icmp .ne 7, 3) := by decide +kernel
theorem dX10_where_116 : decode cX10_where 116 = .ok (.iconst 0, 1) := by decide +kernel
theorem dX10_where_117 : decode cX10_where 117 = .ok (.goto 4, 3) := by decide +kernel
theorem dX10_where_120 : decode cX10_where 120 = .ok (.iconst 1, 1) := by decide +kernel
theorem dX10_where_121 : decode cX10_where 121 = .ok (.iadd, 1) := by decide +kernel
theorem dX10_where_122 : decode cX10_where 122 = .ok (.istore 4, 2) := by decide +kernel
theorem dX10_where_124 : decode cX10_where 124 = .ok (.iinc 7 1, 3) := by decide +kernel
theorem dX10_where_127 : decode cX10_where 127 = .ok (.goto (-74), 3) := by decide +kernel
theorem dX10_where_130 : decode cX10_where 130 = .ok (.iload_n 3, 1) := by decide +kernel
theorem dX10_where_131 : decode cX10_where 131 = .ok (.ifCond .ne 6, 3) := by decide +kernel
theorem dX10_where_134 : decode cX10_where 134 = .ok (.iload 4, 2) := by decide +kernel
theorem dX10_where_136 : decode cX10_where 136 = .ok (.ireturn, 1) := by decide +kernel
theorem dX10_where_137 : decode cX10_where 137 = .ok (.iload_n 3, 1) := by decide +kernel
theorem dX10_where_138 : decode cX10_where 138 = .ok (.iconst 1, 1) := by decide +kernel
theorem dX10_where_139 : decode cX10_where 139 = .ok (.if_icmp .ne 8, 3) := by decide +kernel
theorem dX10_where_142 : decode cX10_where 142 = .ok (.iload 5, 2) := by decide +kernel
theorem dX10_where_144 : decode cX10_where 144 = .ok (.goto 5, 3) := by decide +kernel
theorem dX10_where_147 : decode cX10_where 147 = .ok (.iload 6, 2) := by decide +kernel
theorem dX10_where_149 : decode cX10_where 149 = .ok (.ireturn, 1) := by decide +kernel
theorem dX10_keep_0 : decode cX10_keep 0 = .ok (.iload_n 1, 1) := by decide +kernel
theorem dX10_keep_1 : decode cX10_keep 1 = .ok (.iconst 0, 1) := by decide +kernel
theorem dX10_keep_2 : decode cX10_keep 2 = .ok (.iconst 1, 1) := by decide +kernel
theorem dX10_keep_3 : decode cX10_keep 3 = .ok (.invokestatic 77, 3) := by decide +kernel
theorem dX10_keep_6 : decode cX10_keep 6 = .ok (.ifCond .ne 5, 3) := by decide +kernel
theorem dX10_keep_9 : decode cX10_keep 9 = .ok (.iconst (-1), 1) := by decide +kernel
theorem dX10_keep_10 : decode cX10_keep 10 = .ok (.ireturn, 1) := by decide +kernel
theorem dX10_keep_11 : decode cX10_keep 11 = .ok (.aload_n 0, 1) := by decide +kernel
theorem dX10_keep_12 : decode cX10_keep 12 = .ok (.getfield 22, 3) := by decide +kernel
theorem dX10_keep_15 : decode cX10_keep 15 = .ok (.iload_n 1, 1) := by decide +kernel
theorem dX10_keep_16 : decode cX10_keep 16 = .ok (.invokestatic 205, 3) := by decide +kernel
theorem dX10_keep_19 : decode cX10_keep 19 = .ok (.istore_n 2, 1) := by decide +kernel
theorem dX10_keep_20 : decode cX10_keep 20 = .ok (.aload_n 0, 1) := by decide +kernel
theorem dX10_keep_21 : decode cX10_keep 21 = .ok (.iload_n 1, 1) := by decide +kernel
theorem dX10_keep_22 : decode cX10_keep 22 = .ok (.invokevirtual 293, 3) := by decide +kernel
theorem dX10_keep_25 : decode cX10_keep 25 = .ok (.aload_n 0, 1) := by decide +kernel
theorem dX10_keep_26 : decode cX10_keep 26 = .ok (.getfield 10, 3) := by decide +kernel
theorem dX10_keep_29 : decode cX10_keep 29 = .ok (.invokevirtual 297, 3) := by decide +kernel
theorem dX10_keep_32 : decode cX10_keep 32 = .ok (.aload_n 0, 1) := by decide +kernel
theorem dX10_keep_33 : decode cX10_keep 33 = .ok (.dup, 1) := by decide +kernel
theorem dX10_keep_34 : decode cX10_keep 34 = .ok (.getfield 22, 3) := by decide +kernel
theorem dX10_keep_37 : decode cX10_keep 37 = .ok (.iconst 1, 1) := by decide +kernel
theorem dX10_keep_38 : decode cX10_keep 38 = .ok (.iload_n 1, 1) := by decide +kernel
theorem dX10_keep_39 : decode cX10_keep 39 = .ok (.ishl, 1) := by decide +kernel
theorem dX10_keep_40 : decode cX10_keep 40 = .ok (.ior, 1) := by decide +kernel
theorem dX10_keep_41 : decode cX10_keep 41 = .ok (.putfield 22, 3) := by decide +kernel
theorem dX10_keep_44 : decode cX10_keep 44 = .ok (.iload_n 2, 1) := by decide +kernel
theorem dX10_keep_45 : decode cX10_keep 45 = .ok (.ireturn, 1) := by decide +kernel
theorem dX10_back_0 : decode cX10_back 0 = .ok (.iload_n 1, 1) := by decide +kernel
theorem dX10_back_1 : decode cX10_back 1 = .ok (.iconst 0, 1) := by decide +kernel
theorem dX10_back_2 : decode cX10_back 2 = .ok (.iconst 1, 1) := by decide +kernel
theorem dX10_back_3 : decode cX10_back 3 = .ok (.invokestatic 77, 3) := by decide +kernel
theorem dX10_back_6 : decode cX10_back 6 = .ok (.ifCond .ne 5, 3) := by decide +kernel
theorem dX10_back_9 : decode cX10_back 9 = .ok (.iconst (-1), 1) := by decide +kernel
theorem dX10_back_10 : decode cX10_back 10 = .ok (.ireturn, 1) := by decide +kernel
theorem dX10_back_11 : decode cX10_back 11 = .ok (.aload_n 0, 1) := by decide +kernel
theorem dX10_back_12 : decode cX10_back 12 = .ok (.getfield 22, 3) := by decide +kernel
theorem dX10_back_15 : decode cX10_back 15 = .ok (.iload_n 1, 1) := by decide +kernel
theorem dX10_back_16 : decode cX10_back 16 = .ok (.invokestatic 205, 3) := by decide +kernel
theorem dX10_back_19 : decode cX10_back 19 = .ok (.ifCond .ne 6, 3) := by decide +kernel
theorem dX10_back_22 : decode cX10_back 22 = .ok (.bipush (-2), 2) := by decide +kernel
theorem dX10_back_24 : decode cX10_back 24 = .ok (.ireturn, 1) := by decide +kernel
theorem dX10_back_25 : decode cX10_back 25 = .ok (.aload_n 0, 1) := by decide +kernel
theorem dX10_back_26 : decode cX10_back 26 = .ok (.getfield 10, 3) := by decide +kernel
theorem dX10_back_29 : decode cX10_back 29 = .ok (.aload_n 0, 1) := by decide +kernel
theorem dX10_back_30 : decode cX10_back 30 = .ok (.iload_n 1, 1) := by decide +kernel
theorem dX10_back_31 : decode cX10_back 31 = .ok (.invokevirtual 293, 3) := by decide +kernel
theorem dX10_back_34 : decode cX10_back 34 = .ok (.invokevirtual 297, 3) := by decide +kernel
theorem dX10_back_37 : decode cX10_back 37 = .ok (.aload_n 0, 1) := by decide +kernel
theorem dX10_back_38 : decode cX10_back 38 = .ok (.getfield 10, 3) := by decide +kernel
theorem dX10_back_41 : decode cX10_back 41 = .ok (.getfield 242, 3) := by decide +kernel
theorem dX10_back_44 : decode cX10_back 44 = .ok (.getfield 245, 3) := by decide +kernel
theorem dX10_back_47 : decode cX10_back 47 = .ok (.ireturn, 1) := by decide +kernel
theorem dX10_sheet_0 : decode cX10_sheet 0 = .ok (.iload_n 1, 1) := by decide +kernel
theorem dX10_sheet_1 : decode cX10_sheet 1 = .ok (.iconst 0, 1) := by decide +kernel
theorem dX10_sheet_2 : decode cX10_sheet 2 = .ok (.iconst 3, 1) := by decide +kernel
theorem dX10_sheet_3 : decode cX10_sheet 3 = .ok (.invokestatic 77, 3) := by decide +kernel
theorem dX10_sheet_6 : decode cX10_sheet 6 = .ok (.ifCond .eq 18, 3) := by decide +kernel
theorem dX10_sheet_9 : decode cX10_sheet 9 = .ok (.iload_n 2, 1) := by decide +kernel
theorem dX10_sheet_10 : decode cX10_sheet 10 = .ok (.iconst 0, 1) := by decide +kernel
theorem dX10_sheet_11 : decode cX10_sheet 11 = .ok (.iconst 2, 1) := by decide +kernel
theorem dX10_sheet_12 : decode cX10_sheet 12 = .ok (.invokestatic 77, 3) := by decide +kernel
theorem dX10_sheet_15 : decode cX10_sheet 15 = .ok (.ifCond .eq 9, 3) := by decide +kernel
theorem dX10_sheet_18 : decode cX10_sheet 18 = .ok (.iload_n 3, 1) := by decide +kernel
theorem dX10_sheet_19 : decode cX10_sheet 19 = .ok (.bipush 40, 2) := by decide +kernel
theorem dX10_sheet_21 : decode cX10_sheet 21 = .ok (.if_icmp .le 5, 3) := by decide +kernel
theorem dX10_sheet_24 : decode cX10_sheet 24 = .ok (.iconst (-1), 1) := by decide +kernel
theorem dX10_sheet_25 : decode cX10_sheet 25 = .ok (.ireturn, 1) := by decide +kernel
theorem dX10_sheet_26 : decode cX10_sheet 26 = .ok (.iload_n 3, 1) := by decide +kernel
theorem dX10_sheet_27 : decode cX10_sheet 27 = .ok (.ifCond .ge 6, 3) := by decide +kernel
theorem dX10_sheet_30 : decode cX10_sheet 30 = .ok (.bipush (-14), 2) := by decide +kernel
theorem dX10_sheet_32 : decode cX10_sheet 32 = .ok (.ireturn, 1) := by decide +kernel
theorem dX10_sheet_33 : decode cX10_sheet 33 = .ok (.aload_n 0, 1) := by decide +kernel
theorem dX10_sheet_34 : decode cX10_sheet 34 = .ok (.getfield 57, 3) := by decide +kernel
theorem dX10_sheet_37 : decode cX10_sheet 37 = .ok (.iload_n 1, 1) := by decide +kernel
theorem dX10_sheet_38 : decode cX10_sheet 38 = .ok (.iload_n 2, 1) := by decide +kernel
theorem dX10_sheet_39 : decode cX10_sheet 39 = .ok (.iload_n 3, 1) := by decide +kernel
theorem dX10_sheet_40 : decode cX10_sheet 40 = .ok (.invokevirtual 300, 3) := by decide +kernel
theorem dX10_sheet_43 : decode cX10_sheet 43 = .ok (.iconst 1, 1) := by decide +kernel
theorem dX10_sheet_44 : decode cX10_sheet 44 = .ok (.ireturn, 1) := by decide +kernel
theorem dX10_lay_0 : decode cX10_lay 0 = .ok (.iload_n 1, 1) := by decide +kernel
theorem dX10_lay_1 : decode cX10_lay 1 = .ok (.iconst 0, 1) := by decide +kernel
theorem dX10_lay_2 : decode cX10_lay 2 = .ok (.iconst 3, 1) := by decide +kernel
theorem dX10_lay_3 : decode cX10_lay 3 = .ok (.invokestatic 77, 3) := by decide +kernel
theorem dX10_lay_6 : decode cX10_lay 6 = .ok (.ifCond .ne 5, 3) := by decide +kernel
theorem dX10_lay_9 : decode cX10_lay 9 = .ok (.iconst (-1), 1) := by decide +kernel
theorem dX10_lay_10 : decode cX10_lay 10 = .ok (.ireturn, 1) := by decide +kernel
theorem dX10_lay_11 : decode cX10_lay 11 = .ok (.aload_n 0, 1) := by decide +kernel
theorem dX10_lay_12 : decode cX10_lay 12 = .ok (.getfield 57, 3) := by decide +kernel
theorem dX10_lay_15 : decode cX10_lay 15 = .ok (.iload_n 1, 1) := by decide +kernel
theorem dX10_lay_16 : decode cX10_lay 16 = .ok (.iload_n 2, 1) := by decide +kernel
theorem dX10_lay_17 : decode cX10_lay 17 = .ok (.iconst 1, 1) := by decide +kernel
theorem dX10_lay_18 : decode cX10_lay 18 = .ok (.invokevirtual 303, 3) := by decide +kernel
theorem dX10_lay_21 : decode cX10_lay 21 = .ok (.istore 4, 2) := by decide +kernel
theorem dX10_lay_23 : decode cX10_lay 23 = .ok (.iload 4, 2) := by decide +kernel
theorem dX10_lay_25 : decode cX10_lay 25 = .ok (.ifCond .eq 9, 3) := by decide +kernel
theorem dX10_lay_28 : decode cX10_lay 28 = .ok (.bipush (-10), 2) := by decide +kernel
theorem dX10_lay_30 : decode cX10_lay 30 = .ok (.iload 4, 2) := by decide +kernel
theorem dX10_lay_32 : decode cX10_lay 32 = .ok (.isub, 1) := by decide +kernel
theorem dX10_lay_33 : decode cX10_lay 33 = .ok (.ireturn, 1) := by decide +kernel
theorem dX10_lay_34 : decode cX10_lay 34 = .ok (.aload_n 0, 1) := by decide +kernel
theorem dX10_lay_35 : decode cX10_lay 35 = .ok (.getfield 57, 3) := by decide +kernel
theorem dX10_lay_38 : decode cX10_lay 38 = .ok (.iload_n 1, 1) := by decide +kernel
theorem dX10_lay_39 : decode cX10_lay 39 = .ok (.iload_n 2, 1) := by decide +kernel
theorem dX10_lay_40 : decode cX10_lay 40 = .ok (.iload_n 3, 1) := by decide +kernel
theorem dX10_lay_41 : decode cX10_lay 41 = .ok (.invokevirtual 306, 3) := by decide +kernel
theorem dX10_lay_44 : decode cX10_lay 44 = .ok (.iconst 1, 1) := by decide +kernel
theorem dX10_lay_45 : decode cX10_lay 45 = .ok (.ireturn, 1) := by decide +kernel
theorem dX10_read_0 : decode cX10_read 0 = .ok (.iload_n 1, 1) := by decide +kernel
theorem dX10_read_1 : decode cX10_read 1 = .ok (.iconst 0, 1) := by decide +kernel
theorem dX10_read_2 : decode cX10_read 2 = .ok (.iconst 3, 1) := by decide +kernel
theorem dX10_read_3 : decode cX10_read 3 = .ok (.invokestatic 77, 3) := by decide +kernel
theorem dX10_read_6 : decode cX10_read 6 = .ok (.ifCond .eq 23, 3) := by decide +kernel
theorem dX10_read_9 : decode cX10_read 9 = .ok (.iload_n 2, 1) := by decide +kernel
theorem dX10_read_10 : decode cX10_read 10 = .ok (.iconst 0, 1) := by decide +kernel
theorem dX10_read_11 : decode cX10_read 11 = .ok (.iconst 2, 1) := by decide +kernel
theorem dX10_read_12 : decode cX10_read 12 = .ok (.invokestatic 77, 3) := by decide +kernel
theorem dX10_read_15 : decode cX10_read 15 = .ok (.ifCond .eq 14, 3) := by decide +kernel
theorem dX10_read_18 : decode cX10_read 18 = .ok (.iload 4, 2) := by decide +kernel
theorem dX10_read_20 : decode cX10_read 20 = .ok (.iconst 0, 1) := by decide +kernel
theorem dX10_read_21 : decode cX10_read 21 = .ok (.bipush 12, 2) := by decide +kernel
theorem dX10_read_23 : decode cX10_read 23 = .ok (.invokestatic 77, 3) := by decide +kernel
theorem dX10_read_26 : decode cX10_read 26 = .ok (.ifCond .ne 5, 3) := by decide +kernel
theorem dX10_read_29 : decode cX10_read 29 = .ok (.iconst (-1), 1) := by decide +kernel
theorem dX10_read_30 : decode cX10_read 30 = .ok (.ireturn, 1) := by decide +kernel
theorem dX10_read_31 : decode cX10_read 31 = .ok (.aload_n 0, 1) := by decide +kernel
theorem dX10_read_32 : decode cX10_read 32 = .ok (.getfield 10, 3) := by decide +kernel
theorem dX10_read_35 : decode cX10_read 35 = .ok (.getfield 242, 3) := by decide +kernel
theorem dX10_read_38 : decode cX10_read 38 = .ok (.getfield 245, 3) := by decide +kernel
theorem dX10_read_41 : decode cX10_read 41 = .ok (.istore 5, 2) := by decide +kernel
theorem dX10_read_43 : decode cX10_read 43 = .ok (.iconst 0, 1) := by decide +kernel
theorem dX10_read_44 : decode cX10_read 44 = .ok (.istore 6, 2) := by decide +kernel
theorem dX10_read_46 : decode cX10_read 46 = .ok (.iload 4, 2) := by decide +kernel
theorem dX10_read_48 : decode cX10_read 48 = .ok (.ifCond .ne 7, 3) := by decide +kernel
theorem dX10_read_51 : decode cX10_read 51 = .ok (.iconst 0, 1) := by decide +kernel
theorem dX10_read_52 : decode cX10_read 52 = .ok (.goto 12, 3) := by decide +kernel
theorem dX10_read_55 : decode cX10_read 55 = .ok (.aload_n 0, 1) := by decide +kernel
theorem dX10_read_56 : decode cX10_read 56 = .ok (.getfield 57, 3) := by decide +kernel
theorem dX10_read_59 : decode cX10_read 59 = .ok (.iload_n 1, 1) := by decide +kernel
theorem dX10_read_60 : decode cX10_read 60 = .ok (.iload_n 2, 1) := by decide +kernel
theorem dX10_read_61 : decode cX10_read 61 = .ok (.invokevirtual 309, 3) := by decide +kernel
theorem dX10_read_64 : decode cX10_read 64 = .ok (.istore 7, 2) := by decide +kernel
theorem dX10_read_66 : decode cX10_read 66 = .ok (.iconst 0, 1) := by decide +kernel
theorem dX10_read_67 : decode cX10_read 67 = .ok (.istore 8, 2) := by decide +kernel
theorem dX10_read_69 : decode cX10_read 69 = .ok (.iload 8, 2) := by decide +kernel
theorem dX10_read_71 : decode cX10_read 71 = .ok (.iload 4, 2) := by decide +kernel
theorem dX10_read_73 : decode cX10_read 73 = .ok (.if_icmp .ge 71, 3) := by decide +kernel
theorem dX10_read_76 : decode cX10_read 76 = .ok (.iload 7, 2) := by decide +kernel
theorem dX10_read_78 : decode cX10_read 78 = .ok (.ifCond .ne 66, 3) := by decide +kernel
theorem dX10_read_81 : decode cX10_read 81 = .ok (.aload_n 0, 1) := by decide +kernel
theorem dX10_read_82 : decode cX10_read 82 = .ok (.getfield 57, 3) := by decide +kernel
theorem dX10_read_85 : decode cX10_read 85 = .ok (.iload_n 1, 1) := by decide +kernel
theorem dX10_read_86 : decode cX10_read 86 = .ok (.iload_n 3, 1) := by decide +kernel
theorem dX10_read_87 : decode cX10_read 87 = .ok (.iconst 3, 1) := by decide +kernel
theorem dX10_read_88 : decode cX10_read 88 = .ok (.iload 8, 2) := by decide +kernel
theorem dX10_read_90 : decode cX10_read 90 = .ok (.imul, 1) := by decide +kernel
theorem dX10_read_91 : decode cX10_read 91 = .ok (.iadd, 1) := by decide +kernel
theorem dX10_read_92 : decode cX10_read 92 = .ok (.iconst 3, 1) := by decide +kernel
theorem dX10_read_93 : decode cX10_read 93 = .ok (.invokevirtual 303, 3) := by decide +kernel
theorem dX10_read_96 : decode cX10_read 96 = .ok (.istore 7, 2) := by decide +kernel
theorem dX10_read_98 : decode cX10_read 98 = .ok (.iload 7, 2) := by decide +kernel
theorem dX10_read_100 : decode cX10_read 100 = .ok (.ifCond .ne 38, 3) := by decide +kernel
theorem dX10_read_103 : decode cX10_read 103 = .ok (.aload_n 0, 1) := by decide +kernel
theorem dX10_read_104 : decode cX10_read 104 = .ok (.iload_n 1, 1) := by decide +kernel
theorem dX10_read_105 : decode cX10_read 105 = .ok (.iload_n 3, 1) := by decide +kernel
theorem dX10_read_106 : decode cX10_read 106 = .ok (.iconst 3, 1) := by decide +kernel
theorem dX10_read_107 : decode cX10_read 107 = .ok (.iload 8, 2) := by decide +kernel
theorem dX10_read_109 : decode cX10_read 109 = .ok (.imul, 1) := by decide +kernel
theorem dX10_read_110 : decode cX10_read 110 = .ok (.iadd, 1) := by decide +kernel
theorem dX10_read_111 : decode cX10_read 111 = .ok (.invokevirtual 312, 3) := by decide +kernel
theorem dX10_read_114 : decode cX10_read 114 = .ok (.ifCond .ge 21, 3) := by decide +kernel
theorem dX10_read_117 : decode cX10_read 117 = .ok (.aload_n 0, 1) := by decide +kernel
theorem dX10_read_118 : decode cX10_read 118 = .ok (.getfield 10, 3) := by decide +kernel
theorem dX10_read_121 : decode cX10_read 121 = .ok (.getfield 242, 3) := by decide +kernel
theorem dX10_read_124 : decode cX10_read 124 = .ok (.iload 5, 2) := by decide +kernel
theorem dX10_read_126 : decode cX10_read 126 = .ok (.putfield 245, 3) := by decide +kernel
theorem dX10_read_129 : decode cX10_read 129 = .ok (.bipush (-20), 2) := by decide +kernel
theorem dX10_read_131 : decode cX10_read 131 = .ok (.iload 8, 2) := by decide +kernel
theorem dX10_read_133 : decode cX10_read 133 = .ok (.isub, 1) := by decide +kernel
theorem dX10_read_134 : decode cX10_read 134 = .ok (.ireturn, 1) := by decide +kernel
theorem dX10_read_135 : decode cX10_read 135 = .ok (.iinc 6 1, 3) := by decide +kernel
theorem dX10_read_138 : decode cX10_read 138 = .ok (.iinc 8 1, 3) := by decide +kernel
theorem dX10_read_141 : decode cX10_read 141 = .ok (.goto (-72), 3) := by decide +kernel
theorem dX10_read_144 : decode cX10_read 144 = .ok (.aload_n 0, 1) := by decide +kernel
theorem dX10_read_145 : decode cX10_read 145 = .ok (.iload 7, 2) := by decide +kernel
theorem dX10_read_147 : decode cX10_read 147 = .ok (.putfield 61, 3) := by decide +kernel
theorem dX10_read_150 : decode cX10_read 150 = .ok (.iload 6, 2) := by decide +kernel
theorem dX10_read_152 : decode cX10_read 152 = .ok (.ireturn, 1) := by decide +kernel
theorem dX10_torn_0 : decode cX10_torn 0 = .ok (.aload_n 0, 1) := by decide +kernel
theorem dX10_torn_1 : decode cX10_torn 1 = .ok (.getfield 61, 3) := by decide +kernel
theorem dX10_torn_4 : decode cX10_torn 4 = .ok (.ireturn, 1) := by decide +kernel
theorem dX10_count_0 : decode cX10_count 0 = .ok (.iload_n 1, 1) := by decide +kernel
theorem dX10_count_1 : decode cX10_count 1 = .ok (.tableswitch 124 0 7 #[47, 58, 66, 74, 85, 96, 104, 115], 47) := by decide +kernel
theorem dX10_count_48 : decode cX10_count 48 = .ok (.aload_n 0, 1) := by decide +kernel
theorem dX10_count_49 : decode cX10_count 49 = .ok (.getfield 10, 3) := by decide +kernel
theorem dX10_count_52 : decode cX10_count 52 = .ok (.getfield 127, 3) := by decide +kernel
theorem dX10_count_55 : decode cX10_count 55 = .ok (.getfield 199, 3) := by decide +kernel
theorem dX10_count_58 : decode cX10_count 58 = .ok (.ireturn, 1) := by decide +kernel
theorem dX10_count_59 : decode cX10_count 59 = .ok (.aload_n 0, 1) := by decide +kernel
theorem dX10_count_60 : decode cX10_count 60 = .ok (.getfield 10, 3) := by decide +kernel
theorem dX10_count_63 : decode cX10_count 63 = .ok (.getfield 264, 3) := by decide +kernel
theorem dX10_count_66 : decode cX10_count 66 = .ok (.ireturn, 1) := by decide +kernel
theorem dX10_count_67 : decode cX10_count 67 = .ok (.aload_n 0, 1) := by decide +kernel
theorem dX10_count_68 : decode cX10_count 68 = .ok (.getfield 10, 3) := by decide +kernel
theorem dX10_count_71 : decode cX10_count 71 = .ok (.invokevirtual 315, 3) := by decide +kernel
theorem dX10_count_74 : decode cX10_count 74 = .ok (.ireturn, 1) := by decide +kernel
theorem dX10_count_75 : decode cX10_count 75 = .ok (.aload_n 0, 1) := by decide +kernel
theorem dX10_count_76 : decode cX10_count 76 = .ok (.getfield 10, 3) := by decide +kernel
theorem dX10_count_79 : decode cX10_count 79 = .ok (.getfield 150, 3) := by decide +kernel
theorem dX10_count_82 : decode cX10_count 82 = .ok (.getfield 245, 3) := by decide +kernel
theorem dX10_count_85 : decode cX10_count 85 = .ok (.ireturn, 1) := by decide +kernel
theorem dX10_count_86 : decode cX10_count 86 = .ok (.aload_n 0, 1) := by decide +kernel
theorem dX10_count_87 : decode cX10_count 87 = .ok (.getfield 10, 3) := by decide +kernel
theorem dX10_count_90 : decode cX10_count 90 = .ok (.getfield 242, 3) := by decide +kernel
theorem dX10_count_93 : decode cX10_count 93 = .ok (.getfield 245, 3) := by decide +kernel
theorem dX10_count_96 : decode cX10_count 96 = .ok (.ireturn, 1) := by decide +kernel
theorem dX10_count_97 : decode cX10_count 97 = .ok (.aload_n 0, 1) := by decide +kernel
theorem dX10_count_98 : decode cX10_count 98 = .ok (.getfield 22, 3) := by decide +kernel
theorem dX10_count_101 : decode cX10_count 101 = .ok (.invokestatic 231, 3) := by decide +kernel
theorem dX10_count_104 : decode cX10_count 104 = .ok (.ireturn, 1) := by decide +kernel
theorem dX10_count_105 : decode cX10_count 105 = .ok (.aload_n 0, 1) := by decide +kernel
theorem dX10_count_106 : decode cX10_count 106 = .ok (.getfield 29, 3) := by decide +kernel
theorem dX10_count_109 : decode cX10_count 109 = .ok (.getfield 64, 3) := by decide +kernel
theorem dX10_count_112 : decode cX10_count 112 = .ok (.getfield 74, 3) := by decide +kernel
theorem dX10_count_115 : decode cX10_count 115 = .ok (.ireturn, 1) := by decide +kernel
theorem dX10_count_116 : decode cX10_count 116 = .ok (.aload_n 0, 1) := by decide +kernel
theorem dX10_count_117 : decode cX10_count 117 = .ok (.getfield 57, 3) := by decide +kernel
theorem dX10_count_120 : decode cX10_count 120 = .ok (.iconst 0, 1) := by decide +kernel
theorem dX10_count_121 : decode cX10_count 121 = .ok (.invokevirtual 318, 3) := by decide +kernel
theorem dX10_count_124 : decode cX10_count 124 = .ok (.ireturn, 1) := by decide +kernel
theorem dX10_count_125 : decode cX10_count 125 = .ok (.iconst (-1), 1) := by decide +kernel
theorem dX10_count_126 : decode cX10_count 126 = .ok (.ireturn, 1) := by decide +kernel
theorem dX10_within_0 : decode cX10_within 0 = .ok (.iload_n 0, 1) := by decide +kernel
theorem dX10_within_1 : decode cX10_within 1 = .ok (.iload_n 1, 1) := by decide +kernel
theorem dX10_within_2 : decode cX10_within 2 = .ok (.if_icmp .lt 12, 3) := by decide +kernel
theorem dX10_within_5 : decode cX10_within 5 = .ok (.iload_n 0, 1) := by decide +kernel
theorem dX10_within_6 : decode cX10_within 6 = .ok (.iload_n 2, 1) := by decide +kernel
theorem dX10_within_7 : decode cX10_within 7 = .ok (.if_icmp .gt 7, 3) := by decide +kernel
theorem dX10_within_10 : decode cX10_within 10 = .ok (.iconst 1, 1) := by decide +kernel
theorem dX10_within_11 : decode cX10_within 11 = .ok (.goto 4, 3) := by decide +kernel
theorem dX10_within_14 : decode cX10_within 14 = .ok (.iconst 0, 1) := by decide +kernel
theorem dX10_within_15 : decode cX10_within 15 = .ok (.ireturn, 1) := by decide +kernel
theorem dX10_isHour_0 : decode cX10_isHour 0 = .ok (.iload_n 0, 1) := by decide +kernel
theorem dX10_isHour_1 : decode cX10_isHour 1 = .ok (.iconst 0, 1) := by decide +kernel
theorem dX10_isHour_2 : decode cX10_isHour 2 = .ok (.bipush 11, 2) := by decide +kernel
theorem dX10_isHour_4 : decode cX10_isHour 4 = .ok (.invokestatic 77, 3) := by decide +kernel
theorem dX10_isHour_7 : decode cX10_isHour 7 = .ok (.ireturn, 1) := by decide +kernel
theorem dX10_isSecret_0 : decode cX10_isSecret 0 = .ok (.iload_n 0, 1) := by decide +kernel
theorem dX10_isSecret_1 : decode cX10_isSecret 1 = .ok (.iconst 0, 1) := by decide +kernel
theorem dX10_isSecret_2 : decode cX10_isSecret 2 = .ok (.bipush 7, 2) := by decide +kernel
theorem dX10_isSecret_4 : decode cX10_isSecret 4 = .ok (.invokestatic 77, 3) := by decide +kernel
theorem dX10_isSecret_7 : decode cX10_isSecret 7 = .ok (.ireturn, 1) := by decide +kernel
theorem dX10_isBench_0 : decode cX10_isBench 0 = .ok (.iload_n 1, 1) := by decide +kernel
theorem dX10_isBench_1 : decode cX10_isBench 1 = .ok (.iconst 0, 1) := by decide +kernel
theorem dX10_isBench_2 : decode cX10_isBench 2 = .ok (.aload_n 0, 1) := by decide +kernel
theorem dX10_isBench_3 : decode cX10_isBench 3 = .ok (.getfield 10, 3) := by decide +kernel
theorem dX10_isBench_6 : decode cX10_isBench 6 = .ok (.getfield 127, 3) := by decide +kernel
theorem dX10_isBench_9 : decode cX10_isBench 9 = .ok (.getfield 199, 3) := by decide +kernel
theorem dX10_isBench_12 : decode cX10_isBench 12 = .ok (.iconst 1, 1) := by decide +kernel
theorem dX10_isBench_13 : decode cX10_isBench 13 = .ok (.isub, 1) := by decide +kernel
theorem dX10_isBench_14 : decode cX10_isBench 14 = .ok (.invokestatic 77, 3) := by decide +kernel
theorem dX10_isBench_17 : decode cX10_isBench 17 = .ok (.ireturn, 1) := by decide +kernel
theorem dX10_isOne_0 : decode cX10_isOne 0 = .ok (.iload_n 1, 1) := by decide +kernel
theorem dX10_isOne_1 : decode cX10_isOne 1 = .ok (.iconst 0, 1) := by decide +kernel
theorem dX10_isOne_2 : decode cX10_isOne 2 = .ok (.aload_n 0, 1) := by decide +kernel
theorem dX10_isOne_3 : decode cX10_isOne 3 = .ok (.getfield 10, 3) := by decide +kernel
theorem dX10_isOne_6 : decode cX10_isOne 6 = .ok (.getfield 264, 3) := by decide +kernel
theorem dX10_isOne_9 : decode cX10_isOne 9 = .ok (.iconst 1, 1) := by decide +kernel
theorem dX10_isOne_10 : decode cX10_isOne 10 = .ok (.isub, 1) := by decide +kernel
theorem dX10_isOne_11 : decode cX10_isOne 11 = .ok (.invokestatic 77, 3) := by decide +kernel
theorem dX10_isOne_14 : decode cX10_isOne 14 = .ok (.ireturn, 1) := by decide +kernel
theorem dX10_isWhisper_0 : decode cX10_isWhisper 0 = .ok (.iload_n 1, 1) := by decide +kernel
theorem dX10_isWhisper_1 : decode cX10_isWhisper 1 = .ok (.iconst 0, 1) := by decide +kernel
theorem dX10_isWhisper_2 : decode cX10_isWhisper 2 = .ok (.aload_n 0, 1) := by decide +kernel
theorem dX10_isWhisper_3 : decode cX10_isWhisper 3 = .ok (.getfield 10, 3) := by decide +kernel
theorem dX10_isWhisper_6 : decode cX10_isWhisper 6 = .ok (.getfield 242, 3) := by decide +kernel
theorem dX10_isWhisper_9 : decode cX10_isWhisper 9 = .ok (.getfield 245, 3) := by decide +kernel
theorem dX10_isWhisper_12 : decode cX10_isWhisper 12 = .ok (.iconst 1, 1) := by decide +kernel
theorem dX10_isWhisper_13 : decode cX10_isWhisper 13 = .ok (.isub, 1) := by decide +kernel
theorem dX10_isWhisper_14 : decode cX10_isWhisper 14 = .ok (.invokestatic 77, 3) := by decide +kernel
theorem dX10_isWhisper_17 : decode cX10_isWhisper 17 = .ok (.ireturn, 1) := by decide +kernel
theorem dX10_areBitsBelow_0 : decode cX10_areBitsBelow 0 = .ok (.iload_n 0, 1) := by decide +kernel
theorem dX10_areBitsBelow_1 : decode cX10_areBitsBelow 1 = .ok (.iconst 0, 1) := by decide +kernel
theorem dX10_areBitsBelow_2 : decode cX10_areBitsBelow 2 = .ok (.iconst 1, 1) := by decide +kernel
theorem dX10_areBitsBelow_3 : decode cX10_areBitsBelow 3 = .ok (.iload_n 1, 1) := by decide +kernel
theorem dX10_areBitsBelow_4 : decode cX10_areBitsBelow 4 = .ok (.ishl, 1) := by decide +kernel
theorem dX10_areBitsBelow_5 : decode cX10_areBitsBelow 5 = .ok (.iconst 1, 1) := by decide +kernel
theorem dX10_areBitsBelow_6 : decode cX10_areBitsBelow 6 = .ok (.isub, 1) := by decide +kernel
theorem dX10_areBitsBelow_7 : decode cX10_areBitsBelow 7 = .ok (.invokestatic 77, 3) := by decide +kernel
theorem dX10_areBitsBelow_10 : decode cX10_areBitsBelow 10 = .ok (.ireturn, 1) := by decide +kernel
theorem dX10_bit_0 : decode cX10_bit 0 = .ok (.iload_n 0, 1) := by decide +kernel
theorem dX10_bit_1 : decode cX10_bit 1 = .ok (.iload_n 1, 1) := by decide +kernel
theorem dX10_bit_2 : decode cX10_bit 2 = .ok (.ishr, 1) := by decide +kernel
theorem dX10_bit_3 : decode cX10_bit 3 = .ok (.iconst 1, 1) := by decide +kernel
theorem dX10_bit_4 : decode cX10_bit 4 = .ok (.iand, 1) := by decide +kernel
theorem dX10_bit_5 : decode cX10_bit 5 = .ok (.ireturn, 1) := by decide +kernel
theorem dX10_imageOf_0 : decode cX10_imageOf 0 = .ok (.iload_n 1, 1) := by decide +kernel
theorem dX10_imageOf_1 : decode cX10_imageOf 1 = .ok (.ifCond .ne 10, 3) := by decide +kernel
theorem dX10_imageOf_4 : decode cX10_imageOf 4 = .ok (.aload_n 0, 1) := by decide +kernel
theorem dX10_imageOf_5 : decode cX10_imageOf 5 = .ok (.getfield 16, 3) := by decide +kernel
theorem dX10_imageOf_8 : decode cX10_imageOf 8 = .ok (.goto 7, 3) := by decide +kernel
theorem dX10_imageOf_11 : decode cX10_imageOf 11 = .ok (.aload_n 0, 1) := by decide +kernel
theorem dX10_imageOf_12 : decode cX10_imageOf 12 = .ok (.getfield 19, 3) := by decide +kernel
theorem dX10_imageOf_15 : decode cX10_imageOf 15 = .ok (.areturn, 1) := by decide +kernel
theorem dX10_nextSeed_0 : decode cX10_nextSeed 0 = .ok (.iload_n 0, 1) := by decide +kernel
theorem dX10_nextSeed_1 : decode cX10_nextSeed 1 = .ok (.ldc_w 321, 3) := by decide +kernel
theorem dX10_nextSeed_4 : decode cX10_nextSeed 4 = .ok (.imul, 1) := by decide +kernel
theorem dX10_nextSeed_5 : decode cX10_nextSeed 5 = .ok (.sipush 12345, 3) := by decide +kernel
theorem dX10_nextSeed_8 : decode cX10_nextSeed 8 = .ok (.iadd, 1) := by decide +kernel
theorem dX10_nextSeed_9 : decode cX10_nextSeed 9 = .ok (.ireturn, 1) := by decide +kernel
theorem dX10_drawnFrom_0 : decode cX10_drawnFrom 0 = .ok (.iload_n 0, 1) := by decide +kernel
theorem dX10_drawnFrom_1 : decode cX10_drawnFrom 1 = .ok (.bipush 16, 2) := by decide +kernel
theorem dX10_drawnFrom_3 : decode cX10_drawnFrom 3 = .ok (.ishr, 1) := by decide +kernel
theorem dX10_drawnFrom_4 : decode cX10_drawnFrom 4 = .ok (.sipush 32767, 3) := by decide +kernel
theorem dX10_drawnFrom_7 : decode cX10_drawnFrom 7 = .ok (.iand, 1) := by decide +kernel
theorem dX10_drawnFrom_8 : decode cX10_drawnFrom 8 = .ok (.ireturn, 1) := by decide +kernel
theorem dX10_whisperMore_0 : decode cX10_whisperMore 0 = .ok (.iload_n 1, 1) := by decide +kernel
theorem dX10_whisperMore_1 : decode cX10_whisperMore 1 = .ok (.invokestatic 124, 3) := by decide +kernel
theorem dX10_whisperMore_4 : decode cX10_whisperMore 4 = .ok (.ifCond .eq 29, 3) := by decide +kernel
theorem dX10_whisperMore_7 : decode cX10_whisperMore 7 = .ok (.iload_n 1, 1) := by decide +kernel
theorem dX10_whisperMore_8 : decode cX10_whisperMore 8 = .ok (.aload_n 0, 1) := by decide +kernel
theorem dX10_whisperMore_9 : decode cX10_whisperMore 9 = .ok (.getfield 10, 3) := by decide +kernel
theorem dX10_whisperMore_12 : decode cX10_whisperMore 12 = .ok (.invokevirtual 322, 3) := by decide +kernel
theorem dX10_whisperMore_15 : decode cX10_whisperMore 15 = .ok (.if_icmp .lt 18, 3) := by decide +kernel
theorem dX10_whisperMore_18 : decode cX10_whisperMore 18 = .ok (.aload_n 0, 1) := by decide +kernel
theorem dX10_whisperMore_19 : decode cX10_whisperMore 19 = .ok (.iload_n 2, 1) := by decide +kernel
theorem dX10_whisperMore_20 : decode cX10_whisperMore 20 = .ok (.invokevirtual 166, 3) := by decide +kernel
theorem dX10_whisperMore_23 : decode cX10_whisperMore 23 = .ok (.ifCond .eq 10, 3) := by decide +kernel
theorem dX10_whisperMore_26 : decode cX10_whisperMore 26 = .ok (.iload_n 3, 1) := by decide +kernel
theorem dX10_whisperMore_27 : decode cX10_whisperMore 27 = .ok (.invokestatic 258, 3) := by decide +kernel
theorem dX10_whisperMore_30 : decode cX10_whisperMore 30 = .ok (.ifCond .ne 5, 3) := by decide +kernel
theorem dX10_whisperMore_33 : decode cX10_whisperMore 33 = .ok (.iconst (-1), 1) := by decide +kernel
theorem dX10_whisperMore_34 : decode cX10_whisperMore 34 = .ok (.ireturn, 1) := by decide +kernel
theorem dX10_whisperMore_35 : decode cX10_whisperMore 35 = .ok (.aload_n 0, 1) := by decide +kernel
theorem dX10_whisperMore_36 : decode cX10_whisperMore 36 = .ok (.getfield 10, 3) := by decide +kernel
theorem dX10_whisperMore_39 : decode cX10_whisperMore 39 = .ok (.getfield 242, 3) := by decide +kernel
theorem dX10_whisperMore_42 : decode cX10_whisperMore 42 = .ok (.getfield 245, 3) := by decide +kernel
theorem dX10_whisperMore_45 : decode cX10_whisperMore 45 = .ok (.bipush 12, 2) := by decide +kernel
theorem dX10_whisperMore_47 : decode cX10_whisperMore 47 = .ok (.if_icmp .lt 6, 3) := by decide +kernel
theorem dX10_whisperMore_50 : decode cX10_whisperMore 50 = .ok (.bipush (-3), 2) := by decide +kernel
theorem dX10_whisperMore_52 : decode cX10_whisperMore 52 = .ok (.ireturn, 1) := by decide +kernel
theorem dX10_whisperMore_53 : decode cX10_whisperMore 53 = .ok (.aload_n 0, 1) := by decide +kernel
theorem dX10_whisperMore_54 : decode cX10_whisperMore 54 = .ok (.getfield 10, 3) := by decide +kernel
theorem dX10_whisperMore_57 : decode cX10_whisperMore 57 = .ok (.getfield 242, 3) := by decide +kernel
theorem dX10_whisperMore_60 : decode cX10_whisperMore 60 = .ok (.iload_n 1, 1) := by decide +kernel
theorem dX10_whisperMore_61 : decode cX10_whisperMore 61 = .ok (.iload_n 2, 1) := by decide +kernel
theorem dX10_whisperMore_62 : decode cX10_whisperMore 62 = .ok (.iload_n 3, 1) := by decide +kernel
theorem dX10_whisperMore_63 : decode cX10_whisperMore 63 = .ok (.invokevirtual 283, 3) := by decide +kernel
theorem dX10_whisperMore_66 : decode cX10_whisperMore 66 = .ok (.aload_n 0, 1) := by decide +kernel
theorem dX10_whisperMore_67 : decode cX10_whisperMore 67 = .ok (.getfield 10, 3) := by decide +kernel
theorem dX10_whisperMore_70 : decode cX10_whisperMore 70 = .ok (.getfield 242, 3) := by decide +kernel
theorem dX10_whisperMore_73 : decode cX10_whisperMore 73 = .ok (.getfield 245, 3) := by decide +kernel
theorem dX10_whisperMore_76 : decode cX10_whisperMore 76 = .ok (.ireturn, 1) := by decide +kernel
theorem dX10_whisperOfSheet_0 : decode cX10_whisperOfSheet 0 = .ok (.aload_n 0, 1) := by decide +kernel
theorem dX10_whisperOfSheet_1 : decode cX10_whisperOfSheet 1 = .ok (.aload_n 0, 1) := by decide +kernel
theorem dX10_whisperOfSheet_2 : decode cX10_whisperOfSheet 2 = .ok (.getfield 57, 3) := by decide +kernel
theorem dX10_whisperOfSheet_5 : decode cX10_whisperOfSheet 5 = .ok (.iload_n 1, 1) := by decide +kernel
theorem dX10_whisperOfSheet_6 : decode cX10_whisperOfSheet 6 = .ok (.iload_n 2, 1) := by decide +kernel
theorem dX10_whisperOfSheet_7 : decode cX10_whisperOfSheet 7 = .ok (.invokevirtual 325, 3) := by decide +kernel
theorem dX10_whisperOfSheet_10 : decode cX10_whisperOfSheet 10 = .ok (.aload_n 0, 1) := by decide +kernel
theorem dX10_whisperOfSheet_11 : decode cX10_whisperOfSheet 11 = .ok (.getfield 57, 3) := by decide +kernel
theorem dX10_whisperOfSheet_14 : decode cX10_whisperOfSheet 14 = .ok (.iload_n 1, 1) := by decide +kernel
theorem dX10_whisperOfSheet_15 : decode cX10_whisperOfSheet 15 = .ok (.iload_n 2, 1) := by decide +kernel
theorem dX10_whisperOfSheet_16 : decode cX10_whisperOfSheet 16 = .ok (.iconst 1, 1) := by decide +kernel
theorem dX10_whisperOfSheet_17 : decode cX10_whisperOfSheet 17 = .ok (.iadd, 1) := by decide +kernel
theorem dX10_whisperOfSheet_18 : decode cX10_whisperOfSheet 18 = .ok (.invokevirtual 325, 3) := by decide +kernel
theorem dX10_whisperOfSheet_21 : decode cX10_whisperOfSheet 21 = .ok (.aload_n 0, 1) := by decide +kernel
theorem dX10_whisperOfSheet_22 : decode cX10_whisperOfSheet 22 = .ok (.getfield 57, 3) := by decide +kernel
theorem dX10_whisperOfSheet_25 : decode cX10_whisperOfSheet 25 = .ok (.iload_n 1, 1) := by decide +kernel
theorem dX10_whisperOfSheet_26 : decode cX10_whisperOfSheet 26 = .ok (.iload_n 2, 1) := by decide +kernel
theorem dX10_whisperOfSheet_27 : decode cX10_whisperOfSheet 27 = .ok (.iconst 2, 1) := by decide +kernel
theorem dX10_whisperOfSheet_28 : decode cX10_whisperOfSheet 28 = .ok (.iadd, 1) := by decide +kernel
theorem dX10_whisperOfSheet_29 : decode cX10_whisperOfSheet 29 = .ok (.invokevirtual 325, 3) := by decide +kernel
theorem dX10_whisperOfSheet_32 : decode cX10_whisperOfSheet 32 = .ok (.invokevirtual 239, 3) := by decide +kernel
theorem dX10_whisperOfSheet_35 : decode cX10_whisperOfSheet 35 = .ok (.ireturn, 1) := by decide +kernel
theorem dX10_bestChange_0 : decode cX10_bestChange 0 = .ok (.bipush (-4), 2) := by decide +kernel
theorem dX10_bestChange_2 : decode cX10_bestChange 2 = .ok (.istore 4, 2) := by decide +kernel
theorem dX10_bestChange_4 : decode cX10_bestChange 4 = .ok (.aload_n 0, 1) := by decide +kernel
theorem dX10_bestChange_5 : decode cX10_bestChange 5 = .ok (.getfield 36, 3) := by decide +kernel
theorem dX10_bestChange_8 : decode cX10_bestChange 8 = .ok (.aload_n 0, 1) := by decide +kernel
theorem dX10_bestChange_9 : decode cX10_bestChange 9 = .ok (.getfield 10, 3) := by decide +kernel
theorem dX10_bestChange_12 : decode cX10_bestChange 12 = .ok (.iload_n 1, 1) := by decide +kernel
theorem dX10_bestChange_13 : decode cX10_bestChange 13 = .ok (.invokevirtual 208, 3) := by decide +kernel
theorem dX10_bestChange_16 : decode cX10_bestChange 16 = .ok (.invokestatic 231, 3) := by decide +kernel
theorem dX10_bestChange_19 : decode cX10_bestChange 19 = .ok (.istore 5, 2) := by decide +kernel
theorem dX10_bestChange_21 : decode cX10_bestChange 21 = .ok (.iconst 0, 1) := by decide +kernel
theorem dX10_bestChange_22 : decode cX10_bestChange 22 = .ok (.istore 6, 2) := by decide +kernel
theorem dX10_bestChange_24 : decode cX10_bestChange 24 = .ok (.iload 6, 2) := by decide +kernel
theorem dX10_bestChange_26 : decode cX10_bestChange 26 = .ok (.bipush 81, 2) := by decide +kernel
theorem dX10_bestChange_28 : decode cX10_bestChange 28 = .ok (.if_icmp .ge 84, 3) := by decide +kernel
theorem dX10_bestChange_31 : decode cX10_bestChange 31 = .ok (.aload_n 0, 1) := by decide +kernel
theorem dX10_bestChange_32 : decode cX10_bestChange 32 = .ok (.iload 6, 2) := by decide +kernel
theorem dX10_bestChange_34 : decode cX10_bestChange 34 = .ok (.iload_n 3, 1) := by decide +kernel
theorem dX10_bestChange_35 : decode cX10_bestChange 35 = .ok (.iload_n 1, 1) := by decide +kernel
theorem dX10_bestChange_36 : decode cX10_bestChange 36 = .ok (.invokevirtual 328, 3) := by decide +kernel
theorem dX10_bestChange_39 : decode cX10_bestChange 39 = .ok (.ifCond .eq 67, 3) := by decide +kernel
theorem dX10_bestChange_42 : decode cX10_bestChange 42 = .ok (.aload_n 0, 1) := by decide +kernel
theorem dX10_bestChange_43 : decode cX10_bestChange 43 = .ok (.getfield 10, 3) := by decide +kernel
theorem dX10_bestChange_46 : decode cX10_bestChange 46 = .ok (.iload 6, 2) := by decide +kernel
theorem dX10_bestChange_48 : decode cX10_bestChange 48 = .ok (.invokevirtual 117, 3) := by decide +kernel
theorem dX10_bestChange_51 : decode cX10_bestChange 51 = .ok (.istore 7, 2) := by decide +kernel
theorem dX10_bestChange_53 : decode cX10_bestChange 53 = .ok (.aload_n 0, 1) := by decide +kernel
theorem dX10_bestChange_54 : decode cX10_bestChange 54 = .ok (.getfield 10, 3) := by decide +kernel
theorem dX10_bestChange_57 : decode cX10_bestChange 57 = .ok (.iload 6, 2) := by decide +kernel
theorem dX10_bestChange_59 : decode cX10_bestChange 59 = .ok (.iload_n 3, 1) := by decide +kernel
theorem dX10_bestChange_60 : decode cX10_bestChange 60 = .ok (.invokevirtual 162, 3) := by decide +kernel
theorem dX10_bestChange_63 : decode cX10_bestChange 63 = .ok (.aload_n 0, 1) := by decide +kernel
theorem dX10_bestChange_64 : decode cX10_bestChange 64 = .ok (.getfield 36, 3) := by decide +kernel
theorem dX10_bestChange_67 : decode cX10_bestChange 67 = .ok (.aload_n 0, 1) := by decide +kernel
theorem dX10_bestChange_68 : decode cX10_bestChange 68 = .ok (.getfield 10, 3) := by decide +kernel
theorem dX10_bestChange_71 : decode cX10_bestChange 71 = .ok (.iload_n 1, 1) := by decide +kernel
theorem dX10_bestChange_72 : decode cX10_bestChange 72 = .ok (.invokevirtual 208, 3) := by decide +kernel
theorem dX10_bestChange_75 : decode cX10_bestChange 75 = .ok (.invokestatic 231, 3) := by decide +kernel
theorem dX10_bestChange_78 : decode cX10_bestChange 78 = .ok (.istore 8, 2) := by decide +kernel
theorem dX10_bestChange_80 : decode cX10_bestChange 80 = .ok (.aload_n 0, 1) := by decide +kernel
theorem dX10_bestChange_81 : decode cX10_bestChange 81 = .ok (.getfield 10, 3) := by decide +kernel
theorem dX10_bestChange_84 : decode cX10_bestChange 84 = .ok (.iload 6, 2) := by decide +kernel
theorem dX10_bestChange_86 : decode cX10_bestChange 86 = .ok (.iload 7, 2) := by decide +kernel
theorem dX10_bestChange_88 : decode cX10_bestChange 88 = .ok (.invokevirtual 162, 3) := by decide +kernel
theorem dX10_bestChange_91 : decode cX10_bestChange 91 = .ok (.iload 8, 2) := by decide +kernel
theorem dX10_bestChange_93 : decode cX10_bestChange 93 = .ok (.iload 5, 2) := by decide +kernel
theorem dX10_bestChange_95 : decode cX10_bestChange 95 = .ok (.if_icmp .ge 11, 3) := by decide +kernel
theorem dX10_bestChange_98 : decode cX10_bestChange 98 = .ok (.iload 8, 2) := by decide +kernel
theorem dX10_bestChange_100 : decode cX10_bestChange 100 = .ok (.istore 5, 2) := by decide +kernel
theorem dX10_bestChange_102 : decode cX10_bestChange 102 = .ok (.iload 6, 2) := by decide +kernel
theorem dX10_bestChange_104 : decode cX10_bestChange 104 = .ok (.istore 4, 2) := by decide +kernel
theorem dX10_bestChange_106 : decode cX10_bestChange 106 = .ok (.iinc 6 1, 3) := by decide +kernel
theorem dX10_bestChange_109 : decode cX10_bestChange 109 = .ok (.goto (-85), 3) := by decide +kernel
theorem dX10_bestChange_112 : decode cX10_bestChange 112 = .ok (.iload 4, 2) := by decide +kernel
theorem dX10_bestChange_114 : decode cX10_bestChange 114 = .ok (.bipush (-4), 2) := by decide +kernel
theorem dX10_bestChange_116 : decode cX10_bestChange 116 = .ok (.if_icmp .eq 7, 3) := by decide +kernel
theorem dX10_bestChange_119 : decode cX10_bestChange 119 = .ok (.iload_n 2, 1) := by decide +kernel
theorem dX10_bestChange_120 : decode cX10_bestChange 120 = .ok (.ifCond .ne 8, 3) := by decide +kernel
theorem dX10_bestChange_123 : decode cX10_bestChange 123 = .ok (.iload 4, 2) := by decide +kernel
theorem dX10_bestChange_125 : decode cX10_bestChange 125 = .ok (.goto 5, 3) := by decide +kernel
theorem dX10_bestChange_128 : decode cX10_bestChange 128 = .ok (.iload 5, 2) := by decide +kernel
theorem dX10_bestChange_130 : decode cX10_bestChange 130 = .ok (.ireturn, 1) := by decide +kernel
theorem dX10_mayBecome_0 : decode cX10_mayBecome 0 = .ok (.iload_n 2, 1) := by decide +kernel
theorem dX10_mayBecome_1 : decode cX10_mayBecome 1 = .ok (.ifCond .ne 31, 3) := by decide +kernel
theorem dX10_mayBecome_4 : decode cX10_mayBecome 4 = .ok (.aload_n 0, 1) := by decide +kernel
theorem dX10_mayBecome_5 : decode cX10_mayBecome 5 = .ok (.getfield 10, 3) := by decide +kernel
theorem dX10_mayBecome_8 : decode cX10_mayBecome 8 = .ok (.iload_n 1, 1) := by decide +kernel
theorem dX10_mayBecome_9 : decode cX10_mayBecome 9 = .ok (.invokevirtual 113, 3) := by decide +kernel
theorem dX10_mayBecome_12 : decode cX10_mayBecome 12 = .ok (.ifCond .eq 18, 3) := by decide +kernel
theorem dX10_mayBecome_15 : decode cX10_mayBecome 15 = .ok (.aload_n 0, 1) := by decide +kernel
theorem dX10_mayBecome_16 : decode cX10_mayBecome 16 = .ok (.getfield 10, 3) := by decide +kernel
theorem dX10_mayBecome_19 : decode cX10_mayBecome 19 = .ok (.iload_n 1, 1) := by decide +kernel
theorem dX10_mayBecome_20 : decode cX10_mayBecome 20 = .ok (.invokevirtual 287, 3) := by decide +kernel
theorem dX10_mayBecome_23 : decode cX10_mayBecome 23 = .ok (.ifCond .ne 7, 3) := by decide +kernel
theorem dX10_mayBecome_26 : decode cX10_mayBecome 26 = .ok (.iconst 1, 1) := by decide +kernel
theorem dX10_mayBecome_27 : decode cX10_mayBecome 27 = .ok (.goto 4, 3) := by decide +kernel
theorem dX10_mayBecome_30 : decode cX10_mayBecome 30 = .ok (.iconst 0, 1) := by decide +kernel
theorem dX10_mayBecome_31 : decode cX10_mayBecome 31 = .ok (.ireturn, 1) := by decide +kernel
theorem dX10_mayBecome_32 : decode cX10_mayBecome 32 = .ok (.aload_n 0, 1) := by decide +kernel
theorem dX10_mayBecome_33 : decode cX10_mayBecome 33 = .ok (.getfield 10, 3) := by decide +kernel
theorem dX10_mayBecome_36 : decode cX10_mayBecome 36 = .ok (.iload_n 1, 1) := by decide +kernel
theorem dX10_mayBecome_37 : decode cX10_mayBecome 37 = .ok (.invokevirtual 287, 3) := by decide +kernel
theorem dX10_mayBecome_40 : decode cX10_mayBecome 40 = .ok (.ifCond .eq 19, 3) := by decide +kernel
theorem dX10_mayBecome_43 : decode cX10_mayBecome 43 = .ok (.aload_n 0, 1) := by decide +kernel
theorem dX10_mayBecome_44 : decode cX10_mayBecome 44 = .ok (.getfield 10, 3) := by decide +kernel
theorem dX10_mayBecome_47 : decode cX10_mayBecome 47 = .ok (.iload_n 1, 1) := by decide +kernel
theorem dX10_mayBecome_48 : decode cX10_mayBecome 48 = .ok (.iload_n 3, 1) := by decide +kernel
theorem dX10_mayBecome_49 : decode cX10_mayBecome 49 = .ok (.invokevirtual 331, 3) := by decide +kernel
theorem dX10_mayBecome_52 : decode cX10_mayBecome 52 = .ok (.ifCond .ne 7, 3) := by decide +kernel
theorem dX10_mayBecome_55 : decode cX10_mayBecome 55 = .ok (.iconst 1, 1) := by decide +kernel
theorem dX10_mayBecome_56 : decode cX10_mayBecome 56 = .ok (.goto 4, 3) := by decide +kernel
theorem dX10_mayBecome_59 : decode cX10_mayBecome 59 = .ok (.iconst 0, 1) := by decide +kernel
theorem dX10_mayBecome_60 : decode cX10_mayBecome 60 = .ok (.ireturn, 1) := by decide +kernel
theorem dX10_brokenOnDay_0 : decode cX10_brokenOnDay 0 = .ok (.aload_n 0, 1) := by decide +kernel
theorem dX10_brokenOnDay_1 : decode cX10_brokenOnDay 1 = .ok (.getfield 10, 3) := by decide +kernel
theorem dX10_brokenOnDay_4 : decode cX10_brokenOnDay 4 = .ok (.getfield 110, 3) := by decide +kernel
theorem dX10_brokenOnDay_7 : decode cX10_brokenOnDay 7 = .ok (.istore_n 3, 1) := by decide +kernel
theorem dX10_brokenOnDay_8 : decode cX10_brokenOnDay 8 = .ok (.aload_n 0, 1) := by decide +kernel
theorem dX10_brokenOnDay_9 : decode cX10_brokenOnDay 9 = .ok (.getfield 10, 3) := by decide +kernel
theorem dX10_brokenOnDay_12 : decode cX10_brokenOnDay 12 = .ok (.iload_n 2, 1) := by decide +kernel
theorem dX10_brokenOnDay_13 : decode cX10_brokenOnDay 13 = .ok (.putfield 110, 3) := by decide +kernel
theorem dX10_brokenOnDay_16 : decode cX10_brokenOnDay 16 = .ok (.aload_n 0, 1) := by decide +kernel
theorem dX10_brokenOnDay_17 : decode cX10_brokenOnDay 17 = .ok (.getfield 36, 3) := by decide +kernel
theorem dX10_brokenOnDay_20 : decode cX10_brokenOnDay 20 = .ok (.aload_n 0, 1) := by decide +kernel
theorem dX10_brokenOnDay_21 : decode cX10_brokenOnDay 21 = .ok (.getfield 10, 3) := by decide +kernel
theorem dX10_brokenOnDay_24 : decode cX10_brokenOnDay 24 = .ok (.iload_n 1, 1) := by decide +kernel
theorem dX10_brokenOnDay_25 : decode cX10_brokenOnDay 25 = .ok (.invokevirtual 208, 3) := by decide +kernel
theorem dX10_brokenOnDay_28 : decode cX10_brokenOnDay 28 = .ok (.invokestatic 231, 3) := by decide +kernel
theorem dX10_brokenOnDay_31 : decode cX10_brokenOnDay 31 = .ok (.istore 4, 2) := by decide +kernel
theorem dX10_brokenOnDay_33 : decode cX10_brokenOnDay 33 = .ok (.aload_n 0, 1) := by decide +kernel
theorem dX10_brokenOnDay_34 : decode cX10_brokenOnDay 34 = .ok (.getfield 10, 3) := by decide +kernel
theorem dX10_brokenOnDay_37 : decode cX10_brokenOnDay 37 = .ok (.iload_n 3, 1) := by decide +kernel
theorem dX10_brokenOnDay_38 : decode cX10_brokenOnDay 38 = .ok (.putfield 110, 3) := by decide +kernel
theorem dX10_brokenOnDay_41 : decode cX10_brokenOnDay 41 = .ok (.iload 4, 2) := by decide +kernel
theorem dX10_brokenOnDay_43 : decode cX10_brokenOnDay 43 = .ok (.ireturn, 1) := by decide +kernel
theorem dX10_hearersOnDay_0 : decode cX10_hearersOnDay 0 = .ok (.aload_n 0, 1) := by decide +kernel
theorem dX10_hearersOnDay_1 : decode cX10_hearersOnDay 1 = .ok (.getfield 10, 3) := by decide +kernel
theorem dX10_hearersOnDay_4 : decode cX10_hearersOnDay 4 = .ok (.getfield 110, 3) := by decide +kernel
theorem dX10_hearersOnDay_7 : decode cX10_hearersOnDay 7 = .ok (.istore 4, 2) := by decide +kernel
theorem dX10_hearersOnDay_9 : decode cX10_hearersOnDay 9 = .ok (.aload_n 0, 1) := by decide +kernel
theorem dX10_hearersOnDay_10 : decode cX10_hearersOnDay 10 = .ok (.getfield 10, 3) := by decide +kernel
theorem dX10_hearersOnDay_13 : decode cX10_hearersOnDay 13 = .ok (.iload_n 3, 1) := by decide +kernel
theorem dX10_hearersOnDay_14 : decode cX10_hearersOnDay 14 = .ok (.putfield 110, 3) := by decide +kernel
theorem dX10_hearersOnDay_17 : decode cX10_hearersOnDay 17 = .ok (.aload_n 0, 1) := by decide +kernel
theorem dX10_hearersOnDay_18 : decode cX10_hearersOnDay 18 = .ok (.getfield 36, 3) := by decide +kernel
theorem dX10_hearersOnDay_21 : decode cX10_hearersOnDay 21 = .ok (.aload_n 0, 1) := by decide +kernel
theorem dX10_hearersOnDay_22 : decode cX10_hearersOnDay 22 = .ok (.getfield 10, 3) := by decide +kernel
theorem dX10_hearersOnDay_25 : decode cX10_hearersOnDay 25 = .ok (.iload_n 1, 1) := by decide +kernel
theorem dX10_hearersOnDay_26 : decode cX10_hearersOnDay 26 = .ok (.iload_n 2, 1) := by decide +kernel
theorem dX10_hearersOnDay_27 : decode cX10_hearersOnDay 27 = .ok (.invokevirtual 196, 3) := by decide +kernel
theorem dX10_hearersOnDay_30 : decode cX10_hearersOnDay 30 = .ok (.istore 5, 2) := by decide +kernel
theorem dX10_hearersOnDay_32 : decode cX10_hearersOnDay 32 = .ok (.aload_n 0, 1) := by decide +kernel
theorem dX10_hearersOnDay_33 : decode cX10_hearersOnDay 33 = .ok (.getfield 10, 3) := by decide +kernel
theorem dX10_hearersOnDay_36 : decode cX10_hearersOnDay 36 = .ok (.iload 4, 2) := by decide +kernel
theorem dX10_hearersOnDay_38 : decode cX10_hearersOnDay 38 = .ok (.putfield 110, 3) := by decide +kernel
theorem dX10_hearersOnDay_41 : decode cX10_hearersOnDay 41 = .ok (.iload 5, 2) := by decide +kernel
theorem dX10_hearersOnDay_43 : decode cX10_hearersOnDay 43 = .ok (.ireturn, 1) := by decide +kernel
theorem dX10_firstDirectionHeardBy_0 : decode cX10_firstDirectionHeardBy 0 = .ok (.iconst 0, 1) := by decide +kernel
theorem dX10_firstDirectionHeardBy_1 : decode cX10_firstDirectionHeardBy 1 = .ok (.istore 4, 2) := by decide +kernel
theorem dX10_firstDirectionHeardBy_3 : decode cX10_firstDirectionHeardBy 3 = .ok (.iload 4, 2) := by decide +kernel
theorem dX10_firstDirectionHeardBy_5 : decode cX10_firstDirectionHeardBy 5 = .ok (.bipush 8, 2) := by decide +kernel
theorem dX10_firstDirectionHeardBy_7 : decode cX10_firstDirectionHeardBy 7 = .ok (.if_icmp .ge 46, 3) := by decide +kernel
theorem dX10_firstDirectionHeardBy_10 : decode cX10_firstDirectionHeardBy 10 = .ok (.aload_n 0, 1) := by decide +kernel
theorem dX10_firstDirectionHeardBy_11 : decode cX10_firstDirectionHeardBy 11 = .ok (.getfield 36, 3) := by decide +kernel
theorem dX10_firstDirectionHeardBy_14 : decode cX10_firstDirectionHeardBy 14 = .ok (.getfield 176, 3) := by decide +kernel
theorem dX10_firstDirectionHeardBy_17 : decode cX10_firstDirectionHeardBy 17 = .ok (.aload_n 0, 1) := by decide +kernel
theorem dX10_firstDirectionHeardBy_18 : decode cX10_firstDirectionHeardBy 18 = .ok (.getfield 10, 3) := by decide +kernel
theorem dX10_firstDirectionHeardBy_21 : decode cX10_firstDirectionHeardBy 21 = .ok (.iload_n 2, 1) := by decide +kernel
theorem dX10_firstDirectionHeardBy_22 : decode cX10_firstDirectionHeardBy 22 = .ok (.iload 4, 2) := by decide +kernel
theorem dX10_firstDirectionHeardBy_24 : decode cX10_firstDirectionHeardBy 24 = .ok (.iconst 0, 1) := by decide +kernel
theorem dX10_firstDirectionHeardBy_25 : decode cX10_firstDirectionHeardBy 25 = .ok (.invokevirtual 334, 3) := by decide +kernel
theorem dX10_firstDirectionHeardBy_28 : decode cX10_firstDirectionHeardBy 28 = .ok (.aload_n 0, 1) := by decide +kernel
theorem dX10_firstDirectionHeardBy_29 : decode cX10_firstDirectionHeardBy 29 = .ok (.getfield 36, 3) := by decide +kernel
theorem dX10_firstDirectionHeardBy_32 : decode cX10_firstDirectionHeardBy 32 = .ok (.aload_n 0, 1) := by decide +kernel
theorem dX10_firstDirectionHeardBy_33 : decode cX10_firstDirectionHeardBy 33 = .ok (.getfield 10, 3) := by decide +kernel
theorem dX10_firstDirectionHeardBy_36 : decode cX10_firstDirectionHeardBy 36 = .ok (.iload_n 3, 1) := by decide +kernel
theorem dX10_firstDirectionHeardBy_37 : decode cX10_firstDirectionHeardBy 37 = .ok (.invokevirtual 338, 3) := by decide +kernel
theorem dX10_firstDirectionHeardBy_40 : decode cX10_firstDirectionHeardBy 40 = .ok (.iload_n 1, 1) := by decide +kernel
theorem dX10_firstDirectionHeardBy_41 : decode cX10_firstDirectionHeardBy 41 = .ok (.if_icmp .ne 6, 3) := by decide +kernel
theorem dX10_firstDirectionHeardBy_44 : decode cX10_firstDirectionHeardBy 44 = .ok (.iload 4, 2) := by decide +kernel
theorem dX10_firstDirectionHeardBy_46 : decode cX10_firstDirectionHeardBy 46 = .ok (.ireturn, 1) := by decide +kernel
theorem dX10_firstDirectionHeardBy_47 : decode cX10_firstDirectionHeardBy 47 = .ok (.iinc 4 1, 3) := by decide +kernel
theorem dX10_firstDirectionHeardBy_50 : decode cX10_firstDirectionHeardBy 50 = .ok (.goto (-47), 3) := by decide +kernel
theorem dX10_firstDirectionHeardBy_53 : decode cX10_firstDirectionHeardBy 53 = .ok (.bipush (-4), 2) := by decide +kernel
theorem dX10_firstDirectionHeardBy_55 : decode cX10_firstDirectionHeardBy 55 = .ok (.ireturn, 1) := by decide +kernel
theorem dX11_init_0 : decode cX11_init 0 = .ok (.aload_n 0, 1) := by decide +kernel
theorem dX11_init_1 : decode cX11_init 1 = .ok (.invokespecial 1, 3) := by decide +kernel
theorem dX11_init_4 : decode cX11_init 4 = .ok (.aload_n 0, 1) := by decide +kernel
theorem dX11_init_5 : decode cX11_init 5 = .ok (.sipush 375, 3) := by decide +kernel
theorem dX11_init_8 : decode cX11_init 8 = .ok (.newarray .int, 2) := by decide +kernel
theorem dX11_init_10 : decode cX11_init 10 = .ok (.putfield 7, 3) := by decide +kernel
theorem dX11_init_13 : decode cX11_init 13 = .ok (.aload_n 0, 1) := by decide +kernel
theorem dX11_init_14 : decode cX11_init 14 = .ok (.iconst 2, 1) := by decide +kernel
theorem dX11_init_15 : decode cX11_init 15 = .ok (.newarray .boolean, 2) := by decide +kernel
theorem dX11_init_17 : decode cX11_init 17 = .ok (.putfield 13, 3) := by decide +kernel
theorem dX11_init_20 : decode cX11_init 20 = .ok (.aload_n 0, 1) := by decide +kernel
theorem dX11_init_21 : decode cX11_init 21 = .ok (.bipush 32, 2) := by decide +kernel
theorem dX11_init_23 : decode cX11_init 23 = .ok (.newarray .int, 2) := by decide +kernel
theorem dX11_init_25 : decode cX11_init 25 = .ok (.putfield 17, 3) := by decide +kernel
theorem dX11_init_28 : decode cX11_init 28 = .ok (.aload_n 0, 1) := by decide +kernel
theorem dX11_init_29 : decode cX11_init 29 = .ok (.bipush 24, 2) := by decide +kernel
theorem dX11_init_31 : decode cX11_init 31 = .ok (.newarray .int, 2) := by decide +kernel
theorem dX11_init_33 : decode cX11_init 33 = .ok (.putfield 20, 3) := by decide +kernel
theorem dX11_init_36 : decode cX11_init 36 = .ok (.aload_n 0, 1) := by decide +kernel
theorem dX11_init_37 : decode cX11_init 37 = .ok (.bipush 125, 2) := by decide +kernel
theorem dX11_init_39 : decode cX11_init 39 = .ok (.newarray .int, 2) := by decide +kernel
theorem dX11_init_41 : decode cX11_init 41 = .ok (.putfield 23, 3) := by decide +kernel
theorem dX11_init_44 : decode cX11_init 44 = .ok (.aload_n 0, 1) := by decide +kernel
theorem dX11_init_45 : decode cX11_init 45 = .ok (.bipush 32, 2) := by decide +kernel
theorem dX11_init_47 : decode cX11_init 47 = .ok (.newarray .int, 2) := by decide +kernel
theorem dX11_init_49 : decode cX11_init 49 = .ok (.putfield 26, 3) := by decide +kernel
theorem dX11_init_52 : decode cX11_init 52 = .ok (.aload_n 0, 1) := by decide +kernel
theorem dX11_init_53 : decode cX11_init 53 = .ok (.bipush 24, 2) := by decide +kernel
theorem dX11_init_55 : decode cX11_init 55 = .ok (.newarray .int, 2) := by decide +kernel
theorem dX11_init_57 : decode cX11_init 57 = .ok (.putfield 29, 3) := by decide +kernel
theorem dX11_init_60 : decode cX11_init 60 = .ok (.aload_n 0, 1) := by decide +kernel
theorem dX11_init_61 : decode cX11_init 61 = .ok (.iconst 5, 1) := by decide +kernel
theorem dX11_init_62 : decode cX11_init 62 = .ok (.newarray .int, 2) := by decide +kernel
theorem dX11_init_64 : decode cX11_init 64 = .ok (.putfield 32, 3) := by decide +kernel
theorem dX11_init_67 : decode cX11_init 67 = .ok (.aload_n 0, 1) := by decide +kernel
theorem dX11_init_68 : decode cX11_init 68 = .ok (.sipush 320, 3) := by decide +kernel
theorem dX11_init_71 : decode cX11_init 71 = .ok (.newarray .int, 2) := by decide +kernel
theorem dX11_init_73 : decode cX11_init 73 = .ok (.putfield 35, 3) := by decide +kernel
theorem dX11_init_76 : decode cX11_init 76 = .ok (.aload_n 0, 1) := by decide +kernel
theorem dX11_init_77 : decode cX11_init 77 = .ok (.bipush 41, 2) := by decide +kernel
theorem dX11_init_79 : decode cX11_init 79 = .ok (.newarray .int, 2) := by decide +kernel
theorem dX11_init_81 : decode cX11_init 81 = .ok (.putfield 38, 3) := by decide +kernel
theorem dX11_init_84 : decode cX11_init 84 = .ok (.aload_n 0, 1) := by decide +kernel
theorem dX11_init_85 : decode cX11_init 85 = .ok (.bipush 41, 2) := by decide +kernel
theorem dX11_init_87 : decode cX11_init 87 = .ok (.newarray .int, 2) := by decide +kernel
theorem dX11_init_89 : decode cX11_init 89 = .ok (.putfield 41, 3) := by decide +kernel
theorem dX11_init_92 : decode cX11_init 92 = .ok (.aload_n 0, 1) := by decide +kernel
theorem dX11_init_93 : decode cX11_init 93 = .ok (.bipush 8, 2) := by decide +kernel
theorem dX11_init_95 : decode cX11_init 95 = .ok (.newarray .int, 2) := by decide +kernel
theorem dX11_init_97 : decode cX11_init 97 = .ok (.putfield 44, 3) := by decide +kernel
theorem dX11_init_100 : decode cX11_init 100 = .ok (.aload_n 0, 1) := by decide +kernel
theorem dX11_init_101 : decode cX11_init 101 = .ok (.bipush 6, 2) := by decide +kernel
theorem dX11_init_103 : decode cX11_init 103 = .ok (.newarray .int, 2) := by decide +kernel
theorem dX11_init_105 : decode cX11_init 105 = .ok (.putfield 47, 3) := by decide +kernel
theorem dX11_init_108 : decode cX11_init 108 = .ok (.aload_n 0, 1) := by decide +kernel
theorem dX11_init_109 : decode cX11_init 109 = .ok (.bipush 6, 2) := by decide +kernel
theorem dX11_init_111 : decode cX11_init 111 = .ok (.newarray .int, 2) := by decide +kernel
theorem dX11_init_113 : decode cX11_init 113 = .ok (.putfield 50, 3) := by decide +kernel
theorem dX11_init_116 : decode cX11_init 116 = .ok (.aload_n 0, 1) := by decide +kernel
theorem dX11_init_117 : decode cX11_init 117 = .ok (.bipush 8, 2) := by decide +kernel
theorem dX11_init_119 : decode cX11_init 119 = .ok (.newarray .int, 2) := by decide +kernel
theorem dX11_init_121 : decode cX11_init 121 = .ok (.putfield 53, 3) := by decide +kernel
theorem dX11_init_124 : decode cX11_init 124 = .ok (.aload_n 0, 1) := by decide +kernel
theorem dX11_init_125 : decode cX11_init 125 = .ok (.iconst 4, 1) := by decide +kernel
theorem dX11_init_126 : decode cX11_init 126 = .ok (.newarray .int, 2) := by decide +kernel
theorem dX11_init_128 : decode cX11_init 128 = .ok (.putfield 56, 3) := by decide +kernel
theorem dX11_init_131 : decode cX11_init 131 = .ok (.aload_n 0, 1) := by decide +kernel
theorem dX11_init_132 : decode cX11_init 132 = .ok (.iconst 4, 1) := by decide +kernel
theorem dX11_init_133 : decode cX11_init 133 = .ok (.newarray .int, 2) := by decide +kernel
theorem dX11_init_135 : decode cX11_init 135 = .ok (.putfield 59, 3) := by decide +kernel
theorem dX11_init_138 : decode cX11_init 138 = .ok (.aload_n 0, 1) := by decide +kernel
theorem dX11_init_139 : decode cX11_init 139 = .ok (.sipush 160, 3) := by decide +kernel
theorem dX11_init_142 : decode cX11_init 142 = .ok (.newarray .int, 2) := by decide +kernel
theorem dX11_init_144 : decode cX11_init 144 = .ok (.putfield 62, 3) := by decide +kernel
theorem dX11_init_147 : decode cX11_init 147 = .ok (.iconst 0, 1) := by decide +kernel
theorem dX11_init_148 : decode cX11_init 148 = .ok (.istore_n 1, 1) := by decide +kernel
theorem dX11_init_149 : decode cX11_init 149 = .ok (.iload_n 1, 1) := by decide +kernel
theorem dX11_init_150 : decode cX11_init 150 = .ok (.iconst 4, 1) := by decide +kernel
theorem dX11_init_151 : decode cX11_init 151 = .ok (.if_icmp .ge 17, 3) := by decide +kernel
theorem dX11_init_154 : decode cX11_init 154 = .ok (.aload_n 0, 1) := by decide +kernel
theorem dX11_init_155 : decode cX11_init 155 = .ok (.getfield 56, 3) := by decide +kernel
theorem dX11_init_158 : decode cX11_init 158 = .ok (.iload_n 1, 1) := by decide +kernel
theorem dX11_init_159 : decode cX11_init 159 = .ok (.bipush (-4), 2) := by decide +kernel
theorem dX11_init_161 : decode cX11_init 161 = .ok (.iastore, 1) := by decide +kernel
theorem dX11_init_162 : decode cX11_init 162 = .ok (.iinc 1 1, 3) := by decide +kernel
theorem dX11_init_165 : decode cX11_init 165 = .ok (.goto (-16), 3) := by decide +kernel
theorem dX11_init_168 : decode cX11_init 168 = .ok (.aload_n 0, 1) := by decide +kernel
theorem dX11_init_169 : decode cX11_init 169 = .ok (.invokevirtual 65, 3) := by decide +kernel
theorem dX11_init_172 : decode cX11_init 172 = .ok (.aload_n 0, 1) := by decide +kernel
theorem dX11_init_173 : decode cX11_init 173 = .ok (.invokevirtual 68, 3) := by decide +kernel
theorem dX11_init_176 : decode cX11_init 176 = .ok (.return_, 1) := by decide +kernel
theorem dX11_in_0 : decode cX11_in 0 = .ok (.lload_n 0, 1) := by decide +kernel
theorem dX11_in_1 : decode cX11_in 1 = .ok (.lload_n 2, 1) := by decide +kernel
theorem dX11_in_2 : decode cX11_in 2 = .ok (.lcmp, 1) := by decide +kernel
theorem dX11_in_3 : decode cX11_in 3 = .ok (.ifCond .lt 14, 3) := by decide +kernel
theorem dX11_in_6 : decode cX11_in 6 = .ok (.lload_n 0, 1) := by decide +kernel
theorem dX11_in_7 : decode cX11_in 7 = .ok (.lload 4, 2) := by decide +kernel
theorem dX11_in_9 : decode cX11_in 9 = .ok (.lcmp, 1) := by decide +kernel
theorem dX11_in_10 : decode cX11_in 10 = .ok (.ifCond .gt 7, 3) := by decide +kernel
theorem dX11_in_13 : decode cX11_in 13 = .ok (.iconst 1, 1) := by decide +kernel
theorem dX11_in_14 : decode cX11_in 14 = .ok (.goto 4, 3) := by decide +kernel
theorem dX11_in_17 : decode cX11_in 17 = .ok (.iconst 0, 1) := by decide +kernel
theorem dX11_in_18 : decode cX11_in 18 = .ok (.ireturn, 1) := by decide +kernel
theorem dX11_flag_0 : decode cX11_flag 0 = .ok (.iload_n 0, 1) := by decide +kernel
theorem dX11_flag_1 : decode cX11_flag 1 = .ok (.ifCond .eq 7, 3) := by decide +kernel
theorem dX11_flag_4 : decode cX11_flag 4 = .ok (.iconst 1, 1) := by decide +kernel
theorem dX11_flag_5 : decode cX11_flag 5 = .ok (.goto 4, 3) := by decide +kernel
theorem dX11_flag_8 : decode cX11_flag 8 = .ok (.iconst 0, 1) := by decide +kernel
theorem dX11_flag_9 : decode cX11_flag 9 = .ok (.ireturn, 1) := by decide +kernel
theorem dX11_bitsOf_0 : decode cX11_bitsOf 0 = .ok (.iconst 0, 1) := by decide +kernel
theorem dX11_bitsOf_1 : decode cX11_bitsOf 1 = .ok (.istore_n 1, 1) := by decide +kernel
theorem dX11_bitsOf_2 : decode cX11_bitsOf 2 = .ok (.iconst 0, 1) := by decide +kernel
theorem dX11_bitsOf_3 : decode cX11_bitsOf 3 = .ok (.istore_n 2, 1) := by decide +kernel
theorem dX11_bitsOf_4 : decode cX11_bitsOf 4 = .ok (.iload_n 2, 1) := by decide +kernel
theorem dX11_bitsOf_5 : decode cX11_bitsOf 5 = .ok (.bipush 12, 2) := by decide +kernel
theorem dX11_bitsOf_7 : decode cX11_bitsOf 7 = .ok (.if_icmp .ge 17, 3) := by decide +kernel
theorem dX11_bitsOf_10 : decode cX11_bitsOf 10 = .ok (.iload_n 1, 1) := by decide +kernel
theorem dX11_bitsOf_11 : decode cX11_bitsOf 11 = .ok (.iload_n 0, 1) := by decide +kernel
theorem dX11_bitsOf_12 : decode cX11_bitsOf 12 = .ok (.iload_n 2, 1) := by decide +kernel
theorem dX11_bitsOf_13 : decode cX11_bitsOf 13 = .ok (.ishr, 1) := by decide +kernel
theorem dX11_bitsOf_14 : decode cX11_bitsOf 14 = .ok (.iconst 1, 1) := by decide +kernel
theorem dX11_bitsOf_15 : decode cX11_bitsOf 15 = .ok (.iand, 1) := by decide +kernel
theorem dX11_bitsOf_16 : decode cX11_bitsOf 16 = .ok (.iadd, 1) := by decide +kernel
theorem dX11_bitsOf_17 : decode cX11_bitsOf 17 = .ok (.istore_n 1, 1) := by decide +kernel
theorem dX11_bitsOf_18 : decode cX11_bitsOf 18 = .ok (.iinc 2 1, 3) := by decide +kernel
theorem dX11_bitsOf_21 : decode cX11_bitsOf 21 = .ok (.goto (-17), 3) := by decide +kernel
theorem dX11_bitsOf_24 : decode cX11_bitsOf 24 = .ok (.iload_n 1, 1) := by decide +kernel
theorem dX11_bitsOf_25 : decode cX11_bitsOf 25 = .ok (.ireturn, 1) := by decide +kernel
theorem dX11_firstDraft_0 : decode cX11_firstDraft 0 = .ok (.iconst 0, 1) := by decide +kernel
theorem dX11_firstDraft_1 : decode cX11_firstDraft 1 = .ok (.istore_n 1, 1) := by decide +kernel
theorem dX11_firstDraft_2 : decode cX11_firstDraft 2 = .ok (.iload_n 1, 1) := by decide +kernel
theorem dX11_firstDraft_3 : decode cX11_firstDraft 3 = .ok (.bipush 125, 2) := by decide +kernel
theorem dX11_firstDraft_5 : decode cX11_firstDraft 5 = .ok (.if_icmp .ge 16, 3) := by decide +kernel
theorem dX11_firstDraft_8 : decode cX11_firstDraft 8 = .ok (.aload_n 0, 1) := by decide +kernel
theorem dX11_firstDraft_9 : decode cX11_firstDraft 9 = .ok (.getfield 23, 3) := by decide +kernel
theorem dX11_firstDraft_12 : decode cX11_firstDraft 12 = .ok (.iload_n 1, 1) := by decide +kernel
theorem dX11_firstDraft_13 : decode cX11_firstDraft 13 = .ok (.iconst 0, 1) := by decide +kernel
theorem dX11_firstDraft_14 : decode cX11_firstDraft 14 = .ok (.iastore, 1) := by decide +kernel
theorem dX11_firstDraft_15 : decode cX11_firstDraft 15 = .ok (.iinc 1 1, 3) := by decide +kernel
theorem dX11_firstDraft_18 : decode cX11_firstDraft 18 = .ok (.goto (-16), 3) := by decide +kernel
theorem dX11_firstDraft_21 : decode cX11_firstDraft 21 = .ok (.aload_n 0, 1) := by decide +kernel
theorem dX11_firstDraft_22 : decode cX11_firstDraft 22 = .ok (.getfield 32, 3) := by decide +kernel
theorem dX11_firstDraft_25 : decode cX11_firstDraft 25 = .ok (.iconst 0, 1) := by decide +kernel
theorem dX11_firstDraft_26 : decode cX11_firstDraft 26 = .ok (.bipush 9, 2) := by decide +kernel
theorem dX11_firstDraft_28 : decode cX11_firstDraft 28 = .ok (.iastore, 1) := by decide +kernel
theorem dX11_firstDraft_29 : decode cX11_firstDraft 29 = .ok (.aload_n 0, 1) := by decide +kernel
theorem dX11_firstDraft_30 : decode cX11_firstDraft 30 = .ok (.getfield 32, 3) := by decide +kernel
theorem dX11_firstDraft_33 : decode cX11_firstDraft 33 = .ok (.iconst 1, 1) := by decide +kernel
theorem dX11_firstDraft_34 : decode cX11_firstDraft 34 = .ok (.bipush 7, 2) := by decide +kernel
theorem dX11_firstDraft_36 : decode cX11_firstDraft 36 = .ok (.iastore, 1) := by decide +kernel
theorem dX11_firstDraft_37 : decode cX11_firstDraft 37 = .ok (.aload_n 0, 1) := by decide +kernel
theorem dX11_firstDraft_38 : decode cX11_firstDraft 38 = .ok (.getfield 32, 3) := by decide +kernel
theorem dX11_firstDraft_41 : decode cX11_firstDraft 41 = .ok (.iconst 2, 1) := by decide +kernel
theorem dX11_firstDraft_42 : decode cX11_firstDraft 42 = .ok (.iconst 3, 1) := by decide +kernel
theorem dX11_firstDraft_43 : decode cX11_firstDraft 43 = .ok (.iastore, 1) := by decide +kernel
theorem dX11_firstDraft_44 : decode cX11_firstDraft 44 = .ok (.aload_n 0, 1) := by decide +kernel
theorem dX11_firstDraft_45 : decode cX11_firstDraft 45 = .ok (.getfield 32, 3) := by decide +kernel
theorem dX11_firstDraft_48 : decode cX11_firstDraft 48 = .ok (.iconst 3, 1) := by decide +kernel
theorem dX11_firstDraft_49 : decode cX11_firstDraft 49 = .ok (.iconst 5, 1) := by decide +kernel
theorem dX11_firstDraft_50 : decode cX11_firstDraft 50 = .ok (.iastore, 1) := by decide +kernel
theorem dX11_firstDraft_51 : decode cX11_firstDraft 51 = .ok (.aload_n 0, 1) := by decide +kernel
theorem dX11_firstDraft_52 : decode cX11_firstDraft 52 = .ok (.getfield 32, 3) := by decide +kernel
theorem dX11_firstDraft_55 : decode cX11_firstDraft 55 = .ok (.iconst 4, 1) := by decide +kernel
theorem dX11_firstDraft_56 : decode cX11_firstDraft 56 = .ok (.bipush (-4), 2) := by decide +kernel
theorem dX11_firstDraft_58 : decode cX11_firstDraft 58 = .ok (.iastore, 1) := by decide +kernel
theorem dX11_firstDraft_59 : decode cX11_firstDraft 59 = .ok (.aload_n 0, 1) := by decide +kernel
theorem dX11_firstDraft_60 : decode cX11_firstDraft 60 = .ok (.iconst 0, 1) := by decide +kernel
theorem dX11_firstDraft_61 : decode cX11_firstDraft 61 = .ok (.putfield 71, 3) := by decide +kernel
theorem dX11_firstDraft_64 : decode cX11_firstDraft 64 = .ok (.aload_n 0, 1) := by decide +kernel
theorem dX11_firstDraft_65 : decode cX11_firstDraft 65 = .ok (.iconst 0, 1) := by decide +kernel
theorem dX11_firstDraft_66 : decode cX11_firstDraft 66 = .ok (.putfield 75, 3) := by decide +kernel
theorem dX11_firstDraft_69 : decode cX11_firstDraft 69 = .ok (.aload_n 0, 1) := by decide +kernel
theorem dX11_firstDraft_70 : decode cX11_firstDraft 70 = .ok (.bipush (-4), 2) := by decide +kernel
theorem dX11_firstDraft_72 : decode cX11_firstDraft 72 = .ok (.putfield 78, 3) := by decide +kernel
theorem dX11_firstDraft_75 : decode cX11_firstDraft 75 = .ok (.aload_n 0, 1) := by decide +kernel
theorem dX11_firstDraft_76 : decode cX11_firstDraft 76 = .ok (.iconst 0, 1) := by decide +kernel
theorem dX11_firstDraft_77 : decode cX11_firstDraft 77 = .ok (.putfield 81, 3) := by decide +kernel
theorem dX11_firstDraft_80 : decode cX11_firstDraft 80 = .ok (.aload_n 0, 1) := by decide +kernel
theorem dX11_firstDraft_81 : decode cX11_firstDraft 81 = .ok (.iconst 0, 1) := by decide +kernel
theorem dX11_firstDraft_82 : decode cX11_firstDraft 82 = .ok (.putfield 84, 3) := by decide +kernel
theorem dX11_firstDraft_85 : decode cX11_firstDraft 85 = .ok (.aload_n 0, 1) := by decide +kernel
theorem dX11_firstDraft_86 : decode cX11_firstDraft 86 = .ok (.iconst 0, 1) := by decide +kernel
theorem dX11_firstDraft_87 : decode cX11_firstDraft 87 = .ok (.putfield 87, 3) := by decide +kernel
theorem dX11_firstDraft_90 : decode cX11_firstDraft 90 = .ok (.return_, 1) := by decide +kernel
theorem dX11_dPeople_0 : decode cX11_dPeople 0 = .ok (.aload_n 0, 1) := by decide +kernel
theorem dX11_dPeople_1 : decode cX11_dPeople 1 = .ok (.getfield 32, 3) := by decide +kernel
theorem dX11_dPeople_4 : decode cX11_dPeople 4 = .ok (.iconst 4, 1) := by decide +kernel
theorem dX11_dPeople_5 : decode cX11_dPeople 5 = .ok (.iaload, 1) := by decide +kernel
theorem dX11_dPeople_6 : decode cX11_dPeople 6 = .ok (.bipush (-4), 2) := by decide +kernel
theorem dX11_dPeople_8 : decode cX11_dPeople 8 = .ok (.if_icmp .eq 12, 3) := by decide +kernel
theorem dX11_dPeople_11 : decode cX11_dPeople 11 = .ok (.aload_n 0, 1) := by decide +kernel
theorem dX11_dPeople_12 : decode cX11_dPeople 12 = .ok (.getfield 32, 3) := by decide +kernel
theorem dX11_dPeople_15 : decode cX11_dPeople 15 = .ok (.iconst 4, 1) := by decide +kernel
theorem dX11_dPeople_16 : decode cX11_dPeople 16 = .ok (.iaload, 1) := by decide +kernel
theorem dX11_dPeople_17 : decode cX11_dPeople 17 = .ok (.goto 21, 3) := by decide +kernel
theorem dX11_dPeople_20 : decode cX11_dPeople 20 = .ok (.aload_n 0, 1) := by decide +kernel
theorem dX11_dPeople_21 : decode cX11_dPeople 21 = .ok (.getfield 71, 3) := by decide +kernel
theorem dX11_dPeople_24 : decode cX11_dPeople 24 = .ok (.bipush 6, 2) := by decide +kernel
theorem dX11_dPeople_26 : decode cX11_dPeople 26 = .ok (.if_icmp .ge 10, 3) := by decide +kernel
theorem dX11_dPeople_29 : decode cX11_dPeople 29 = .ok (.aload_n 0, 1) := by decide +kernel
theorem dX11_dPeople_30 : decode cX11_dPeople 30 = .ok (.getfield 71, 3) := by decide +kernel
theorem dX11_dPeople_33 : decode cX11_dPeople 33 = .ok (.goto 5, 3) := by decide +kernel
theorem dX11_dPeople_36 : decode cX11_dPeople 36 = .ok (.bipush 6, 2) := by decide +kernel
theorem dX11_dPeople_38 : decode cX11_dPeople 38 = .ok (.ireturn, 1) := by decide +kernel
theorem dX11_keepDraft_0 : decode cX11_keepDraft 0 = .ok (.iconst 0, 1) := by decide +kernel
theorem dX11_keepDraft_1 : decode cX11_keepDraft 1 = .ok (.istore_n 1, 1) := by decide +kernel
theorem dX11_keepDraft_2 : decode cX11_keepDraft 2 = .ok (.iload_n 1, 1) := by decide +kernel
theorem dX11_keepDraft_3 : decode cX11_keepDraft 3 = .ok (.bipush 125, 2) := by decide +kernel
theorem dX11_keepDraft_5 : decode cX11_keepDraft 5 = .ok (.if_icmp .ge 21, 3) := by decide +kernel
theorem dX11_keepDraft_8 : decode cX11_keepDraft 8 = .ok (.aload_n 0, 1) := by decide +kernel
theorem dX11_keepDraft_9 : decode cX11_keepDraft 9 = .ok (.getfield 7, 3) := by decide +kernel
theorem dX11_keepDraft_12 : decode cX11_keepDraft 12 = .ok (.iload_n 1, 1) := by decide +kernel
theorem dX11_keepDraft_13 : decode cX11_keepDraft 13 = .ok (.aload_n 0, 1) := by decide +kernel
theorem dX11_keepDraft_14 : decode cX11_keepDraft 14 = .ok (.getfield 23, 3) := by decide +kernel
theorem dX11_keepDraft_17 : decode cX11_keepDraft 17 = .ok (.iload_n 1, 1) := by decide +kernel
theorem dX11_keepDraft_18 : decode cX11_keepDraft 18 = .ok (.iaload, 1) := by decide +kernel
theorem dX11_keepDraft_19 : decode cX11_keepDraft 19 = .ok (.iastore, 1) := by decide +kernel
theorem dX11_keepDraft_20 : decode cX11_keepDraft 20 = .ok (.iinc 1 1, 3) := by decide +kernel
theorem dX11_keepDraft_23 : decode cX11_keepDraft 23 = .ok (.goto (-21), 3) := by decide +kernel
theorem dX11_keepDraft_26 : decode cX11_keepDraft 26 = .ok (.iconst 0, 1) := by decide +kernel
theorem dX11_keepDraft_27 : decode cX11_keepDraft 27 = .ok (.istore_n 1, 1) := by decide +kernel
theorem dX11_keepDraft_28 : decode cX11_keepDraft 28 = .ok (.iload_n 1, 1) := by decide +kernel
theorem dX11_keepDraft_29 : decode cX11_keepDraft 29 = .ok (.bipush 32, 2) := by decide +kernel
theorem dX11_keepDraft_31 : decode cX11_keepDraft 31 = .ok (.if_icmp .ge 21, 3) := by decide +kernel
theorem dX11_keepDraft_34 : decode cX11_keepDraft 34 = .ok (.aload_n 0, 1) := by decide +kernel
theorem dX11_keepDraft_35 : decode cX11_keepDraft 35 = .ok (.getfield 17, 3) := by decide +kernel
theorem dX11_keepDraft_38 : decode cX11_keepDraft 38 = .ok (.iload_n 1, 1) := by decide +kernel
theorem dX11_keepDraft_39 : decode cX11_keepDraft 39 = .ok (.aload_n 0, 1) := by decide +kernel
theorem dX11_keepDraft_40 : decode cX11_keepDraft 40 = .ok (.getfield 26, 3) := by decide +kernel
theorem dX11_keepDraft_43 : decode cX11_keepDraft 43 = .ok (.iload_n 1, 1) := by decide +kernel
theorem dX11_keepDraft_44 : decode cX11_keepDraft 44 = .ok (.iaload, 1) := by decide +kernel
theorem dX11_keepDraft_45 : decode cX11_keepDraft 45 = .ok (.iastore, 1) := by decide +kernel
theorem dX11_keepDraft_46 : decode cX11_keepDraft 46 = .ok (.iinc 1 1, 3) := by decide +kernel
theorem dX11_keepDraft_49 : decode cX11_keepDraft 49 = .ok (.goto (-21), 3) := by decide +kernel
theorem dX11_keepDraft_52 : decode cX11_keepDraft 52 = .ok (.iconst 0, 1) := by decide +kernel
theorem dX11_keepDraft_53 : decode cX11_keepDraft 53 = .ok (.istore_n 1, 1) := by decide +kernel
theorem dX11_keepDraft_54 : decode cX11_keepDraft 54 = .ok (.iload_n 1, 1) := by decide +kernel
theorem dX11_keepDraft_55 : decode cX11_keepDraft 55 = .ok (.bipush 24, 2) := by decide +kernel
theorem dX11_keepDraft_57 : decode cX11_keepDraft 57 = .ok (.if_icmp .ge 21, 3) := by decide +kernel
theorem dX11_keepDraft_60 : decode cX11_keepDraft 60 = .ok (.aload_n 0, 1) := by decide +kernel
theorem dX11_keepDraft_61 : decode cX11_keepDraft 61 = .ok (.getfield 20, 3) := by decide +kernel
theorem dX11_keepDraft_64 : decode cX11_keepDraft 64 = .ok (.iload_n 1, 1) := by decide +kernel
theorem dX11_keepDraft_65 : decode cX11_keepDraft 65 = .ok (.aload_n 0, 1) := by decide +kernel
theorem dX11_keepDraft_66 : decode cX11_keepDraft 66 = .ok (.getfield 29, 3) := by decide +kernel
theorem dX11_keepDraft_69 : decode cX11_keepDraft 69 = .ok (.iload_n 1, 1) := by decide +kernel
theorem dX11_keepDraft_70 : decode cX11_keepDraft 70 = .ok (.iaload, 1) := by decide +kernel
theorem dX11_keepDraft_71 : decode cX11_keepDraft 71 = .ok (.iastore, 1) := by decide +kernel
theorem dX11_keepDraft_72 : decode cX11_keepDraft 72 = .ok (.iinc 1 1, 3) := by decide +kernel
theorem dX11_keepDraft_75 : decode cX11_keepDraft 75 = .ok (.goto (-21), 3) := by decide +kernel
theorem dX11_keepDraft_78 : decode cX11_keepDraft 78 = .ok (.aload_n 0, 1) := by decide +kernel
theorem dX11_keepDraft_79 : decode cX11_keepDraft 79 = .ok (.aload_n 0, 1) := by decide +kernel
theorem dX11_keepDraft_80 : decode cX11_keepDraft 80 = .ok (.getfield 32, 3) := by decide +kernel
theorem dX11_keepDraft_83 : decode cX11_keepDraft 83 = .ok (.iconst 0, 1) := by decide +kernel
theorem dX11_keepDraft_84 : decode cX11_keepDraft 84 = .ok (.iaload, 1) := by decide +kernel
theorem dX11_keepDraft_85 : decode cX11_keepDraft 85 = .ok (.putfield 90, 3) := by decide +kernel
theorem dX11_keepDraft_88 : decode cX11_keepDraft 88 = .ok (.aload_n 0, 1) := by decide +kernel
theorem dX11_keepDraft_89 : decode cX11_keepDraft 89 = .ok (.aload_n 0, 1) := by decide +kernel
theorem dX11_keepDraft_90 : decode cX11_keepDraft 90 = .ok (.getfield 32, 3) := by decide +kernel
theorem dX11_keepDraft_93 : decode cX11_keepDraft 93 = .ok (.iconst 1, 1) := by decide +kernel
theorem dX11_keepDraft_94 : decode cX11_keepDraft 94 = .ok (.iaload, 1) := by decide +kernel
theorem dX11_keepDraft_95 : decode cX11_keepDraft 95 = .ok (.putfield 93, 3) := by decide +kernel
theorem dX11_keepDraft_98 : decode cX11_keepDraft 98 = .ok (.aload_n 0, 1) := by decide +kernel
theorem dX11_keepDraft_99 : decode cX11_keepDraft 99 = .ok (.aload_n 0, 1) := by decide +kernel
theorem dX11_keepDraft_100 : decode cX11_keepDraft 100 = .ok (.getfield 32, 3) := by decide +kernel
theorem dX11_keepDraft_103 : decode cX11_keepDraft 103 = .ok (.iconst 2, 1) := by decide +kernel
theorem dX11_keepDraft_104 : decode cX11_keepDraft 104 = .ok (.iaload, 1) := by decide +kernel
theorem dX11_keepDraft_105 : decode cX11_keepDraft 105 = .ok (.putfield 96, 3) := by decide +kernel
theorem dX11_keepDraft_108 : decode cX11_keepDraft 108 = .ok (.aload_n 0, 1) := by decide +kernel
theorem dX11_keepDraft_109 : decode cX11_keepDraft 109 = .ok (.aload_n 0, 1) := by decide +kernel
theorem dX11_keepDraft_110 : decode cX11_keepDraft 110 = .ok (.getfield 32, 3) := by decide +kernel
theorem dX11_keepDraft_113 : decode cX11_keepDraft 113 = .ok (.iconst 3, 1) := by decide +kernel
theorem dX11_keepDraft_114 : decode cX11_keepDraft 114 = .ok (.iaload, 1) := by decide +kernel
theorem dX11_keepDraft_115 : decode cX11_keepDraft 115 = .ok (.putfield 99, 3) := by decide +kernel
theorem dX11_keepDraft_118 : decode cX11_keepDraft 118 = .ok (.aload_n 0, 1) := by decide +kernel
theorem dX11_keepDraft_119 : decode cX11_keepDraft 119 = .ok (.aload_n 0, 1) := by decide +kernel
theorem dX11_keepDraft_120 : decode cX11_keepDraft 120 = .ok (.getfield 71, 3) := by decide +kernel
theorem dX11_keepDraft_123 : decode cX11_keepDraft 123 = .ok (.putfield 102, 3) := by decide +kernel
theorem dX11_keepDraft_126 : decode cX11_keepDraft 126 = .ok (.aload_n 0, 1) := by decide +kernel
theorem dX11_keepDraft_127 : decode cX11_keepDraft 127 = .ok (.aload_n 0, 1) := by decide +kernel
theorem dX11_keepDraft_128 : decode cX11_keepDraft 128 = .ok (.invokevirtual 105, 3) := by decide +kernel
theorem dX11_keepDraft_131 : decode cX11_keepDraft 131 = .ok (.putfield 109, 3) := by decide +kernel
theorem dX11_keepDraft_134 : decode cX11_keepDraft 134 = .ok (.aload_n 0, 1) := by decide +kernel
theorem dX11_keepDraft_135 : decode cX11_keepDraft 135 = .ok (.aload_n 0, 1) := by decide +kernel
theorem dX11_keepDraft_136 : decode cX11_keepDraft 136 = .ok (.getfield 75, 3) := by decide +kernel
theorem dX11_keepDraft_139 : decode cX11_keepDraft 139 = .ok (.putfield 112, 3) := by decide +kernel
theorem dX11_keepDraft_142 : decode cX11_keepDraft 142 = .ok (.iconst 0, 1) := by decide +kernel
theorem dX11_keepDraft_143 : decode cX11_keepDraft 143 = .ok (.istore_n 1, 1) := by decide +kernel
theorem dX11_keepDraft_144 : decode cX11_keepDraft 144 = .ok (.iload_n 1, 1) := by decide +kernel
theorem dX11_keepDraft_145 : decode cX11_keepDraft 145 = .ok (.bipush 6, 2) := by decide +kernel
theorem dX11_keepDraft_147 : decode cX11_keepDraft 147 = .ok (.if_icmp .ge 19, 3) := by decide +kernel
theorem dX11_keepDraft_150 : decode cX11_keepDraft 150 = .ok (.aload_n 0, 1) := by decide +kernel
theorem dX11_keepDraft_151 : decode cX11_keepDraft 151 = .ok (.getfield 7, 3) := by decide +kernel
theorem dX11_keepDraft_154 : decode cX11_keepDraft 154 = .ok (.bipush 82, 2) := by decide +kernel
theorem dX11_keepDraft_156 : decode cX11_keepDraft 156 = .ok (.iload_n 1, 1) := by decide +kernel
theorem dX11_keepDraft_157 : decode cX11_keepDraft 157 = .ok (.iadd, 1) := by decide +kernel
theorem dX11_keepDraft_158 : decode cX11_keepDraft 158 = .ok (.iload_n 1, 1) := by decide +kernel
theorem dX11_keepDraft_159 : decode cX11_keepDraft 159 = .ok (.iastore, 1) := by decide +kernel
theorem dX11_keepDraft_160 : decode cX11_keepDraft 160 = .ok (.iinc 1 1, 3) := by decide +kernel
theorem dX11_keepDraft_163 : decode cX11_keepDraft 163 = .ok (.goto (-19), 3) := by decide +kernel
theorem dX11_keepDraft_166 : decode cX11_keepDraft 166 = .ok (.aload_n 0, 1) := by decide +kernel
theorem dX11_keepDraft_167 : decode cX11_keepDraft 167 = .ok (.getfield 13, 3) := by decide +kernel
theorem dX11_keepDraft_170 : decode cX11_keepDraft 170 = .ok (.iconst 0, 1) := by decide +kernel
theorem dX11_keepDraft_171 : decode cX11_keepDraft 171 = .ok (.iconst 0, 1) := by decide +kernel
theorem dX11_keepDraft_172 : decode cX11_keepDraft 172 = .ok (.bastore, 1) := by decide +kernel
theorem dX11_keepDraft_173 : decode cX11_keepDraft 173 = .ok (.aload_n 0, 1) := by decide +kernel
theorem dX11_keepDraft_174 : decode cX11_keepDraft 174 = .ok (.getfield 13, 3) := by decide +kernel
theorem dX11_keepDraft_177 : decode cX11_keepDraft 177 = .ok (.iconst 1, 1) := by decide +kernel
theorem dX11_keepDraft_178 : decode cX11_keepDraft 178 = .ok (.iconst 0, 1) := by decide +kernel
theorem dX11_keepDraft_179 : decode cX11_keepDraft 179 = .ok (.bastore, 1) := by decide +kernel
theorem dX11_keepDraft_180 : decode cX11_keepDraft 180 = .ok (.return_, 1) := by decide +kernel
theorem dX11_feed_0 : decode cX11_feed 0 = .ok (.aload_n 0, 1) := by decide +kernel
theorem dX11_feed_1 : decode cX11_feed 1 = .ok (.getfield 115, 3) := by decide +kernel
theorem dX11_feed_4 : decode cX11_feed 4 = .ok (.bipush 8, 2) := by decide +kernel
theorem dX11_feed_6 : decode cX11_feed 6 = .ok (.iadd, 1) := by decide +kernel
theorem dX11_feed_7 : decode cX11_feed 7 = .ok (.sipush 320, 3) := by decide +kernel
theorem dX11_feed_10 : decode cX11_feed 10 = .ok (.if_icmp .le 6, 3) := by decide +kernel
theorem dX11_feed_13 : decode cX11_feed 13 = .ok (.bipush (-3), 2) := by decide +kernel
theorem dX11_feed_15 : decode cX11_feed 15 = .ok (.ireturn, 1) := by decide +kernel
theorem dX11_feed_16 : decode cX11_feed 16 = .ok (.bipush 56, 2) := by decide +kernel
theorem dX11_feed_18 : decode cX11_feed 18 = .ok (.istore_n 3, 1) := by decide +kernel
theorem dX11_feed_19 : decode cX11_feed 19 = .ok (.iload_n 3, 1) := by decide +kernel
theorem dX11_feed_20 : decode cX11_feed 20 = .ok (.ifCond .lt 36, 3) := by decide +kernel
theorem dX11_feed_23 : decode cX11_feed 23 = .ok (.aload_n 0, 1) := by decide +kernel
theorem dX11_feed_24 : decode cX11_feed 24 = .ok (.getfield 35, 3) := by decide +kernel
theorem dX11_feed_27 : decode cX11_feed 27 = .ok (.aload_n 0, 1) := by decide +kernel
theorem dX11_feed_28 : decode cX11_feed 28 = .ok (.getfield 115, 3) := by decide +kernel
theorem dX11_feed_31 : decode cX11_feed 31 = .ok (.lload_n 1, 1) := by decide +kernel
theorem dX11_feed_32 : decode cX11_feed 32 = .ok (.iload_n 3, 1) := by decide +kernel
theorem dX11_feed_33 : decode cX11_feed 33 = .ok (.lshr, 1) := by decide +kernel
theorem dX11_feed_34 : decode cX11_feed 34 = .ok (.ldc2_w 118, 3) := by decide +kernel
theorem dX11_feed_37 : decode cX11_feed 37 = .ok (.land, 1) := by decide +kernel
theorem dX11_feed_38 : decode cX11_feed 38 = .ok (.l2i, 1) := by decide +kernel
theorem dX11_feed_39 : decode cX11_feed 39 = .ok (.iastore, 1) := by decide +kernel
theorem dX11_feed_40 : decode cX11_feed 40 = .ok (.aload_n 0, 1) := by decide +kernel
theorem dX11_feed_41 : decode cX11_feed 41 = .ok (.dup, 1) := by decide +kernel
theorem dX11_feed_42 : decode cX11_feed 42 = .ok (.getfield 115, 3) := by decide +kernel
theorem dX11_feed_45 : decode cX11_feed 45 = .ok (.iconst 1, 1) := by decide +kernel
theorem dX11_feed_46 : decode cX11_feed 46 = .ok (.iadd, 1) := by decide +kernel
theorem dX11_feed_47 : decode cX11_feed 47 = .ok (.putfield 115, 3) := by decide +kernel
theorem dX11_feed_50 : decode cX11_feed 50 = .ok (.iinc 3 (-8), 3) := by decide +kernel
theorem dX11_feed_53 : decode cX11_feed 53 = .ok (.goto (-34), 3) := by decide +kernel
theorem dX11_feed_56 : decode cX11_feed 56 = .ok (.aload_n 0, 1) := by decide +kernel
theorem dX11_feed_57 : decode cX11_feed 57 = .ok (.getfield 115, 3) := by decide +kernel
theorem dX11_feed_60 : decode cX11_feed 60 = .ok (.ireturn, 1) := by decide +kernel
theorem dX11_end_0 : decode cX11_end 0 = .ok (.iload_n 1, 1) := by decide +kernel
theorem dX11_end_1 : decode cX11_end 1 = .ok (.i2l, 1) := by decide +kernel
theorem dX11_end_2 : decode cX11_end 2 = .ok (.lconst 0, 1) := by decide +kernel
theorem dX11_end_3 : decode cX11_end 3 = .ok (.aload_n 0, 1) := by decide +kernel
theorem dX11_end_4 : decode cX11_end 4 = .ok (.getfield 115, 3) := by decide +kernel
theorem dX11_end_7 : decode cX11_end 7 = .ok (.i2l, 1) := by decide +kernel
theorem dX11_end_8 : decode cX11_end 8 = .ok (.invokestatic 120, 3) := by decide +kernel
theorem dX11_end_11 : decode cX11_end 11 = .ok (.ifCond .ne 5, 3) := by decide +kernel
theorem dX11_end_14 : decode cX11_end 14 = .ok (.iconst (-1), 1) := by decide +kernel
theorem dX11_end_15 : decode cX11_end 15 = .ok (.ireturn, 1) := by decide +kernel
theorem dX11_end_16 : decode cX11_end 16 = .ok (.aload_n 0, 1) := by decide +kernel
theorem dX11_end_17 : decode cX11_end 17 = .ok (.getfield 115, 3) := by decide +kernel
theorem dX11_end_20 : decode cX11_end 20 = .ok (.istore_n 2, 1) := by decide +kernel
theorem dX11_end_21 : decode cX11_end 21 = .ok (.aload_n 0, 1) := by decide +kernel
theorem dX11_end_22 : decode cX11_end 22 = .ok (.iload_n 1, 1) := by decide +kernel
theorem dX11_end_23 : decode cX11_end 23 = .ok (.putfield 115, 3) := by decide +kernel
theorem dX11_end_26 : decode cX11_end 26 = .ok (.iload_n 2, 1) := by decide +kernel
theorem dX11_end_27 : decode cX11_end 27 = .ok (.ireturn, 1) := by decide +kernel
theorem dX11_needs_0 : decode cX11_needs 0 = .ok (.iload_n 1, 1) := by decide +kernel
theorem dX11_needs_1 : decode cX11_needs 1 = .ok (.ifCond .ne 23, 3) := by decide +kernel
theorem dX11_needs_4 : decode cX11_needs 4 = .ok (.aload_n 0, 1) := by decide +kernel
theorem dX11_needs_5 : decode cX11_needs 5 = .ok (.getfield 124, 3) := by decide +kernel
theorem dX11_needs_8 : decode cX11_needs 8 = .ok (.ifCond .ne 16, 3) := by decide +kernel
theorem dX11_needs_11 : decode cX11_needs 11 = .ok (.aload_n 0, 1) := by decide +kernel
theorem dX11_needs_12 : decode cX11_needs 12 = .ok (.iload_n 2, 1) := by decide +kernel
theorem dX11_needs_13 : decode cX11_needs 13 = .ok (.putfield 124, 3) := by decide +kernel
theorem dX11_needs_16 : decode cX11_needs 16 = .ok (.aload_n 0, 1) := by decide +kernel
theorem dX11_needs_17 : decode cX11_needs 17 = .ok (.aload_n 0, 1) := by decide +kernel
theorem dX11_needs_18 : decode cX11_needs 18 = .ok (.getfield 127, 3) := by decide +kernel
theorem dX11_needs_21 : decode cX11_needs 21 = .ok (.putfield 130, 3) := by decide +kernel
theorem dX11_needs_24 : decode cX11_needs 24 = .ok (.return_, 1) := by decide +kernel
theorem dX11_look_0 : decode cX11_look 0 = .ok (.iload_n 1, 1) := by decide +kernel
theorem dX11_look_1 : decode cX11_look 1 = .ok (.aload_n 0, 1) := by decide +kernel
theorem dX11_look_2 : decode cX11_look 2 = .ok (.getfield 115, 3) := by decide +kernel
theorem dX11_look_5 : decode cX11_look 5 = .ok (.if_icmp .ge 12, 3) := by decide +kernel
theorem dX11_look_8 : decode cX11_look 8 = .ok (.aload_n 0, 1) := by decide +kernel
theorem dX11_look_9 : decode cX11_look 9 = .ok (.getfield 35, 3) := by decide +kernel
theorem dX11_look_12 : decode cX11_look 12 = .ok (.iload_n 1, 1) := by decide +kernel
theorem dX11_look_13 : decode cX11_look 13 = .ok (.iaload, 1) := by decide +kernel
theorem dX11_look_14 : decode cX11_look 14 = .ok (.goto 4, 3) := by decide +kernel
theorem dX11_look_17 : decode cX11_look 17 = .ok (.iconst (-1), 1) := by decide +kernel
theorem dX11_look_18 : decode cX11_look 18 = .ok (.ireturn, 1) := by decide +kernel
theorem dX11_is_0 : decode cX11_is 0 = .ok (.aload_n 0, 1) := by decide +kernel
theorem dX11_is_1 : decode cX11_is 1 = .ok (.getfield 133, 3) := by decide +kernel
theorem dX11_is_4 : decode cX11_is 4 = .ok (.aload_n 0, 1) := by decide +kernel
theorem dX11_is_5 : decode cX11_is 5 = .ok (.getfield 127, 3) := by decide +kernel
theorem dX11_is_8 : decode cX11_is 8 = .ok (.isub, 1) := by decide +kernel
theorem dX11_is_9 : decode cX11_is 9 = .ok (.iload_n 1, 1) := by decide +kernel
theorem dX11_is_10 : decode cX11_is 10 = .ok (.if_icmp .ne 68, 3) := by decide +kernel
theorem dX11_is_13 : decode cX11_is 13 = .ok (.aload_n 0, 1) := by decide +kernel
theorem dX11_is_14 : decode cX11_is 14 = .ok (.aload_n 0, 1) := by decide +kernel
theorem dX11_is_15 : decode cX11_is 15 = .ok (.getfield 127, 3) := by decide +kernel
theorem dX11_is_18 : decode cX11_is 18 = .ok (.invokevirtual 136, 3) := by decide +kernel
theorem dX11_is_21 : decode cX11_is 21 = .ok (.iload_n 2, 1) := by decide +kernel
theorem dX11_is_22 : decode cX11_is 22 = .ok (.if_icmp .ne 56, 3) := by decide +kernel
theorem dX11_is_25 : decode cX11_is 25 = .ok (.aload_n 0, 1) := by decide +kernel
theorem dX11_is_26 : decode cX11_is 26 = .ok (.aload_n 0, 1) := by decide +kernel
theorem dX11_is_27 : decode cX11_is 27 = .ok (.getfield 127, 3) := by decide +kernel
theorem dX11_is_30 : decode cX11_is 30 = .ok (.iconst 1, 1) := by decide +kernel
theorem dX11_is_31 : decode cX11_is 31 = .ok (.iadd, 1) := by decide +kernel
theorem dX11_is_32 : decode cX11_is 32 = .ok (.invokevirtual 136, 3) := by decide +kernel
theorem dX11_is_35 : decode cX11_is 35 = .ok (.iload_n 3, 1) := by decide +kernel
theorem dX11_is_36 : decode cX11_is 36 = .ok (.if_icmp .ne 42, 3) := by decide +kernel
theorem dX11_is_39 : decode cX11_is 39 = .ok (.aload_n 0, 1) := by decide +kernel
theorem dX11_is_40 : decode cX11_is 40 = .ok (.aload_n 0, 1) := by decide +kernel
theorem dX11_is_41 : decode cX11_is 41 = .ok (.getfield 127, 3) := by decide +kernel
theorem dX11_is_44 : decode cX11_is 44 = .ok (.iconst 2, 1) := by decide +kernel
theorem dX11_is_45 : decode cX11_is 45 = .ok (.iadd, 1) := by decide +kernel
theorem dX11_is_46 : decode cX11_is 46 = .ok (.invokevirtual 136, 3) := by decide +kernel
theorem dX11_is_49 : decode cX11_is 49 = .ok (.iload 4, 2) := by decide +kernel
theorem dX11_is_51 : decode cX11_is 51 = .ok (.if_icmp .ne 27, 3) := by decide +kernel
theorem dX11_is_54 : decode cX11_is 54 = .ok (.iload_n 1, 1) := by decide +kernel
theorem dX11_is_55 : decode cX11_is 55 = .ok (.iconst 4, 1) := by decide +kernel
theorem dX11_is_56 : decode cX11_is 56 = .ok (.if_icmp .lt 18, 3) := by decide +kernel
theorem dX11_is_59 : decode cX11_is 59 = .ok (.aload_n 0, 1) := by decide +kernel
theorem dX11_is_60 : decode cX11_is 60 = .ok (.aload_n 0, 1) := by decide +kernel
theorem dX11_is_61 : decode cX11_is 61 = .ok (.getfield 127, 3) := by decide +kernel
theorem dX11_is_64 : decode cX11_is 64 = .ok (.iconst 3, 1) := by decide +kernel
theorem dX11_is_65 : decode cX11_is 65 = .ok (.iadd, 1) := by decide +kernel
theorem dX11_is_66 : decode cX11_is 66 = .ok (.invokevirtual 136, 3) := by decide +kernel
theorem dX11_is_69 : decode cX11_is 69 = .ok (.iload 5, 2) := by decide +kernel
theorem dX11_is_71 : decode cX11_is 71 = .ok (.if_icmp .ne 7, 3) := by decide +kernel
theorem dX11_is_74 : decode cX11_is 74 = .ok (.iconst 1, 1) := by decide +kernel
theorem dX11_is_75 : decode cX11_is 75 = .ok (.goto 4, 3) := by decide +kernel
theorem dX11_is_78 : decode cX11_is 78 = .ok (.iconst 0, 1) := by decide +kernel
theorem dX11_is_79 : decode cX11_is 79 = .ok (.ireturn, 1) := by decide +kernel
theorem dX11_ends_0 : decode cX11_ends 0 = .ok (.aload_n 0, 1) := by decide +kernel
theorem dX11_ends_1 : decode cX11_ends 1 = .ok (.aload_n 0, 1) := by decide +kernel
theorem dX11_ends_2 : decode cX11_ends 2 = .ok (.getfield 127, 3) := by decide +kernel
theorem dX11_ends_5 : decode cX11_ends 5 = .ok (.iload_n 1, 1) := by decide +kernel
theorem dX11_ends_6 : decode cX11_ends 6 = .ok (.iadd, 1) := by decide +kernel
theorem dX11_ends_7 : decode cX11_ends 7 = .ok (.invokevirtual 136, 3) := by decide +kernel
theorem dX11_ends_10 : decode cX11_ends 10 = .ok (.iload_n 2, 1) := by decide +kernel
theorem dX11_ends_11 : decode cX11_ends 11 = .ok (.if_icmp .ne 45, 3) := by decide +kernel
theorem dX11_ends_14 : decode cX11_ends 14 = .ok (.aload_n 0, 1) := by decide +kernel
theorem dX11_ends_15 : decode cX11_ends 15 = .ok (.aload_n 0, 1) := by decide +kernel
theorem dX11_ends_16 : decode cX11_ends 16 = .ok (.getfield 127, 3) := by decide +kernel
theorem dX11_ends_19 : decode cX11_ends 19 = .ok (.iload_n 1, 1) := by decide +kernel
theorem dX11_ends_20 : decode cX11_ends 20 = .ok (.iadd, 1) := by decide +kernel
theorem dX11_ends_21 : decode cX11_ends 21 = .ok (.iconst 1, 1) := by decide +kernel
theorem dX11_ends_22 : decode cX11_ends 22 = .ok (.iadd, 1) := by decide +kernel
theorem dX11_ends_23 : decode cX11_ends 23 = .ok (.invokevirtual 136, 3) := by decide +kernel
theorem dX11_ends_26 : decode cX11_ends 26 = .ok (.iload_n 3, 1) := by decide +kernel
theorem dX11_ends_27 : decode cX11_ends 27 = .ok (.if_icmp .ne 29, 3) := by decide +kernel
theorem dX11_ends_30 : decode cX11_ends 30 = .ok (.iload 4, 2) := by decide +kernel
theorem dX11_ends_32 : decode cX11_ends 32 = .ok (.ifCond .eq 20, 3) := by decide +kernel
theorem dX11_ends_35 : decode cX11_ends 35 = .ok (.aload_n 0, 1) := by decide +kernel
theorem dX11_ends_36 : decode cX11_ends 36 = .ok (.aload_n 0, 1) := by decide +kernel
theorem dX11_ends_37 : decode cX11_ends 37 = .ok (.getfield 127, 3) := by decide +kernel
theorem dX11_ends_40 : decode cX11_ends 40 = .ok (.iload_n 1, 1) := by decide +kernel
theorem dX11_ends_41 : decode cX11_ends 41 = .ok (.iadd, 1) := by decide +kernel
theorem dX11_ends_42 : decode cX11_ends 42 = .ok (.iconst 2, 1) := by decide +kernel
theorem dX11_ends_43 : decode cX11_ends 43 = .ok (.iadd, 1) := by decide +kernel
theorem dX11_ends_44 : decode cX11_ends 44 = .ok (.invokevirtual 136, 3) := by decide +kernel
theorem dX11_ends_47 : decode cX11_ends 47 = .ok (.iload 4, 2) := by decide +kernel
theorem dX11_ends_49 : decode cX11_ends 49 = .ok (.if_icmp .ne 7, 3) := by decide +kernel
theorem dX11_ends_52 : decode cX11_ends 52 = .ok (.iconst 1, 1) := by decide +kernel
theorem dX11_ends_53 : decode cX11_ends 53 = .ok (.goto 4, 3) := by decide +kernel
theorem dX11_ends_56 : decode cX11_ends 56 = .ok (.iconst 0, 1) := by decide +kernel
theorem dX11_ends_57 : decode cX11_ends 57 = .ok (.ireturn, 1) := by decide +kernel
theorem dX11_ruleNow_0 : decode cX11_ruleNow 0 = .ok (.aload_n 0, 1) := by decide +kernel
theorem dX11_ruleNow_1 : decode cX11_ruleNow 1 = .ok (.iconst 4, 1) := by decide +kernel
theorem dX11_ruleNow_2 : decode cX11_ruleNow 2 = .ok (.bipush 104, 2) := by decide +kernel
theorem dX11_ruleNow_4 : decode cX11_ruleNow 4 = .ok (.bipush 97, 2) := by decide +kernel
theorem dX11_ruleNow_6 : decode cX11_ruleNow 6 = .ok (.bipush 108, 2) := by decide +kernel
theorem dX11_ruleNow_8 : decode cX11_ruleNow 8 = .ok (.bipush 108, 2) := by decide +kernel
theorem dX11_ruleNow_10 : decode cX11_ruleNow 10 = .ok (.invokevirtual 140, 3) := by decide +kernel
theorem dX11_ruleNow_13 : decode cX11_ruleNow 13 = .ok (.ifCond .eq 5, 3) := by decide +kernel
theorem dX11_ruleNow_16 : decode cX11_ruleNow 16 = .ok (.iconst 0, 1) := by decide +kernel
theorem dX11_ruleNow_17 : decode cX11_ruleNow 17 = .ok (.ireturn, 1) := by decide +kernel
theorem dX11_ruleNow_18 : decode cX11_ruleNow 18 = .ok (.aload_n 0, 1) := by decide +kernel
theorem dX11_ruleNow_19 : decode cX11_ruleNow 19 = .ok (.iconst 4, 1) := by decide +kernel
theorem dX11_ruleNow_20 : decode cX11_ruleNow 20 = .ok (.bipush 102, 2) := by decide +kernel
theorem dX11_ruleNow_22 : decode cX11_ruleNow 22 = .ok (.bipush 97, 2) := by decide +kernel
theorem dX11_ruleNow_24 : decode cX11_ruleNow 24 = .ok (.bipush 100, 2) := by decide +kernel
theorem dX11_ruleNow_26 : decode cX11_ruleNow 26 = .ok (.bipush 101, 2) := by decide +kernel
theorem dX11_ruleNow_28 : decode cX11_ruleNow 28 = .ok (.invokevirtual 140, 3) := by decide +kernel
theorem dX11_ruleNow_31 : decode cX11_ruleNow 31 = .ok (.ifCond .eq 5, 3) := by decide +kernel
theorem dX11_ruleNow_34 : decode cX11_ruleNow 34 = .ok (.iconst 1, 1) := by decide +kernel
theorem dX11_ruleNow_35 : decode cX11_ruleNow 35 = .ok (.ireturn, 1) := by decide +kernel
theorem dX11_ruleNow_36 : decode cX11_ruleNow 36 = .ok (.aload_n 0, 1) := by decide +kernel
theorem dX11_ruleNow_37 : decode cX11_ruleNow 37 = .ok (.bipush 6, 2) := by decide +kernel
theorem dX11_ruleNow_39 : decode cX11_ruleNow 39 = .ok (.bipush 98, 2) := by decide +kernel
theorem dX11_ruleNow_41 : decode cX11_ruleNow 41 = .ok (.bipush 111, 2) := by decide +kernel
theorem dX11_ruleNow_43 : decode cX11_ruleNow 43 = .ok (.bipush 117, 2) := by decide +kernel
theorem dX11_ruleNow_45 : decode cX11_ruleNow 45 = .ok (.bipush 110, 2) := by decide +kernel
theorem dX11_ruleNow_47 : decode cX11_ruleNow 47 = .ok (.invokevirtual 140, 3) := by decide +kernel
theorem dX11_ruleNow_50 : decode cX11_ruleNow 50 = .ok (.ifCond .eq 18, 3) := by decide +kernel
theorem dX11_ruleNow_53 : decode cX11_ruleNow 53 = .ok (.aload_n 0, 1) := by decide +kernel
theorem dX11_ruleNow_54 : decode cX11_ruleNow 54 = .ok (.iconst 4, 1) := by decide +kernel
theorem dX11_ruleNow_55 : decode cX11_ruleNow 55 = .ok (.bipush 99, 2) := by decide +kernel
theorem dX11_ruleNow_57 : decode cX11_ruleNow 57 = .ok (.bipush 101, 2) := by decide +kernel
theorem dX11_ruleNow_59 : decode cX11_ruleNow 59 = .ok (.iconst 0, 1) := by decide +kernel
theorem dX11_ruleNow_60 : decode cX11_ruleNow 60 = .ok (.invokevirtual 144, 3) := by decide +kernel
theorem dX11_ruleNow_63 : decode cX11_ruleNow 63 = .ok (.ifCond .eq 5, 3) := by decide +kernel
theorem dX11_ruleNow_66 : decode cX11_ruleNow 66 = .ok (.iconst 2, 1) := by decide +kernel
theorem dX11_ruleNow_67 : decode cX11_ruleNow 67 = .ok (.ireturn, 1) := by decide +kernel
theorem dX11_ruleNow_68 : decode cX11_ruleNow 68 = .ok (.aload_n 0, 1) := by decide +kernel
theorem dX11_ruleNow_69 : decode cX11_ruleNow 69 = .ok (.iconst 4, 1) := by decide +kernel
theorem dX11_ruleNow_70 : decode cX11_ruleNow 70 = .ok (.bipush 119, 2) := by decide +kernel
theorem dX11_ruleNow_72 : decode cX11_ruleNow 72 = .ok (.bipush 97, 2) := by decide +kernel
theorem dX11_ruleNow_74 : decode cX11_ruleNow 74 = .ok (.bipush 114, 2) := by decide +kernel
theorem dX11_ruleNow_76 : decode cX11_ruleNow 76 = .ok (.bipush 109, 2) := by decide +kernel
theorem dX11_ruleNow_78 : decode cX11_ruleNow 78 = .ok (.invokevirtual 140, 3) := by decide +kernel
theorem dX11_ruleNow_81 : decode cX11_ruleNow 81 = .ok (.ifCond .eq 5, 3) := by decide +kernel
theorem dX11_ruleNow_84 : decode cX11_ruleNow 84 = .ok (.iconst 3, 1) := by decide +kernel
theorem dX11_ruleNow_85 : decode cX11_ruleNow 85 = .ok (.ireturn, 1) := by decide +kernel
theorem dX11_ruleNow_86 : decode cX11_ruleNow 86 = .ok (.aload_n 0, 1) := by decide +kernel
theorem dX11_ruleNow_87 : decode cX11_ruleNow 87 = .ok (.bipush 6, 2) := by decide +kernel
theorem dX11_ruleNow_89 : decode cX11_ruleNow 89 = .ok (.bipush 112, 2) := by decide +kernel
theorem dX11_ruleNow_91 : decode cX11_ruleNow 91 = .ok (.bipush 101, 2) := by decide +kernel
theorem dX11_ruleNow_93 : decode cX11_ruleNow 93 = .ok (.bipush 111, 2) := by decide +kernel
theorem dX11_ruleNow_95 : decode cX11_ruleNow 95 = .ok (.bipush 112, 2) := by decide +kernel
theorem dX11_ruleNow_97 : decode cX11_ruleNow 97 = .ok (.invokevirtual 140, 3) := by decide +kernel
theorem dX11_ruleNow_100 : decode cX11_ruleNow 100 = .ok (.ifCond .eq 20, 3) := by decide +kernel
theorem dX11_ruleNow_103 : decode cX11_ruleNow 103 = .ok (.aload_n 0, 1) := by decide +kernel
theorem dX11_ruleNow_104 : decode cX11_ruleNow 104 = .ok (.iconst 4, 1) := by decide +kernel
theorem dX11_ruleNow_105 : decode cX11_ruleNow 105 = .ok (.bipush 108, 2) := by decide +kernel
theorem dX11_ruleNow_107 : decode cX11_ruleNow 107 = .ok (.bipush 101, 2) := by decide +kernel
theorem dX11_ruleNow_109 : decode cX11_ruleNow 109 = .ok (.iconst 0, 1) := by decide +kernel
theorem dX11_ruleNow_110 : decode cX11_ruleNow 110 = .ok (.invokevirtual 144, 3) := by decide +kernel
theorem dX11_ruleNow_113 : decode cX11_ruleNow 113 = .ok (.ifCond .eq 7, 3) := by decide +kernel
theorem dX11_ruleNow_116 : decode cX11_ruleNow 116 = .ok (.iconst 4, 1) := by decide +kernel
theorem dX11_ruleNow_117 : decode cX11_ruleNow 117 = .ok (.goto 5, 3) := by decide +kernel
theorem dX11_ruleNow_120 : decode cX11_ruleNow 120 = .ok (.bipush (-4), 2) := by decide +kernel
theorem dX11_ruleNow_122 : decode cX11_ruleNow 122 = .ok (.ireturn, 1) := by decide +kernel
theorem dX11_nameNow_0 : decode cX11_nameNow 0 = .ok (.aload_n 0, 1) := by decide +kernel
theorem dX11_nameNow_1 : decode cX11_nameNow 1 = .ok (.iconst 5, 1) := by decide +kernel
theorem dX11_nameNow_2 : decode cX11_nameNow 2 = .ok (.bipush 98, 2) := by decide +kernel
theorem dX11_nameNow_4 : decode cX11_nameNow 4 = .ok (.bipush 101, 2) := by decide +kernel
theorem dX11_nameNow_6 : decode cX11_nameNow 6 = .ok (.bipush 110, 2) := by decide +kernel
theorem dX11_nameNow_8 : decode cX11_nameNow 8 = .ok (.bipush 99, 2) := by decide +kernel
theorem dX11_nameNow_10 : decode cX11_nameNow 10 = .ok (.invokevirtual 140, 3) := by decide +kernel
theorem dX11_nameNow_13 : decode cX11_nameNow 13 = .ok (.ifCond .eq 20, 3) := by decide +kernel
theorem dX11_nameNow_16 : decode cX11_nameNow 16 = .ok (.aload_n 0, 1) := by decide +kernel
theorem dX11_nameNow_17 : decode cX11_nameNow 17 = .ok (.aload_n 0, 1) := by decide +kernel
theorem dX11_nameNow_18 : decode cX11_nameNow 18 = .ok (.getfield 127, 3) := by decide +kernel
theorem dX11_nameNow_21 : decode cX11_nameNow 21 = .ok (.iconst 4, 1) := by decide +kernel
theorem dX11_nameNow_22 : decode cX11_nameNow 22 = .ok (.iadd, 1) := by decide +kernel
theorem dX11_nameNow_23 : decode cX11_nameNow 23 = .ok (.invokevirtual 136, 3) := by decide +kernel
theorem dX11_nameNow_26 : decode cX11_nameNow 26 = .ok (.bipush 104, 2) := by decide +kernel
theorem dX11_nameNow_28 : decode cX11_nameNow 28 = .ok (.if_icmp .ne 5, 3) := by decide +kernel
theorem dX11_nameNow_31 : decode cX11_nameNow 31 = .ok (.iconst 5, 1) := by decide +kernel
theorem dX11_nameNow_32 : decode cX11_nameNow 32 = .ok (.ireturn, 1) := by decide +kernel
theorem dX11_nameNow_33 : decode cX11_nameNow 33 = .ok (.aload_n 0, 1) := by decide +kernel
theorem dX11_nameNow_34 : decode cX11_nameNow 34 = .ok (.bipush 6, 2) := by decide +kernel
theorem dX11_nameNow_36 : decode cX11_nameNow 36 = .ok (.bipush 112, 2) := by decide +kernel
theorem dX11_nameNow_38 : decode cX11_nameNow 38 = .ok (.bipush 105, 2) := by decide +kernel
theorem dX11_nameNow_40 : decode cX11_nameNow 40 = .ok (.bipush 108, 2) := by decide +kernel
theorem dX11_nameNow_42 : decode cX11_nameNow 42 = .ok (.bipush 108, 2) := by decide +kernel
theorem dX11_nameNow_44 : decode cX11_nameNow 44 = .ok (.invokevirtual 140, 3) := by decide +kernel
theorem dX11_nameNow_47 : decode cX11_nameNow 47 = .ok (.ifCond .eq 19, 3) := by decide +kernel
theorem dX11_nameNow_50 : decode cX11_nameNow 50 = .ok (.aload_n 0, 1) := by decide +kernel
theorem dX11_nameNow_51 : decode cX11_nameNow 51 = .ok (.iconst 4, 1) := by decide +kernel
theorem dX11_nameNow_52 : decode cX11_nameNow 52 = .ok (.bipush 97, 2) := by decide +kernel
theorem dX11_nameNow_54 : decode cX11_nameNow 54 = .ok (.bipush 114, 2) := by decide +kernel
theorem dX11_nameNow_56 : decode cX11_nameNow 56 = .ok (.iconst 0, 1) := by decide +kernel
theorem dX11_nameNow_57 : decode cX11_nameNow 57 = .ok (.invokevirtual 144, 3) := by decide +kernel
theorem dX11_nameNow_60 : decode cX11_nameNow 60 = .ok (.ifCond .eq 6, 3) := by decide +kernel
theorem dX11_nameNow_63 : decode cX11_nameNow 63 = .ok (.bipush 6, 2) := by decide +kernel
theorem dX11_nameNow_65 : decode cX11_nameNow 65 = .ok (.ireturn, 1) := by decide +kernel
theorem dX11_nameNow_66 : decode cX11_nameNow 66 = .ok (.aload_n 0, 1) := by decide +kernel
theorem dX11_nameNow_67 : decode cX11_nameNow 67 = .ok (.bipush 7, 2) := by decide +kernel
theorem dX11_nameNow_69 : decode cX11_nameNow 69 = .ok (.bipush 99, 2) := by decide +kernel
theorem dX11_nameNow_71 : decode cX11_nameNow 71 = .ok (.bipush 117, 2) := by decide +kernel
theorem dX11_nameNow_73 : decode cX11_nameNow 73 = .ok (.bipush 114, 2) := by decide +kernel
theorem dX11_nameNow_75 : decode cX11_nameNow 75 = .ok (.bipush 116, 2) := by decide +kernel
theorem dX11_nameNow_77 : decode cX11_nameNow 77 = .ok (.invokevirtual 140, 3) := by decide +kernel
theorem dX11_nameNow_80 : decode cX11_nameNow 80 = .ok (.ifCond .eq 20, 3) := by decide +kernel
theorem dX11_nameNow_83 : decode cX11_nameNow 83 = .ok (.aload_n 0, 1) := by decide +kernel
theorem dX11_nameNow_84 : decode cX11_nameNow 84 = .ok (.iconst 4, 1) := by decide +kernel
theorem dX11_nameNow_85 : decode cX11_nameNow 85 = .ok (.bipush 97, 2) := by decide +kernel
theorem dX11_nameNow_87 : decode cX11_nameNow 87 = .ok (.bipush 105, 2) := by decide +kernel
theorem dX11_nameNow_89 : decode cX11_nameNow 89 = .ok (.bipush 110, 2) := by decide +kernel
theorem dX11_nameNow_91 : decode cX11_nameNow 91 = .ok (.invokevirtual 144, 3) := by decide +kernel
theorem dX11_nameNow_94 : decode cX11_nameNow 94 = .ok (.ifCond .eq 6, 3) := by decide +kernel
theorem dX11_nameNow_97 : decode cX11_nameNow 97 = .ok (.bipush 7, 2) := by decide +kernel
theorem dX11_nameNow_99 : decode cX11_nameNow 99 = .ok (.ireturn, 1) := by decide +kernel
theorem dX11_nameNow_100 : decode cX11_nameNow 100 = .ok (.aload_n 0, 1) := by decide +kernel
theorem dX11_nameNow_101 : decode cX11_nameNow 101 = .ok (.iconst 4, 1) := by decide +kernel
theorem dX11_nameNow_102 : decode cX11_nameNow 102 = .ok (.bipush 106, 2) := by decide +kernel
theorem dX11_nameNow_104 : decode cX11_nameNow 104 = .ok (.bipush 111, 2) := by decide +kernel
theorem dX11_nameNow_106 : decode cX11_nameNow 106 = .ok (.bipush 105, 2) := by decide +kernel
theorem dX11_nameNow_108 : decode cX11_nameNow 108 = .ok (.bipush 110, 2) := by decide +kernel
theorem dX11_nameNow_110 : decode cX11_nameNow 110 = .ok (.invokevirtual 140, 3) := by decide +kernel
theorem dX11_nameNow_113 : decode cX11_nameNow 113 = .ok (.ifCond .eq 6, 3) := by decide +kernel
theorem dX11_nameNow_116 : decode cX11_nameNow 116 = .ok (.bipush 8, 2) := by decide +kernel
theorem dX11_nameNow_118 : decode cX11_nameNow 118 = .ok (.ireturn, 1) := by decide +kernel
theorem dX11_nameNow_119 : decode cX11_nameNow 119 = .ok (.aload_n 0, 1) := by decide +kernel
theorem dX11_nameNow_120 : decode cX11_nameNow 120 = .ok (.iconst 3, 1) := by decide +kernel
theorem dX11_nameNow_121 : decode cX11_nameNow 121 = .ok (.bipush 98, 2) := by decide +kernel
theorem dX11_nameNow_123 : decode cX11_nameNow 123 = .ok (.bipush 97, 2) := by decide +kernel
theorem dX11_nameNow_125 : decode cX11_nameNow 125 = .ok (.bipush 114, 2) := by decide +kernel
theorem dX11_nameNow_127 : decode cX11_nameNow 127 = .ok (.iconst 0, 1) := by decide +kernel
theorem dX11_nameNow_128 : decode cX11_nameNow 128 = .ok (.invokevirtual 140, 3) := by decide +kernel
theorem dX11_nameNow_131 : decode cX11_nameNow 131 = .ok (.ifCond .eq 6, 3) := by decide +kernel
theorem dX11_nameNow_134 : decode cX11_nameNow 134 = .ok (.bipush 9, 2) := by decide +kernel
theorem dX11_nameNow_136 : decode cX11_nameNow 136 = .ok (.ireturn, 1) := by decide +kernel
theorem dX11_nameNow_137 : decode cX11_nameNow 137 = .ok (.aload_n 0, 1) := by decide +kernel
theorem dX11_nameNow_138 : decode cX11_nameNow 138 = .ok (.bipush 7, 2) := by decide +kernel
theorem dX11_nameNow_140 : decode cX11_nameNow 140 = .ok (.bipush 119, 2) := by decide +kernel
theorem dX11_nameNow_142 : decode cX11_nameNow 142 = .ok (.bipush 104, 2) := by decide +kernel
theorem dX11_nameNow_144 : decode cX11_nameNow 144 = .ok (.bipush 105, 2) := by decide +kernel
theorem dX11_nameNow_146 : decode cX11_nameNow 146 = .ok (.bipush 115, 2) := by decide +kernel
theorem dX11_nameNow_148 : decode cX11_nameNow 148 = .ok (.invokevirtual 140, 3) := by decide +kernel
theorem dX11_nameNow_151 : decode cX11_nameNow 151 = .ok (.ifCond .eq 22, 3) := by decide +kernel
theorem dX11_nameNow_154 : decode cX11_nameNow 154 = .ok (.aload_n 0, 1) := by decide +kernel
theorem dX11_nameNow_155 : decode cX11_nameNow 155 = .ok (.iconst 4, 1) := by decide +kernel
theorem dX11_nameNow_156 : decode cX11_nameNow 156 = .ok (.bipush 112, 2) := by decide +kernel
theorem dX11_nameNow_158 : decode cX11_nameNow 158 = .ok (.bipush 101, 2) := by decide +kernel
theorem dX11_nameNow_160 : decode cX11_nameNow 160 = .ok (.bipush 114, 2) := by decide +kernel
theorem dX11_nameNow_162 : decode cX11_nameNow 162 = .ok (.invokevirtual 144, 3) := by decide +kernel
theorem dX11_nameNow_165 : decode cX11_nameNow 165 = .ok (.ifCond .eq 8, 3) := by decide +kernel
theorem dX11_nameNow_168 : decode cX11_nameNow 168 = .ok (.bipush 10, 2) := by decide +kernel
theorem dX11_nameNow_170 : decode cX11_nameNow 170 = .ok (.goto 7, 3) := by decide +kernel
theorem dX11_nameNow_173 : decode cX11_nameNow 173 = .ok (.aload_n 0, 1) := by decide +kernel
theorem dX11_nameNow_174 : decode cX11_nameNow 174 = .ok (.invokevirtual 148, 3) := by decide +kernel
theorem dX11_nameNow_177 : decode cX11_nameNow 177 = .ok (.ireturn, 1) := by decide +kernel
theorem dX11_kindNow_0 : decode cX11_kindNow 0 = .ok (.aload_n 0, 1) := by decide +kernel
theorem dX11_kindNow_1 : decode cX11_kindNow 1 = .ok (.iconst 5, 1) := by decide +kernel
theorem dX11_kindNow_2 : decode cX11_kindNow 2 = .ok (.bipush 112, 2) := by decide +kernel
theorem dX11_kindNow_4 : decode cX11_kindNow 4 = .ok (.bipush 108, 2) := by decide +kernel
theorem dX11_kindNow_6 : decode cX11_kindNow 6 = .ok (.bipush 97, 2) := by decide +kernel
theorem dX11_kindNow_8 : decode cX11_kindNow 8 = .ok (.bipush 105, 2) := by decide +kernel
theorem dX11_kindNow_10 : decode cX11_kindNow 10 = .ok (.invokevirtual 140, 3) := by decide +kernel
theorem dX11_kindNow_13 : decode cX11_kindNow 13 = .ok (.ifCond .eq 20, 3) := by decide +kernel
theorem dX11_kindNow_16 : decode cX11_kindNow 16 = .ok (.aload_n 0, 1) := by decide +kernel
theorem dX11_kindNow_17 : decode cX11_kindNow 17 = .ok (.aload_n 0, 1) := by decide +kernel
theorem dX11_kindNow_18 : decode cX11_kindNow 18 = .ok (.getfield 127, 3) := by decide +kernel
theorem dX11_kindNow_21 : decode cX11_kindNow 21 = .ok (.iconst 4, 1) := by decide +kernel
theorem dX11_kindNow_22 : decode cX11_kindNow 22 = .ok (.iadd, 1) := by decide +kernel
theorem dX11_kindNow_23 : decode cX11_kindNow 23 = .ok (.invokevirtual 136, 3) := by decide +kernel
theorem dX11_kindNow_26 : decode cX11_kindNow 26 = .ok (.bipush 110, 2) := by decide +kernel
theorem dX11_kindNow_28 : decode cX11_kindNow 28 = .ok (.if_icmp .ne 5, 3) := by decide +kernel
theorem dX11_kindNow_31 : decode cX11_kindNow 31 = .ok (.iconst 0, 1) := by decide +kernel
theorem dX11_kindNow_32 : decode cX11_kindNow 32 = .ok (.ireturn, 1) := by decide +kernel
theorem dX11_kindNow_33 : decode cX11_kindNow 33 = .ok (.aload_n 0, 1) := by decide +kernel
theorem dX11_kindNow_34 : decode cX11_kindNow 34 = .ok (.bipush 6, 2) := by decide +kernel
theorem dX11_kindNow_36 : decode cX11_kindNow 36 = .ok (.bipush 116, 2) := by decide +kernel
theorem dX11_kindNow_38 : decode cX11_kindNow 38 = .ok (.bipush 117, 2) := by decide +kernel
theorem dX11_kindNow_40 : decode cX11_kindNow 40 = .ok (.bipush 114, 2) := by decide +kernel
theorem dX11_kindNow_42 : decode cX11_kindNow 42 = .ok (.bipush 110, 2) := by decide +kernel
theorem dX11_kindNow_44 : decode cX11_kindNow 44 = .ok (.invokevirtual 140, 3) := by decide +kernel
theorem dX11_kindNow_47 : decode cX11_kindNow 47 = .ok (.ifCond .eq 18, 3) := by decide +kernel
theorem dX11_kindNow_50 : decode cX11_kindNow 50 = .ok (.aload_n 0, 1) := by decide +kernel
theorem dX11_kindNow_51 : decode cX11_kindNow 51 = .ok (.iconst 4, 1) := by decide +kernel
theorem dX11_kindNow_52 : decode cX11_kindNow 52 = .ok (.bipush 101, 2) := by decide +kernel
theorem dX11_kindNow_54 : decode cX11_kindNow 54 = .ok (.bipush 100, 2) := by decide +kernel
theorem dX11_kindNow_56 : decode cX11_kindNow 56 = .ok (.iconst 0, 1) := by decide +kernel
theorem dX11_kindNow_57 : decode cX11_kindNow 57 = .ok (.invokevirtual 144, 3) := by decide +kernel
theorem dX11_kindNow_60 : decode cX11_kindNow 60 = .ok (.ifCond .eq 5, 3) := by decide +kernel
theorem dX11_kindNow_63 : decode cX11_kindNow 63 = .ok (.iconst 1, 1) := by decide +kernel
theorem dX11_kindNow_64 : decode cX11_kindNow 64 = .ok (.ireturn, 1) := by decide +kernel
theorem dX11_kindNow_65 : decode cX11_kindNow 65 = .ok (.aload_n 0, 1) := by decide +kernel
theorem dX11_kindNow_66 : decode cX11_kindNow 66 = .ok (.bipush 6, 2) := by decide +kernel
theorem dX11_kindNow_68 : decode cX11_kindNow 68 = .ok (.bipush 109, 2) := by decide +kernel
theorem dX11_kindNow_70 : decode cX11_kindNow 70 = .ok (.bipush 111, 2) := by decide +kernel
theorem dX11_kindNow_72 : decode cX11_kindNow 72 = .ok (.bipush 118, 2) := by decide +kernel
theorem dX11_kindNow_74 : decode cX11_kindNow 74 = .ok (.bipush 105, 2) := by decide +kernel
theorem dX11_kindNow_76 : decode cX11_kindNow 76 = .ok (.invokevirtual 140, 3) := by decide +kernel
theorem dX11_kindNow_79 : decode cX11_kindNow 79 = .ok (.ifCond .eq 18, 3) := by decide +kernel
theorem dX11_kindNow_82 : decode cX11_kindNow 82 = .ok (.aload_n 0, 1) := by decide +kernel
theorem dX11_kindNow_83 : decode cX11_kindNow 83 = .ok (.iconst 4, 1) := by decide +kernel
theorem dX11_kindNow_84 : decode cX11_kindNow 84 = .ok (.bipush 110, 2) := by decide +kernel
theorem dX11_kindNow_86 : decode cX11_kindNow 86 = .ok (.bipush 103, 2) := by decide +kernel
theorem dX11_kindNow_88 : decode cX11_kindNow 88 = .ok (.iconst 0, 1) := by decide +kernel
theorem dX11_kindNow_89 : decode cX11_kindNow 89 = .ok (.invokevirtual 144, 3) := by decide +kernel
theorem dX11_kindNow_92 : decode cX11_kindNow 92 = .ok (.ifCond .eq 5, 3) := by decide +kernel
theorem dX11_kindNow_95 : decode cX11_kindNow 95 = .ok (.iconst 2, 1) := by decide +kernel
theorem dX11_kindNow_96 : decode cX11_kindNow 96 = .ok (.ireturn, 1) := by decide +kernel
theorem dX11_kindNow_97 : decode cX11_kindNow 97 = .ok (.aload_n 0, 1) := by decide +kernel
theorem dX11_kindNow_98 : decode cX11_kindNow 98 = .ok (.bipush 6, 2) := by decide +kernel
theorem dX11_kindNow_100 : decode cX11_kindNow 100 = .ok (.bipush 114, 2) := by decide +kernel
theorem dX11_kindNow_102 : decode cX11_kindNow 102 = .ok (.bipush 97, 2) := by decide +kernel
theorem dX11_kindNow_104 : decode cX11_kindNow 104 = .ok (.bipush 105, 2) := by decide +kernel
theorem dX11_kindNow_106 : decode cX11_kindNow 106 = .ok (.bipush 115, 2) := by decide +kernel
theorem dX11_kindNow_108 : decode cX11_kindNow 108 = .ok (.invokevirtual 140, 3) := by decide +kernel
theorem dX11_kindNow_111 : decode cX11_kindNow 111 = .ok (.ifCond .eq 18, 3) := by decide +kernel
theorem dX11_kindNow_114 : decode cX11_kindNow 114 = .ok (.aload_n 0, 1) := by decide +kernel
theorem dX11_kindNow_115 : decode cX11_kindNow 115 = .ok (.iconst 4, 1) := by decide +kernel
theorem dX11_kindNow_116 : decode cX11_kindNow 116 = .ok (.bipush 101, 2) := by decide +kernel
theorem dX11_kindNow_118 : decode cX11_kindNow 118 = .ok (.bipush 100, 2) := by decide +kernel
theorem dX11_kindNow_120 : decode cX11_kindNow 120 = .ok (.iconst 0, 1) := by decide +kernel
theorem dX11_kindNow_121 : decode cX11_kindNow 121 = .ok (.invokevirtual 144, 3) := by decide +kernel
theorem dX11_kindNow_124 : decode cX11_kindNow 124 = .ok (.ifCond .eq 5, 3) := by decide +kernel
theorem dX11_kindNow_127 : decode cX11_kindNow 127 = .ok (.iconst 3, 1) := by decide +kernel
theorem dX11_kindNow_128 : decode cX11_kindNow 128 = .ok (.ireturn, 1) := by decide +kernel
theorem dX11_kindNow_129 : decode cX11_kindNow 129 = .ok (.aload_n 0, 1) := by decide +kernel
theorem dX11_kindNow_130 : decode cX11_kindNow 130 = .ok (.bipush 9, 2) := by decide +kernel
theorem dX11_kindNow_132 : decode cX11_kindNow 132 = .ok (.bipush 108, 2) := by decide +kernel
theorem dX11_kindNow_134 : decode cX11_kindNow 134 = .ok (.bipush 105, 2) := by decide +kernel
theorem dX11_kindNow_136 : decode cX11_kindNow 136 = .ok (.bipush 115, 2) := by decide +kernel
theorem dX11_kindNow_138 : decode cX11_kindNow 138 = .ok (.bipush 116, 2) := by decide +kernel
theorem dX11_kindNow_140 : decode cX11_kindNow 140 = .ok (.invokevirtual 140, 3) := by decide +kernel
theorem dX11_kindNow_143 : decode cX11_kindNow 143 = .ok (.ifCond .eq 35, 3) := by decide +kernel
theorem dX11_kindNow_146 : decode cX11_kindNow 146 = .ok (.aload_n 0, 1) := by decide +kernel
theorem dX11_kindNow_147 : decode cX11_kindNow 147 = .ok (.iconst 4, 1) := by decide +kernel
theorem dX11_kindNow_148 : decode cX11_kindNow 148 = .ok (.bipush 101, 2) := by decide +kernel
theorem dX11_kindNow_150 : decode cX11_kindNow 150 = .ok (.bipush 110, 2) := by decide +kernel
theorem dX11_kindNow_152 : decode cX11_kindNow 152 = .ok (.bipush 105, 2) := by decide +kernel
theorem dX11_kindNow_154 : decode cX11_kindNow 154 = .ok (.invokevirtual 144, 3) := by decide +kernel
theorem dX11_kindNow_157 : decode cX11_kindNow 157 = .ok (.ifCond .eq 21, 3) := by decide +kernel
theorem dX11_kindNow_160 : decode cX11_kindNow 160 = .ok (.aload_n 0, 1) := by decide +kernel
theorem dX11_kindNow_161 : decode cX11_kindNow 161 = .ok (.bipush 7, 2) := by decide +kernel
theorem dX11_kindNow_163 : decode cX11_kindNow 163 = .ok (.bipush 110, 2) := by decide +kernel
theorem dX11_kindNow_165 : decode cX11_kindNow 165 = .ok (.bipush 103, 2) := by decide +kernel
theorem dX11_kindNow_167 : decode cX11_kindNow 167 = .ok (.iconst 0, 1) := by decide +kernel
theorem dX11_kindNow_168 : decode cX11_kindNow 168 = .ok (.invokevirtual 144, 3) := by decide +kernel
theorem dX11_kindNow_171 : decode cX11_kindNow 171 = .ok (.ifCond .eq 7, 3) := by decide +kernel
theorem dX11_kindNow_174 : decode cX11_kindNow 174 = .ok (.iconst 4, 1) := by decide +kernel
theorem dX11_kindNow_175 : decode cX11_kindNow 175 = .ok (.goto 5, 3) := by decide +kernel
theorem dX11_kindNow_178 : decode cX11_kindNow 178 = .ok (.bipush (-4), 2) := by decide +kernel
theorem dX11_kindNow_180 : decode cX11_kindNow 180 = .ok (.ireturn, 1) := by decide +kernel
theorem dX11_next_0 : decode cX11_next 0 = .ok (.aload_n 0, 1) := by decide +kernel
theorem dX11_next_1 : decode cX11_next 1 = .ok (.getfield 124, 3) := by decide +kernel
theorem dX11_next_4 : decode cX11_next 4 = .ok (.ifCond .le 4, 3) := by decide +kernel
theorem dX11_next_7 : decode cX11_next 7 = .ok (.return_, 1) := by decide +kernel
theorem dX11_next_8 : decode cX11_next 8 = .ok (.aload_n 0, 1) := by decide +kernel
theorem dX11_next_9 : decode cX11_next 9 = .ok (.aload_n 0, 1) := by decide +kernel
theorem dX11_next_10 : decode cX11_next 10 = .ok (.getfield 133, 3) := by decide +kernel
theorem dX11_next_13 : decode cX11_next 13 = .ok (.invokevirtual 136, 3) := by decide +kernel
theorem dX11_next_16 : decode cX11_next 16 = .ok (.bipush 32, 2) := by decide +kernel
theorem dX11_next_18 : decode cX11_next 18 = .ok (.if_icmp .ne 16, 3) := by decide +kernel
theorem dX11_next_21 : decode cX11_next 21 = .ok (.aload_n 0, 1) := by decide +kernel
theorem dX11_next_22 : decode cX11_next 22 = .ok (.dup, 1) := by decide +kernel
theorem dX11_next_23 : decode cX11_next 23 = .ok (.getfield 133, 3) := by decide +kernel
theorem dX11_next_26 : decode cX11_next 26 = .ok (.iconst 1, 1) := by decide +kernel
theorem dX11_next_27 : decode cX11_next 27 = .ok (.iadd, 1) := by decide +kernel
theorem dX11_next_28 : decode cX11_next 28 = .ok (.putfield 133, 3) := by decide +kernel
theorem dX11_next_31 : decode cX11_next 31 = .ok (.goto (-23), 3) := by decide +kernel
theorem dX11_next_34 : decode cX11_next 34 = .ok (.aload_n 0, 1) := by decide +kernel
theorem dX11_next_35 : decode cX11_next 35 = .ok (.aload_n 0, 1) := by decide +kernel
theorem dX11_next_36 : decode cX11_next 36 = .ok (.getfield 133, 3) := by decide +kernel
theorem dX11_next_39 : decode cX11_next 39 = .ok (.putfield 127, 3) := by decide +kernel
theorem dX11_next_42 : decode cX11_next 42 = .ok (.aload_n 0, 1) := by decide +kernel
theorem dX11_next_43 : decode cX11_next 43 = .ok (.aload_n 0, 1) := by decide +kernel
theorem dX11_next_44 : decode cX11_next 44 = .ok (.getfield 133, 3) := by decide +kernel
theorem dX11_next_47 : decode cX11_next 47 = .ok (.invokevirtual 136, 3) := by decide +kernel
theorem dX11_next_50 : decode cX11_next 50 = .ok (.istore_n 1, 1) := by decide +kernel
theorem dX11_next_51 : decode cX11_next 51 = .ok (.iload_n 1, 1) := by decide +kernel
theorem dX11_next_52 : decode cX11_next 52 = .ok (.ifCond .ge 11, 3) := by decide +kernel
theorem dX11_next_55 : decode cX11_next 55 = .ok (.aload_n 0, 1) := by decide +kernel
theorem dX11_next_56 : decode cX11_next 56 = .ok (.iconst 0, 1) := by decide +kernel
theorem dX11_next_57 : decode cX11_next 57 = .ok (.putfield 151, 3) := by decide +kernel
theorem dX11_next_60 : decode cX11_next 60 = .ok (.goto 214, 3) := by decide +kernel
theorem dX11_next_63 : decode cX11_next 63 = .ok (.iload_n 1, 1) := by decide +kernel
theorem dX11_next_64 : decode cX11_next 64 = .ok (.i2l, 1) := by decide +kernel
theorem dX11_next_65 : decode cX11_next 65 = .ok (.ldc2_w 154, 3) := by decide +kernel
theorem dX11_next_68 : decode cX11_next 68 = .ok (.ldc2_w 156, 3) := by decide +kernel
theorem dX11_next_71 : decode cX11_next 71 = .ok (.invokestatic 120, 3) := by decide +kernel
theorem dX11_next_74 : decode cX11_next 74 = .ok (.ifCond .eq 42, 3) := by decide +kernel
theorem dX11_next_77 : decode cX11_next 77 = .ok (.aload_n 0, 1) := by decide +kernel
theorem dX11_next_78 : decode cX11_next 78 = .ok (.iconst 1, 1) := by decide +kernel
theorem dX11_next_79 : decode cX11_next 79 = .ok (.putfield 151, 3) := by decide +kernel
theorem dX11_next_82 : decode cX11_next 82 = .ok (.aload_n 0, 1) := by decide +kernel
theorem dX11_next_83 : decode cX11_next 83 = .ok (.aload_n 0, 1) := by decide +kernel
theorem dX11_next_84 : decode cX11_next 84 = .ok (.getfield 133, 3) := by decide +kernel
theorem dX11_next_87 : decode cX11_next 87 = .ok (.invokevirtual 136, 3) := by decide +kernel
theorem dX11_next_90 : decode cX11_next 90 = .ok (.i2l, 1) := by decide +kernel
theorem dX11_next_91 : decode cX11_next 91 = .ok (.ldc2_w 154, 3) := by decide +kernel
theorem dX11_next_94 : decode cX11_next 94 = .ok (.ldc2_w 156, 3) := by decide +kernel
theorem dX11_next_97 : decode cX11_next 97 = .ok (.invokestatic 120, 3) := by decide +kernel
theorem dX11_next_100 : decode cX11_next 100 = .ok (.ifCond .eq 174, 3) := by decide +kernel
theorem dX11_next_103 : decode cX11_next 103 = .ok (.aload_n 0, 1) := by decide +kernel
theorem dX11_next_104 : decode cX11_next 104 = .ok (.dup, 1) := by decide +kernel
theorem dX11_next_105 : decode cX11_next 105 = .ok (.getfield 133, 3) := by decide +kernel
theorem dX11_next_108 : decode cX11_next 108 = .ok (.iconst 1, 1) := by decide +kernel
theorem dX11_next_109 : decode cX11_next 109 = .ok (.iadd, 1) := by decide +kernel
theorem dX11_next_110 : decode cX11_next 110 = .ok (.putfield 133, 3) := by decide +kernel
theorem dX11_next_113 : decode cX11_next 113 = .ok (.goto (-31), 3) := by decide +kernel
theorem dX11_next_116 : decode cX11_next 116 = .ok (.iload_n 1, 1) := by decide +kernel
theorem dX11_next_117 : decode cX11_next 117 = .ok (.i2l, 1) := by decide +kernel
theorem dX11_next_118 : decode cX11_next 118 = .ok (.ldc2_w 158, 3) := by decide +kernel
theorem dX11_next_121 : decode cX11_next 121 = .ok (.ldc2_w 160, 3) := by decide +kernel
theorem dX11_next_124 : decode cX11_next 124 = .ok (.invokestatic 120, 3) := by decide +kernel
theorem dX11_next_127 : decode cX11_next 127 = .ok (.ifCond .eq 116, 3) := by decide +kernel
theorem dX11_next_130 : decode cX11_next 130 = .ok (.aload_n 0, 1) := by decide +kernel
theorem dX11_next_131 : decode cX11_next 131 = .ok (.iconst 2, 1) := by decide +kernel
theorem dX11_next_132 : decode cX11_next 132 = .ok (.putfield 151, 3) := by decide +kernel
theorem dX11_next_135 : decode cX11_next 135 = .ok (.aload_n 0, 1) := by decide +kernel
theorem dX11_next_136 : decode cX11_next 136 = .ok (.iconst 0, 1) := by decide +kernel
theorem dX11_next_137 : decode cX11_next 137 = .ok (.putfield 162, 3) := by decide +kernel
theorem dX11_next_140 : decode cX11_next 140 = .ok (.aload_n 0, 1) := by decide +kernel
theorem dX11_next_141 : decode cX11_next 141 = .ok (.aload_n 0, 1) := by decide +kernel
theorem dX11_next_142 : decode cX11_next 142 = .ok (.getfield 133, 3) := by decide +kernel
theorem dX11_next_145 : decode cX11_next 145 = .ok (.invokevirtual 136, 3) := by decide +kernel
theorem dX11_next_148 : decode cX11_next 148 = .ok (.i2l, 1) := by decide +kernel
theorem dX11_next_149 : decode cX11_next 149 = .ok (.ldc2_w 158, 3) := by decide +kernel
theorem dX11_next_152 : decode cX11_next 152 = .ok (.ldc2_w 160, 3) := by decide +kernel
theorem dX11_next_155 : decode cX11_next 155 = .ok (.invokestatic 120, 3) := by decide +kernel
theorem dX11_next_158 : decode cX11_next 158 = .ok (.ifCond .eq 59, 3) := by decide +kernel
theorem dX11_next_161 : decode cX11_next 161 = .ok (.aload_n 0, 1) := by decide +kernel
theorem dX11_next_162 : decode cX11_next 162 = .ok (.aload_n 0, 1) := by decide +kernel
theorem dX11_next_163 : decode cX11_next 163 = .ok (.getfield 133, 3) := by decide +kernel
theorem dX11_next_166 : decode cX11_next 166 = .ok (.aload_n 0, 1) := by decide +kernel
theorem dX11_next_167 : decode cX11_next 167 = .ok (.getfield 127, 3) := by decide +kernel
theorem dX11_next_170 : decode cX11_next 170 = .ok (.isub, 1) := by decide +kernel
theorem dX11_next_171 : decode cX11_next 171 = .ok (.iconst 3, 1) := by decide +kernel
theorem dX11_next_172 : decode cX11_next 172 = .ok (.if_icmp .ge 25, 3) := by decide +kernel
theorem dX11_next_175 : decode cX11_next 175 = .ok (.bipush 10, 2) := by decide +kernel
theorem dX11_next_177 : decode cX11_next 177 = .ok (.aload_n 0, 1) := by decide +kernel
theorem dX11_next_178 : decode cX11_next 178 = .ok (.getfield 162, 3) := by decide +kernel
theorem dX11_next_181 : decode cX11_next 181 = .ok (.imul, 1) := by decide +kernel
theorem dX11_next_182 : decode cX11_next 182 = .ok (.aload_n 0, 1) := by decide +kernel
theorem dX11_next_183 : decode cX11_next 183 = .ok (.aload_n 0, 1) := by decide +kernel
theorem dX11_next_184 : decode cX11_next 184 = .ok (.getfield 133, 3) := by decide +kernel
theorem dX11_next_187 : decode cX11_next 187 = .ok (.invokevirtual 136, 3) := by decide +kernel
theorem dX11_next_190 : decode cX11_next 190 = .ok (.iadd, 1) := by decide +kernel
theorem dX11_next_191 : decode cX11_next 191 = .ok (.bipush 48, 2) := by decide +kernel
theorem dX11_next_193 : decode cX11_next 193 = .ok (.isub, 1) := by decide +kernel
theorem dX11_next_194 : decode cX11_next 194 = .ok (.goto 7, 3) := by decide +kernel
theorem dX11_next_197 : decode cX11_next 197 = .ok (.aload_n 0, 1) := by decide +kernel
theorem dX11_next_198 : decode cX11_next 198 = .ok (.getfield 162, 3) := by decide +kernel
theorem dX11_next_201 : decode cX11_next 201 = .ok (.putfield 162, 3) := by decide +kernel
theorem dX11_next_204 : decode cX11_next 204 = .ok (.aload_n 0, 1) := by decide +kernel
theorem dX11_next_205 : decode cX11_next 205 = .ok (.dup, 1) := by decide +kernel
theorem dX11_next_206 : decode cX11_next 206 = .ok (.getfield 133, 3) := by decide +kernel
theorem dX11_next_209 : decode cX11_next 209 = .ok (.iconst 1, 1) := by decide +kernel
theorem dX11_next_210 : decode cX11_next 210 = .ok (.iadd, 1) := by decide +kernel
theorem dX11_next_211 : decode cX11_next 211 = .ok (.putfield 133, 3) := by decide +kernel
theorem dX11_next_214 : decode cX11_next 214 = .ok (.goto (-74), 3) := by decide +kernel
theorem dX11_next_217 : decode cX11_next 217 = .ok (.aload_n 0, 1) := by decide +kernel
theorem dX11_next_218 : decode cX11_next 218 = .ok (.aload_n 0, 1) := by decide +kernel
theorem dX11_next_219 : decode cX11_next 219 = .ok (.getfield 133, 3) := by decide +kernel
theorem dX11_next_222 : decode cX11_next 222 = .ok (.aload_n 0, 1) := by decide +kernel
theorem dX11_next_223 : decode cX11_next 223 = .ok (.getfield 127, 3) := by decide +kernel
theorem dX11_next_226 : decode cX11_next 226 = .ok (.isub, 1) := by decide +kernel
theorem dX11_next_227 : decode cX11_next 227 = .ok (.iconst 3, 1) := by decide +kernel
theorem dX11_next_228 : decode cX11_next 228 = .ok (.if_icmp .gt 7, 3) := by decide +kernel
theorem dX11_next_231 : decode cX11_next 231 = .ok (.iconst 1, 1) := by decide +kernel
theorem dX11_next_232 : decode cX11_next 232 = .ok (.goto 4, 3) := by decide +kernel
theorem dX11_next_235 : decode cX11_next 235 = .ok (.iconst 0, 1) := by decide +kernel
theorem dX11_next_236 : decode cX11_next 236 = .ok (.iconst 1, 1) := by decide +kernel
theorem dX11_next_237 : decode cX11_next 237 = .ok (.invokevirtual 165, 3) := by decide +kernel
theorem dX11_next_240 : decode cX11_next 240 = .ok (.goto 34, 3) := by decide +kernel
theorem dX11_next_243 : decode cX11_next 243 = .ok (.aload_n 0, 1) := by decide +kernel
theorem dX11_next_244 : decode cX11_next 244 = .ok (.iconst 3, 1) := by decide +kernel
theorem dX11_next_245 : decode cX11_next 245 = .ok (.putfield 151, 3) := by decide +kernel
theorem dX11_next_248 : decode cX11_next 248 = .ok (.aload_n 0, 1) := by decide +kernel
theorem dX11_next_249 : decode cX11_next 249 = .ok (.iload_n 1, 1) := by decide +kernel
theorem dX11_next_250 : decode cX11_next 250 = .ok (.bipush 59, 2) := by decide +kernel
theorem dX11_next_252 : decode cX11_next 252 = .ok (.if_icmp .ne 7, 3) := by decide +kernel
theorem dX11_next_255 : decode cX11_next 255 = .ok (.iconst 1, 1) := by decide +kernel
theorem dX11_next_256 : decode cX11_next 256 = .ok (.goto 4, 3) := by decide +kernel
theorem dX11_next_259 : decode cX11_next 259 = .ok (.iconst 0, 1) := by decide +kernel
theorem dX11_next_260 : decode cX11_next 260 = .ok (.iconst 1, 1) := by decide +kernel
theorem dX11_next_261 : decode cX11_next 261 = .ok (.invokevirtual 165, 3) := by decide +kernel
theorem dX11_next_264 : decode cX11_next 264 = .ok (.aload_n 0, 1) := by decide +kernel
theorem dX11_next_265 : decode cX11_next 265 = .ok (.dup, 1) := by decide +kernel
theorem dX11_next_266 : decode cX11_next 266 = .ok (.getfield 133, 3) := by decide +kernel
theorem dX11_next_269 : decode cX11_next 269 = .ok (.iconst 1, 1) := by decide +kernel
theorem dX11_next_270 : decode cX11_next 270 = .ok (.iadd, 1) := by decide +kernel
theorem dX11_next_271 : decode cX11_next 271 = .ok (.putfield 133, 3) := by decide +kernel
theorem dX11_next_274 : decode cX11_next 274 = .ok (.return_, 1) := by decide +kernel
theorem dX11_looked_0 : decode cX11_looked 0 = .ok (.aload_n 0, 1) := by decide +kernel
theorem dX11_looked_1 : decode cX11_looked 1 = .ok (.getfield 124, 3) := by decide +kernel
theorem dX11_looked_4 : decode cX11_looked 4 = .ok (.ifCond .ne 21, 3) := by decide +kernel
theorem dX11_looked_7 : decode cX11_looked 7 = .ok (.aload_n 0, 1) := by decide +kernel
theorem dX11_looked_8 : decode cX11_looked 8 = .ok (.aload_n 0, 1) := by decide +kernel
theorem dX11_looked_9 : decode cX11_looked 9 = .ok (.getfield 151, 3) := by decide +kernel
theorem dX11_looked_12 : decode cX11_looked 12 = .ok (.iconst 2, 1) := by decide +kernel
theorem dX11_looked_13 : decode cX11_looked 13 = .ok (.if_icmp .ne 7, 3) := by decide +kernel
theorem dX11_looked_16 : decode cX11_looked 16 = .ok (.iconst 1, 1) := by decide +kernel
theorem dX11_looked_17 : decode cX11_looked 17 = .ok (.goto 4, 3) := by decide +kernel
theorem dX11_looked_20 : decode cX11_looked 20 = .ok (.iconst 0, 1) := by decide +kernel
theorem dX11_looked_21 : decode cX11_looked 21 = .ok (.iconst 2, 1) := by decide +kernel
theorem dX11_looked_22 : decode cX11_looked 22 = .ok (.invokevirtual 165, 3) := by decide +kernel
theorem dX11_looked_25 : decode cX11_looked 25 = .ok (.aload_n 0, 1) := by decide +kernel
theorem dX11_looked_26 : decode cX11_looked 26 = .ok (.getfield 124, 3) := by decide +kernel
theorem dX11_looked_29 : decode cX11_looked 29 = .ok (.ifCond .ne 20, 3) := by decide +kernel
theorem dX11_looked_32 : decode cX11_looked 32 = .ok (.aload_n 0, 1) := by decide +kernel
theorem dX11_looked_33 : decode cX11_looked 33 = .ok (.aload_n 0, 1) := by decide +kernel
theorem dX11_looked_34 : decode cX11_looked 34 = .ok (.getfield 162, 3) := by decide +kernel
theorem dX11_looked_37 : decode cX11_looked 37 = .ok (.i2l, 1) := by decide +kernel
theorem dX11_looked_38 : decode cX11_looked 38 = .ok (.iload_n 1, 1) := by decide +kernel
theorem dX11_looked_39 : decode cX11_looked 39 = .ok (.i2l, 1) := by decide +kernel
theorem dX11_looked_40 : decode cX11_looked 40 = .ok (.iload_n 2, 1) := by decide +kernel
theorem dX11_looked_41 : decode cX11_looked 41 = .ok (.i2l, 1) := by decide +kernel
theorem dX11_looked_42 : decode cX11_looked 42 = .ok (.invokestatic 120, 3) := by decide +kernel
theorem dX11_looked_45 : decode cX11_looked 45 = .ok (.iconst 3, 1) := by decide +kernel
theorem dX11_looked_46 : decode cX11_looked 46 = .ok (.invokevirtual 165, 3) := by decide +kernel
theorem dX11_looked_49 : decode cX11_looked 49 = .ok (.aload_n 0, 1) := by decide +kernel
theorem dX11_looked_50 : decode cX11_looked 50 = .ok (.getfield 124, 3) := by decide +kernel
theorem dX11_looked_53 : decode cX11_looked 53 = .ok (.ifCond .ne 10, 3) := by decide +kernel
theorem dX11_looked_56 : decode cX11_looked 56 = .ok (.aload_n 0, 1) := by decide +kernel
theorem dX11_looked_57 : decode cX11_looked 57 = .ok (.getfield 162, 3) := by decide +kernel
theorem dX11_looked_60 : decode cX11_looked 60 = .ok (.goto 4, 3) := by decide +kernel
theorem dX11_looked_63 : decode cX11_looked 63 = .ok (.iconst 0, 1) := by decide +kernel
theorem dX11_looked_64 : decode cX11_looked 64 = .ok (.ireturn, 1) := by decide +kernel
theorem dX11_readNumber_0 : decode cX11_readNumber 0 = .ok (.aload_n 0, 1) := by decide +kernel
theorem dX11_readNumber_1 : decode cX11_readNumber 1 = .ok (.iload_n 1, 1) := by decide +kernel
theorem dX11_readNumber_2 : decode cX11_readNumber 2 = .ok (.iload_n 2, 1) := by decide +kernel
theorem dX11_readNumber_3 : decode cX11_readNumber 3 = .ok (.invokevirtual 169, 3) := by decide +kernel
theorem dX11_readNumber_6 : decode cX11_readNumber 6 = .ok (.istore_n 3, 1) := by decide +kernel
theorem dX11_readNumber_7 : decode cX11_readNumber 7 = .ok (.aload_n 0, 1) := by decide +kernel
theorem dX11_readNumber_8 : decode cX11_readNumber 8 = .ok (.invokevirtual 173, 3) := by decide +kernel
theorem dX11_readNumber_11 : decode cX11_readNumber 11 = .ok (.iload_n 3, 1) := by decide +kernel
theorem dX11_readNumber_12 : decode cX11_readNumber 12 = .ok (.ireturn, 1) := by decide +kernel
theorem dX11_readCell_0 : decode cX11_readCell 0 = .ok (.aload_n 0, 1) := by decide +kernel
theorem dX11_readCell_1 : decode cX11_readCell 1 = .ok (.iconst 0, 1) := by decide +kernel
theorem dX11_readCell_2 : decode cX11_readCell 2 = .ok (.bipush 8, 2) := by decide +kernel
theorem dX11_readCell_4 : decode cX11_readCell 4 = .ok (.invokevirtual 176, 3) := by decide +kernel
theorem dX11_readCell_7 : decode cX11_readCell 7 = .ok (.istore_n 2, 1) := by decide +kernel
theorem dX11_readCell_8 : decode cX11_readCell 8 = .ok (.aload_n 0, 1) := by decide +kernel
theorem dX11_readCell_9 : decode cX11_readCell 9 = .ok (.iconst 0, 1) := by decide +kernel
theorem dX11_readCell_10 : decode cX11_readCell 10 = .ok (.bipush 8, 2) := by decide +kernel
theorem dX11_readCell_12 : decode cX11_readCell 12 = .ok (.invokevirtual 169, 3) := by decide +kernel
theorem dX11_readCell_15 : decode cX11_readCell 15 = .ok (.istore_n 3, 1) := by decide +kernel
theorem dX11_readCell_16 : decode cX11_readCell 16 = .ok (.aload_n 0, 1) := by decide +kernel
theorem dX11_readCell_17 : decode cX11_readCell 17 = .ok (.getfield 124, 3) := by decide +kernel
theorem dX11_readCell_20 : decode cX11_readCell 20 = .ok (.ifCond .ne 31, 3) := by decide +kernel
theorem dX11_readCell_23 : decode cX11_readCell 23 = .ok (.iload_n 1, 1) := by decide +kernel
theorem dX11_readCell_24 : decode cX11_readCell 24 = .ok (.ifCond .eq 27, 3) := by decide +kernel
theorem dX11_readCell_27 : decode cX11_readCell 27 = .ok (.aload_n 0, 1) := by decide +kernel
theorem dX11_readCell_28 : decode cX11_readCell 28 = .ok (.aload_n 0, 1) := by decide +kernel
theorem dX11_readCell_29 : decode cX11_readCell 29 = .ok (.getfield 23, 3) := by decide +kernel
theorem dX11_readCell_32 : decode cX11_readCell 32 = .ok (.bipush 9, 2) := by decide +kernel
theorem dX11_readCell_34 : decode cX11_readCell 34 = .ok (.iload_n 3, 1) := by decide +kernel
theorem dX11_readCell_35 : decode cX11_readCell 35 = .ok (.imul, 1) := by decide +kernel
theorem dX11_readCell_36 : decode cX11_readCell 36 = .ok (.iload_n 2, 1) := by decide +kernel
theorem dX11_readCell_37 : decode cX11_readCell 37 = .ok (.iadd, 1) := by decide +kernel
theorem dX11_readCell_38 : decode cX11_readCell 38 = .ok (.iaload, 1) := by decide +kernel
theorem dX11_readCell_39 : decode cX11_readCell 39 = .ok (.ifCond .ne 7, 3) := by decide +kernel
theorem dX11_readCell_42 : decode cX11_readCell 42 = .ok (.iconst 1, 1) := by decide +kernel
theorem dX11_readCell_43 : decode cX11_readCell 43 = .ok (.goto 4, 3) := by decide +kernel
theorem dX11_readCell_46 : decode cX11_readCell 46 = .ok (.iconst 0, 1) := by decide +kernel
theorem dX11_readCell_47 : decode cX11_readCell 47 = .ok (.iconst 4, 1) := by decide +kernel
theorem dX11_readCell_48 : decode cX11_readCell 48 = .ok (.invokevirtual 165, 3) := by decide +kernel
theorem dX11_readCell_51 : decode cX11_readCell 51 = .ok (.aload_n 0, 1) := by decide +kernel
theorem dX11_readCell_52 : decode cX11_readCell 52 = .ok (.invokevirtual 173, 3) := by decide +kernel
theorem dX11_readCell_55 : decode cX11_readCell 55 = .ok (.aload_n 0, 1) := by decide +kernel
theorem dX11_readCell_56 : decode cX11_readCell 56 = .ok (.iload_n 2, 1) := by decide +kernel
theorem dX11_readCell_57 : decode cX11_readCell 57 = .ok (.aload_n 0, 1) := by decide +kernel
theorem dX11_readCell_58 : decode cX11_readCell 58 = .ok (.getfield 81, 3) := by decide +kernel
theorem dX11_readCell_61 : decode cX11_readCell 61 = .ok (.if_icmp .le 7, 3) := by decide +kernel
theorem dX11_readCell_64 : decode cX11_readCell 64 = .ok (.iload_n 2, 1) := by decide +kernel
theorem dX11_readCell_65 : decode cX11_readCell 65 = .ok (.goto 7, 3) := by decide +kernel
theorem dX11_readCell_68 : decode cX11_readCell 68 = .ok (.aload_n 0, 1) := by decide +kernel
theorem dX11_readCell_69 : decode cX11_readCell 69 = .ok (.getfield 81, 3) := by decide +kernel
theorem dX11_readCell_72 : decode cX11_readCell 72 = .ok (.putfield 81, 3) := by decide +kernel
theorem dX11_readCell_75 : decode cX11_readCell 75 = .ok (.aload_n 0, 1) := by decide +kernel
theorem dX11_readCell_76 : decode cX11_readCell 76 = .ok (.iload_n 3, 1) := by decide +kernel
theorem dX11_readCell_77 : decode cX11_readCell 77 = .ok (.aload_n 0, 1) := by decide +kernel
theorem dX11_readCell_78 : decode cX11_readCell 78 = .ok (.getfield 84, 3) := by decide +kernel
theorem dX11_readCell_81 : decode cX11_readCell 81 = .ok (.if_icmp .le 7, 3) := by decide +kernel
theorem dX11_readCell_84 : decode cX11_readCell 84 = .ok (.iload_n 3, 1) := by decide +kernel
theorem dX11_readCell_85 : decode cX11_readCell 85 = .ok (.goto 7, 3) := by decide +kernel
theorem dX11_readCell_88 : decode cX11_readCell 88 = .ok (.aload_n 0, 1) := by decide +kernel
theorem dX11_readCell_89 : decode cX11_readCell 89 = .ok (.getfield 84, 3) := by decide +kernel
theorem dX11_readCell_92 : decode cX11_readCell 92 = .ok (.putfield 84, 3) := by decide +kernel
theorem dX11_readCell_95 : decode cX11_readCell 95 = .ok (.bipush 9, 2) := by decide +kernel
theorem dX11_readCell_97 : decode cX11_readCell 97 = .ok (.iload_n 3, 1) := by decide +kernel
theorem dX11_readCell_98 : decode cX11_readCell 98 = .ok (.imul, 1) := by decide +kernel
theorem dX11_readCell_99 : decode cX11_readCell 99 = .ok (.iload_n 2, 1) := by decide +kernel
theorem dX11_readCell_100 : decode cX11_readCell 100 = .ok (.iadd, 1) := by decide +kernel
theorem dX11_readCell_101 : decode cX11_readCell 101 = .ok (.ireturn, 1) := by decide +kernel
theorem dX11_readOne_0 : decode cX11_readOne 0 = .ok (.aload_n 0, 1) := by decide +kernel
theorem dX11_readOne_1 : decode cX11_readOne 1 = .ok (.iconst 0, 1) := by decide +kernel
theorem dX11_readOne_2 : decode cX11_readOne 2 = .ok (.iconst 5, 1) := by decide +kernel
theorem dX11_readOne_3 : decode cX11_readOne 3 = .ok (.invokevirtual 169, 3) := by decide +kernel
theorem dX11_readOne_6 : decode cX11_readOne 6 = .ok (.istore_n 2, 1) := by decide +kernel
theorem dX11_readOne_7 : decode cX11_readOne 7 = .ok (.aload_n 0, 1) := by decide +kernel
theorem dX11_readOne_8 : decode cX11_readOne 8 = .ok (.getfield 124, 3) := by decide +kernel
theorem dX11_readOne_11 : decode cX11_readOne 11 = .ok (.ifCond .ne 18, 3) := by decide +kernel
theorem dX11_readOne_14 : decode cX11_readOne 14 = .ok (.aload_n 0, 1) := by decide +kernel
theorem dX11_readOne_15 : decode cX11_readOne 15 = .ok (.iload_n 2, 1) := by decide +kernel
theorem dX11_readOne_16 : decode cX11_readOne 16 = .ok (.iload_n 1, 1) := by decide +kernel
theorem dX11_readOne_17 : decode cX11_readOne 17 = .ok (.if_icmp .eq 7, 3) := by decide +kernel
theorem dX11_readOne_20 : decode cX11_readOne 20 = .ok (.iconst 1, 1) := by decide +kernel
theorem dX11_readOne_21 : decode cX11_readOne 21 = .ok (.goto 4, 3) := by decide +kernel
theorem dX11_readOne_24 : decode cX11_readOne 24 = .ok (.iconst 0, 1) := by decide +kernel
theorem dX11_readOne_25 : decode cX11_readOne 25 = .ok (.iconst 4, 1) := by decide +kernel
theorem dX11_readOne_26 : decode cX11_readOne 26 = .ok (.invokevirtual 165, 3) := by decide +kernel
theorem dX11_readOne_29 : decode cX11_readOne 29 = .ok (.aload_n 0, 1) := by decide +kernel
theorem dX11_readOne_30 : decode cX11_readOne 30 = .ok (.invokevirtual 173, 3) := by decide +kernel
theorem dX11_readOne_33 : decode cX11_readOne 33 = .ok (.aload_n 0, 1) := by decide +kernel
theorem dX11_readOne_34 : decode cX11_readOne 34 = .ok (.iload_n 2, 1) := by decide +kernel
theorem dX11_readOne_35 : decode cX11_readOne 35 = .ok (.aload_n 0, 1) := by decide +kernel
theorem dX11_readOne_36 : decode cX11_readOne 36 = .ok (.getfield 78, 3) := by decide +kernel
theorem dX11_readOne_39 : decode cX11_readOne 39 = .ok (.if_icmp .le 7, 3) := by decide +kernel
theorem dX11_readOne_42 : decode cX11_readOne 42 = .ok (.iload_n 2, 1) := by decide +kernel
theorem dX11_readOne_43 : decode cX11_readOne 43 = .ok (.goto 7, 3) := by decide +kernel
theorem dX11_readOne_46 : decode cX11_readOne 46 = .ok (.aload_n 0, 1) := by decide +kernel
theorem dX11_readOne_47 : decode cX11_readOne 47 = .ok (.getfield 78, 3) := by decide +kernel
theorem dX11_readOne_50 : decode cX11_readOne 50 = .ok (.putfield 78, 3) := by decide +kernel
theorem dX11_readOne_53 : decode cX11_readOne 53 = .ok (.iload_n 2, 1) := by decide +kernel
theorem dX11_readOne_54 : decode cX11_readOne 54 = .ok (.ireturn, 1) := by decide +kernel
theorem dX11_readBench_0 : decode cX11_readBench 0 = .ok (.iconst 4, 1) := by decide +kernel
theorem dX11_readBench_1 : decode cX11_readBench 1 = .ok (.aload_n 0, 1) := by decide +kernel
theorem dX11_readBench_2 : decode cX11_readBench 2 = .ok (.getfield 71, 3) := by decide +kernel
theorem dX11_readBench_5 : decode cX11_readBench 5 = .ok (.imul, 1) := by decide +kernel
theorem dX11_readBench_6 : decode cX11_readBench 6 = .ok (.istore_n 1, 1) := by decide +kernel
theorem dX11_readBench_7 : decode cX11_readBench 7 = .ok (.aload_n 0, 1) := by decide +kernel
theorem dX11_readBench_8 : decode cX11_readBench 8 = .ok (.getfield 26, 3) := by decide +kernel
theorem dX11_readBench_11 : decode cX11_readBench 11 = .ok (.iload_n 1, 1) := by decide +kernel
theorem dX11_readBench_12 : decode cX11_readBench 12 = .ok (.aload_n 0, 1) := by decide +kernel
theorem dX11_readBench_13 : decode cX11_readBench 13 = .ok (.iconst 0, 1) := by decide +kernel
theorem dX11_readBench_14 : decode cX11_readBench 14 = .ok (.invokevirtual 179, 3) := by decide +kernel
theorem dX11_readBench_17 : decode cX11_readBench 17 = .ok (.iastore, 1) := by decide +kernel
theorem dX11_readBench_18 : decode cX11_readBench 18 = .ok (.aload_n 0, 1) := by decide +kernel
theorem dX11_readBench_19 : decode cX11_readBench 19 = .ok (.getfield 26, 3) := by decide +kernel
theorem dX11_readBench_22 : decode cX11_readBench 22 = .ok (.iload_n 1, 1) := by decide +kernel
theorem dX11_readBench_23 : decode cX11_readBench 23 = .ok (.iconst 1, 1) := by decide +kernel
theorem dX11_readBench_24 : decode cX11_readBench 24 = .ok (.iadd, 1) := by decide +kernel
theorem dX11_readBench_25 : decode cX11_readBench 25 = .ok (.aload_n 0, 1) := by decide +kernel
theorem dX11_readBench_26 : decode cX11_readBench 26 = .ok (.iconst 0, 1) := by decide +kernel
theorem dX11_readBench_27 : decode cX11_readBench 27 = .ok (.bipush 7, 2) := by decide +kernel
theorem dX11_readBench_29 : decode cX11_readBench 29 = .ok (.invokevirtual 176, 3) := by decide +kernel
theorem dX11_readBench_32 : decode cX11_readBench 32 = .ok (.iastore, 1) := by decide +kernel
theorem dX11_readBench_33 : decode cX11_readBench 33 = .ok (.aload_n 0, 1) := by decide +kernel
theorem dX11_readBench_34 : decode cX11_readBench 34 = .ok (.getfield 26, 3) := by decide +kernel
theorem dX11_readBench_37 : decode cX11_readBench 37 = .ok (.iload_n 1, 1) := by decide +kernel
theorem dX11_readBench_38 : decode cX11_readBench 38 = .ok (.iconst 2, 1) := by decide +kernel
theorem dX11_readBench_39 : decode cX11_readBench 39 = .ok (.iadd, 1) := by decide +kernel
theorem dX11_readBench_40 : decode cX11_readBench 40 = .ok (.aload_n 0, 1) := by decide +kernel
theorem dX11_readBench_41 : decode cX11_readBench 41 = .ok (.iconst 1, 1) := by decide +kernel
theorem dX11_readBench_42 : decode cX11_readBench 42 = .ok (.bipush 100, 2) := by decide +kernel
theorem dX11_readBench_44 : decode cX11_readBench 44 = .ok (.invokevirtual 176, 3) := by decide +kernel
theorem dX11_readBench_47 : decode cX11_readBench 47 = .ok (.iastore, 1) := by decide +kernel
theorem dX11_readBench_48 : decode cX11_readBench 48 = .ok (.aload_n 0, 1) := by decide +kernel
theorem dX11_readBench_49 : decode cX11_readBench 49 = .ok (.getfield 26, 3) := by decide +kernel
theorem dX11_readBench_52 : decode cX11_readBench 52 = .ok (.iload_n 1, 1) := by decide +kernel
theorem dX11_readBench_53 : decode cX11_readBench 53 = .ok (.iconst 3, 1) := by decide +kernel
theorem dX11_readBench_54 : decode cX11_readBench 54 = .ok (.iadd, 1) := by decide +kernel
theorem dX11_readBench_55 : decode cX11_readBench 55 = .ok (.iconst 0, 1) := by decide +kernel
theorem dX11_readBench_56 : decode cX11_readBench 56 = .ok (.iastore, 1) := by decide +kernel
theorem dX11_readBench_57 : decode cX11_readBench 57 = .ok (.aload_n 0, 1) := by decide +kernel
theorem dX11_readBench_58 : decode cX11_readBench 58 = .ok (.getfield 124, 3) := by decide +kernel
theorem dX11_readBench_61 : decode cX11_readBench 61 = .ok (.ifCond .ne 45, 3) := by decide +kernel
theorem dX11_readBench_64 : decode cX11_readBench 64 = .ok (.aload_n 0, 1) := by decide +kernel
theorem dX11_readBench_65 : decode cX11_readBench 65 = .ok (.getfield 151, 3) := by decide +kernel
theorem dX11_readBench_68 : decode cX11_readBench 68 = .ok (.iconst 1, 1) := by decide +kernel
theorem dX11_readBench_69 : decode cX11_readBench 69 = .ok (.if_icmp .ne 37, 3) := by decide +kernel
theorem dX11_readBench_72 : decode cX11_readBench 72 = .ok (.aload_n 0, 1) := by decide +kernel
theorem dX11_readBench_73 : decode cX11_readBench 73 = .ok (.invokevirtual 183, 3) := by decide +kernel
theorem dX11_readBench_76 : decode cX11_readBench 76 = .ok (.istore_n 2, 1) := by decide +kernel
theorem dX11_readBench_77 : decode cX11_readBench 77 = .ok (.aload_n 0, 1) := by decide +kernel
theorem dX11_readBench_78 : decode cX11_readBench 78 = .ok (.iload_n 2, 1) := by decide +kernel
theorem dX11_readBench_79 : decode cX11_readBench 79 = .ok (.bipush (-4), 2) := by decide +kernel
theorem dX11_readBench_81 : decode cX11_readBench 81 = .ok (.if_icmp .eq 7, 3) := by decide +kernel
theorem dX11_readBench_84 : decode cX11_readBench 84 = .ok (.iconst 1, 1) := by decide +kernel
theorem dX11_readBench_85 : decode cX11_readBench 85 = .ok (.goto 4, 3) := by decide +kernel
theorem dX11_readBench_88 : decode cX11_readBench 88 = .ok (.iconst 0, 1) := by decide +kernel
theorem dX11_readBench_89 : decode cX11_readBench 89 = .ok (.iconst 2, 1) := by decide +kernel
theorem dX11_readBench_90 : decode cX11_readBench 90 = .ok (.invokevirtual 165, 3) := by decide +kernel
theorem dX11_readBench_93 : decode cX11_readBench 93 = .ok (.aload_n 0, 1) := by decide +kernel
theorem dX11_readBench_94 : decode cX11_readBench 94 = .ok (.getfield 26, 3) := by decide +kernel
theorem dX11_readBench_97 : decode cX11_readBench 97 = .ok (.iload_n 1, 1) := by decide +kernel
theorem dX11_readBench_98 : decode cX11_readBench 98 = .ok (.iconst 3, 1) := by decide +kernel
theorem dX11_readBench_99 : decode cX11_readBench 99 = .ok (.iadd, 1) := by decide +kernel
theorem dX11_readBench_100 : decode cX11_readBench 100 = .ok (.iload_n 2, 1) := by decide +kernel
theorem dX11_readBench_101 : decode cX11_readBench 101 = .ok (.iastore, 1) := by decide +kernel
theorem dX11_readBench_102 : decode cX11_readBench 102 = .ok (.aload_n 0, 1) := by decide +kernel
theorem dX11_readBench_103 : decode cX11_readBench 103 = .ok (.invokevirtual 173, 3) := by decide +kernel
theorem dX11_readBench_106 : decode cX11_readBench 106 = .ok (.aload_n 0, 1) := by decide +kernel
theorem dX11_readBench_107 : decode cX11_readBench 107 = .ok (.dup, 1) := by decide +kernel
theorem dX11_readBench_108 : decode cX11_readBench 108 = .ok (.getfield 71, 3) := by decide +kernel
theorem dX11_readBench_111 : decode cX11_readBench 111 = .ok (.iconst 1, 1) := by decide +kernel
theorem dX11_readBench_112 : decode cX11_readBench 112 = .ok (.iadd, 1) := by decide +kernel
theorem dX11_readBench_113 : decode cX11_readBench 113 = .ok (.putfield 71, 3) := by decide +kernel
theorem dX11_readBench_116 : decode cX11_readBench 116 = .ok (.return_, 1) := by decide +kernel
theorem dX11_readWant_0 : decode cX11_readWant 0 = .ok (.iconst 3, 1) := by decide +kernel
theorem dX11_readWant_1 : decode cX11_readWant 1 = .ok (.aload_n 0, 1) := by decide +kernel
theorem dX11_readWant_2 : decode cX11_readWant 2 = .ok (.getfield 75, 3) := by decide +kernel
theorem dX11_readWant_5 : decode cX11_readWant 5 = .ok (.imul, 1) := by decide +kernel
theorem dX11_readWant_6 : decode cX11_readWant 6 = .ok (.istore_n 2, 1) := by decide +kernel
theorem dX11_readWant_7 : decode cX11_readWant 7 = .ok (.aload_n 0, 1) := by decide +kernel
theorem dX11_readWant_8 : decode cX11_readWant 8 = .ok (.getfield 29, 3) := by decide +kernel
theorem dX11_readWant_11 : decode cX11_readWant 11 = .ok (.iload_n 2, 1) := by decide +kernel
theorem dX11_readWant_12 : decode cX11_readWant 12 = .ok (.aload_n 0, 1) := by decide +kernel
theorem dX11_readWant_13 : decode cX11_readWant 13 = .ok (.bipush (-4), 2) := by decide +kernel
theorem dX11_readWant_15 : decode cX11_readWant 15 = .ok (.invokevirtual 186, 3) := by decide +kernel
theorem dX11_readWant_18 : decode cX11_readWant 18 = .ok (.iastore, 1) := by decide +kernel
theorem dX11_readWant_19 : decode cX11_readWant 19 = .ok (.aload_n 0, 1) := by decide +kernel
theorem dX11_readWant_20 : decode cX11_readWant 20 = .ok (.getfield 29, 3) := by decide +kernel
theorem dX11_readWant_23 : decode cX11_readWant 23 = .ok (.iload_n 2, 1) := by decide +kernel
theorem dX11_readWant_24 : decode cX11_readWant 24 = .ok (.iconst 1, 1) := by decide +kernel
theorem dX11_readWant_25 : decode cX11_readWant 25 = .ok (.iadd, 1) := by decide +kernel
theorem dX11_readWant_26 : decode cX11_readWant 26 = .ok (.aload_n 0, 1) := by decide +kernel
theorem dX11_readWant_27 : decode cX11_readWant 27 = .ok (.aload_n 0, 1) := by decide +kernel
theorem dX11_readWant_28 : decode cX11_readWant 28 = .ok (.getfield 29, 3) := by decide +kernel
theorem dX11_readWant_31 : decode cX11_readWant 31 = .ok (.iload_n 2, 1) := by decide +kernel
theorem dX11_readWant_32 : decode cX11_readWant 32 = .ok (.iaload, 1) := by decide +kernel
theorem dX11_readWant_33 : decode cX11_readWant 33 = .ok (.invokevirtual 186, 3) := by decide +kernel
theorem dX11_readWant_36 : decode cX11_readWant 36 = .ok (.iastore, 1) := by decide +kernel
theorem dX11_readWant_37 : decode cX11_readWant 37 = .ok (.aload_n 0, 1) := by decide +kernel
theorem dX11_readWant_38 : decode cX11_readWant 38 = .ok (.getfield 29, 3) := by decide +kernel
theorem dX11_readWant_41 : decode cX11_readWant 41 = .ok (.iload_n 2, 1) := by decide +kernel
theorem dX11_readWant_42 : decode cX11_readWant 42 = .ok (.iconst 2, 1) := by decide +kernel
theorem dX11_readWant_43 : decode cX11_readWant 43 = .ok (.iadd, 1) := by decide +kernel
theorem dX11_readWant_44 : decode cX11_readWant 44 = .ok (.iload_n 1, 1) := by decide +kernel
theorem dX11_readWant_45 : decode cX11_readWant 45 = .ok (.iastore, 1) := by decide +kernel
theorem dX11_readWant_46 : decode cX11_readWant 46 = .ok (.aload_n 0, 1) := by decide +kernel
theorem dX11_readWant_47 : decode cX11_readWant 47 = .ok (.dup, 1) := by decide +kernel
theorem dX11_readWant_48 : decode cX11_readWant 48 = .ok (.getfield 75, 3) := by decide +kernel
theorem dX11_readWant_51 : decode cX11_readWant 51 = .ok (.iconst 1, 1) := by decide +kernel
theorem dX11_readWant_52 : decode cX11_readWant 52 = .ok (.iadd, 1) := by decide +kernel
theorem dX11_readWant_53 : decode cX11_readWant 53 = .ok (.putfield 75, 3) := by decide +kernel
theorem dX11_readWant_56 : decode cX11_readWant 56 = .ok (.return_, 1) := by decide +kernel
theorem dX11_readWhisper_0 : decode cX11_readWhisper 0 = .ok (.aload_n 0, 1) := by decide +kernel
theorem dX11_readWhisper_1 : decode cX11_readWhisper 1 = .ok (.getfield 23, 3) := by decide +kernel
theorem dX11_readWhisper_4 : decode cX11_readWhisper 4 = .ok (.bipush 88, 2) := by decide +kernel
theorem dX11_readWhisper_6 : decode cX11_readWhisper 6 = .ok (.iaload, 1) := by decide +kernel
theorem dX11_readWhisper_7 : decode cX11_readWhisper 7 = .ok (.istore_n 1, 1) := by decide +kernel
theorem dX11_readWhisper_8 : decode cX11_readWhisper 8 = .ok (.bipush 89, 2) := by decide +kernel
theorem dX11_readWhisper_10 : decode cX11_readWhisper 10 = .ok (.iconst 3, 1) := by decide +kernel
theorem dX11_readWhisper_11 : decode cX11_readWhisper 11 = .ok (.iload_n 1, 1) := by decide +kernel
theorem dX11_readWhisper_12 : decode cX11_readWhisper 12 = .ok (.imul, 1) := by decide +kernel
theorem dX11_readWhisper_13 : decode cX11_readWhisper 13 = .ok (.iadd, 1) := by decide +kernel
theorem dX11_readWhisper_14 : decode cX11_readWhisper 14 = .ok (.istore_n 2, 1) := by decide +kernel
theorem dX11_readWhisper_15 : decode cX11_readWhisper 15 = .ok (.aload_n 0, 1) := by decide +kernel
theorem dX11_readWhisper_16 : decode cX11_readWhisper 16 = .ok (.getfield 23, 3) := by decide +kernel
theorem dX11_readWhisper_19 : decode cX11_readWhisper 19 = .ok (.iload_n 2, 1) := by decide +kernel
theorem dX11_readWhisper_20 : decode cX11_readWhisper 20 = .ok (.aload_n 0, 1) := by decide +kernel
theorem dX11_readWhisper_21 : decode cX11_readWhisper 21 = .ok (.iload_n 1, 1) := by decide +kernel
theorem dX11_readWhisper_22 : decode cX11_readWhisper 22 = .ok (.ifCond .ne 7, 3) := by decide +kernel
theorem dX11_readWhisper_25 : decode cX11_readWhisper 25 = .ok (.iconst 0, 1) := by decide +kernel
theorem dX11_readWhisper_26 : decode cX11_readWhisper 26 = .ok (.goto 11, 3) := by decide +kernel
theorem dX11_readWhisper_29 : decode cX11_readWhisper 29 = .ok (.aload_n 0, 1) := by decide +kernel
theorem dX11_readWhisper_30 : decode cX11_readWhisper 30 = .ok (.getfield 23, 3) := by decide +kernel
theorem dX11_readWhisper_33 : decode cX11_readWhisper 33 = .ok (.iload_n 2, 1) := by decide +kernel
theorem dX11_readWhisper_34 : decode cX11_readWhisper 34 = .ok (.iconst 3, 1) := by decide +kernel
theorem dX11_readWhisper_35 : decode cX11_readWhisper 35 = .ok (.isub, 1) := by decide +kernel
theorem dX11_readWhisper_36 : decode cX11_readWhisper 36 = .ok (.iaload, 1) := by decide +kernel
theorem dX11_readWhisper_37 : decode cX11_readWhisper 37 = .ok (.bipush 11, 2) := by decide +kernel
theorem dX11_readWhisper_39 : decode cX11_readWhisper 39 = .ok (.invokevirtual 176, 3) := by decide +kernel
theorem dX11_readWhisper_42 : decode cX11_readWhisper 42 = .ok (.iastore, 1) := by decide +kernel
theorem dX11_readWhisper_43 : decode cX11_readWhisper 43 = .ok (.aload_n 0, 1) := by decide +kernel
theorem dX11_readWhisper_44 : decode cX11_readWhisper 44 = .ok (.getfield 23, 3) := by decide +kernel
theorem dX11_readWhisper_47 : decode cX11_readWhisper 47 = .ok (.iload_n 2, 1) := by decide +kernel
theorem dX11_readWhisper_48 : decode cX11_readWhisper 48 = .ok (.iconst 1, 1) := by decide +kernel
theorem dX11_readWhisper_49 : decode cX11_readWhisper 49 = .ok (.iadd, 1) := by decide +kernel
theorem dX11_readWhisper_50 : decode cX11_readWhisper 50 = .ok (.aload_n 0, 1) := by decide +kernel
theorem dX11_readWhisper_51 : decode cX11_readWhisper 51 = .ok (.bipush (-4), 2) := by decide +kernel
theorem dX11_readWhisper_53 : decode cX11_readWhisper 53 = .ok (.invokevirtual 186, 3) := by decide +kernel
theorem dX11_readWhisper_56 : decode cX11_readWhisper 56 = .ok (.iastore, 1) := by decide +kernel
theorem dX11_readWhisper_57 : decode cX11_readWhisper 57 = .ok (.aload_n 0, 1) := by decide +kernel
theorem dX11_readWhisper_58 : decode cX11_readWhisper 58 = .ok (.getfield 23, 3) := by decide +kernel
theorem dX11_readWhisper_61 : decode cX11_readWhisper 61 = .ok (.iload_n 2, 1) := by decide +kernel
theorem dX11_readWhisper_62 : decode cX11_readWhisper 62 = .ok (.iconst 2, 1) := by decide +kernel
theorem dX11_readWhisper_63 : decode cX11_readWhisper 63 = .ok (.iadd, 1) := by decide +kernel
theorem dX11_readWhisper_64 : decode cX11_readWhisper 64 = .ok (.aload_n 0, 1) := by decide +kernel
theorem dX11_readWhisper_65 : decode cX11_readWhisper 65 = .ok (.iconst 0, 1) := by decide +kernel
theorem dX11_readWhisper_66 : decode cX11_readWhisper 66 = .ok (.bipush 7, 2) := by decide +kernel
theorem dX11_readWhisper_68 : decode cX11_readWhisper 68 = .ok (.invokevirtual 176, 3) := by decide +kernel
theorem dX11_readWhisper_71 : decode cX11_readWhisper 71 = .ok (.iastore, 1) := by decide +kernel
theorem dX11_readWhisper_72 : decode cX11_readWhisper 72 = .ok (.aload_n 0, 1) := by decide +kernel
theorem dX11_readWhisper_73 : decode cX11_readWhisper 73 = .ok (.getfield 23, 3) := by decide +kernel
theorem dX11_readWhisper_76 : decode cX11_readWhisper 76 = .ok (.bipush 88, 2) := by decide +kernel
theorem dX11_readWhisper_78 : decode cX11_readWhisper 78 = .ok (.iload_n 1, 1) := by decide +kernel
theorem dX11_readWhisper_79 : decode cX11_readWhisper 79 = .ok (.iconst 1, 1) := by decide +kernel
theorem dX11_readWhisper_80 : decode cX11_readWhisper 80 = .ok (.iadd, 1) := by decide +kernel
theorem dX11_readWhisper_81 : decode cX11_readWhisper 81 = .ok (.iastore, 1) := by decide +kernel
theorem dX11_readWhisper_82 : decode cX11_readWhisper 82 = .ok (.return_, 1) := by decide +kernel
theorem dX11_readLineOf_0 : decode cX11_readLineOf 0 = .ok (.iload_n 1, 1) := by decide +kernel
theorem dX11_readLineOf_1 : decode cX11_readLineOf 1 = .ok (.tableswitch 204 0 10 #[59, 88, 104, 120, 137, 153, 160, 160, 204, 204, 197], 59) := by decide +kernel
theorem dX11_readLineOf_60 : decode cX11_readLineOf 60 = .ok (.aload_n 0, 1) := by decide +kernel
theorem dX11_readLineOf_61 : decode cX11_readLineOf 61 = .ok (.getfield 32, 3) := by decide +kernel
theorem dX11_readLineOf_64 : decode cX11_readLineOf 64 = .ok (.iconst 0, 1) := by decide +kernel
theorem dX11_readLineOf_65 : decode cX11_readLineOf 65 = .ok (.aload_n 0, 1) := by decide +kernel
theorem dX11_readLineOf_66 : decode cX11_readLineOf 66 = .ok (.iconst 3, 1) := by decide +kernel
theorem dX11_readLineOf_67 : decode cX11_readLineOf 67 = .ok (.bipush 9, 2) := by decide +kernel
theorem dX11_readLineOf_69 : decode cX11_readLineOf 69 = .ok (.invokevirtual 176, 3) := by decide +kernel
theorem dX11_readLineOf_72 : decode cX11_readLineOf 72 = .ok (.iastore, 1) := by decide +kernel
theorem dX11_readLineOf_73 : decode cX11_readLineOf 73 = .ok (.aload_n 0, 1) := by decide +kernel
theorem dX11_readLineOf_74 : decode cX11_readLineOf 74 = .ok (.getfield 32, 3) := by decide +kernel
theorem dX11_readLineOf_77 : decode cX11_readLineOf 77 = .ok (.iconst 1, 1) := by decide +kernel
theorem dX11_readLineOf_78 : decode cX11_readLineOf 78 = .ok (.aload_n 0, 1) := by decide +kernel
theorem dX11_readLineOf_79 : decode cX11_readLineOf 79 = .ok (.iconst 3, 1) := by decide +kernel
theorem dX11_readLineOf_80 : decode cX11_readLineOf 80 = .ok (.bipush 9, 2) := by decide +kernel
theorem dX11_readLineOf_82 : decode cX11_readLineOf 82 = .ok (.invokevirtual 176, 3) := by decide +kernel
theorem dX11_readLineOf_85 : decode cX11_readLineOf 85 = .ok (.iastore, 1) := by decide +kernel
theorem dX11_readLineOf_86 : decode cX11_readLineOf 86 = .ok (.goto 137, 3) := by decide +kernel
theorem dX11_readLineOf_89 : decode cX11_readLineOf 89 = .ok (.aload_n 0, 1) := by decide +kernel
theorem dX11_readLineOf_90 : decode cX11_readLineOf 90 = .ok (.getfield 32, 3) := by decide +kernel
theorem dX11_readLineOf_93 : decode cX11_readLineOf 93 = .ok (.iconst 2, 1) := by decide +kernel
theorem dX11_readLineOf_94 : decode cX11_readLineOf 94 = .ok (.aload_n 0, 1) := by decide +kernel
theorem dX11_readLineOf_95 : decode cX11_readLineOf 95 = .ok (.iconst 0, 1) := by decide +kernel
theorem dX11_readLineOf_96 : decode cX11_readLineOf 96 = .ok (.bipush 20, 2) := by decide +kernel
theorem dX11_readLineOf_98 : decode cX11_readLineOf 98 = .ok (.invokevirtual 176, 3) := by decide +kernel
theorem dX11_readLineOf_101 : decode cX11_readLineOf 101 = .ok (.iastore, 1) := by decide +kernel
theorem dX11_readLineOf_102 : decode cX11_readLineOf 102 = .ok (.goto 121, 3) := by decide +kernel
theorem dX11_readLineOf_105 : decode cX11_readLineOf 105 = .ok (.aload_n 0, 1) := by decide +kernel
theorem dX11_readLineOf_106 : decode cX11_readLineOf 106 = .ok (.getfield 32, 3) := by decide +kernel
theorem dX11_readLineOf_109 : decode cX11_readLineOf 109 = .ok (.iconst 3, 1) := by decide +kernel
theorem dX11_readLineOf_110 : decode cX11_readLineOf 110 = .ok (.aload_n 0, 1) := by decide +kernel
theorem dX11_readLineOf_111 : decode cX11_readLineOf 111 = .ok (.iconst 0, 1) := by decide +kernel
theorem dX11_readLineOf_112 : decode cX11_readLineOf 112 = .ok (.bipush 50, 2) := by decide +kernel
theorem dX11_readLineOf_114 : decode cX11_readLineOf 114 = .ok (.invokevirtual 176, 3) := by decide +kernel
theorem dX11_readLineOf_117 : decode cX11_readLineOf 117 = .ok (.iastore, 1) := by decide +kernel
theorem dX11_readLineOf_118 : decode cX11_readLineOf 118 = .ok (.goto 105, 3) := by decide +kernel
theorem dX11_readLineOf_121 : decode cX11_readLineOf 121 = .ok (.aload_n 0, 1) := by decide +kernel
theorem dX11_readLineOf_122 : decode cX11_readLineOf 122 = .ok (.getfield 23, 3) := by decide +kernel
theorem dX11_readLineOf_125 : decode cX11_readLineOf 125 = .ok (.bipush 81, 2) := by decide +kernel
theorem dX11_readLineOf_127 : decode cX11_readLineOf 127 = .ok (.aload_n 0, 1) := by decide +kernel
theorem dX11_readLineOf_128 : decode cX11_readLineOf 128 = .ok (.iconst 0, 1) := by decide +kernel
theorem dX11_readLineOf_129 : decode cX11_readLineOf 129 = .ok (.bipush 9, 2) := by decide +kernel
theorem dX11_readLineOf_131 : decode cX11_readLineOf 131 = .ok (.invokevirtual 176, 3) := by decide +kernel
theorem dX11_readLineOf_134 : decode cX11_readLineOf 134 = .ok (.iastore, 1) := by decide +kernel
theorem dX11_readLineOf_135 : decode cX11_readLineOf 135 = .ok (.goto 88, 3) := by decide +kernel
theorem dX11_readLineOf_138 : decode cX11_readLineOf 138 = .ok (.aload_n 0, 1) := by decide +kernel
theorem dX11_readLineOf_139 : decode cX11_readLineOf 139 = .ok (.getfield 32, 3) := by decide +kernel
theorem dX11_readLineOf_142 : decode cX11_readLineOf 142 = .ok (.iconst 4, 1) := by decide +kernel
theorem dX11_readLineOf_143 : decode cX11_readLineOf 143 = .ok (.aload_n 0, 1) := by decide +kernel
theorem dX11_readLineOf_144 : decode cX11_readLineOf 144 = .ok (.iconst 0, 1) := by decide +kernel
theorem dX11_readLineOf_145 : decode cX11_readLineOf 145 = .ok (.bipush 6, 2) := by decide +kernel
theorem dX11_readLineOf_147 : decode cX11_readLineOf 147 = .ok (.invokevirtual 176, 3) := by decide +kernel
theorem dX11_readLineOf_150 : decode cX11_readLineOf 150 = .ok (.iastore, 1) := by decide +kernel
theorem dX11_readLineOf_151 : decode cX11_readLineOf 151 = .ok (.goto 72, 3) := by decide +kernel
theorem dX11_readLineOf_154 : decode cX11_readLineOf 154 = .ok (.aload_n 0, 1) := by decide +kernel
theorem dX11_readLineOf_155 : decode cX11_readLineOf 155 = .ok (.invokevirtual 189, 3) := by decide +kernel
theorem dX11_readLineOf_158 : decode cX11_readLineOf 158 = .ok (.goto 65, 3) := by decide +kernel
theorem dX11_readLineOf_161 : decode cX11_readLineOf 161 = .ok (.aload_n 0, 1) := by decide +kernel
theorem dX11_readLineOf_162 : decode cX11_readLineOf 162 = .ok (.iconst 1, 1) := by decide +kernel
theorem dX11_readLineOf_163 : decode cX11_readLineOf 163 = .ok (.invokevirtual 179, 3) := by decide +kernel
theorem dX11_readLineOf_166 : decode cX11_readLineOf 166 = .ok (.istore_n 2, 1) := by decide +kernel
theorem dX11_readLineOf_167 : decode cX11_readLineOf 167 = .ok (.aload_n 0, 1) := by decide +kernel
theorem dX11_readLineOf_168 : decode cX11_readLineOf 168 = .ok (.getfield 124, 3) := by decide +kernel
theorem dX11_readLineOf_171 : decode cX11_readLineOf 171 = .ok (.ifCond .eq 12, 3) := by decide +kernel
theorem dX11_readLineOf_174 : decode cX11_readLineOf 174 = .ok (.aload_n 0, 1) := by decide +kernel
theorem dX11_readLineOf_175 : decode cX11_readLineOf 175 = .ok (.getfield 23, 3) := by decide +kernel
theorem dX11_readLineOf_178 : decode cX11_readLineOf 178 = .ok (.iload_n 2, 1) := by decide +kernel
theorem dX11_readLineOf_179 : decode cX11_readLineOf 179 = .ok (.iaload, 1) := by decide +kernel
theorem dX11_readLineOf_180 : decode cX11_readLineOf 180 = .ok (.ifCond .ne 43, 3) := by decide +kernel
theorem dX11_readLineOf_183 : decode cX11_readLineOf 183 = .ok (.aload_n 0, 1) := by decide +kernel
theorem dX11_readLineOf_184 : decode cX11_readLineOf 184 = .ok (.getfield 23, 3) := by decide +kernel
theorem dX11_readLineOf_187 : decode cX11_readLineOf 187 = .ok (.iload_n 2, 1) := by decide +kernel
theorem dX11_readLineOf_188 : decode cX11_readLineOf 188 = .ok (.iload_n 1, 1) := by decide +kernel
theorem dX11_readLineOf_189 : decode cX11_readLineOf 189 = .ok (.bipush 6, 2) := by decide +kernel
theorem dX11_readLineOf_191 : decode cX11_readLineOf 191 = .ok (.isub, 1) := by decide +kernel
theorem dX11_readLineOf_192 : decode cX11_readLineOf 192 = .ok (.iconst 1, 1) := by decide +kernel
theorem dX11_readLineOf_193 : decode cX11_readLineOf 193 = .ok (.iadd, 1) := by decide +kernel
theorem dX11_readLineOf_194 : decode cX11_readLineOf 194 = .ok (.iastore, 1) := by decide +kernel
theorem dX11_readLineOf_195 : decode cX11_readLineOf 195 = .ok (.goto 28, 3) := by decide +kernel
theorem dX11_readLineOf_198 : decode cX11_readLineOf 198 = .ok (.aload_n 0, 1) := by decide +kernel
theorem dX11_readLineOf_199 : decode cX11_readLineOf 199 = .ok (.invokevirtual 192, 3) := by decide +kernel
theorem dX11_readLineOf_202 : decode cX11_readLineOf 202 = .ok (.goto 21, 3) := by decide +kernel
theorem dX11_readLineOf_205 : decode cX11_readLineOf 205 = .ok (.aload_n 0, 1) := by decide +kernel
theorem dX11_readLineOf_206 : decode cX11_readLineOf 206 = .ok (.iload_n 1, 1) := by decide +kernel
theorem dX11_readLineOf_207 : decode cX11_readLineOf 207 = .ok (.bipush 8, 2) := by decide +kernel
theorem dX11_readLineOf_209 : decode cX11_readLineOf 209 = .ok (.if_icmp .ne 7, 3) := by decide +kernel
theorem dX11_readLineOf_212 : decode cX11_readLineOf 212 = .ok (.iconst 1, 1) := by decide +kernel
theorem dX11_readLineOf_213 : decode cX11_readLineOf 213 = .ok (.goto 4, 3) := by decide +kernel
theorem dX11_readLineOf_216 : decode cX11_readLineOf 216 = .ok (.iconst 0, 1) := by decide +kernel
theorem dX11_readLineOf_217 : decode cX11_readLineOf 217 = .ok (.invokestatic 195, 3) := by decide +kernel
theorem dX11_readLineOf_220 : decode cX11_readLineOf 220 = .ok (.invokevirtual 198, 3) := by decide +kernel
theorem dX11_readLineOf_223 : decode cX11_readLineOf 223 = .ok (.return_, 1) := by decide +kernel
theorem dX11_readLine_0 : decode cX11_readLine 0 = .ok (.aload_n 0, 1) := by decide +kernel
theorem dX11_readLine_1 : decode cX11_readLine 1 = .ok (.getfield 151, 3) := by decide +kernel
theorem dX11_readLine_4 : decode cX11_readLine 4 = .ok (.iconst 1, 1) := by decide +kernel
theorem dX11_readLine_5 : decode cX11_readLine 5 = .ok (.if_icmp .ne 10, 3) := by decide +kernel
theorem dX11_readLine_8 : decode cX11_readLine 8 = .ok (.aload_n 0, 1) := by decide +kernel
theorem dX11_readLine_9 : decode cX11_readLine 9 = .ok (.invokevirtual 202, 3) := by decide +kernel
theorem dX11_readLine_12 : decode cX11_readLine 12 = .ok (.goto 5, 3) := by decide +kernel
theorem dX11_readLine_15 : decode cX11_readLine 15 = .ok (.bipush (-4), 2) := by decide +kernel
theorem dX11_readLine_17 : decode cX11_readLine 17 = .ok (.istore_n 1, 1) := by decide +kernel
theorem dX11_readLine_18 : decode cX11_readLine 18 = .ok (.aload_n 0, 1) := by decide +kernel
theorem dX11_readLine_19 : decode cX11_readLine 19 = .ok (.iload_n 1, 1) := by decide +kernel
theorem dX11_readLine_20 : decode cX11_readLine 20 = .ok (.bipush (-4), 2) := by decide +kernel
theorem dX11_readLine_22 : decode cX11_readLine 22 = .ok (.if_icmp .eq 7, 3) := by decide +kernel
theorem dX11_readLine_25 : decode cX11_readLine 25 = .ok (.iconst 1, 1) := by decide +kernel
theorem dX11_readLine_26 : decode cX11_readLine 26 = .ok (.goto 4, 3) := by decide +kernel
theorem dX11_readLine_29 : decode cX11_readLine 29 = .ok (.iconst 0, 1) := by decide +kernel
theorem dX11_readLine_30 : decode cX11_readLine 30 = .ok (.iconst 2, 1) := by decide +kernel
theorem dX11_readLine_31 : decode cX11_readLine 31 = .ok (.invokevirtual 165, 3) := by decide +kernel
theorem dX11_readLine_34 : decode cX11_readLine 34 = .ok (.aload_n 0, 1) := by decide +kernel
theorem dX11_readLine_35 : decode cX11_readLine 35 = .ok (.iload_n 1, 1) := by decide +kernel
theorem dX11_readLine_36 : decode cX11_readLine 36 = .ok (.iconst 5, 1) := by decide +kernel
theorem dX11_readLine_37 : decode cX11_readLine 37 = .ok (.if_icmp .ne 12, 3) := by decide +kernel
theorem dX11_readLine_40 : decode cX11_readLine 40 = .ok (.aload_n 0, 1) := by decide +kernel
theorem dX11_readLine_41 : decode cX11_readLine 41 = .ok (.getfield 71, 3) := by decide +kernel
theorem dX11_readLine_44 : decode cX11_readLine 44 = .ok (.bipush 8, 2) := by decide +kernel
theorem dX11_readLine_46 : decode cX11_readLine 46 = .ok (.if_icmp .ge 46, 3) := by decide +kernel
theorem dX11_readLine_49 : decode cX11_readLine 49 = .ok (.iload_n 1, 1) := by decide +kernel
theorem dX11_readLine_50 : decode cX11_readLine 50 = .ok (.bipush 8, 2) := by decide +kernel
theorem dX11_readLine_52 : decode cX11_readLine 52 = .ok (.if_icmp .eq 9, 3) := by decide +kernel
theorem dX11_readLine_55 : decode cX11_readLine 55 = .ok (.iload_n 1, 1) := by decide +kernel
theorem dX11_readLine_56 : decode cX11_readLine 56 = .ok (.bipush 9, 2) := by decide +kernel
theorem dX11_readLine_58 : decode cX11_readLine 58 = .ok (.if_icmp .ne 12, 3) := by decide +kernel
theorem dX11_readLine_61 : decode cX11_readLine 61 = .ok (.aload_n 0, 1) := by decide +kernel
theorem dX11_readLine_62 : decode cX11_readLine 62 = .ok (.getfield 75, 3) := by decide +kernel
theorem dX11_readLine_65 : decode cX11_readLine 65 = .ok (.bipush 8, 2) := by decide +kernel
theorem dX11_readLine_67 : decode cX11_readLine 67 = .ok (.if_icmp .ge 25, 3) := by decide +kernel
theorem dX11_readLine_70 : decode cX11_readLine 70 = .ok (.iload_n 1, 1) := by decide +kernel
theorem dX11_readLine_71 : decode cX11_readLine 71 = .ok (.bipush 10, 2) := by decide +kernel
theorem dX11_readLine_73 : decode cX11_readLine 73 = .ok (.if_icmp .ne 15, 3) := by decide +kernel
theorem dX11_readLine_76 : decode cX11_readLine 76 = .ok (.aload_n 0, 1) := by decide +kernel
theorem dX11_readLine_77 : decode cX11_readLine 77 = .ok (.getfield 23, 3) := by decide +kernel
theorem dX11_readLine_80 : decode cX11_readLine 80 = .ok (.bipush 88, 2) := by decide +kernel
theorem dX11_readLine_82 : decode cX11_readLine 82 = .ok (.iaload, 1) := by decide +kernel
theorem dX11_readLine_83 : decode cX11_readLine 83 = .ok (.bipush 12, 2) := by decide +kernel
theorem dX11_readLine_85 : decode cX11_readLine 85 = .ok (.if_icmp .ge 7, 3) := by decide +kernel
theorem dX11_readLine_88 : decode cX11_readLine 88 = .ok (.iconst 1, 1) := by decide +kernel
theorem dX11_readLine_89 : decode cX11_readLine 89 = .ok (.goto 4, 3) := by decide +kernel
theorem dX11_readLine_92 : decode cX11_readLine 92 = .ok (.iconst 0, 1) := by decide +kernel
theorem dX11_readLine_93 : decode cX11_readLine 93 = .ok (.iconst 5, 1) := by decide +kernel
theorem dX11_readLine_94 : decode cX11_readLine 94 = .ok (.invokevirtual 165, 3) := by decide +kernel
theorem dX11_readLine_97 : decode cX11_readLine 97 = .ok (.aload_n 0, 1) := by decide +kernel
theorem dX11_readLine_98 : decode cX11_readLine 98 = .ok (.getfield 124, 3) := by decide +kernel
theorem dX11_readLine_101 : decode cX11_readLine 101 = .ok (.ifCond .ne 41, 3) := by decide +kernel
theorem dX11_readLine_104 : decode cX11_readLine 104 = .ok (.iload_n 1, 1) := by decide +kernel
theorem dX11_readLine_105 : decode cX11_readLine 105 = .ok (.iconst 5, 1) := by decide +kernel
theorem dX11_readLine_106 : decode cX11_readLine 106 = .ok (.if_icmp .ge 36, 3) := by decide +kernel
theorem dX11_readLine_109 : decode cX11_readLine 109 = .ok (.aload_n 0, 1) := by decide +kernel
theorem dX11_readLine_110 : decode cX11_readLine 110 = .ok (.aload_n 0, 1) := by decide +kernel
theorem dX11_readLine_111 : decode cX11_readLine 111 = .ok (.getfield 87, 3) := by decide +kernel
theorem dX11_readLine_114 : decode cX11_readLine 114 = .ok (.iload_n 1, 1) := by decide +kernel
theorem dX11_readLine_115 : decode cX11_readLine 115 = .ok (.ishr, 1) := by decide +kernel
theorem dX11_readLine_116 : decode cX11_readLine 116 = .ok (.iconst 1, 1) := by decide +kernel
theorem dX11_readLine_117 : decode cX11_readLine 117 = .ok (.iand, 1) := by decide +kernel
theorem dX11_readLine_118 : decode cX11_readLine 118 = .ok (.ifCond .ne 7, 3) := by decide +kernel
theorem dX11_readLine_121 : decode cX11_readLine 121 = .ok (.iconst 1, 1) := by decide +kernel
theorem dX11_readLine_122 : decode cX11_readLine 122 = .ok (.goto 4, 3) := by decide +kernel
theorem dX11_readLine_125 : decode cX11_readLine 125 = .ok (.iconst 0, 1) := by decide +kernel
theorem dX11_readLine_126 : decode cX11_readLine 126 = .ok (.iconst 4, 1) := by decide +kernel
theorem dX11_readLine_127 : decode cX11_readLine 127 = .ok (.invokevirtual 165, 3) := by decide +kernel
theorem dX11_readLine_130 : decode cX11_readLine 130 = .ok (.aload_n 0, 1) := by decide +kernel
theorem dX11_readLine_131 : decode cX11_readLine 131 = .ok (.dup, 1) := by decide +kernel
theorem dX11_readLine_132 : decode cX11_readLine 132 = .ok (.getfield 87, 3) := by decide +kernel
theorem dX11_readLine_135 : decode cX11_readLine 135 = .ok (.iconst 1, 1) := by decide +kernel
theorem dX11_readLine_136 : decode cX11_readLine 136 = .ok (.iload_n 1, 1) := by decide +kernel
theorem dX11_readLine_137 : decode cX11_readLine 137 = .ok (.ishl, 1) := by decide +kernel
theorem dX11_readLine_138 : decode cX11_readLine 138 = .ok (.ior, 1) := by decide +kernel
theorem dX11_readLine_139 : decode cX11_readLine 139 = .ok (.putfield 87, 3) := by decide +kernel
theorem dX11_readLine_142 : decode cX11_readLine 142 = .ok (.aload_n 0, 1) := by decide +kernel
theorem dX11_readLine_143 : decode cX11_readLine 143 = .ok (.invokevirtual 173, 3) := by decide +kernel
theorem dX11_readLine_146 : decode cX11_readLine 146 = .ok (.aload_n 0, 1) := by decide +kernel
theorem dX11_readLine_147 : decode cX11_readLine 147 = .ok (.getfield 124, 3) := by decide +kernel
theorem dX11_readLine_150 : decode cX11_readLine 150 = .ok (.ifCond .le 4, 3) := by decide +kernel
theorem dX11_readLine_153 : decode cX11_readLine 153 = .ok (.return_, 1) := by decide +kernel
theorem dX11_readLine_154 : decode cX11_readLine 154 = .ok (.aload_n 0, 1) := by decide +kernel
theorem dX11_readLine_155 : decode cX11_readLine 155 = .ok (.iload_n 1, 1) := by decide +kernel
theorem dX11_readLine_156 : decode cX11_readLine 156 = .ok (.invokevirtual 205, 3) := by decide +kernel
theorem dX11_readLine_159 : decode cX11_readLine 159 = .ok (.aload_n 0, 1) := by decide +kernel
theorem dX11_readLine_160 : decode cX11_readLine 160 = .ok (.getfield 124, 3) := by decide +kernel
theorem dX11_readLine_163 : decode cX11_readLine 163 = .ok (.ifCond .ne 21, 3) := by decide +kernel
theorem dX11_readLine_166 : decode cX11_readLine 166 = .ok (.aload_n 0, 1) := by decide +kernel
theorem dX11_readLine_167 : decode cX11_readLine 167 = .ok (.aload_n 0, 1) := by decide +kernel
theorem dX11_readLine_168 : decode cX11_readLine 168 = .ok (.getfield 151, 3) := by decide +kernel
theorem dX11_readLine_171 : decode cX11_readLine 171 = .ok (.iconst 3, 1) := by decide +kernel
theorem dX11_readLine_172 : decode cX11_readLine 172 = .ok (.if_icmp .ne 7, 3) := by decide +kernel
theorem dX11_readLine_175 : decode cX11_readLine 175 = .ok (.iconst 1, 1) := by decide +kernel
theorem dX11_readLine_176 : decode cX11_readLine 176 = .ok (.goto 4, 3) := by decide +kernel
theorem dX11_readLine_179 : decode cX11_readLine 179 = .ok (.iconst 0, 1) := by decide +kernel
theorem dX11_readLine_180 : decode cX11_readLine 180 = .ok (.iconst 2, 1) := by decide +kernel
theorem dX11_readLine_181 : decode cX11_readLine 181 = .ok (.invokevirtual 165, 3) := by decide +kernel
theorem dX11_readLine_184 : decode cX11_readLine 184 = .ok (.aload_n 0, 1) := by decide +kernel
theorem dX11_readLine_185 : decode cX11_readLine 185 = .ok (.invokevirtual 173, 3) := by decide +kernel
theorem dX11_readLine_188 : decode cX11_readLine 188 = .ok (.return_, 1) := by decide +kernel
theorem dX11_areFree_0 : decode cX11_areFree 0 = .ok (.iconst 1, 1) := by decide +kernel
theorem dX11_areFree_1 : decode cX11_areFree 1 = .ok (.istore_n 1, 1) := by decide +kernel
theorem dX11_areFree_2 : decode cX11_areFree 2 = .ok (.iconst 0, 1) := by decide +kernel
theorem dX11_areFree_3 : decode cX11_areFree 3 = .ok (.istore_n 2, 1) := by decide +kernel
theorem dX11_areFree_4 : decode cX11_areFree 4 = .ok (.iload_n 2, 1) := by decide +kernel
theorem dX11_areFree_5 : decode cX11_areFree 5 = .ok (.aload_n 0, 1) := by decide +kernel
theorem dX11_areFree_6 : decode cX11_areFree 6 = .ok (.getfield 71, 3) := by decide +kernel
theorem dX11_areFree_9 : decode cX11_areFree 9 = .ok (.if_icmp .ge 35, 3) := by decide +kernel
theorem dX11_areFree_12 : decode cX11_areFree 12 = .ok (.iload_n 1, 1) := by decide +kernel
theorem dX11_areFree_13 : decode cX11_areFree 13 = .ok (.ifCond .eq 23, 3) := by decide +kernel
theorem dX11_areFree_16 : decode cX11_areFree 16 = .ok (.aload_n 0, 1) := by decide +kernel
theorem dX11_areFree_17 : decode cX11_areFree 17 = .ok (.getfield 23, 3) := by decide +kernel
theorem dX11_areFree_20 : decode cX11_areFree 20 = .ok (.aload_n 0, 1) := by decide +kernel
theorem dX11_areFree_21 : decode cX11_areFree 21 = .ok (.getfield 26, 3) := by decide +kernel
theorem dX11_areFree_24 : decode cX11_areFree 24 = .ok (.iconst 4, 1) := by decide +kernel
theorem dX11_areFree_25 : decode cX11_areFree 25 = .ok (.iload_n 2, 1) := by decide +kernel
theorem dX11_areFree_26 : decode cX11_areFree 26 = .ok (.imul, 1) := by decide +kernel
theorem dX11_areFree_27 : decode cX11_areFree 27 = .ok (.iaload, 1) := by decide +kernel
theorem dX11_areFree_28 : decode cX11_areFree 28 = .ok (.iaload, 1) := by decide +kernel
theorem dX11_areFree_29 : decode cX11_areFree 29 = .ok (.ifCond .ne 7, 3) := by decide +kernel
theorem dX11_areFree_32 : decode cX11_areFree 32 = .ok (.iconst 1, 1) := by decide +kernel
theorem dX11_areFree_33 : decode cX11_areFree 33 = .ok (.goto 4, 3) := by decide +kernel
theorem dX11_areFree_36 : decode cX11_areFree 36 = .ok (.iconst 0, 1) := by decide +kernel
theorem dX11_areFree_37 : decode cX11_areFree 37 = .ok (.istore_n 1, 1) := by decide +kernel
theorem dX11_areFree_38 : decode cX11_areFree 38 = .ok (.iinc 2 1, 3) := by decide +kernel
theorem dX11_areFree_41 : decode cX11_areFree 41 = .ok (.goto (-37), 3) := by decide +kernel
theorem dX11_areFree_44 : decode cX11_areFree 44 = .ok (.iload_n 1, 1) := by decide +kernel
theorem dX11_areFree_45 : decode cX11_areFree 45 = .ok (.ireturn, 1) := by decide +kernel
theorem dX11_text_0 : decode cX11_text 0 = .ok (.iconst 0, 1) := by decide +kernel
theorem dX11_text_1 : decode cX11_text 1 = .ok (.istore_n 1, 1) := by decide +kernel
theorem dX11_text_2 : decode cX11_text 2 = .ok (.aload_n 0, 1) := by decide +kernel
theorem dX11_text_3 : decode cX11_text 3 = .ok (.iconst 0, 1) := by decide +kernel
theorem dX11_text_4 : decode cX11_text 4 = .ok (.putfield 124, 3) := by decide +kernel
theorem dX11_text_7 : decode cX11_text 7 = .ok (.aload_n 0, 1) := by decide +kernel
theorem dX11_text_8 : decode cX11_text 8 = .ok (.iconst 0, 1) := by decide +kernel
theorem dX11_text_9 : decode cX11_text 9 = .ok (.putfield 133, 3) := by decide +kernel
theorem dX11_text_12 : decode cX11_text 12 = .ok (.aload_n 0, 1) := by decide +kernel
theorem dX11_text_13 : decode cX11_text 13 = .ok (.invokevirtual 65, 3) := by decide +kernel
theorem dX11_text_16 : decode cX11_text 16 = .ok (.aload_n 0, 1) := by decide +kernel
theorem dX11_text_17 : decode cX11_text 17 = .ok (.invokevirtual 173, 3) := by decide +kernel
theorem dX11_text_20 : decode cX11_text 20 = .ok (.aload_n 0, 1) := by decide +kernel
theorem dX11_text_21 : decode cX11_text 21 = .ok (.getfield 124, 3) := by decide +kernel
theorem dX11_text_24 : decode cX11_text 24 = .ok (.ifCond .ne 20, 3) := by decide +kernel
theorem dX11_text_27 : decode cX11_text 27 = .ok (.aload_n 0, 1) := by decide +kernel
theorem dX11_text_28 : decode cX11_text 28 = .ok (.getfield 151, 3) := by decide +kernel
theorem dX11_text_31 : decode cX11_text 31 = .ok (.ifCond .eq 13, 3) := by decide +kernel
theorem dX11_text_34 : decode cX11_text 34 = .ok (.aload_n 0, 1) := by decide +kernel
theorem dX11_text_35 : decode cX11_text 35 = .ok (.invokevirtual 208, 3) := by decide +kernel
theorem dX11_text_38 : decode cX11_text 38 = .ok (.iinc 1 1, 3) := by decide +kernel
theorem dX11_text_41 : decode cX11_text 41 = .ok (.goto (-21), 3) := by decide +kernel
theorem dX11_text_44 : decode cX11_text 44 = .ok (.aload_n 0, 1) := by decide +kernel
theorem dX11_text_45 : decode cX11_text 45 = .ok (.getfield 124, 3) := by decide +kernel
theorem dX11_text_48 : decode cX11_text 48 = .ok (.ifCond .ne 72, 3) := by decide +kernel
theorem dX11_text_51 : decode cX11_text 51 = .ok (.aload_n 0, 1) := by decide +kernel
theorem dX11_text_52 : decode cX11_text 52 = .ok (.aload_n 0, 1) := by decide +kernel
theorem dX11_text_53 : decode cX11_text 53 = .ok (.getfield 81, 3) := by decide +kernel
theorem dX11_text_56 : decode cX11_text 56 = .ok (.aload_n 0, 1) := by decide +kernel
theorem dX11_text_57 : decode cX11_text 57 = .ok (.getfield 32, 3) := by decide +kernel
theorem dX11_text_60 : decode cX11_text 60 = .ok (.iconst 0, 1) := by decide +kernel
theorem dX11_text_61 : decode cX11_text 61 = .ok (.iaload, 1) := by decide +kernel
theorem dX11_text_62 : decode cX11_text 62 = .ok (.if_icmp .ge 42, 3) := by decide +kernel
theorem dX11_text_65 : decode cX11_text 65 = .ok (.aload_n 0, 1) := by decide +kernel
theorem dX11_text_66 : decode cX11_text 66 = .ok (.getfield 84, 3) := by decide +kernel
theorem dX11_text_69 : decode cX11_text 69 = .ok (.aload_n 0, 1) := by decide +kernel
theorem dX11_text_70 : decode cX11_text 70 = .ok (.getfield 32, 3) := by decide +kernel
theorem dX11_text_73 : decode cX11_text 73 = .ok (.iconst 1, 1) := by decide +kernel
theorem dX11_text_74 : decode cX11_text 74 = .ok (.iaload, 1) := by decide +kernel
theorem dX11_text_75 : decode cX11_text 75 = .ok (.if_icmp .ge 29, 3) := by decide +kernel
theorem dX11_text_78 : decode cX11_text 78 = .ok (.aload_n 0, 1) := by decide +kernel
theorem dX11_text_79 : decode cX11_text 79 = .ok (.getfield 78, 3) := by decide +kernel
theorem dX11_text_82 : decode cX11_text 82 = .ok (.aload_n 0, 1) := by decide +kernel
theorem dX11_text_83 : decode cX11_text 83 = .ok (.invokevirtual 105, 3) := by decide +kernel
theorem dX11_text_86 : decode cX11_text 86 = .ok (.if_icmp .ge 18, 3) := by decide +kernel
theorem dX11_text_89 : decode cX11_text 89 = .ok (.aload_n 0, 1) := by decide +kernel
theorem dX11_text_90 : decode cX11_text 90 = .ok (.invokevirtual 105, 3) := by decide +kernel
theorem dX11_text_93 : decode cX11_text 93 = .ok (.aload_n 0, 1) := by decide +kernel
theorem dX11_text_94 : decode cX11_text 94 = .ok (.getfield 71, 3) := by decide +kernel
theorem dX11_text_97 : decode cX11_text 97 = .ok (.if_icmp .gt 7, 3) := by decide +kernel
theorem dX11_text_100 : decode cX11_text 100 = .ok (.iconst 1, 1) := by decide +kernel
theorem dX11_text_101 : decode cX11_text 101 = .ok (.goto 4, 3) := by decide +kernel
theorem dX11_text_104 : decode cX11_text 104 = .ok (.iconst 0, 1) := by decide +kernel
theorem dX11_text_105 : decode cX11_text 105 = .ok (.bipush 6, 2) := by decide +kernel
theorem dX11_text_107 : decode cX11_text 107 = .ok (.invokevirtual 165, 3) := by decide +kernel
theorem dX11_text_110 : decode cX11_text 110 = .ok (.aload_n 0, 1) := by decide +kernel
theorem dX11_text_111 : decode cX11_text 111 = .ok (.aload_n 0, 1) := by decide +kernel
theorem dX11_text_112 : decode cX11_text 112 = .ok (.invokevirtual 211, 3) := by decide +kernel
theorem dX11_text_115 : decode cX11_text 115 = .ok (.bipush 7, 2) := by decide +kernel
theorem dX11_text_117 : decode cX11_text 117 = .ok (.invokevirtual 165, 3) := by decide +kernel
theorem dX11_text_120 : decode cX11_text 120 = .ok (.aload_n 0, 1) := by decide +kernel
theorem dX11_text_121 : decode cX11_text 121 = .ok (.iconst 0, 1) := by decide +kernel
theorem dX11_text_122 : decode cX11_text 122 = .ok (.putfield 115, 3) := by decide +kernel
theorem dX11_text_125 : decode cX11_text 125 = .ok (.aload_n 0, 1) := by decide +kernel
theorem dX11_text_126 : decode cX11_text 126 = .ok (.getfield 124, 3) := by decide +kernel
theorem dX11_text_129 : decode cX11_text 129 = .ok (.ifCond .le 11, 3) := by decide +kernel
theorem dX11_text_132 : decode cX11_text 132 = .ok (.bipush (-10), 2) := by decide +kernel
theorem dX11_text_134 : decode cX11_text 134 = .ok (.aload_n 0, 1) := by decide +kernel
theorem dX11_text_135 : decode cX11_text 135 = .ok (.getfield 130, 3) := by decide +kernel
theorem dX11_text_138 : decode cX11_text 138 = .ok (.isub, 1) := by decide +kernel
theorem dX11_text_139 : decode cX11_text 139 = .ok (.ireturn, 1) := by decide +kernel
theorem dX11_text_140 : decode cX11_text 140 = .ok (.aload_n 0, 1) := by decide +kernel
theorem dX11_text_141 : decode cX11_text 141 = .ok (.invokevirtual 68, 3) := by decide +kernel
theorem dX11_text_144 : decode cX11_text 144 = .ok (.iload_n 1, 1) := by decide +kernel
theorem dX11_text_145 : decode cX11_text 145 = .ok (.ireturn, 1) := by decide +kernel
theorem dX11_fault_0 : decode cX11_fault 0 = .ok (.aload_n 0, 1) := by decide +kernel
theorem dX11_fault_1 : decode cX11_fault 1 = .ok (.getfield 124, 3) := by decide +kernel
theorem dX11_fault_4 : decode cX11_fault 4 = .ok (.ireturn, 1) := by decide +kernel
theorem dX11_rule_0 : decode cX11_rule 0 = .ok (.iload_n 1, 1) := by decide +kernel
theorem dX11_rule_1 : decode cX11_rule 1 = .ok (.tableswitch 63 0 4 #[35, 40, 45, 50, 55], 35) := by decide +kernel
theorem dX11_rule_36 : decode cX11_rule 36 = .ok (.aload_n 0, 1) := by decide +kernel
theorem dX11_rule_37 : decode cX11_rule 37 = .ok (.getfield 90, 3) := by decide +kernel
theorem dX11_rule_40 : decode cX11_rule 40 = .ok (.ireturn, 1) := by decide +kernel
theorem dX11_rule_41 : decode cX11_rule 41 = .ok (.aload_n 0, 1) := by decide +kernel
theorem dX11_rule_42 : decode cX11_rule 42 = .ok (.getfield 93, 3) := by decide +kernel
theorem dX11_rule_45 : decode cX11_rule 45 = .ok (.ireturn, 1) := by decide +kernel
theorem dX11_rule_46 : decode cX11_rule 46 = .ok (.aload_n 0, 1) := by decide +kernel
theorem dX11_rule_47 : decode cX11_rule 47 = .ok (.getfield 96, 3) := by decide +kernel
theorem dX11_rule_50 : decode cX11_rule 50 = .ok (.ireturn, 1) := by decide +kernel
theorem dX11_rule_51 : decode cX11_rule 51 = .ok (.aload_n 0, 1) := by decide +kernel
theorem dX11_rule_52 : decode cX11_rule 52 = .ok (.getfield 99, 3) := by decide +kernel
theorem dX11_rule_55 : decode cX11_rule 55 = .ok (.ireturn, 1) := by decide +kernel
theorem dX11_rule_56 : decode cX11_rule 56 = .ok (.aload_n 0, 1) := by decide +kernel
theorem dX11_rule_57 : decode cX11_rule 57 = .ok (.getfield 7, 3) := by decide +kernel
theorem dX11_rule_60 : decode cX11_rule 60 = .ok (.bipush 81, 2) := by decide +kernel
theorem dX11_rule_62 : decode cX11_rule 62 = .ok (.iaload, 1) := by decide +kernel
theorem dX11_rule_63 : decode cX11_rule 63 = .ok (.ireturn, 1) := by decide +kernel
theorem dX11_rule_64 : decode cX11_rule 64 = .ok (.iconst (-1), 1) := by decide +kernel
theorem dX11_rule_65 : decode cX11_rule 65 = .ok (.ireturn, 1) := by decide +kernel
theorem dX11_isCell_0 : decode cX11_isCell 0 = .ok (.iload_n 1, 1) := by decide +kernel
theorem dX11_isCell_1 : decode cX11_isCell 1 = .ok (.i2l, 1) := by decide +kernel
theorem dX11_isCell_2 : decode cX11_isCell 2 = .ok (.lconst 0, 1) := by decide +kernel
theorem dX11_isCell_3 : decode cX11_isCell 3 = .ok (.ldc2_w 215, 3) := by decide +kernel
theorem dX11_isCell_6 : decode cX11_isCell 6 = .ok (.invokestatic 120, 3) := by decide +kernel
theorem dX11_isCell_9 : decode cX11_isCell 9 = .ok (.ifCond .eq 29, 3) := by decide +kernel
theorem dX11_isCell_12 : decode cX11_isCell 12 = .ok (.iload_n 1, 1) := by decide +kernel
theorem dX11_isCell_13 : decode cX11_isCell 13 = .ok (.bipush 9, 2) := by decide +kernel
theorem dX11_isCell_15 : decode cX11_isCell 15 = .ok (.irem, 1) := by decide +kernel
theorem dX11_isCell_16 : decode cX11_isCell 16 = .ok (.aload_n 0, 1) := by decide +kernel
theorem dX11_isCell_17 : decode cX11_isCell 17 = .ok (.getfield 90, 3) := by decide +kernel
theorem dX11_isCell_20 : decode cX11_isCell 20 = .ok (.if_icmp .ge 18, 3) := by decide +kernel
theorem dX11_isCell_23 : decode cX11_isCell 23 = .ok (.iload_n 1, 1) := by decide +kernel
theorem dX11_isCell_24 : decode cX11_isCell 24 = .ok (.bipush 9, 2) := by decide +kernel
theorem dX11_isCell_26 : decode cX11_isCell 26 = .ok (.idiv, 1) := by decide +kernel
theorem dX11_isCell_27 : decode cX11_isCell 27 = .ok (.aload_n 0, 1) := by decide +kernel
theorem dX11_isCell_28 : decode cX11_isCell 28 = .ok (.getfield 93, 3) := by decide +kernel
theorem dX11_isCell_31 : decode cX11_isCell 31 = .ok (.if_icmp .ge 7, 3) := by decide +kernel
theorem dX11_isCell_34 : decode cX11_isCell 34 = .ok (.iconst 1, 1) := by decide +kernel
theorem dX11_isCell_35 : decode cX11_isCell 35 = .ok (.goto 4, 3) := by decide +kernel
theorem dX11_isCell_38 : decode cX11_isCell 38 = .ok (.iconst 0, 1) := by decide +kernel
theorem dX11_isCell_39 : decode cX11_isCell 39 = .ok (.ireturn, 1) := by decide +kernel
theorem dX11_isBench_0 : decode cX11_isBench 0 = .ok (.iload_n 1, 1) := by decide +kernel
theorem dX11_isBench_1 : decode cX11_isBench 1 = .ok (.i2l, 1) := by decide +kernel
theorem dX11_isBench_2 : decode cX11_isBench 2 = .ok (.lconst 0, 1) := by decide +kernel
theorem dX11_isBench_3 : decode cX11_isBench 3 = .ok (.aload_n 0, 1) := by decide +kernel
theorem dX11_isBench_4 : decode cX11_isBench 4 = .ok (.getfield 102, 3) := by decide +kernel
theorem dX11_isBench_7 : decode cX11_isBench 7 = .ok (.iconst 1, 1) := by decide +kernel
theorem dX11_isBench_8 : decode cX11_isBench 8 = .ok (.isub, 1) := by decide +kernel
theorem dX11_isBench_9 : decode cX11_isBench 9 = .ok (.i2l, 1) := by decide +kernel
theorem dX11_isBench_10 : decode cX11_isBench 10 = .ok (.invokestatic 120, 3) := by decide +kernel
theorem dX11_isBench_13 : decode cX11_isBench 13 = .ok (.ireturn, 1) := by decide +kernel
theorem dX11_isOne_0 : decode cX11_isOne 0 = .ok (.iload_n 1, 1) := by decide +kernel
theorem dX11_isOne_1 : decode cX11_isOne 1 = .ok (.i2l, 1) := by decide +kernel
theorem dX11_isOne_2 : decode cX11_isOne 2 = .ok (.lconst 0, 1) := by decide +kernel
theorem dX11_isOne_3 : decode cX11_isOne 3 = .ok (.aload_n 0, 1) := by decide +kernel
theorem dX11_isOne_4 : decode cX11_isOne 4 = .ok (.getfield 109, 3) := by decide +kernel
theorem dX11_isOne_7 : decode cX11_isOne 7 = .ok (.iconst 1, 1) := by decide +kernel
theorem dX11_isOne_8 : decode cX11_isOne 8 = .ok (.isub, 1) := by decide +kernel
theorem dX11_isOne_9 : decode cX11_isOne 9 = .ok (.i2l, 1) := by decide +kernel
theorem dX11_isOne_10 : decode cX11_isOne 10 = .ok (.invokestatic 120, 3) := by decide +kernel
theorem dX11_isOne_13 : decode cX11_isOne 13 = .ok (.ireturn, 1) := by decide +kernel
theorem dX11_isHour_0 : decode cX11_isHour 0 = .ok (.iload_n 0, 1) := by decide +kernel
theorem dX11_isHour_1 : decode cX11_isHour 1 = .ok (.i2l, 1) := by decide +kernel
theorem dX11_isHour_2 : decode cX11_isHour 2 = .ok (.lconst 0, 1) := by decide +kernel
theorem dX11_isHour_3 : decode cX11_isHour 3 = .ok (.ldc2_w 217, 3) := by decide +kernel
theorem dX11_isHour_6 : decode cX11_isHour 6 = .ok (.invokestatic 120, 3) := by decide +kernel
theorem dX11_isHour_9 : decode cX11_isHour 9 = .ok (.ireturn, 1) := by decide +kernel
theorem dX11_cell_0 : decode cX11_cell 0 = .ok (.aload_n 0, 1) := by decide +kernel
theorem dX11_cell_1 : decode cX11_cell 1 = .ok (.iload_n 1, 1) := by decide +kernel
theorem dX11_cell_2 : decode cX11_cell 2 = .ok (.invokevirtual 219, 3) := by decide +kernel
theorem dX11_cell_5 : decode cX11_cell 5 = .ok (.ifCond .eq 12, 3) := by decide +kernel
theorem dX11_cell_8 : decode cX11_cell 8 = .ok (.aload_n 0, 1) := by decide +kernel
theorem dX11_cell_9 : decode cX11_cell 9 = .ok (.getfield 7, 3) := by decide +kernel
theorem dX11_cell_12 : decode cX11_cell 12 = .ok (.iload_n 1, 1) := by decide +kernel
theorem dX11_cell_13 : decode cX11_cell 13 = .ok (.iaload, 1) := by decide +kernel
theorem dX11_cell_14 : decode cX11_cell 14 = .ok (.goto 4, 3) := by decide +kernel
theorem dX11_cell_17 : decode cX11_cell 17 = .ok (.iconst (-1), 1) := by decide +kernel
theorem dX11_cell_18 : decode cX11_cell 18 = .ok (.ireturn, 1) := by decide +kernel
theorem dX11_kindOf_0 : decode cX11_kindOf 0 = .ok (.aload_n 0, 1) := by decide +kernel
theorem dX11_kindOf_1 : decode cX11_kindOf 1 = .ok (.getfield 17, 3) := by decide +kernel
theorem dX11_kindOf_4 : decode cX11_kindOf 4 = .ok (.iconst 4, 1) := by decide +kernel
theorem dX11_kindOf_5 : decode cX11_kindOf 5 = .ok (.iload_n 1, 1) := by decide +kernel
theorem dX11_kindOf_6 : decode cX11_kindOf 6 = .ok (.imul, 1) := by decide +kernel
theorem dX11_kindOf_7 : decode cX11_kindOf 7 = .ok (.iconst 3, 1) := by decide +kernel
theorem dX11_kindOf_8 : decode cX11_kindOf 8 = .ok (.iadd, 1) := by decide +kernel
theorem dX11_kindOf_9 : decode cX11_kindOf 9 = .ok (.iaload, 1) := by decide +kernel
theorem dX11_kindOf_10 : decode cX11_kindOf 10 = .ok (.ireturn, 1) := by decide +kernel
theorem dX11_cellOf_0 : decode cX11_cellOf 0 = .ok (.aload_n 0, 1) := by decide +kernel
theorem dX11_cellOf_1 : decode cX11_cellOf 1 = .ok (.getfield 17, 3) := by decide +kernel
theorem dX11_cellOf_4 : decode cX11_cellOf 4 = .ok (.iconst 4, 1) := by decide +kernel
theorem dX11_cellOf_5 : decode cX11_cellOf 5 = .ok (.iload_n 1, 1) := by decide +kernel
theorem dX11_cellOf_6 : decode cX11_cellOf 6 = .ok (.imul, 1) := by decide +kernel
theorem dX11_cellOf_7 : decode cX11_cellOf 7 = .ok (.iaload, 1) := by decide +kernel
theorem dX11_cellOf_8 : decode cX11_cellOf 8 = .ok (.istore_n 3, 1) := by decide +kernel
theorem dX11_cellOf_9 : decode cX11_cellOf 9 = .ok (.aload_n 0, 1) := by decide +kernel
theorem dX11_cellOf_10 : decode cX11_cellOf 10 = .ok (.iload_n 1, 1) := by decide +kernel
theorem dX11_cellOf_11 : decode cX11_cellOf 11 = .ok (.invokevirtual 223, 3) := by decide +kernel
theorem dX11_cellOf_14 : decode cX11_cellOf 14 = .ok (.iconst 2, 1) := by decide +kernel
theorem dX11_cellOf_15 : decode cX11_cellOf 15 = .ok (.if_icmp .ne 24, 3) := by decide +kernel
theorem dX11_cellOf_18 : decode cX11_cellOf 18 = .ok (.iload_n 3, 1) := by decide +kernel
theorem dX11_cellOf_19 : decode cX11_cellOf 19 = .ok (.iload_n 3, 1) := by decide +kernel
theorem dX11_cellOf_20 : decode cX11_cellOf 20 = .ok (.bipush 9, 2) := by decide +kernel
theorem dX11_cellOf_22 : decode cX11_cellOf 22 = .ok (.irem, 1) := by decide +kernel
theorem dX11_cellOf_23 : decode cX11_cellOf 23 = .ok (.isub, 1) := by decide +kernel
theorem dX11_cellOf_24 : decode cX11_cellOf 24 = .ok (.iload_n 3, 1) := by decide +kernel
theorem dX11_cellOf_25 : decode cX11_cellOf 25 = .ok (.bipush 9, 2) := by decide +kernel
theorem dX11_cellOf_27 : decode cX11_cellOf 27 = .ok (.irem, 1) := by decide +kernel
theorem dX11_cellOf_28 : decode cX11_cellOf 28 = .ok (.iload_n 2, 1) := by decide +kernel
theorem dX11_cellOf_29 : decode cX11_cellOf 29 = .ok (.iadd, 1) := by decide +kernel
theorem dX11_cellOf_30 : decode cX11_cellOf 30 = .ok (.aload_n 0, 1) := by decide +kernel
theorem dX11_cellOf_31 : decode cX11_cellOf 31 = .ok (.getfield 90, 3) := by decide +kernel
theorem dX11_cellOf_34 : decode cX11_cellOf 34 = .ok (.irem, 1) := by decide +kernel
theorem dX11_cellOf_35 : decode cX11_cellOf 35 = .ok (.iadd, 1) := by decide +kernel
theorem dX11_cellOf_36 : decode cX11_cellOf 36 = .ok (.goto 4, 3) := by decide +kernel
theorem dX11_cellOf_39 : decode cX11_cellOf 39 = .ok (.iload_n 3, 1) := by decide +kernel
theorem dX11_cellOf_40 : decode cX11_cellOf 40 = .ok (.ireturn, 1) := by decide +kernel
theorem dX11_facingOf_0 : decode cX11_facingOf 0 = .ok (.aload_n 0, 1) := by decide +kernel
theorem dX11_facingOf_1 : decode cX11_facingOf 1 = .ok (.iload_n 1, 1) := by decide +kernel
theorem dX11_facingOf_2 : decode cX11_facingOf 2 = .ok (.invokevirtual 223, 3) := by decide +kernel
theorem dX11_facingOf_5 : decode cX11_facingOf 5 = .ok (.i2l, 1) := by decide +kernel
theorem dX11_facingOf_6 : decode cX11_facingOf 6 = .ok (.lconst 1, 1) := by decide +kernel
theorem dX11_facingOf_7 : decode cX11_facingOf 7 = .ok (.ldc2_w 226, 3) := by decide +kernel
theorem dX11_facingOf_10 : decode cX11_facingOf 10 = .ok (.invokestatic 120, 3) := by decide +kernel
theorem dX11_facingOf_13 : decode cX11_facingOf 13 = .ok (.ifCond .eq 21, 3) := by decide +kernel
theorem dX11_facingOf_16 : decode cX11_facingOf 16 = .ok (.aload_n 0, 1) := by decide +kernel
theorem dX11_facingOf_17 : decode cX11_facingOf 17 = .ok (.getfield 17, 3) := by decide +kernel
theorem dX11_facingOf_20 : decode cX11_facingOf 20 = .ok (.iconst 4, 1) := by decide +kernel
theorem dX11_facingOf_21 : decode cX11_facingOf 21 = .ok (.iload_n 1, 1) := by decide +kernel
theorem dX11_facingOf_22 : decode cX11_facingOf 22 = .ok (.imul, 1) := by decide +kernel
theorem dX11_facingOf_23 : decode cX11_facingOf 23 = .ok (.iconst 1, 1) := by decide +kernel
theorem dX11_facingOf_24 : decode cX11_facingOf 24 = .ok (.iadd, 1) := by decide +kernel
theorem dX11_facingOf_25 : decode cX11_facingOf 25 = .ok (.iaload, 1) := by decide +kernel
theorem dX11_facingOf_26 : decode cX11_facingOf 26 = .ok (.iload_n 2, 1) := by decide +kernel
theorem dX11_facingOf_27 : decode cX11_facingOf 27 = .ok (.iadd, 1) := by decide +kernel
theorem dX11_facingOf_28 : decode cX11_facingOf 28 = .ok (.bipush 8, 2) := by decide +kernel
theorem dX11_facingOf_30 : decode cX11_facingOf 30 = .ok (.irem, 1) := by decide +kernel
theorem dX11_facingOf_31 : decode cX11_facingOf 31 = .ok (.goto 13, 3) := by decide +kernel
theorem dX11_facingOf_34 : decode cX11_facingOf 34 = .ok (.aload_n 0, 1) := by decide +kernel
theorem dX11_facingOf_35 : decode cX11_facingOf 35 = .ok (.getfield 17, 3) := by decide +kernel
theorem dX11_facingOf_38 : decode cX11_facingOf 38 = .ok (.iconst 4, 1) := by decide +kernel
theorem dX11_facingOf_39 : decode cX11_facingOf 39 = .ok (.iload_n 1, 1) := by decide +kernel
theorem dX11_facingOf_40 : decode cX11_facingOf 40 = .ok (.imul, 1) := by decide +kernel
theorem dX11_facingOf_41 : decode cX11_facingOf 41 = .ok (.iconst 1, 1) := by decide +kernel
theorem dX11_facingOf_42 : decode cX11_facingOf 42 = .ok (.iadd, 1) := by decide +kernel
theorem dX11_facingOf_43 : decode cX11_facingOf 43 = .ok (.iaload, 1) := by decide +kernel
theorem dX11_facingOf_44 : decode cX11_facingOf 44 = .ok (.ireturn, 1) := by decide +kernel
theorem dX11_earOf_0 : decode cX11_earOf 0 = .ok (.aload_n 0, 1) := by decide +kernel
theorem dX11_earOf_1 : decode cX11_earOf 1 = .ok (.getfield 17, 3) := by decide +kernel
theorem dX11_earOf_4 : decode cX11_earOf 4 = .ok (.iconst 4, 1) := by decide +kernel
theorem dX11_earOf_5 : decode cX11_earOf 5 = .ok (.iload_n 1, 1) := by decide +kernel
theorem dX11_earOf_6 : decode cX11_earOf 6 = .ok (.imul, 1) := by decide +kernel
theorem dX11_earOf_7 : decode cX11_earOf 7 = .ok (.iconst 2, 1) := by decide +kernel
theorem dX11_earOf_8 : decode cX11_earOf 8 = .ok (.iadd, 1) := by decide +kernel
theorem dX11_earOf_9 : decode cX11_earOf 9 = .ok (.iaload, 1) := by decide +kernel
theorem dX11_earOf_10 : decode cX11_earOf 10 = .ok (.iconst 2, 1) := by decide +kernel
theorem dX11_earOf_11 : decode cX11_earOf 11 = .ok (.idiv, 1) := by decide +kernel
theorem dX11_earOf_12 : decode cX11_earOf 12 = .ok (.istore_n 2, 1) := by decide +kernel
theorem dX11_earOf_13 : decode cX11_earOf 13 = .ok (.aload_n 0, 1) := by decide +kernel
theorem dX11_earOf_14 : decode cX11_earOf 14 = .ok (.iload_n 1, 1) := by decide +kernel
theorem dX11_earOf_15 : decode cX11_earOf 15 = .ok (.invokevirtual 223, 3) := by decide +kernel
theorem dX11_earOf_18 : decode cX11_earOf 18 = .ok (.iconst 4, 1) := by decide +kernel
theorem dX11_earOf_19 : decode cX11_earOf 19 = .ok (.if_icmp .eq 16, 3) := by decide +kernel
theorem dX11_earOf_22 : decode cX11_earOf 22 = .ok (.aload_n 0, 1) := by decide +kernel
theorem dX11_earOf_23 : decode cX11_earOf 23 = .ok (.getfield 17, 3) := by decide +kernel
theorem dX11_earOf_26 : decode cX11_earOf 26 = .ok (.iconst 4, 1) := by decide +kernel
theorem dX11_earOf_27 : decode cX11_earOf 27 = .ok (.iload_n 1, 1) := by decide +kernel
theorem dX11_earOf_28 : decode cX11_earOf 28 = .ok (.imul, 1) := by decide +kernel
theorem dX11_earOf_29 : decode cX11_earOf 29 = .ok (.iconst 2, 1) := by decide +kernel
theorem dX11_earOf_30 : decode cX11_earOf 30 = .ok (.iadd, 1) := by decide +kernel
theorem dX11_earOf_31 : decode cX11_earOf 31 = .ok (.iaload, 1) := by decide +kernel
theorem dX11_earOf_32 : decode cX11_earOf 32 = .ok (.goto 13, 3) := by decide +kernel
theorem dX11_earOf_35 : decode cX11_earOf 35 = .ok (.iload_n 2, 1) := by decide +kernel
theorem dX11_earOf_36 : decode cX11_earOf 36 = .ok (.iconst 1, 1) := by decide +kernel
theorem dX11_earOf_37 : decode cX11_earOf 37 = .ok (.if_icmp .le 7, 3) := by decide +kernel
theorem dX11_earOf_40 : decode cX11_earOf 40 = .ok (.iload_n 2, 1) := by decide +kernel
theorem dX11_earOf_41 : decode cX11_earOf 41 = .ok (.goto 4, 3) := by decide +kernel
theorem dX11_earOf_44 : decode cX11_earOf 44 = .ok (.iconst 1, 1) := by decide +kernel
theorem dX11_earOf_45 : decode cX11_earOf 45 = .ok (.ireturn, 1) := by decide +kernel
theorem dX11_whoOn_0 : decode cX11_whoOn 0 = .ok (.bipush (-4), 2) := by decide +kernel
theorem dX11_whoOn_2 : decode cX11_whoOn 2 = .ok (.istore_n 2, 1) := by decide +kernel
theorem dX11_whoOn_3 : decode cX11_whoOn 3 = .ok (.iconst 0, 1) := by decide +kernel
theorem dX11_whoOn_4 : decode cX11_whoOn 4 = .ok (.istore_n 3, 1) := by decide +kernel
theorem dX11_whoOn_5 : decode cX11_whoOn 5 = .ok (.iload_n 3, 1) := by decide +kernel
theorem dX11_whoOn_6 : decode cX11_whoOn 6 = .ok (.aload_n 0, 1) := by decide +kernel
theorem dX11_whoOn_7 : decode cX11_whoOn 7 = .ok (.getfield 109, 3) := by decide +kernel
theorem dX11_whoOn_10 : decode cX11_whoOn 10 = .ok (.if_icmp .ge 28, 3) := by decide +kernel
theorem dX11_whoOn_13 : decode cX11_whoOn 13 = .ok (.aload_n 0, 1) := by decide +kernel
theorem dX11_whoOn_14 : decode cX11_whoOn 14 = .ok (.getfield 7, 3) := by decide +kernel
theorem dX11_whoOn_17 : decode cX11_whoOn 17 = .ok (.bipush 82, 2) := by decide +kernel
theorem dX11_whoOn_19 : decode cX11_whoOn 19 = .ok (.iload_n 3, 1) := by decide +kernel
theorem dX11_whoOn_20 : decode cX11_whoOn 20 = .ok (.iadd, 1) := by decide +kernel
theorem dX11_whoOn_21 : decode cX11_whoOn 21 = .ok (.iaload, 1) := by decide +kernel
theorem dX11_whoOn_22 : decode cX11_whoOn 22 = .ok (.iload_n 1, 1) := by decide +kernel
theorem dX11_whoOn_23 : decode cX11_whoOn 23 = .ok (.if_icmp .ne 7, 3) := by decide +kernel
theorem dX11_whoOn_26 : decode cX11_whoOn 26 = .ok (.iload_n 3, 1) := by decide +kernel
theorem dX11_whoOn_27 : decode cX11_whoOn 27 = .ok (.goto 4, 3) := by decide +kernel
theorem dX11_whoOn_30 : decode cX11_whoOn 30 = .ok (.iload_n 2, 1) := by decide +kernel
theorem dX11_whoOn_31 : decode cX11_whoOn 31 = .ok (.istore_n 2, 1) := by decide +kernel
theorem dX11_whoOn_32 : decode cX11_whoOn 32 = .ok (.iinc 3 1, 3) := by decide +kernel
theorem dX11_whoOn_35 : decode cX11_whoOn 35 = .ok (.goto (-30), 3) := by decide +kernel
theorem dX11_whoOn_38 : decode cX11_whoOn 38 = .ok (.iload_n 2, 1) := by decide +kernel
theorem dX11_whoOn_39 : decode cX11_whoOn 39 = .ok (.ireturn, 1) := by decide +kernel
theorem dX11_bench_0 : decode cX11_bench 0 = .ok (.aload_n 0, 1) := by decide +kernel
theorem dX11_bench_1 : decode cX11_bench 1 = .ok (.iload_n 1, 1) := by decide +kernel
theorem dX11_bench_2 : decode cX11_bench 2 = .ok (.invokevirtual 228, 3) := by decide +kernel
theorem dX11_bench_5 : decode cX11_bench 5 = .ok (.ifCond .eq 10, 3) := by decide +kernel
theorem dX11_bench_8 : decode cX11_bench 8 = .ok (.iload_n 2, 1) := by decide +kernel
theorem dX11_bench_9 : decode cX11_bench 9 = .ok (.invokestatic 231, 3) := by decide +kernel
theorem dX11_bench_12 : decode cX11_bench 12 = .ok (.ifCond .ne 5, 3) := by decide +kernel
theorem dX11_bench_15 : decode cX11_bench 15 = .ok (.iconst (-1), 1) := by decide +kernel
theorem dX11_bench_16 : decode cX11_bench 16 = .ok (.ireturn, 1) := by decide +kernel
theorem dX11_bench_17 : decode cX11_bench 17 = .ok (.iload_n 3, 1) := by decide +kernel
theorem dX11_bench_18 : decode cX11_bench 18 = .ok (.tableswitch 66 0 4 #[34, 41, 48, 54, 60], 34) := by decide +kernel
theorem dX11_bench_52 : decode cX11_bench 52 = .ok (.aload_n 0, 1) := by decide +kernel
theorem dX11_bench_53 : decode cX11_bench 53 = .ok (.iload_n 1, 1) := by decide +kernel
theorem dX11_bench_54 : decode cX11_bench 54 = .ok (.iload_n 2, 1) := by decide +kernel
theorem dX11_bench_55 : decode cX11_bench 55 = .ok (.invokevirtual 234, 3) := by decide +kernel
theorem dX11_bench_58 : decode cX11_bench 58 = .ok (.ireturn, 1) := by decide +kernel
theorem dX11_bench_59 : decode cX11_bench 59 = .ok (.aload_n 0, 1) := by decide +kernel
theorem dX11_bench_60 : decode cX11_bench 60 = .ok (.iload_n 1, 1) := by decide +kernel
theorem dX11_bench_61 : decode cX11_bench 61 = .ok (.iload_n 2, 1) := by decide +kernel
theorem dX11_bench_62 : decode cX11_bench 62 = .ok (.invokevirtual 237, 3) := by decide +kernel
theorem dX11_bench_65 : decode cX11_bench 65 = .ok (.ireturn, 1) := by decide +kernel
theorem dX11_bench_66 : decode cX11_bench 66 = .ok (.aload_n 0, 1) := by decide +kernel
theorem dX11_bench_67 : decode cX11_bench 67 = .ok (.iload_n 1, 1) := by decide +kernel
theorem dX11_bench_68 : decode cX11_bench 68 = .ok (.invokevirtual 240, 3) := by decide +kernel
theorem dX11_bench_71 : decode cX11_bench 71 = .ok (.ireturn, 1) := by decide +kernel
theorem dX11_bench_72 : decode cX11_bench 72 = .ok (.aload_n 0, 1) := by decide +kernel
theorem dX11_bench_73 : decode cX11_bench 73 = .ok (.iload_n 1, 1) := by decide +kernel
theorem dX11_bench_74 : decode cX11_bench 74 = .ok (.invokevirtual 223, 3) := by decide +kernel
theorem dX11_bench_77 : decode cX11_bench 77 = .ok (.ireturn, 1) := by decide +kernel
theorem dX11_bench_78 : decode cX11_bench 78 = .ok (.aload_n 0, 1) := by decide +kernel
theorem dX11_bench_79 : decode cX11_bench 79 = .ok (.iload_n 1, 1) := by decide +kernel
theorem dX11_bench_80 : decode cX11_bench 80 = .ok (.invokevirtual 243, 3) := by decide +kernel
theorem dX11_bench_83 : decode cX11_bench 83 = .ok (.ireturn, 1) := by decide +kernel
theorem dX11_bench_84 : decode cX11_bench 84 = .ok (.iconst (-1), 1) := by decide +kernel
theorem dX11_bench_85 : decode cX11_bench 85 = .ok (.ireturn, 1) := by decide +kernel
theorem dX11_want_0 : decode cX11_want 0 = .ok (.iload_n 1, 1) := by decide +kernel
theorem dX11_want_1 : decode cX11_want 1 = .ok (.i2l, 1) := by decide +kernel
theorem dX11_want_2 : decode cX11_want 2 = .ok (.lconst 0, 1) := by decide +kernel
theorem dX11_want_3 : decode cX11_want 3 = .ok (.aload_n 0, 1) := by decide +kernel
theorem dX11_want_4 : decode cX11_want 4 = .ok (.getfield 112, 3) := by decide +kernel
theorem dX11_want_7 : decode cX11_want 7 = .ok (.iconst 1, 1) := by decide +kernel
theorem dX11_want_8 : decode cX11_want 8 = .ok (.isub, 1) := by decide +kernel
theorem dX11_want_9 : decode cX11_want 9 = .ok (.i2l, 1) := by decide +kernel
theorem dX11_want_10 : decode cX11_want 10 = .ok (.invokestatic 120, 3) := by decide +kernel
theorem dX11_want_13 : decode cX11_want 13 = .ok (.ifCond .eq 28, 3) := by decide +kernel
theorem dX11_want_16 : decode cX11_want 16 = .ok (.iload_n 2, 1) := by decide +kernel
theorem dX11_want_17 : decode cX11_want 17 = .ok (.i2l, 1) := by decide +kernel
theorem dX11_want_18 : decode cX11_want 18 = .ok (.lconst 0, 1) := by decide +kernel
theorem dX11_want_19 : decode cX11_want 19 = .ok (.ldc2_w 226, 3) := by decide +kernel
theorem dX11_want_22 : decode cX11_want 22 = .ok (.invokestatic 120, 3) := by decide +kernel
theorem dX11_want_25 : decode cX11_want 25 = .ok (.ifCond .eq 16, 3) := by decide +kernel
theorem dX11_want_28 : decode cX11_want 28 = .ok (.aload_n 0, 1) := by decide +kernel
theorem dX11_want_29 : decode cX11_want 29 = .ok (.getfield 20, 3) := by decide +kernel
theorem dX11_want_32 : decode cX11_want 32 = .ok (.iconst 3, 1) := by decide +kernel
theorem dX11_want_33 : decode cX11_want 33 = .ok (.iload_n 1, 1) := by decide +kernel
theorem dX11_want_34 : decode cX11_want 34 = .ok (.imul, 1) := by decide +kernel
theorem dX11_want_35 : decode cX11_want 35 = .ok (.iload_n 2, 1) := by decide +kernel
theorem dX11_want_36 : decode cX11_want 36 = .ok (.iadd, 1) := by decide +kernel
theorem dX11_want_37 : decode cX11_want 37 = .ok (.iaload, 1) := by decide +kernel
theorem dX11_want_38 : decode cX11_want 38 = .ok (.goto 4, 3) := by decide +kernel
theorem dX11_want_41 : decode cX11_want 41 = .ok (.iconst (-1), 1) := by decide +kernel
theorem dX11_want_42 : decode cX11_want 42 = .ok (.ireturn, 1) := by decide +kernel
theorem dX11_hang_0 : decode cX11_hang 0 = .ok (.aload_n 0, 1) := by decide +kernel
theorem dX11_hang_1 : decode cX11_hang 1 = .ok (.iload_n 1, 1) := by decide +kernel
theorem dX11_hang_2 : decode cX11_hang 2 = .ok (.invokevirtual 219, 3) := by decide +kernel
theorem dX11_hang_5 : decode cX11_hang 5 = .ok (.ifCond .eq 15, 3) := by decide +kernel
theorem dX11_hang_8 : decode cX11_hang 8 = .ok (.iload_n 2, 1) := by decide +kernel
theorem dX11_hang_9 : decode cX11_hang 9 = .ok (.i2l, 1) := by decide +kernel
theorem dX11_hang_10 : decode cX11_hang 10 = .ok (.lconst 0, 1) := by decide +kernel
theorem dX11_hang_11 : decode cX11_hang 11 = .ok (.ldc2_w 226, 3) := by decide +kernel
theorem dX11_hang_14 : decode cX11_hang 14 = .ok (.invokestatic 120, 3) := by decide +kernel
theorem dX11_hang_17 : decode cX11_hang 17 = .ok (.ifCond .ne 5, 3) := by decide +kernel
theorem dX11_hang_20 : decode cX11_hang 20 = .ok (.iconst (-1), 1) := by decide +kernel
theorem dX11_hang_21 : decode cX11_hang 21 = .ok (.ireturn, 1) := by decide +kernel
theorem dX11_hang_22 : decode cX11_hang 22 = .ok (.iconst 0, 1) := by decide +kernel
theorem dX11_hang_23 : decode cX11_hang 23 = .ok (.istore_n 3, 1) := by decide +kernel
theorem dX11_hang_24 : decode cX11_hang 24 = .ok (.iload_n 3, 1) := by decide +kernel
theorem dX11_hang_25 : decode cX11_hang 25 = .ok (.aload_n 0, 1) := by decide +kernel
theorem dX11_hang_26 : decode cX11_hang 26 = .ok (.getfield 102, 3) := by decide +kernel
theorem dX11_hang_29 : decode cX11_hang 29 = .ok (.if_icmp .ge 28, 3) := by decide +kernel
theorem dX11_hang_32 : decode cX11_hang 32 = .ok (.aload_n 0, 1) := by decide +kernel
theorem dX11_hang_33 : decode cX11_hang 33 = .ok (.getfield 17, 3) := by decide +kernel
theorem dX11_hang_36 : decode cX11_hang 36 = .ok (.iconst 4, 1) := by decide +kernel
theorem dX11_hang_37 : decode cX11_hang 37 = .ok (.iload_n 3, 1) := by decide +kernel
theorem dX11_hang_38 : decode cX11_hang 38 = .ok (.imul, 1) := by decide +kernel
theorem dX11_hang_39 : decode cX11_hang 39 = .ok (.iaload, 1) := by decide +kernel
theorem dX11_hang_40 : decode cX11_hang 40 = .ok (.iload_n 1, 1) := by decide +kernel
theorem dX11_hang_41 : decode cX11_hang 41 = .ok (.if_icmp .ne 10, 3) := by decide +kernel
theorem dX11_hang_44 : decode cX11_hang 44 = .ok (.iload_n 2, 1) := by decide +kernel
theorem dX11_hang_45 : decode cX11_hang 45 = .ok (.ifCond .le 6, 3) := by decide +kernel
theorem dX11_hang_48 : decode cX11_hang 48 = .ok (.bipush (-2), 2) := by decide +kernel
theorem dX11_hang_50 : decode cX11_hang 50 = .ok (.ireturn, 1) := by decide +kernel
theorem dX11_hang_51 : decode cX11_hang 51 = .ok (.iinc 3 1, 3) := by decide +kernel
theorem dX11_hang_54 : decode cX11_hang 54 = .ok (.goto (-30), 3) := by decide +kernel
theorem dX11_hang_57 : decode cX11_hang 57 = .ok (.aload_n 0, 1) := by decide +kernel
theorem dX11_hang_58 : decode cX11_hang 58 = .ok (.getfield 7, 3) := by decide +kernel
theorem dX11_hang_61 : decode cX11_hang 61 = .ok (.iload_n 1, 1) := by decide +kernel
theorem dX11_hang_62 : decode cX11_hang 62 = .ok (.iaload, 1) := by decide +kernel
theorem dX11_hang_63 : decode cX11_hang 63 = .ok (.istore_n 3, 1) := by decide +kernel
theorem dX11_hang_64 : decode cX11_hang 64 = .ok (.aload_n 0, 1) := by decide +kernel
theorem dX11_hang_65 : decode cX11_hang 65 = .ok (.getfield 7, 3) := by decide +kernel
theorem dX11_hang_68 : decode cX11_hang 68 = .ok (.iload_n 1, 1) := by decide +kernel
theorem dX11_hang_69 : decode cX11_hang 69 = .ok (.iload_n 2, 1) := by decide +kernel
theorem dX11_hang_70 : decode cX11_hang 70 = .ok (.iastore, 1) := by decide +kernel
theorem dX11_hang_71 : decode cX11_hang 71 = .ok (.iload_n 3, 1) := by decide +kernel
theorem dX11_hang_72 : decode cX11_hang 72 = .ok (.ireturn, 1) := by decide +kernel
theorem dX11_warm_0 : decode cX11_warm 0 = .ok (.iload_n 1, 1) := by decide +kernel
theorem dX11_warm_1 : decode cX11_warm 1 = .ok (.i2l, 1) := by decide +kernel
theorem dX11_warm_2 : decode cX11_warm 2 = .ok (.lconst 0, 1) := by decide +kernel
theorem dX11_warm_3 : decode cX11_warm 3 = .ok (.ldc2_w 246, 3) := by decide +kernel
theorem dX11_warm_6 : decode cX11_warm 6 = .ok (.invokestatic 120, 3) := by decide +kernel
theorem dX11_warm_9 : decode cX11_warm 9 = .ok (.ifCond .ne 5, 3) := by decide +kernel
theorem dX11_warm_12 : decode cX11_warm 12 = .ok (.iconst (-1), 1) := by decide +kernel
theorem dX11_warm_13 : decode cX11_warm 13 = .ok (.ireturn, 1) := by decide +kernel
theorem dX11_warm_14 : decode cX11_warm 14 = .ok (.aload_n 0, 1) := by decide +kernel
theorem dX11_warm_15 : decode cX11_warm 15 = .ok (.getfield 7, 3) := by decide +kernel
theorem dX11_warm_18 : decode cX11_warm 18 = .ok (.bipush 81, 2) := by decide +kernel
theorem dX11_warm_20 : decode cX11_warm 20 = .ok (.iaload, 1) := by decide +kernel
theorem dX11_warm_21 : decode cX11_warm 21 = .ok (.istore_n 2, 1) := by decide +kernel
theorem dX11_warm_22 : decode cX11_warm 22 = .ok (.aload_n 0, 1) := by decide +kernel
theorem dX11_warm_23 : decode cX11_warm 23 = .ok (.getfield 7, 3) := by decide +kernel
theorem dX11_warm_26 : decode cX11_warm 26 = .ok (.bipush 81, 2) := by decide +kernel
theorem dX11_warm_28 : decode cX11_warm 28 = .ok (.iload_n 1, 1) := by decide +kernel
theorem dX11_warm_29 : decode cX11_warm 29 = .ok (.iastore, 1) := by decide +kernel
theorem dX11_warm_30 : decode cX11_warm 30 = .ok (.iload_n 2, 1) := by decide +kernel
theorem dX11_warm_31 : decode cX11_warm 31 = .ok (.ireturn, 1) := by decide +kernel
theorem dX11_sit_0 : decode cX11_sit 0 = .ok (.aload_n 0, 1) := by decide +kernel
theorem dX11_sit_1 : decode cX11_sit 1 = .ok (.iload_n 1, 1) := by decide +kernel
theorem dX11_sit_2 : decode cX11_sit 2 = .ok (.invokevirtual 248, 3) := by decide +kernel
theorem dX11_sit_5 : decode cX11_sit 5 = .ok (.ifCond .eq 11, 3) := by decide +kernel
theorem dX11_sit_8 : decode cX11_sit 8 = .ok (.aload_n 0, 1) := by decide +kernel
theorem dX11_sit_9 : decode cX11_sit 9 = .ok (.iload_n 2, 1) := by decide +kernel
theorem dX11_sit_10 : decode cX11_sit 10 = .ok (.invokevirtual 228, 3) := by decide +kernel
theorem dX11_sit_13 : decode cX11_sit 13 = .ok (.ifCond .ne 5, 3) := by decide +kernel
theorem dX11_sit_16 : decode cX11_sit 16 = .ok (.iconst (-1), 1) := by decide +kernel
theorem dX11_sit_17 : decode cX11_sit 17 = .ok (.ireturn, 1) := by decide +kernel
theorem dX11_sit_18 : decode cX11_sit 18 = .ok (.aload_n 0, 1) := by decide +kernel
theorem dX11_sit_19 : decode cX11_sit 19 = .ok (.getfield 7, 3) := by decide +kernel
theorem dX11_sit_22 : decode cX11_sit 22 = .ok (.bipush 82, 2) := by decide +kernel
theorem dX11_sit_24 : decode cX11_sit 24 = .ok (.iload_n 1, 1) := by decide +kernel
theorem dX11_sit_25 : decode cX11_sit 25 = .ok (.iadd, 1) := by decide +kernel
theorem dX11_sit_26 : decode cX11_sit 26 = .ok (.iaload, 1) := by decide +kernel
theorem dX11_sit_27 : decode cX11_sit 27 = .ok (.istore_n 3, 1) := by decide +kernel
theorem dX11_sit_28 : decode cX11_sit 28 = .ok (.aload_n 0, 1) := by decide +kernel
theorem dX11_sit_29 : decode cX11_sit 29 = .ok (.iload_n 2, 1) := by decide +kernel
theorem dX11_sit_30 : decode cX11_sit 30 = .ok (.invokevirtual 243, 3) := by decide +kernel
theorem dX11_sit_33 : decode cX11_sit 33 = .ok (.istore 4, 2) := by decide +kernel
theorem dX11_sit_35 : decode cX11_sit 35 = .ok (.iload 4, 2) := by decide +kernel
theorem dX11_sit_37 : decode cX11_sit 37 = .ok (.bipush (-4), 2) := by decide +kernel
theorem dX11_sit_39 : decode cX11_sit 39 = .ok (.if_icmp .eq 14, 3) := by decide +kernel
theorem dX11_sit_42 : decode cX11_sit 42 = .ok (.aload_n 0, 1) := by decide +kernel
theorem dX11_sit_43 : decode cX11_sit 43 = .ok (.getfield 7, 3) := by decide +kernel
theorem dX11_sit_46 : decode cX11_sit 46 = .ok (.bipush 82, 2) := by decide +kernel
theorem dX11_sit_48 : decode cX11_sit 48 = .ok (.iload 4, 2) := by decide +kernel
theorem dX11_sit_50 : decode cX11_sit 50 = .ok (.iadd, 1) := by decide +kernel
theorem dX11_sit_51 : decode cX11_sit 51 = .ok (.iload_n 3, 1) := by decide +kernel
theorem dX11_sit_52 : decode cX11_sit 52 = .ok (.iastore, 1) := by decide +kernel
theorem dX11_sit_53 : decode cX11_sit 53 = .ok (.aload_n 0, 1) := by decide +kernel
theorem dX11_sit_54 : decode cX11_sit 54 = .ok (.getfield 7, 3) := by decide +kernel
theorem dX11_sit_57 : decode cX11_sit 57 = .ok (.bipush 82, 2) := by decide +kernel
theorem dX11_sit_59 : decode cX11_sit 59 = .ok (.iload_n 1, 1) := by decide +kernel
theorem dX11_sit_60 : decode cX11_sit 60 = .ok (.iadd, 1) := by decide +kernel
theorem dX11_sit_61 : decode cX11_sit 61 = .ok (.iload_n 2, 1) := by decide +kernel
theorem dX11_sit_62 : decode cX11_sit 62 = .ok (.iastore, 1) := by decide +kernel
theorem dX11_sit_63 : decode cX11_sit 63 = .ok (.iload_n 3, 1) := by decide +kernel
theorem dX11_sit_64 : decode cX11_sit 64 = .ok (.ireturn, 1) := by decide +kernel
theorem dX11_rightOf_0 : decode cX11_rightOf 0 = .ok (.iload_n 0, 1) := by decide +kernel
theorem dX11_rightOf_1 : decode cX11_rightOf 1 = .ok (.i2l, 1) := by decide +kernel
theorem dX11_rightOf_2 : decode cX11_rightOf 2 = .ok (.lconst 1, 1) := by decide +kernel
theorem dX11_rightOf_3 : decode cX11_rightOf 3 = .ok (.ldc2_w 251, 3) := by decide +kernel
theorem dX11_rightOf_6 : decode cX11_rightOf 6 = .ok (.invokestatic 120, 3) := by decide +kernel
theorem dX11_rightOf_9 : decode cX11_rightOf 9 = .ok (.ifCond .eq 7, 3) := by decide +kernel
theorem dX11_rightOf_12 : decode cX11_rightOf 12 = .ok (.iconst 1, 1) := by decide +kernel
theorem dX11_rightOf_13 : decode cX11_rightOf 13 = .ok (.goto 22, 3) := by decide +kernel
theorem dX11_rightOf_16 : decode cX11_rightOf 16 = .ok (.iload_n 0, 1) := by decide +kernel
theorem dX11_rightOf_17 : decode cX11_rightOf 17 = .ok (.i2l, 1) := by decide +kernel
theorem dX11_rightOf_18 : decode cX11_rightOf 18 = .ok (.ldc2_w 253, 3) := by decide +kernel
theorem dX11_rightOf_21 : decode cX11_rightOf 21 = .ok (.ldc2_w 255, 3) := by decide +kernel
theorem dX11_rightOf_24 : decode cX11_rightOf 24 = .ok (.invokestatic 120, 3) := by decide +kernel
theorem dX11_rightOf_27 : decode cX11_rightOf 27 = .ok (.ifCond .eq 7, 3) := by decide +kernel
theorem dX11_rightOf_30 : decode cX11_rightOf 30 = .ok (.iconst (-1), 1) := by decide +kernel
theorem dX11_rightOf_31 : decode cX11_rightOf 31 = .ok (.goto 4, 3) := by decide +kernel
theorem dX11_rightOf_34 : decode cX11_rightOf 34 = .ok (.iconst 0, 1) := by decide +kernel
theorem dX11_rightOf_35 : decode cX11_rightOf 35 = .ok (.ireturn, 1) := by decide +kernel
theorem dX11_downOf_0 : decode cX11_downOf 0 = .ok (.iload_n 0, 1) := by decide +kernel
theorem dX11_downOf_1 : decode cX11_downOf 1 = .ok (.i2l, 1) := by decide +kernel
theorem dX11_downOf_2 : decode cX11_downOf 2 = .ok (.ldc2_w 251, 3) := by decide +kernel
theorem dX11_downOf_5 : decode cX11_downOf 5 = .ok (.ldc2_w 253, 3) := by decide +kernel
theorem dX11_downOf_8 : decode cX11_downOf 8 = .ok (.invokestatic 120, 3) := by decide +kernel
theorem dX11_downOf_11 : decode cX11_downOf 11 = .ok (.ifCond .eq 7, 3) := by decide +kernel
theorem dX11_downOf_14 : decode cX11_downOf 14 = .ok (.iconst 1, 1) := by decide +kernel
theorem dX11_downOf_15 : decode cX11_downOf 15 = .ok (.goto 19, 3) := by decide +kernel
theorem dX11_downOf_18 : decode cX11_downOf 18 = .ok (.iload_n 0, 1) := by decide +kernel
theorem dX11_downOf_19 : decode cX11_downOf 19 = .ok (.iconst 2, 1) := by decide +kernel
theorem dX11_downOf_20 : decode cX11_downOf 20 = .ok (.if_icmp .eq 9, 3) := by decide +kernel
theorem dX11_downOf_23 : decode cX11_downOf 23 = .ok (.iload_n 0, 1) := by decide +kernel
theorem dX11_downOf_24 : decode cX11_downOf 24 = .ok (.bipush 6, 2) := by decide +kernel
theorem dX11_downOf_26 : decode cX11_downOf 26 = .ok (.if_icmp .ne 7, 3) := by decide +kernel
theorem dX11_downOf_29 : decode cX11_downOf 29 = .ok (.iconst 0, 1) := by decide +kernel
theorem dX11_downOf_30 : decode cX11_downOf 30 = .ok (.goto 4, 3) := by decide +kernel
theorem dX11_downOf_33 : decode cX11_downOf 33 = .ok (.iconst (-1), 1) := by decide +kernel
theorem dX11_downOf_34 : decode cX11_downOf 34 = .ok (.ireturn, 1) := by decide +kernel
theorem dX11_layPath_0 : decode cX11_layPath 0 = .ok (.iload_n 1, 1) := by decide +kernel
theorem dX11_layPath_1 : decode cX11_layPath 1 = .ok (.bipush 9, 2) := by decide +kernel
theorem dX11_layPath_3 : decode cX11_layPath 3 = .ok (.irem, 1) := by decide +kernel
theorem dX11_layPath_4 : decode cX11_layPath 4 = .ok (.istore 4, 2) := by decide +kernel
theorem dX11_layPath_6 : decode cX11_layPath 6 = .ok (.iload_n 1, 1) := by decide +kernel
theorem dX11_layPath_7 : decode cX11_layPath 7 = .ok (.bipush 9, 2) := by decide +kernel
theorem dX11_layPath_9 : decode cX11_layPath 9 = .ok (.idiv, 1) := by decide +kernel
theorem dX11_layPath_10 : decode cX11_layPath 10 = .ok (.istore 5, 2) := by decide +kernel
theorem dX11_layPath_12 : decode cX11_layPath 12 = .ok (.iload_n 2, 1) := by decide +kernel
theorem dX11_layPath_13 : decode cX11_layPath 13 = .ok (.invokestatic 257, 3) := by decide +kernel
theorem dX11_layPath_16 : decode cX11_layPath 16 = .ok (.istore 6, 2) := by decide +kernel
theorem dX11_layPath_18 : decode cX11_layPath 18 = .ok (.iload_n 2, 1) := by decide +kernel
theorem dX11_layPath_19 : decode cX11_layPath 19 = .ok (.invokestatic 260, 3) := by decide +kernel
theorem dX11_layPath_22 : decode cX11_layPath 22 = .ok (.istore 7, 2) := by decide +kernel
theorem dX11_layPath_24 : decode cX11_layPath 24 = .ok (.aload_n 0, 1) := by decide +kernel
theorem dX11_layPath_25 : decode cX11_layPath 25 = .ok (.getfield 38, 3) := by decide +kernel
theorem dX11_layPath_28 : decode cX11_layPath 28 = .ok (.iconst 0, 1) := by decide +kernel
theorem dX11_layPath_29 : decode cX11_layPath 29 = .ok (.iload_n 1, 1) := by decide +kernel
theorem dX11_layPath_30 : decode cX11_layPath 30 = .ok (.iastore, 1) := by decide +kernel
theorem dX11_layPath_31 : decode cX11_layPath 31 = .ok (.aload_n 0, 1) := by decide +kernel
theorem dX11_layPath_32 : decode cX11_layPath 32 = .ok (.getfield 41, 3) := by decide +kernel
theorem dX11_layPath_35 : decode cX11_layPath 35 = .ok (.iconst 0, 1) := by decide +kernel
theorem dX11_layPath_36 : decode cX11_layPath 36 = .ok (.iconst 0, 1) := by decide +kernel
theorem dX11_layPath_37 : decode cX11_layPath 37 = .ok (.iastore, 1) := by decide +kernel
theorem dX11_layPath_38 : decode cX11_layPath 38 = .ok (.aload_n 0, 1) := by decide +kernel
theorem dX11_layPath_39 : decode cX11_layPath 39 = .ok (.iconst 0, 1) := by decide +kernel
theorem dX11_layPath_40 : decode cX11_layPath 40 = .ok (.putfield 263, 3) := by decide +kernel
theorem dX11_layPath_43 : decode cX11_layPath 43 = .ok (.iconst 1, 1) := by decide +kernel
theorem dX11_layPath_44 : decode cX11_layPath 44 = .ok (.istore 8, 2) := by decide +kernel
theorem dX11_layPath_46 : decode cX11_layPath 46 = .ok (.iconst 1, 1) := by decide +kernel
theorem dX11_layPath_47 : decode cX11_layPath 47 = .ok (.istore 9, 2) := by decide +kernel
theorem dX11_layPath_49 : decode cX11_layPath 49 = .ok (.iload 9, 2) := by decide +kernel
theorem dX11_layPath_51 : decode cX11_layPath 51 = .ok (.bipush 40, 2) := by decide +kernel
theorem dX11_layPath_53 : decode cX11_layPath 53 = .ok (.if_icmp .gt 226, 3) := by decide +kernel
theorem dX11_layPath_56 : decode cX11_layPath 56 = .ok (.iload 8, 2) := by decide +kernel
theorem dX11_layPath_58 : decode cX11_layPath 58 = .ok (.ifCond .eq 221, 3) := by decide +kernel
theorem dX11_layPath_61 : decode cX11_layPath 61 = .ok (.aload_n 0, 1) := by decide +kernel
theorem dX11_layPath_62 : decode cX11_layPath 62 = .ok (.getfield 41, 3) := by decide +kernel
theorem dX11_layPath_65 : decode cX11_layPath 65 = .ok (.iload 9, 2) := by decide +kernel
theorem dX11_layPath_67 : decode cX11_layPath 67 = .ok (.iconst 1, 1) := by decide +kernel
theorem dX11_layPath_68 : decode cX11_layPath 68 = .ok (.isub, 1) := by decide +kernel
theorem dX11_layPath_69 : decode cX11_layPath 69 = .ok (.iaload, 1) := by decide +kernel
theorem dX11_layPath_70 : decode cX11_layPath 70 = .ok (.istore 10, 2) := by decide +kernel
theorem dX11_layPath_72 : decode cX11_layPath 72 = .ok (.iload 4, 2) := by decide +kernel
theorem dX11_layPath_74 : decode cX11_layPath 74 = .ok (.iload 6, 2) := by decide +kernel
theorem dX11_layPath_76 : decode cX11_layPath 76 = .ok (.iadd, 1) := by decide +kernel
theorem dX11_layPath_77 : decode cX11_layPath 77 = .ok (.i2l, 1) := by decide +kernel
theorem dX11_layPath_78 : decode cX11_layPath 78 = .ok (.lconst 0, 1) := by decide +kernel
theorem dX11_layPath_79 : decode cX11_layPath 79 = .ok (.aload_n 0, 1) := by decide +kernel
theorem dX11_layPath_80 : decode cX11_layPath 80 = .ok (.getfield 90, 3) := by decide +kernel
theorem dX11_layPath_83 : decode cX11_layPath 83 = .ok (.iconst 1, 1) := by decide +kernel
theorem dX11_layPath_84 : decode cX11_layPath 84 = .ok (.isub, 1) := by decide +kernel
theorem dX11_layPath_85 : decode cX11_layPath 85 = .ok (.i2l, 1) := by decide +kernel
theorem dX11_layPath_86 : decode cX11_layPath 86 = .ok (.invokestatic 120, 3) := by decide +kernel
theorem dX11_layPath_89 : decode cX11_layPath 89 = .ok (.ifCond .ne 11, 3) := by decide +kernel
theorem dX11_layPath_92 : decode cX11_layPath 92 = .ok (.iload 6, 2) := by decide +kernel
theorem dX11_layPath_94 : decode cX11_layPath 94 = .ok (.ineg, 1) := by decide +kernel
theorem dX11_layPath_95 : decode cX11_layPath 95 = .ok (.istore 6, 2) := by decide +kernel
theorem dX11_layPath_97 : decode cX11_layPath 97 = .ok (.iinc 10 1, 3) := by decide +kernel
theorem dX11_layPath_100 : decode cX11_layPath 100 = .ok (.iload 5, 2) := by decide +kernel
theorem dX11_layPath_102 : decode cX11_layPath 102 = .ok (.iload 7, 2) := by decide +kernel
theorem dX11_layPath_104 : decode cX11_layPath 104 = .ok (.iadd, 1) := by decide +kernel
theorem dX11_layPath_105 : decode cX11_layPath 105 = .ok (.i2l, 1) := by decide +kernel
theorem dX11_layPath_106 : decode cX11_layPath 106 = .ok (.lconst 0, 1) := by decide +kernel
theorem dX11_layPath_107 : decode cX11_layPath 107 = .ok (.aload_n 0, 1) := by decide +kernel
theorem dX11_layPath_108 : decode cX11_layPath 108 = .ok (.getfield 93, 3) := by decide +kernel
theorem dX11_layPath_111 : decode cX11_layPath 111 = .ok (.iconst 1, 1) := by decide +kernel
theorem dX11_layPath_112 : decode cX11_layPath 112 = .ok (.isub, 1) := by decide +kernel
theorem dX11_layPath_113 : decode cX11_layPath 113 = .ok (.i2l, 1) := by decide +kernel
theorem dX11_layPath_114 : decode cX11_layPath 114 = .ok (.invokestatic 120, 3) := by decide +kernel
theorem dX11_layPath_117 : decode cX11_layPath 117 = .ok (.ifCond .ne 11, 3) := by decide +kernel
theorem dX11_layPath_120 : decode cX11_layPath 120 = .ok (.iload 7, 2) := by decide +kernel
theorem dX11_layPath_122 : decode cX11_layPath 122 = .ok (.ineg, 1) := by decide +kernel
theorem dX11_layPath_123 : decode cX11_layPath 123 = .ok (.istore 7, 2) := by decide +kernel
theorem dX11_layPath_125 : decode cX11_layPath 125 = .ok (.iinc 10 1, 3) := by decide +kernel
theorem dX11_layPath_128 : decode cX11_layPath 128 = .ok (.iload 4, 2) := by decide +kernel
theorem dX11_layPath_130 : decode cX11_layPath 130 = .ok (.iload 6, 2) := by decide +kernel
theorem dX11_layPath_132 : decode cX11_layPath 132 = .ok (.iadd, 1) := by decide +kernel
theorem dX11_layPath_133 : decode cX11_layPath 133 = .ok (.istore 4, 2) := by decide +kernel
theorem dX11_layPath_135 : decode cX11_layPath 135 = .ok (.iload 5, 2) := by decide +kernel
theorem dX11_layPath_137 : decode cX11_layPath 137 = .ok (.iload 7, 2) := by decide +kernel
theorem dX11_layPath_139 : decode cX11_layPath 139 = .ok (.iadd, 1) := by decide +kernel
theorem dX11_layPath_140 : decode cX11_layPath 140 = .ok (.istore 5, 2) := by decide +kernel
theorem dX11_layPath_142 : decode cX11_layPath 142 = .ok (.aload_n 0, 1) := by decide +kernel
theorem dX11_layPath_143 : decode cX11_layPath 143 = .ok (.getfield 7, 3) := by decide +kernel
theorem dX11_layPath_146 : decode cX11_layPath 146 = .ok (.bipush 81, 2) := by decide +kernel
theorem dX11_layPath_148 : decode cX11_layPath 148 = .ok (.iaload, 1) := by decide +kernel
theorem dX11_layPath_149 : decode cX11_layPath 149 = .ok (.ifCond .le 30, 3) := by decide +kernel
theorem dX11_layPath_152 : decode cX11_layPath 152 = .ok (.iload 9, 2) := by decide +kernel
theorem dX11_layPath_154 : decode cX11_layPath 154 = .ok (.aload_n 0, 1) := by decide +kernel
theorem dX11_layPath_155 : decode cX11_layPath 155 = .ok (.getfield 7, 3) := by decide +kernel
theorem dX11_layPath_158 : decode cX11_layPath 158 = .ok (.bipush 81, 2) := by decide +kernel
theorem dX11_layPath_160 : decode cX11_layPath 160 = .ok (.iaload, 1) := by decide +kernel
theorem dX11_layPath_161 : decode cX11_layPath 161 = .ok (.irem, 1) := by decide +kernel
theorem dX11_layPath_162 : decode cX11_layPath 162 = .ok (.ifCond .ne 17, 3) := by decide +kernel
theorem dX11_layPath_165 : decode cX11_layPath 165 = .ok (.iload 5, 2) := by decide +kernel
theorem dX11_layPath_167 : decode cX11_layPath 167 = .ok (.iconst 1, 1) := by decide +kernel
theorem dX11_layPath_168 : decode cX11_layPath 168 = .ok (.iadd, 1) := by decide +kernel
theorem dX11_layPath_169 : decode cX11_layPath 169 = .ok (.aload_n 0, 1) := by decide +kernel
theorem dX11_layPath_170 : decode cX11_layPath 170 = .ok (.getfield 93, 3) := by decide +kernel
theorem dX11_layPath_173 : decode cX11_layPath 173 = .ok (.if_icmp .ge 6, 3) := by decide +kernel
theorem dX11_layPath_176 : decode cX11_layPath 176 = .ok (.iinc 5 1, 3) := by decide +kernel
theorem dX11_layPath_179 : decode cX11_layPath 179 = .ok (.aload_n 0, 1) := by decide +kernel
theorem dX11_layPath_180 : decode cX11_layPath 180 = .ok (.getfield 7, 3) := by decide +kernel
theorem dX11_layPath_183 : decode cX11_layPath 183 = .ok (.bipush 9, 2) := by decide +kernel
theorem dX11_layPath_185 : decode cX11_layPath 185 = .ok (.iload 5, 2) := by decide +kernel
theorem dX11_layPath_187 : decode cX11_layPath 187 = .ok (.imul, 1) := by decide +kernel
theorem dX11_layPath_188 : decode cX11_layPath 188 = .ok (.iload 4, 2) := by decide +kernel
theorem dX11_layPath_190 : decode cX11_layPath 190 = .ok (.iadd, 1) := by decide +kernel
theorem dX11_layPath_191 : decode cX11_layPath 191 = .ok (.iaload, 1) := by decide +kernel
theorem dX11_layPath_192 : decode cX11_layPath 192 = .ok (.istore 11, 2) := by decide +kernel
theorem dX11_layPath_194 : decode cX11_layPath 194 = .ok (.iload 11, 2) := by decide +kernel
theorem dX11_layPath_196 : decode cX11_layPath 196 = .ok (.iconst 1, 1) := by decide +kernel
theorem dX11_layPath_197 : decode cX11_layPath 197 = .ok (.if_icmp .eq 38, 3) := by decide +kernel
theorem dX11_layPath_200 : decode cX11_layPath 200 = .ok (.iload 11, 2) := by decide +kernel
theorem dX11_layPath_202 : decode cX11_layPath 202 = .ok (.iconst 2, 1) := by decide +kernel
theorem dX11_layPath_203 : decode cX11_layPath 203 = .ok (.if_icmp .ne 7, 3) := by decide +kernel
theorem dX11_layPath_206 : decode cX11_layPath 206 = .ok (.iload_n 3, 1) := by decide +kernel
theorem dX11_layPath_207 : decode cX11_layPath 207 = .ok (.ifCond .eq 28, 3) := by decide +kernel
theorem dX11_layPath_210 : decode cX11_layPath 210 = .ok (.bipush 100, 2) := by decide +kernel
theorem dX11_layPath_212 : decode cX11_layPath 212 = .ok (.aload_n 0, 1) := by decide +kernel
theorem dX11_layPath_213 : decode cX11_layPath 213 = .ok (.getfield 96, 3) := by decide +kernel
theorem dX11_layPath_216 : decode cX11_layPath 216 = .ok (.iload 9, 2) := by decide +kernel
theorem dX11_layPath_218 : decode cX11_layPath 218 = .ok (.imul, 1) := by decide +kernel
theorem dX11_layPath_219 : decode cX11_layPath 219 = .ok (.isub, 1) := by decide +kernel
theorem dX11_layPath_220 : decode cX11_layPath 220 = .ok (.aload_n 0, 1) := by decide +kernel
theorem dX11_layPath_221 : decode cX11_layPath 221 = .ok (.getfield 99, 3) := by decide +kernel
theorem dX11_layPath_224 : decode cX11_layPath 224 = .ok (.iload 10, 2) := by decide +kernel
theorem dX11_layPath_226 : decode cX11_layPath 226 = .ok (.imul, 1) := by decide +kernel
theorem dX11_layPath_227 : decode cX11_layPath 227 = .ok (.isub, 1) := by decide +kernel
theorem dX11_layPath_228 : decode cX11_layPath 228 = .ok (.ifCond .le 7, 3) := by decide +kernel
theorem dX11_layPath_231 : decode cX11_layPath 231 = .ok (.iconst 1, 1) := by decide +kernel
theorem dX11_layPath_232 : decode cX11_layPath 232 = .ok (.goto 4, 3) := by decide +kernel
theorem dX11_layPath_235 : decode cX11_layPath 235 = .ok (.iconst 0, 1) := by decide +kernel
theorem dX11_layPath_236 : decode cX11_layPath 236 = .ok (.istore 8, 2) := by decide +kernel
theorem dX11_layPath_238 : decode cX11_layPath 238 = .ok (.iload 8, 2) := by decide +kernel
theorem dX11_layPath_240 : decode cX11_layPath 240 = .ok (.ifCond .eq 33, 3) := by decide +kernel
theorem dX11_layPath_243 : decode cX11_layPath 243 = .ok (.aload_n 0, 1) := by decide +kernel
theorem dX11_layPath_244 : decode cX11_layPath 244 = .ok (.getfield 38, 3) := by decide +kernel
theorem dX11_layPath_247 : decode cX11_layPath 247 = .ok (.iload 9, 2) := by decide +kernel
theorem dX11_layPath_249 : decode cX11_layPath 249 = .ok (.bipush 9, 2) := by decide +kernel
theorem dX11_layPath_251 : decode cX11_layPath 251 = .ok (.iload 5, 2) := by decide +kernel
theorem dX11_layPath_253 : decode cX11_layPath 253 = .ok (.imul, 1) := by decide +kernel
theorem dX11_layPath_254 : decode cX11_layPath 254 = .ok (.iload 4, 2) := by decide +kernel
theorem dX11_layPath_256 : decode cX11_layPath 256 = .ok (.iadd, 1) := by decide +kernel
theorem dX11_layPath_257 : decode cX11_layPath 257 = .ok (.iastore, 1) := by decide +kernel
theorem dX11_layPath_258 : decode cX11_layPath 258 = .ok (.aload_n 0, 1) := by decide +kernel
theorem dX11_layPath_259 : decode cX11_layPath 259 = .ok (.getfield 41, 3) := by decide +kernel
theorem dX11_layPath_262 : decode cX11_layPath 262 = .ok (.iload 9, 2) := by decide +kernel
theorem dX11_layPath_264 : decode cX11_layPath 264 = .ok (.iload 10, 2) := by decide +kernel
theorem dX11_layPath_266 : decode cX11_layPath 266 = .ok (.iastore, 1) := by decide +kernel
theorem dX11_layPath_267 : decode cX11_layPath 267 = .ok (.aload_n 0, 1) := by decide +kernel
theorem dX11_layPath_268 : decode cX11_layPath 268 = .ok (.iload 9, 2) := by decide +kernel
theorem dX11_layPath_270 : decode cX11_layPath 270 = .ok (.putfield 263, 3) := by decide +kernel
theorem dX11_layPath_273 : decode cX11_layPath 273 = .ok (.iinc 9 1, 3) := by decide +kernel
theorem dX11_layPath_276 : decode cX11_layPath 276 = .ok (.goto (-227), 3) := by decide +kernel
theorem dX11_layPath_279 : decode cX11_layPath 279 = .ok (.return_, 1) := by decide +kernel
theorem dX11_loudAt_0 : decode cX11_loudAt 0 = .ok (.bipush 100, 2) := by decide +kernel
theorem dX11_loudAt_2 : decode cX11_loudAt 2 = .ok (.aload_n 0, 1) := by decide +kernel
theorem dX11_loudAt_3 : decode cX11_loudAt 3 = .ok (.getfield 96, 3) := by decide +kernel
theorem dX11_loudAt_6 : decode cX11_loudAt 6 = .ok (.iload_n 1, 1) := by decide +kernel
theorem dX11_loudAt_7 : decode cX11_loudAt 7 = .ok (.imul, 1) := by decide +kernel
theorem dX11_loudAt_8 : decode cX11_loudAt 8 = .ok (.isub, 1) := by decide +kernel
theorem dX11_loudAt_9 : decode cX11_loudAt 9 = .ok (.aload_n 0, 1) := by decide +kernel
theorem dX11_loudAt_10 : decode cX11_loudAt 10 = .ok (.getfield 99, 3) := by decide +kernel
theorem dX11_loudAt_13 : decode cX11_loudAt 13 = .ok (.aload_n 0, 1) := by decide +kernel
theorem dX11_loudAt_14 : decode cX11_loudAt 14 = .ok (.getfield 41, 3) := by decide +kernel
theorem dX11_loudAt_17 : decode cX11_loudAt 17 = .ok (.iload_n 1, 1) := by decide +kernel
theorem dX11_loudAt_18 : decode cX11_loudAt 18 = .ok (.iaload, 1) := by decide +kernel
theorem dX11_loudAt_19 : decode cX11_loudAt 19 = .ok (.imul, 1) := by decide +kernel
theorem dX11_loudAt_20 : decode cX11_loudAt 20 = .ok (.isub, 1) := by decide +kernel
theorem dX11_loudAt_21 : decode cX11_loudAt 21 = .ok (.ireturn, 1) := by decide +kernel
theorem dX11_layPathOf_0 : decode cX11_layPathOf 0 = .ok (.aload_n 0, 1) := by decide +kernel
theorem dX11_layPathOf_1 : decode cX11_layPathOf 1 = .ok (.aload_n 0, 1) := by decide +kernel
theorem dX11_layPathOf_2 : decode cX11_layPathOf 2 = .ok (.iload_n 1, 1) := by decide +kernel
theorem dX11_layPathOf_3 : decode cX11_layPathOf 3 = .ok (.iload_n 2, 1) := by decide +kernel
theorem dX11_layPathOf_4 : decode cX11_layPathOf 4 = .ok (.invokevirtual 234, 3) := by decide +kernel
theorem dX11_layPathOf_7 : decode cX11_layPathOf 7 = .ok (.aload_n 0, 1) := by decide +kernel
theorem dX11_layPathOf_8 : decode cX11_layPathOf 8 = .ok (.iload_n 1, 1) := by decide +kernel
theorem dX11_layPathOf_9 : decode cX11_layPathOf 9 = .ok (.iload_n 2, 1) := by decide +kernel
theorem dX11_layPathOf_10 : decode cX11_layPathOf 10 = .ok (.invokevirtual 237, 3) := by decide +kernel
theorem dX11_layPathOf_13 : decode cX11_layPathOf 13 = .ok (.aload_n 0, 1) := by decide +kernel
theorem dX11_layPathOf_14 : decode cX11_layPathOf 14 = .ok (.iload_n 1, 1) := by decide +kernel
theorem dX11_layPathOf_15 : decode cX11_layPathOf 15 = .ok (.invokevirtual 223, 3) := by decide +kernel
theorem dX11_layPathOf_18 : decode cX11_layPathOf 18 = .ok (.iconst 3, 1) := by decide +kernel
theorem dX11_layPathOf_19 : decode cX11_layPathOf 19 = .ok (.if_icmp .ne 7, 3) := by decide +kernel
theorem dX11_layPathOf_22 : decode cX11_layPathOf 22 = .ok (.iconst 1, 1) := by decide +kernel
theorem dX11_layPathOf_23 : decode cX11_layPathOf 23 = .ok (.goto 4, 3) := by decide +kernel
theorem dX11_layPathOf_26 : decode cX11_layPathOf 26 = .ok (.iconst 0, 1) := by decide +kernel
theorem dX11_layPathOf_27 : decode cX11_layPathOf 27 = .ok (.invokevirtual 266, 3) := by decide +kernel
theorem dX11_layPathOf_30 : decode cX11_layPathOf 30 = .ok (.return_, 1) := by decide +kernel
theorem dX11_stepTo_0 : decode cX11_stepTo 0 = .ok (.bipush (-4), 2) := by decide +kernel
theorem dX11_stepTo_2 : decode cX11_stepTo 2 = .ok (.istore_n 3, 1) := by decide +kernel
theorem dX11_stepTo_3 : decode cX11_stepTo 3 = .ok (.aload_n 0, 1) := by decide +kernel
theorem dX11_stepTo_4 : decode cX11_stepTo 4 = .ok (.getfield 263, 3) := by decide +kernel
theorem dX11_stepTo_7 : decode cX11_stepTo 7 = .ok (.istore 4, 2) := by decide +kernel
theorem dX11_stepTo_9 : decode cX11_stepTo 9 = .ok (.iload 4, 2) := by decide +kernel
theorem dX11_stepTo_11 : decode cX11_stepTo 11 = .ok (.ifCond .le 32, 3) := by decide +kernel
theorem dX11_stepTo_14 : decode cX11_stepTo 14 = .ok (.aload_n 0, 1) := by decide +kernel
theorem dX11_stepTo_15 : decode cX11_stepTo 15 = .ok (.getfield 38, 3) := by decide +kernel
theorem dX11_stepTo_18 : decode cX11_stepTo 18 = .ok (.iload 4, 2) := by decide +kernel
theorem dX11_stepTo_20 : decode cX11_stepTo 20 = .ok (.iaload, 1) := by decide +kernel
theorem dX11_stepTo_21 : decode cX11_stepTo 21 = .ok (.aload_n 0, 1) := by decide +kernel
theorem dX11_stepTo_22 : decode cX11_stepTo 22 = .ok (.iload_n 1, 1) := by decide +kernel
theorem dX11_stepTo_23 : decode cX11_stepTo 23 = .ok (.iload_n 2, 1) := by decide +kernel
theorem dX11_stepTo_24 : decode cX11_stepTo 24 = .ok (.invokevirtual 234, 3) := by decide +kernel
theorem dX11_stepTo_27 : decode cX11_stepTo 27 = .ok (.if_icmp .ne 8, 3) := by decide +kernel
theorem dX11_stepTo_30 : decode cX11_stepTo 30 = .ok (.iload 4, 2) := by decide +kernel
theorem dX11_stepTo_32 : decode cX11_stepTo 32 = .ok (.goto 4, 3) := by decide +kernel
theorem dX11_stepTo_35 : decode cX11_stepTo 35 = .ok (.iload_n 3, 1) := by decide +kernel
theorem dX11_stepTo_36 : decode cX11_stepTo 36 = .ok (.istore_n 3, 1) := by decide +kernel
theorem dX11_stepTo_37 : decode cX11_stepTo 37 = .ok (.iinc 4 (-1), 3) := by decide +kernel
theorem dX11_stepTo_40 : decode cX11_stepTo 40 = .ok (.goto (-31), 3) := by decide +kernel
theorem dX11_stepTo_43 : decode cX11_stepTo 43 = .ok (.iload_n 3, 1) := by decide +kernel
theorem dX11_stepTo_44 : decode cX11_stepTo 44 = .ok (.bipush (-4), 2) := by decide +kernel
theorem dX11_stepTo_46 : decode cX11_stepTo 46 = .ok (.if_icmp .eq 20, 3) := by decide +kernel
theorem dX11_stepTo_49 : decode cX11_stepTo 49 = .ok (.aload_n 0, 1) := by decide +kernel
theorem dX11_stepTo_50 : decode cX11_stepTo 50 = .ok (.iload_n 3, 1) := by decide +kernel
theorem dX11_stepTo_51 : decode cX11_stepTo 51 = .ok (.invokevirtual 270, 3) := by decide +kernel
theorem dX11_stepTo_54 : decode cX11_stepTo 54 = .ok (.aload_n 0, 1) := by decide +kernel
theorem dX11_stepTo_55 : decode cX11_stepTo 55 = .ok (.iload_n 1, 1) := by decide +kernel
theorem dX11_stepTo_56 : decode cX11_stepTo 56 = .ok (.invokevirtual 240, 3) := by decide +kernel
theorem dX11_stepTo_59 : decode cX11_stepTo 59 = .ok (.if_icmp .lt 7, 3) := by decide +kernel
theorem dX11_stepTo_62 : decode cX11_stepTo 62 = .ok (.iload_n 3, 1) := by decide +kernel
theorem dX11_stepTo_63 : decode cX11_stepTo 63 = .ok (.goto 5, 3) := by decide +kernel
theorem dX11_stepTo_66 : decode cX11_stepTo 66 = .ok (.bipush (-4), 2) := by decide +kernel
theorem dX11_stepTo_68 : decode cX11_stepTo 68 = .ok (.ireturn, 1) := by decide +kernel
theorem dX11_way_0 : decode cX11_way 0 = .ok (.aload_n 0, 1) := by decide +kernel
theorem dX11_way_1 : decode cX11_way 1 = .ok (.iload_n 1, 1) := by decide +kernel
theorem dX11_way_2 : decode cX11_way 2 = .ok (.invokevirtual 228, 3) := by decide +kernel
theorem dX11_way_5 : decode cX11_way 5 = .ok (.ifCond .eq 22, 3) := by decide +kernel
theorem dX11_way_8 : decode cX11_way 8 = .ok (.iload_n 2, 1) := by decide +kernel
theorem dX11_way_9 : decode cX11_way 9 = .ok (.invokestatic 231, 3) := by decide +kernel
theorem dX11_way_12 : decode cX11_way 12 = .ok (.ifCond .eq 15, 3) := by decide +kernel
theorem dX11_way_15 : decode cX11_way 15 = .ok (.iload_n 3, 1) := by decide +kernel
theorem dX11_way_16 : decode cX11_way 16 = .ok (.i2l, 1) := by decide +kernel
theorem dX11_way_17 : decode cX11_way 17 = .ok (.lconst 0, 1) := by decide +kernel
theorem dX11_way_18 : decode cX11_way 18 = .ok (.ldc2_w 273, 3) := by decide +kernel
theorem dX11_way_21 : decode cX11_way 21 = .ok (.invokestatic 120, 3) := by decide +kernel
theorem dX11_way_24 : decode cX11_way 24 = .ok (.ifCond .ne 5, 3) := by decide +kernel
theorem dX11_way_27 : decode cX11_way 27 = .ok (.iconst (-1), 1) := by decide +kernel
theorem dX11_way_28 : decode cX11_way 28 = .ok (.ireturn, 1) := by decide +kernel
theorem dX11_way_29 : decode cX11_way 29 = .ok (.aload_n 0, 1) := by decide +kernel
theorem dX11_way_30 : decode cX11_way 30 = .ok (.iload_n 1, 1) := by decide +kernel
theorem dX11_way_31 : decode cX11_way 31 = .ok (.iload_n 2, 1) := by decide +kernel
theorem dX11_way_32 : decode cX11_way 32 = .ok (.invokevirtual 275, 3) := by decide +kernel
theorem dX11_way_35 : decode cX11_way 35 = .ok (.iload_n 3, 1) := by decide +kernel
theorem dX11_way_36 : decode cX11_way 36 = .ok (.aload_n 0, 1) := by decide +kernel
theorem dX11_way_37 : decode cX11_way 37 = .ok (.getfield 263, 3) := by decide +kernel
theorem dX11_way_40 : decode cX11_way 40 = .ok (.if_icmp .gt 12, 3) := by decide +kernel
theorem dX11_way_43 : decode cX11_way 43 = .ok (.aload_n 0, 1) := by decide +kernel
theorem dX11_way_44 : decode cX11_way 44 = .ok (.getfield 38, 3) := by decide +kernel
theorem dX11_way_47 : decode cX11_way 47 = .ok (.iload_n 3, 1) := by decide +kernel
theorem dX11_way_48 : decode cX11_way 48 = .ok (.iaload, 1) := by decide +kernel
theorem dX11_way_49 : decode cX11_way 49 = .ok (.goto 5, 3) := by decide +kernel
theorem dX11_way_52 : decode cX11_way 52 = .ok (.bipush (-4), 2) := by decide +kernel
theorem dX11_way_54 : decode cX11_way 54 = .ok (.ireturn, 1) := by decide +kernel
theorem dX11_steps_0 : decode cX11_steps 0 = .ok (.aload_n 0, 1) := by decide +kernel
theorem dX11_steps_1 : decode cX11_steps 1 = .ok (.iload_n 1, 1) := by decide +kernel
theorem dX11_steps_2 : decode cX11_steps 2 = .ok (.invokevirtual 228, 3) := by decide +kernel
theorem dX11_steps_5 : decode cX11_steps 5 = .ok (.ifCond .eq 10, 3) := by decide +kernel
theorem dX11_steps_8 : decode cX11_steps 8 = .ok (.iload_n 2, 1) := by decide +kernel
theorem dX11_steps_9 : decode cX11_steps 9 = .ok (.invokestatic 231, 3) := by decide +kernel
theorem dX11_steps_12 : decode cX11_steps 12 = .ok (.ifCond .ne 5, 3) := by decide +kernel
theorem dX11_steps_15 : decode cX11_steps 15 = .ok (.iconst (-1), 1) := by decide +kernel
theorem dX11_steps_16 : decode cX11_steps 16 = .ok (.ireturn, 1) := by decide +kernel
theorem dX11_steps_17 : decode cX11_steps 17 = .ok (.aload_n 0, 1) := by decide +kernel
theorem dX11_steps_18 : decode cX11_steps 18 = .ok (.iload_n 1, 1) := by decide +kernel
theorem dX11_steps_19 : decode cX11_steps 19 = .ok (.iload_n 2, 1) := by decide +kernel
theorem dX11_steps_20 : decode cX11_steps 20 = .ok (.invokevirtual 275, 3) := by decide +kernel
theorem dX11_steps_23 : decode cX11_steps 23 = .ok (.aload_n 0, 1) := by decide +kernel
theorem dX11_steps_24 : decode cX11_steps 24 = .ok (.getfield 263, 3) := by decide +kernel
theorem dX11_steps_27 : decode cX11_steps 27 = .ok (.ireturn, 1) := by decide +kernel
theorem dX11_hears_0 : decode cX11_hears 0 = .ok (.aload_n 0, 1) := by decide +kernel
theorem dX11_hears_1 : decode cX11_hears 1 = .ok (.iload_n 1, 1) := by decide +kernel
theorem dX11_hears_2 : decode cX11_hears 2 = .ok (.invokevirtual 228, 3) := by decide +kernel
theorem dX11_hears_5 : decode cX11_hears 5 = .ok (.ifCond .eq 36, 3) := by decide +kernel
theorem dX11_hears_8 : decode cX11_hears 8 = .ok (.aload_n 0, 1) := by decide +kernel
theorem dX11_hears_9 : decode cX11_hears 9 = .ok (.iload_n 2, 1) := by decide +kernel
theorem dX11_hears_10 : decode cX11_hears 10 = .ok (.invokevirtual 228, 3) := by decide +kernel
theorem dX11_hears_13 : decode cX11_hears 13 = .ok (.ifCond .eq 28, 3) := by decide +kernel
theorem dX11_hears_16 : decode cX11_hears 16 = .ok (.iload_n 1, 1) := by decide +kernel
theorem dX11_hears_17 : decode cX11_hears 17 = .ok (.iload_n 2, 1) := by decide +kernel
theorem dX11_hears_18 : decode cX11_hears 18 = .ok (.if_icmp .eq 23, 3) := by decide +kernel
theorem dX11_hears_21 : decode cX11_hears 21 = .ok (.iload_n 3, 1) := by decide +kernel
theorem dX11_hears_22 : decode cX11_hears 22 = .ok (.invokestatic 231, 3) := by decide +kernel
theorem dX11_hears_25 : decode cX11_hears 25 = .ok (.ifCond .eq 16, 3) := by decide +kernel
theorem dX11_hears_28 : decode cX11_hears 28 = .ok (.iload 4, 2) := by decide +kernel
theorem dX11_hears_30 : decode cX11_hears 30 = .ok (.i2l, 1) := by decide +kernel
theorem dX11_hears_31 : decode cX11_hears 31 = .ok (.lconst 0, 1) := by decide +kernel
theorem dX11_hears_32 : decode cX11_hears 32 = .ok (.ldc2_w 226, 3) := by decide +kernel
theorem dX11_hears_35 : decode cX11_hears 35 = .ok (.invokestatic 120, 3) := by decide +kernel
theorem dX11_hears_38 : decode cX11_hears 38 = .ok (.ifCond .ne 5, 3) := by decide +kernel
theorem dX11_hears_41 : decode cX11_hears 41 = .ok (.iconst (-1), 1) := by decide +kernel
theorem dX11_hears_42 : decode cX11_hears 42 = .ok (.ireturn, 1) := by decide +kernel
theorem dX11_hears_43 : decode cX11_hears 43 = .ok (.aload_n 0, 1) := by decide +kernel
theorem dX11_hears_44 : decode cX11_hears 44 = .ok (.iload_n 1, 1) := by decide +kernel
theorem dX11_hears_45 : decode cX11_hears 45 = .ok (.iload_n 3, 1) := by decide +kernel
theorem dX11_hears_46 : decode cX11_hears 46 = .ok (.invokevirtual 275, 3) := by decide +kernel
theorem dX11_hears_49 : decode cX11_hears 49 = .ok (.aload_n 0, 1) := by decide +kernel
theorem dX11_hears_50 : decode cX11_hears 50 = .ok (.iload_n 2, 1) := by decide +kernel
theorem dX11_hears_51 : decode cX11_hears 51 = .ok (.iload_n 3, 1) := by decide +kernel
theorem dX11_hears_52 : decode cX11_hears 52 = .ok (.invokevirtual 279, 3) := by decide +kernel
theorem dX11_hears_55 : decode cX11_hears 55 = .ok (.istore 5, 2) := by decide +kernel
theorem dX11_hears_57 : decode cX11_hears 57 = .ok (.iload 5, 2) := by decide +kernel
theorem dX11_hears_59 : decode cX11_hears 59 = .ok (.bipush (-4), 2) := by decide +kernel
theorem dX11_hears_61 : decode cX11_hears 61 = .ok (.if_icmp .ne 8, 3) := by decide +kernel
theorem dX11_hears_64 : decode cX11_hears 64 = .ok (.bipush (-4), 2) := by decide +kernel
theorem dX11_hears_66 : decode cX11_hears 66 = .ok (.goto 35, 3) := by decide +kernel
theorem dX11_hears_69 : decode cX11_hears 69 = .ok (.iload 4, 2) := by decide +kernel
theorem dX11_hears_71 : decode cX11_hears 71 = .ok (.ifCond .ne 12, 3) := by decide +kernel
theorem dX11_hears_74 : decode cX11_hears 74 = .ok (.aload_n 0, 1) := by decide +kernel
theorem dX11_hears_75 : decode cX11_hears 75 = .ok (.iload 5, 2) := by decide +kernel
theorem dX11_hears_77 : decode cX11_hears 77 = .ok (.invokevirtual 270, 3) := by decide +kernel
theorem dX11_hears_80 : decode cX11_hears 80 = .ok (.goto 21, 3) := by decide +kernel
theorem dX11_hears_83 : decode cX11_hears 83 = .ok (.iload 4, 2) := by decide +kernel
theorem dX11_hears_85 : decode cX11_hears 85 = .ok (.iconst 1, 1) := by decide +kernel
theorem dX11_hears_86 : decode cX11_hears 86 = .ok (.if_icmp .ne 8, 3) := by decide +kernel
theorem dX11_hears_89 : decode cX11_hears 89 = .ok (.iload 5, 2) := by decide +kernel
theorem dX11_hears_91 : decode cX11_hears 91 = .ok (.goto 10, 3) := by decide +kernel
theorem dX11_hears_94 : decode cX11_hears 94 = .ok (.aload_n 0, 1) := by decide +kernel
theorem dX11_hears_95 : decode cX11_hears 95 = .ok (.getfield 41, 3) := by decide +kernel
theorem dX11_hears_98 : decode cX11_hears 98 = .ok (.iload 5, 2) := by decide +kernel
theorem dX11_hears_100 : decode cX11_hears 100 = .ok (.iaload, 1) := by decide +kernel
theorem dX11_hears_101 : decode cX11_hears 101 = .ok (.ireturn, 1) := by decide +kernel
theorem dX11_allTo_0 : decode cX11_allTo 0 = .ok (.iconst 0, 1) := by decide +kernel
theorem dX11_allTo_1 : decode cX11_allTo 1 = .ok (.istore_n 3, 1) := by decide +kernel
theorem dX11_allTo_2 : decode cX11_allTo 2 = .ok (.iconst 0, 1) := by decide +kernel
theorem dX11_allTo_3 : decode cX11_allTo 3 = .ok (.istore 4, 2) := by decide +kernel
theorem dX11_allTo_5 : decode cX11_allTo 5 = .ok (.iload 4, 2) := by decide +kernel
theorem dX11_allTo_7 : decode cX11_allTo 7 = .ok (.aload_n 0, 1) := by decide +kernel
theorem dX11_allTo_8 : decode cX11_allTo 8 = .ok (.getfield 102, 3) := by decide +kernel
theorem dX11_allTo_11 : decode cX11_allTo 11 = .ok (.if_icmp .ge 38, 3) := by decide +kernel
