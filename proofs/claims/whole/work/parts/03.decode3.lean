theorem dX11_allTo_14 : decode cX11_allTo 14 = .ok (.iload_n 3, 1) := by decide +kernel
theorem dX11_allTo_15 : decode cX11_allTo 15 = .ok (.iload 4, 2) := by decide +kernel
theorem dX11_allTo_17 : decode cX11_allTo 17 = .ok (.iload_n 2, 1) := by decide +kernel
theorem dX11_allTo_18 : decode cX11_allTo 18 = .ok (.if_icmp .eq 22, 3) := by decide +kernel
theorem dX11_allTo_21 : decode cX11_allTo 21 = .ok (.aload_n 0, 1) := by decide +kernel
theorem dX11_allTo_22 : decode cX11_allTo 22 = .ok (.iload 4, 2) := by decide +kernel
theorem dX11_allTo_24 : decode cX11_allTo 24 = .ok (.iload_n 1, 1) := by decide +kernel
theorem dX11_allTo_25 : decode cX11_allTo 25 = .ok (.invokevirtual 279, 3) := by decide +kernel
theorem dX11_allTo_28 : decode cX11_allTo 28 = .ok (.bipush (-4), 2) := by decide +kernel
theorem dX11_allTo_30 : decode cX11_allTo 30 = .ok (.if_icmp .eq 10, 3) := by decide +kernel
theorem dX11_allTo_33 : decode cX11_allTo 33 = .ok (.iconst 1, 1) := by decide +kernel
theorem dX11_allTo_34 : decode cX11_allTo 34 = .ok (.iload 4, 2) := by decide +kernel
theorem dX11_allTo_36 : decode cX11_allTo 36 = .ok (.ishl, 1) := by decide +kernel
theorem dX11_allTo_37 : decode cX11_allTo 37 = .ok (.goto 4, 3) := by decide +kernel
theorem dX11_allTo_40 : decode cX11_allTo 40 = .ok (.iconst 0, 1) := by decide +kernel
theorem dX11_allTo_41 : decode cX11_allTo 41 = .ok (.ior, 1) := by decide +kernel
theorem dX11_allTo_42 : decode cX11_allTo 42 = .ok (.istore_n 3, 1) := by decide +kernel
theorem dX11_allTo_43 : decode cX11_allTo 43 = .ok (.iinc 4 1, 3) := by decide +kernel
theorem dX11_allTo_46 : decode cX11_allTo 46 = .ok (.goto (-41), 3) := by decide +kernel
theorem dX11_allTo_49 : decode cX11_allTo 49 = .ok (.iload_n 3, 1) := by decide +kernel
theorem dX11_allTo_50 : decode cX11_allTo 50 = .ok (.ireturn, 1) := by decide +kernel
theorem dX11_heardOf_0 : decode cX11_heardOf 0 = .ok (.aload_n 0, 1) := by decide +kernel
theorem dX11_heardOf_1 : decode cX11_heardOf 1 = .ok (.iload_n 1, 1) := by decide +kernel
theorem dX11_heardOf_2 : decode cX11_heardOf 2 = .ok (.iload_n 2, 1) := by decide +kernel
theorem dX11_heardOf_3 : decode cX11_heardOf 3 = .ok (.invokevirtual 275, 3) := by decide +kernel
theorem dX11_heardOf_6 : decode cX11_heardOf 6 = .ok (.aload_n 0, 1) := by decide +kernel
theorem dX11_heardOf_7 : decode cX11_heardOf 7 = .ok (.iload_n 2, 1) := by decide +kernel
theorem dX11_heardOf_8 : decode cX11_heardOf 8 = .ok (.iload_n 1, 1) := by decide +kernel
theorem dX11_heardOf_9 : decode cX11_heardOf 9 = .ok (.invokevirtual 282, 3) := by decide +kernel
theorem dX11_heardOf_12 : decode cX11_heardOf 12 = .ok (.ireturn, 1) := by decide +kernel
theorem dX11_heard_0 : decode cX11_heard 0 = .ok (.aload_n 0, 1) := by decide +kernel
theorem dX11_heard_1 : decode cX11_heard 1 = .ok (.iload_n 1, 1) := by decide +kernel
theorem dX11_heard_2 : decode cX11_heard 2 = .ok (.invokevirtual 228, 3) := by decide +kernel
theorem dX11_heard_5 : decode cX11_heard 5 = .ok (.ifCond .eq 19, 3) := by decide +kernel
theorem dX11_heard_8 : decode cX11_heard 8 = .ok (.iload_n 2, 1) := by decide +kernel
theorem dX11_heard_9 : decode cX11_heard 9 = .ok (.invokestatic 231, 3) := by decide +kernel
theorem dX11_heard_12 : decode cX11_heard 12 = .ok (.ifCond .eq 12, 3) := by decide +kernel
theorem dX11_heard_15 : decode cX11_heard 15 = .ok (.aload_n 0, 1) := by decide +kernel
theorem dX11_heard_16 : decode cX11_heard 16 = .ok (.iload_n 1, 1) := by decide +kernel
theorem dX11_heard_17 : decode cX11_heard 17 = .ok (.iload_n 2, 1) := by decide +kernel
theorem dX11_heard_18 : decode cX11_heard 18 = .ok (.invokevirtual 285, 3) := by decide +kernel
theorem dX11_heard_21 : decode cX11_heard 21 = .ok (.goto 4, 3) := by decide +kernel
theorem dX11_heard_24 : decode cX11_heard 24 = .ok (.iconst (-1), 1) := by decide +kernel
theorem dX11_heard_25 : decode cX11_heard 25 = .ok (.ireturn, 1) := by decide +kernel
theorem dX11_answer_0 : decode cX11_answer 0 = .ok (.aload_n 0, 1) := by decide +kernel
theorem dX11_answer_1 : decode cX11_answer 1 = .ok (.iload_n 1, 1) := by decide +kernel
theorem dX11_answer_2 : decode cX11_answer 2 = .ok (.invokevirtual 228, 3) := by decide +kernel
theorem dX11_answer_5 : decode cX11_answer 5 = .ok (.ifCond .eq 10, 3) := by decide +kernel
theorem dX11_answer_8 : decode cX11_answer 8 = .ok (.iload_n 2, 1) := by decide +kernel
theorem dX11_answer_9 : decode cX11_answer 9 = .ok (.invokestatic 231, 3) := by decide +kernel
theorem dX11_answer_12 : decode cX11_answer 12 = .ok (.ifCond .ne 5, 3) := by decide +kernel
theorem dX11_answer_15 : decode cX11_answer 15 = .ok (.iconst (-1), 1) := by decide +kernel
theorem dX11_answer_16 : decode cX11_answer 16 = .ok (.ireturn, 1) := by decide +kernel
theorem dX11_answer_17 : decode cX11_answer 17 = .ok (.aload_n 0, 1) := by decide +kernel
theorem dX11_answer_18 : decode cX11_answer 18 = .ok (.iload_n 1, 1) := by decide +kernel
theorem dX11_answer_19 : decode cX11_answer 19 = .ok (.iload_n 2, 1) := by decide +kernel
theorem dX11_answer_20 : decode cX11_answer 20 = .ok (.invokevirtual 285, 3) := by decide +kernel
theorem dX11_answer_23 : decode cX11_answer 23 = .ok (.istore_n 3, 1) := by decide +kernel
theorem dX11_answer_24 : decode cX11_answer 24 = .ok (.iconst 0, 1) := by decide +kernel
theorem dX11_answer_25 : decode cX11_answer 25 = .ok (.istore 4, 2) := by decide +kernel
theorem dX11_answer_27 : decode cX11_answer 27 = .ok (.iload 4, 2) := by decide +kernel
theorem dX11_answer_29 : decode cX11_answer 29 = .ok (.aload_n 0, 1) := by decide +kernel
theorem dX11_answer_30 : decode cX11_answer 30 = .ok (.getfield 102, 3) := by decide +kernel
theorem dX11_answer_33 : decode cX11_answer 33 = .ok (.if_icmp .ge 38, 3) := by decide +kernel
theorem dX11_answer_36 : decode cX11_answer 36 = .ok (.iload_n 3, 1) := by decide +kernel
theorem dX11_answer_37 : decode cX11_answer 37 = .ok (.iconst 1, 1) := by decide +kernel
theorem dX11_answer_38 : decode cX11_answer 38 = .ok (.iload 4, 2) := by decide +kernel
theorem dX11_answer_40 : decode cX11_answer 40 = .ok (.ishl, 1) := by decide +kernel
theorem dX11_answer_41 : decode cX11_answer 41 = .ok (.if_icmp .ne 24, 3) := by decide +kernel
theorem dX11_answer_44 : decode cX11_answer 44 = .ok (.aload_n 0, 1) := by decide +kernel
theorem dX11_answer_45 : decode cX11_answer 45 = .ok (.iload 4, 2) := by decide +kernel
theorem dX11_answer_47 : decode cX11_answer 47 = .ok (.iload_n 2, 1) := by decide +kernel
theorem dX11_answer_48 : decode cX11_answer 48 = .ok (.invokevirtual 285, 3) := by decide +kernel
theorem dX11_answer_51 : decode cX11_answer 51 = .ok (.iconst 1, 1) := by decide +kernel
theorem dX11_answer_52 : decode cX11_answer 52 = .ok (.iload_n 1, 1) := by decide +kernel
theorem dX11_answer_53 : decode cX11_answer 53 = .ok (.ishl, 1) := by decide +kernel
theorem dX11_answer_54 : decode cX11_answer 54 = .ok (.if_icmp .ne 8, 3) := by decide +kernel
theorem dX11_answer_57 : decode cX11_answer 57 = .ok (.iload 4, 2) := by decide +kernel
theorem dX11_answer_59 : decode cX11_answer 59 = .ok (.goto 5, 3) := by decide +kernel
theorem dX11_answer_62 : decode cX11_answer 62 = .ok (.bipush (-4), 2) := by decide +kernel
theorem dX11_answer_64 : decode cX11_answer 64 = .ok (.ireturn, 1) := by decide +kernel
theorem dX11_answer_65 : decode cX11_answer 65 = .ok (.iinc 4 1, 3) := by decide +kernel
theorem dX11_answer_68 : decode cX11_answer 68 = .ok (.goto (-41), 3) := by decide +kernel
theorem dX11_answer_71 : decode cX11_answer 71 = .ok (.bipush (-4), 2) := by decide +kernel
theorem dX11_answer_73 : decode cX11_answer 73 = .ok (.ireturn, 1) := by decide +kernel
theorem dX11_findHeards_0 : decode cX11_findHeards 0 = .ok (.iconst 0, 1) := by decide +kernel
theorem dX11_findHeards_1 : decode cX11_findHeards 1 = .ok (.istore_n 2, 1) := by decide +kernel
theorem dX11_findHeards_2 : decode cX11_findHeards 2 = .ok (.iload_n 2, 1) := by decide +kernel
theorem dX11_findHeards_3 : decode cX11_findHeards 3 = .ok (.aload_n 0, 1) := by decide +kernel
theorem dX11_findHeards_4 : decode cX11_findHeards 4 = .ok (.getfield 102, 3) := by decide +kernel
theorem dX11_findHeards_7 : decode cX11_findHeards 7 = .ok (.if_icmp .ge 21, 3) := by decide +kernel
theorem dX11_findHeards_10 : decode cX11_findHeards 10 = .ok (.aload_n 0, 1) := by decide +kernel
theorem dX11_findHeards_11 : decode cX11_findHeards 11 = .ok (.getfield 44, 3) := by decide +kernel
theorem dX11_findHeards_14 : decode cX11_findHeards 14 = .ok (.iload_n 2, 1) := by decide +kernel
theorem dX11_findHeards_15 : decode cX11_findHeards 15 = .ok (.aload_n 0, 1) := by decide +kernel
theorem dX11_findHeards_16 : decode cX11_findHeards 16 = .ok (.iload_n 2, 1) := by decide +kernel
theorem dX11_findHeards_17 : decode cX11_findHeards 17 = .ok (.iload_n 1, 1) := by decide +kernel
theorem dX11_findHeards_18 : decode cX11_findHeards 18 = .ok (.invokevirtual 285, 3) := by decide +kernel
theorem dX11_findHeards_21 : decode cX11_findHeards 21 = .ok (.iastore, 1) := by decide +kernel
theorem dX11_findHeards_22 : decode cX11_findHeards 22 = .ok (.iinc 2 1, 3) := by decide +kernel
theorem dX11_findHeards_25 : decode cX11_findHeards 25 = .ok (.goto (-23), 3) := by decide +kernel
theorem dX11_findHeards_28 : decode cX11_findHeards 28 = .ok (.return_, 1) := by decide +kernel
theorem dX11_can_0 : decode cX11_can 0 = .ok (.aload_n 0, 1) := by decide +kernel
theorem dX11_can_1 : decode cX11_can 1 = .ok (.iload_n 1, 1) := by decide +kernel
theorem dX11_can_2 : decode cX11_can 2 = .ok (.invokevirtual 248, 3) := by decide +kernel
theorem dX11_can_5 : decode cX11_can 5 = .ok (.ifCond .eq 23, 3) := by decide +kernel
theorem dX11_can_8 : decode cX11_can 8 = .ok (.aload_n 0, 1) := by decide +kernel
theorem dX11_can_9 : decode cX11_can 9 = .ok (.iload_n 2, 1) := by decide +kernel
theorem dX11_can_10 : decode cX11_can 10 = .ok (.invokevirtual 248, 3) := by decide +kernel
theorem dX11_can_13 : decode cX11_can 13 = .ok (.ifCond .eq 15, 3) := by decide +kernel
theorem dX11_can_16 : decode cX11_can 16 = .ok (.iload_n 1, 1) := by decide +kernel
theorem dX11_can_17 : decode cX11_can 17 = .ok (.iload_n 2, 1) := by decide +kernel
theorem dX11_can_18 : decode cX11_can 18 = .ok (.if_icmp .eq 10, 3) := by decide +kernel
theorem dX11_can_21 : decode cX11_can 21 = .ok (.iload_n 3, 1) := by decide +kernel
theorem dX11_can_22 : decode cX11_can 22 = .ok (.invokestatic 231, 3) := by decide +kernel
theorem dX11_can_25 : decode cX11_can 25 = .ok (.ifCond .ne 5, 3) := by decide +kernel
theorem dX11_can_28 : decode cX11_can 28 = .ok (.iconst (-1), 1) := by decide +kernel
theorem dX11_can_29 : decode cX11_can 29 = .ok (.ireturn, 1) := by decide +kernel
theorem dX11_can_30 : decode cX11_can 30 = .ok (.aload_n 0, 1) := by decide +kernel
theorem dX11_can_31 : decode cX11_can 31 = .ok (.aload_n 0, 1) := by decide +kernel
theorem dX11_can_32 : decode cX11_can 32 = .ok (.getfield 7, 3) := by decide +kernel
theorem dX11_can_35 : decode cX11_can 35 = .ok (.bipush 82, 2) := by decide +kernel
theorem dX11_can_37 : decode cX11_can 37 = .ok (.iload_n 1, 1) := by decide +kernel
theorem dX11_can_38 : decode cX11_can 38 = .ok (.iadd, 1) := by decide +kernel
theorem dX11_can_39 : decode cX11_can 39 = .ok (.iaload, 1) := by decide +kernel
theorem dX11_can_40 : decode cX11_can 40 = .ok (.iload_n 3, 1) := by decide +kernel
theorem dX11_can_41 : decode cX11_can 41 = .ok (.invokevirtual 285, 3) := by decide +kernel
theorem dX11_can_44 : decode cX11_can 44 = .ok (.aload_n 0, 1) := by decide +kernel
theorem dX11_can_45 : decode cX11_can 45 = .ok (.getfield 7, 3) := by decide +kernel
theorem dX11_can_48 : decode cX11_can 48 = .ok (.bipush 82, 2) := by decide +kernel
theorem dX11_can_50 : decode cX11_can 50 = .ok (.iload_n 2, 1) := by decide +kernel
theorem dX11_can_51 : decode cX11_can 51 = .ok (.iadd, 1) := by decide +kernel
theorem dX11_can_52 : decode cX11_can 52 = .ok (.iaload, 1) := by decide +kernel
theorem dX11_can_53 : decode cX11_can 53 = .ok (.ishr, 1) := by decide +kernel
theorem dX11_can_54 : decode cX11_can 54 = .ok (.iconst 1, 1) := by decide +kernel
theorem dX11_can_55 : decode cX11_can 55 = .ok (.iand, 1) := by decide +kernel
theorem dX11_can_56 : decode cX11_can 56 = .ok (.ireturn, 1) := by decide +kernel
theorem dX11_sitsAsNow_0 : decode cX11_sitsAsNow 0 = .ok (.iconst 0, 1) := by decide +kernel
theorem dX11_sitsAsNow_1 : decode cX11_sitsAsNow 1 = .ok (.istore_n 1, 1) := by decide +kernel
theorem dX11_sitsAsNow_2 : decode cX11_sitsAsNow 2 = .ok (.iload_n 1, 1) := by decide +kernel
theorem dX11_sitsAsNow_3 : decode cX11_sitsAsNow 3 = .ok (.bipush 6, 2) := by decide +kernel
theorem dX11_sitsAsNow_5 : decode cX11_sitsAsNow 5 = .ok (.if_icmp .ge 24, 3) := by decide +kernel
theorem dX11_sitsAsNow_8 : decode cX11_sitsAsNow 8 = .ok (.aload_n 0, 1) := by decide +kernel
theorem dX11_sitsAsNow_9 : decode cX11_sitsAsNow 9 = .ok (.getfield 47, 3) := by decide +kernel
theorem dX11_sitsAsNow_12 : decode cX11_sitsAsNow 12 = .ok (.iload_n 1, 1) := by decide +kernel
theorem dX11_sitsAsNow_13 : decode cX11_sitsAsNow 13 = .ok (.aload_n 0, 1) := by decide +kernel
theorem dX11_sitsAsNow_14 : decode cX11_sitsAsNow 14 = .ok (.getfield 7, 3) := by decide +kernel
theorem dX11_sitsAsNow_17 : decode cX11_sitsAsNow 17 = .ok (.bipush 82, 2) := by decide +kernel
theorem dX11_sitsAsNow_19 : decode cX11_sitsAsNow 19 = .ok (.iload_n 1, 1) := by decide +kernel
theorem dX11_sitsAsNow_20 : decode cX11_sitsAsNow 20 = .ok (.iadd, 1) := by decide +kernel
theorem dX11_sitsAsNow_21 : decode cX11_sitsAsNow 21 = .ok (.iaload, 1) := by decide +kernel
theorem dX11_sitsAsNow_22 : decode cX11_sitsAsNow 22 = .ok (.iastore, 1) := by decide +kernel
theorem dX11_sitsAsNow_23 : decode cX11_sitsAsNow 23 = .ok (.iinc 1 1, 3) := by decide +kernel
theorem dX11_sitsAsNow_26 : decode cX11_sitsAsNow 26 = .ok (.goto (-24), 3) := by decide +kernel
theorem dX11_sitsAsNow_29 : decode cX11_sitsAsNow 29 = .ok (.return_, 1) := by decide +kernel
theorem dX11_brokenBy_0 : decode cX11_brokenBy 0 = .ok (.iconst 0, 1) := by decide +kernel
theorem dX11_brokenBy_1 : decode cX11_brokenBy 1 = .ok (.istore_n 1, 1) := by decide +kernel
theorem dX11_brokenBy_2 : decode cX11_brokenBy 2 = .ok (.iconst 0, 1) := by decide +kernel
theorem dX11_brokenBy_3 : decode cX11_brokenBy 3 = .ok (.istore_n 2, 1) := by decide +kernel
theorem dX11_brokenBy_4 : decode cX11_brokenBy 4 = .ok (.iload_n 2, 1) := by decide +kernel
theorem dX11_brokenBy_5 : decode cX11_brokenBy 5 = .ok (.aload_n 0, 1) := by decide +kernel
theorem dX11_brokenBy_6 : decode cX11_brokenBy 6 = .ok (.getfield 112, 3) := by decide +kernel
theorem dX11_brokenBy_9 : decode cX11_brokenBy 9 = .ok (.if_icmp .ge 73, 3) := by decide +kernel
theorem dX11_brokenBy_12 : decode cX11_brokenBy 12 = .ok (.aload_n 0, 1) := by decide +kernel
theorem dX11_brokenBy_13 : decode cX11_brokenBy 13 = .ok (.getfield 44, 3) := by decide +kernel
theorem dX11_brokenBy_16 : decode cX11_brokenBy 16 = .ok (.aload_n 0, 1) := by decide +kernel
theorem dX11_brokenBy_17 : decode cX11_brokenBy 17 = .ok (.getfield 47, 3) := by decide +kernel
theorem dX11_brokenBy_20 : decode cX11_brokenBy 20 = .ok (.aload_n 0, 1) := by decide +kernel
theorem dX11_brokenBy_21 : decode cX11_brokenBy 21 = .ok (.getfield 20, 3) := by decide +kernel
theorem dX11_brokenBy_24 : decode cX11_brokenBy 24 = .ok (.iconst 3, 1) := by decide +kernel
theorem dX11_brokenBy_25 : decode cX11_brokenBy 25 = .ok (.iload_n 2, 1) := by decide +kernel
theorem dX11_brokenBy_26 : decode cX11_brokenBy 26 = .ok (.imul, 1) := by decide +kernel
theorem dX11_brokenBy_27 : decode cX11_brokenBy 27 = .ok (.iaload, 1) := by decide +kernel
theorem dX11_brokenBy_28 : decode cX11_brokenBy 28 = .ok (.iaload, 1) := by decide +kernel
theorem dX11_brokenBy_29 : decode cX11_brokenBy 29 = .ok (.iaload, 1) := by decide +kernel
theorem dX11_brokenBy_30 : decode cX11_brokenBy 30 = .ok (.aload_n 0, 1) := by decide +kernel
theorem dX11_brokenBy_31 : decode cX11_brokenBy 31 = .ok (.getfield 47, 3) := by decide +kernel
theorem dX11_brokenBy_34 : decode cX11_brokenBy 34 = .ok (.aload_n 0, 1) := by decide +kernel
theorem dX11_brokenBy_35 : decode cX11_brokenBy 35 = .ok (.getfield 20, 3) := by decide +kernel
theorem dX11_brokenBy_38 : decode cX11_brokenBy 38 = .ok (.iconst 3, 1) := by decide +kernel
theorem dX11_brokenBy_39 : decode cX11_brokenBy 39 = .ok (.iload_n 2, 1) := by decide +kernel
theorem dX11_brokenBy_40 : decode cX11_brokenBy 40 = .ok (.imul, 1) := by decide +kernel
theorem dX11_brokenBy_41 : decode cX11_brokenBy 41 = .ok (.iconst 1, 1) := by decide +kernel
theorem dX11_brokenBy_42 : decode cX11_brokenBy 42 = .ok (.iadd, 1) := by decide +kernel
theorem dX11_brokenBy_43 : decode cX11_brokenBy 43 = .ok (.iaload, 1) := by decide +kernel
theorem dX11_brokenBy_44 : decode cX11_brokenBy 44 = .ok (.iaload, 1) := by decide +kernel
theorem dX11_brokenBy_45 : decode cX11_brokenBy 45 = .ok (.ishr, 1) := by decide +kernel
theorem dX11_brokenBy_46 : decode cX11_brokenBy 46 = .ok (.iconst 1, 1) := by decide +kernel
theorem dX11_brokenBy_47 : decode cX11_brokenBy 47 = .ok (.iand, 1) := by decide +kernel
theorem dX11_brokenBy_48 : decode cX11_brokenBy 48 = .ok (.istore_n 3, 1) := by decide +kernel
theorem dX11_brokenBy_49 : decode cX11_brokenBy 49 = .ok (.iload_n 1, 1) := by decide +kernel
theorem dX11_brokenBy_50 : decode cX11_brokenBy 50 = .ok (.iload_n 3, 1) := by decide +kernel
theorem dX11_brokenBy_51 : decode cX11_brokenBy 51 = .ok (.aload_n 0, 1) := by decide +kernel
theorem dX11_brokenBy_52 : decode cX11_brokenBy 52 = .ok (.getfield 20, 3) := by decide +kernel
theorem dX11_brokenBy_55 : decode cX11_brokenBy 55 = .ok (.iconst 3, 1) := by decide +kernel
theorem dX11_brokenBy_56 : decode cX11_brokenBy 56 = .ok (.iload_n 2, 1) := by decide +kernel
theorem dX11_brokenBy_57 : decode cX11_brokenBy 57 = .ok (.imul, 1) := by decide +kernel
theorem dX11_brokenBy_58 : decode cX11_brokenBy 58 = .ok (.iconst 2, 1) := by decide +kernel
theorem dX11_brokenBy_59 : decode cX11_brokenBy 59 = .ok (.iadd, 1) := by decide +kernel
theorem dX11_brokenBy_60 : decode cX11_brokenBy 60 = .ok (.iaload, 1) := by decide +kernel
theorem dX11_brokenBy_61 : decode cX11_brokenBy 61 = .ok (.if_icmp .eq 7, 3) := by decide +kernel
theorem dX11_brokenBy_64 : decode cX11_brokenBy 64 = .ok (.iconst 1, 1) := by decide +kernel
theorem dX11_brokenBy_65 : decode cX11_brokenBy 65 = .ok (.goto 4, 3) := by decide +kernel
theorem dX11_brokenBy_68 : decode cX11_brokenBy 68 = .ok (.iconst 0, 1) := by decide +kernel
theorem dX11_brokenBy_69 : decode cX11_brokenBy 69 = .ok (.invokestatic 195, 3) := by decide +kernel
theorem dX11_brokenBy_72 : decode cX11_brokenBy 72 = .ok (.iload_n 2, 1) := by decide +kernel
theorem dX11_brokenBy_73 : decode cX11_brokenBy 73 = .ok (.ishl, 1) := by decide +kernel
theorem dX11_brokenBy_74 : decode cX11_brokenBy 74 = .ok (.ior, 1) := by decide +kernel
theorem dX11_brokenBy_75 : decode cX11_brokenBy 75 = .ok (.istore_n 1, 1) := by decide +kernel
theorem dX11_brokenBy_76 : decode cX11_brokenBy 76 = .ok (.iinc 2 1, 3) := by decide +kernel
theorem dX11_brokenBy_79 : decode cX11_brokenBy 79 = .ok (.goto (-75), 3) := by decide +kernel
theorem dX11_brokenBy_82 : decode cX11_brokenBy 82 = .ok (.iload_n 1, 1) := by decide +kernel
theorem dX11_brokenBy_83 : decode cX11_brokenBy 83 = .ok (.ireturn, 1) := by decide +kernel
theorem dX11_brokenIn_0 : decode cX11_brokenIn 0 = .ok (.aload_n 0, 1) := by decide +kernel
theorem dX11_brokenIn_1 : decode cX11_brokenIn 1 = .ok (.iload_n 1, 1) := by decide +kernel
theorem dX11_brokenIn_2 : decode cX11_brokenIn 2 = .ok (.invokevirtual 288, 3) := by decide +kernel
theorem dX11_brokenIn_5 : decode cX11_brokenIn 5 = .ok (.aload_n 0, 1) := by decide +kernel
theorem dX11_brokenIn_6 : decode cX11_brokenIn 6 = .ok (.invokevirtual 291, 3) := by decide +kernel
theorem dX11_brokenIn_9 : decode cX11_brokenIn 9 = .ok (.aload_n 0, 1) := by decide +kernel
theorem dX11_brokenIn_10 : decode cX11_brokenIn 10 = .ok (.invokevirtual 294, 3) := by decide +kernel
theorem dX11_brokenIn_13 : decode cX11_brokenIn 13 = .ok (.ireturn, 1) := by decide +kernel
theorem dX11_broken_0 : decode cX11_broken 0 = .ok (.iload_n 1, 1) := by decide +kernel
theorem dX11_broken_1 : decode cX11_broken 1 = .ok (.invokestatic 231, 3) := by decide +kernel
theorem dX11_broken_4 : decode cX11_broken 4 = .ok (.ifCond .eq 11, 3) := by decide +kernel
theorem dX11_broken_7 : decode cX11_broken 7 = .ok (.aload_n 0, 1) := by decide +kernel
theorem dX11_broken_8 : decode cX11_broken 8 = .ok (.iload_n 1, 1) := by decide +kernel
theorem dX11_broken_9 : decode cX11_broken 9 = .ok (.invokevirtual 297, 3) := by decide +kernel
theorem dX11_broken_12 : decode cX11_broken 12 = .ok (.goto 4, 3) := by decide +kernel
theorem dX11_broken_15 : decode cX11_broken 15 = .ok (.iconst (-1), 1) := by decide +kernel
theorem dX11_broken_16 : decode cX11_broken 16 = .ok (.ireturn, 1) := by decide +kernel
theorem dX11_areUnlike_0 : decode cX11_areUnlike 0 = .ok (.iconst 0, 1) := by decide +kernel
theorem dX11_areUnlike_1 : decode cX11_areUnlike 1 = .ok (.istore_n 1, 1) := by decide +kernel
theorem dX11_areUnlike_2 : decode cX11_areUnlike 2 = .ok (.iconst 1, 1) := by decide +kernel
theorem dX11_areUnlike_3 : decode cX11_areUnlike 3 = .ok (.istore_n 2, 1) := by decide +kernel
theorem dX11_areUnlike_4 : decode cX11_areUnlike 4 = .ok (.iconst 0, 1) := by decide +kernel
theorem dX11_areUnlike_5 : decode cX11_areUnlike 5 = .ok (.istore_n 3, 1) := by decide +kernel
theorem dX11_areUnlike_6 : decode cX11_areUnlike 6 = .ok (.iload_n 3, 1) := by decide +kernel
theorem dX11_areUnlike_7 : decode cX11_areUnlike 7 = .ok (.aload_n 0, 1) := by decide +kernel
theorem dX11_areUnlike_8 : decode cX11_areUnlike 8 = .ok (.getfield 109, 3) := by decide +kernel
theorem dX11_areUnlike_11 : decode cX11_areUnlike 11 = .ok (.if_icmp .ge 43, 3) := by decide +kernel
theorem dX11_areUnlike_14 : decode cX11_areUnlike 14 = .ok (.iload_n 2, 1) := by decide +kernel
theorem dX11_areUnlike_15 : decode cX11_areUnlike 15 = .ok (.ifCond .eq 20, 3) := by decide +kernel
theorem dX11_areUnlike_18 : decode cX11_areUnlike 18 = .ok (.iload_n 1, 1) := by decide +kernel
theorem dX11_areUnlike_19 : decode cX11_areUnlike 19 = .ok (.aload_n 0, 1) := by decide +kernel
theorem dX11_areUnlike_20 : decode cX11_areUnlike 20 = .ok (.getfield 47, 3) := by decide +kernel
theorem dX11_areUnlike_23 : decode cX11_areUnlike 23 = .ok (.iload_n 3, 1) := by decide +kernel
theorem dX11_areUnlike_24 : decode cX11_areUnlike 24 = .ok (.iaload, 1) := by decide +kernel
theorem dX11_areUnlike_25 : decode cX11_areUnlike 25 = .ok (.ishr, 1) := by decide +kernel
theorem dX11_areUnlike_26 : decode cX11_areUnlike 26 = .ok (.iconst 1, 1) := by decide +kernel
theorem dX11_areUnlike_27 : decode cX11_areUnlike 27 = .ok (.iand, 1) := by decide +kernel
theorem dX11_areUnlike_28 : decode cX11_areUnlike 28 = .ok (.ifCond .ne 7, 3) := by decide +kernel
theorem dX11_areUnlike_31 : decode cX11_areUnlike 31 = .ok (.iconst 1, 1) := by decide +kernel
theorem dX11_areUnlike_32 : decode cX11_areUnlike 32 = .ok (.goto 4, 3) := by decide +kernel
theorem dX11_areUnlike_35 : decode cX11_areUnlike 35 = .ok (.iconst 0, 1) := by decide +kernel
theorem dX11_areUnlike_36 : decode cX11_areUnlike 36 = .ok (.istore_n 2, 1) := by decide +kernel
theorem dX11_areUnlike_37 : decode cX11_areUnlike 37 = .ok (.iload_n 1, 1) := by decide +kernel
theorem dX11_areUnlike_38 : decode cX11_areUnlike 38 = .ok (.iconst 1, 1) := by decide +kernel
theorem dX11_areUnlike_39 : decode cX11_areUnlike 39 = .ok (.aload_n 0, 1) := by decide +kernel
theorem dX11_areUnlike_40 : decode cX11_areUnlike 40 = .ok (.getfield 47, 3) := by decide +kernel
theorem dX11_areUnlike_43 : decode cX11_areUnlike 43 = .ok (.iload_n 3, 1) := by decide +kernel
theorem dX11_areUnlike_44 : decode cX11_areUnlike 44 = .ok (.iaload, 1) := by decide +kernel
theorem dX11_areUnlike_45 : decode cX11_areUnlike 45 = .ok (.ishl, 1) := by decide +kernel
theorem dX11_areUnlike_46 : decode cX11_areUnlike 46 = .ok (.ior, 1) := by decide +kernel
theorem dX11_areUnlike_47 : decode cX11_areUnlike 47 = .ok (.istore_n 1, 1) := by decide +kernel
theorem dX11_areUnlike_48 : decode cX11_areUnlike 48 = .ok (.iinc 3 1, 3) := by decide +kernel
theorem dX11_areUnlike_51 : decode cX11_areUnlike 51 = .ok (.goto (-45), 3) := by decide +kernel
theorem dX11_areUnlike_54 : decode cX11_areUnlike 54 = .ok (.iload_n 2, 1) := by decide +kernel
theorem dX11_areUnlike_55 : decode cX11_areUnlike 55 = .ok (.ireturn, 1) := by decide +kernel
theorem dX11_nextSeats_0 : decode cX11_nextSeats 0 = .ok (.aload_n 0, 1) := by decide +kernel
theorem dX11_nextSeats_1 : decode cX11_nextSeats 1 = .ok (.getfield 109, 3) := by decide +kernel
theorem dX11_nextSeats_4 : decode cX11_nextSeats 4 = .ok (.iconst 1, 1) := by decide +kernel
theorem dX11_nextSeats_5 : decode cX11_nextSeats 5 = .ok (.isub, 1) := by decide +kernel
theorem dX11_nextSeats_6 : decode cX11_nextSeats 6 = .ok (.istore_n 1, 1) := by decide +kernel
theorem dX11_nextSeats_7 : decode cX11_nextSeats 7 = .ok (.iload_n 1, 1) := by decide +kernel
theorem dX11_nextSeats_8 : decode cX11_nextSeats 8 = .ok (.ifCond .lt 31, 3) := by decide +kernel
theorem dX11_nextSeats_11 : decode cX11_nextSeats 11 = .ok (.aload_n 0, 1) := by decide +kernel
theorem dX11_nextSeats_12 : decode cX11_nextSeats 12 = .ok (.getfield 47, 3) := by decide +kernel
theorem dX11_nextSeats_15 : decode cX11_nextSeats 15 = .ok (.iload_n 1, 1) := by decide +kernel
theorem dX11_nextSeats_16 : decode cX11_nextSeats 16 = .ok (.iaload, 1) := by decide +kernel
theorem dX11_nextSeats_17 : decode cX11_nextSeats 17 = .ok (.aload_n 0, 1) := by decide +kernel
theorem dX11_nextSeats_18 : decode cX11_nextSeats 18 = .ok (.getfield 102, 3) := by decide +kernel
theorem dX11_nextSeats_21 : decode cX11_nextSeats 21 = .ok (.iconst 1, 1) := by decide +kernel
theorem dX11_nextSeats_22 : decode cX11_nextSeats 22 = .ok (.isub, 1) := by decide +kernel
theorem dX11_nextSeats_23 : decode cX11_nextSeats 23 = .ok (.if_icmp .ne 16, 3) := by decide +kernel
theorem dX11_nextSeats_26 : decode cX11_nextSeats 26 = .ok (.aload_n 0, 1) := by decide +kernel
theorem dX11_nextSeats_27 : decode cX11_nextSeats 27 = .ok (.getfield 47, 3) := by decide +kernel
theorem dX11_nextSeats_30 : decode cX11_nextSeats 30 = .ok (.iload_n 1, 1) := by decide +kernel
theorem dX11_nextSeats_31 : decode cX11_nextSeats 31 = .ok (.iconst 0, 1) := by decide +kernel
theorem dX11_nextSeats_32 : decode cX11_nextSeats 32 = .ok (.iastore, 1) := by decide +kernel
theorem dX11_nextSeats_33 : decode cX11_nextSeats 33 = .ok (.iinc 1 (-1), 3) := by decide +kernel
theorem dX11_nextSeats_36 : decode cX11_nextSeats 36 = .ok (.goto (-29), 3) := by decide +kernel
theorem dX11_nextSeats_39 : decode cX11_nextSeats 39 = .ok (.iload_n 1, 1) := by decide +kernel
theorem dX11_nextSeats_40 : decode cX11_nextSeats 40 = .ok (.ifCond .lt 13, 3) := by decide +kernel
theorem dX11_nextSeats_43 : decode cX11_nextSeats 43 = .ok (.aload_n 0, 1) := by decide +kernel
theorem dX11_nextSeats_44 : decode cX11_nextSeats 44 = .ok (.getfield 47, 3) := by decide +kernel
theorem dX11_nextSeats_47 : decode cX11_nextSeats 47 = .ok (.iload_n 1, 1) := by decide +kernel
theorem dX11_nextSeats_48 : decode cX11_nextSeats 48 = .ok (.dup2, 1) := by decide +kernel
theorem dX11_nextSeats_49 : decode cX11_nextSeats 49 = .ok (.iaload, 1) := by decide +kernel
theorem dX11_nextSeats_50 : decode cX11_nextSeats 50 = .ok (.iconst 1, 1) := by decide +kernel
theorem dX11_nextSeats_51 : decode cX11_nextSeats 51 = .ok (.iadd, 1) := by decide +kernel
theorem dX11_nextSeats_52 : decode cX11_nextSeats 52 = .ok (.iastore, 1) := by decide +kernel
theorem dX11_nextSeats_53 : decode cX11_nextSeats 53 = .ok (.iload_n 1, 1) := by decide +kernel
theorem dX11_nextSeats_54 : decode cX11_nextSeats 54 = .ok (.ifCond .lt 7, 3) := by decide +kernel
theorem dX11_nextSeats_57 : decode cX11_nextSeats 57 = .ok (.iconst 1, 1) := by decide +kernel
theorem dX11_nextSeats_58 : decode cX11_nextSeats 58 = .ok (.goto 4, 3) := by decide +kernel
theorem dX11_nextSeats_61 : decode cX11_nextSeats 61 = .ok (.iconst 0, 1) := by decide +kernel
theorem dX11_nextSeats_62 : decode cX11_nextSeats 62 = .ok (.ireturn, 1) := by decide +kernel
theorem dX11_findSeating_0 : decode cX11_findSeating 0 = .ok (.aload_n 0, 1) := by decide +kernel
theorem dX11_findSeating_1 : decode cX11_findSeating 1 = .ok (.iload_n 1, 1) := by decide +kernel
theorem dX11_findSeating_2 : decode cX11_findSeating 2 = .ok (.invokevirtual 288, 3) := by decide +kernel
theorem dX11_findSeating_5 : decode cX11_findSeating 5 = .ok (.aload_n 0, 1) := by decide +kernel
theorem dX11_findSeating_6 : decode cX11_findSeating 6 = .ok (.bipush (-4), 2) := by decide +kernel
theorem dX11_findSeating_8 : decode cX11_findSeating 8 = .ok (.putfield 300, 3) := by decide +kernel
theorem dX11_findSeating_11 : decode cX11_findSeating 11 = .ok (.aload_n 0, 1) := by decide +kernel
theorem dX11_findSeating_12 : decode cX11_findSeating 12 = .ok (.iconst 0, 1) := by decide +kernel
theorem dX11_findSeating_13 : decode cX11_findSeating 13 = .ok (.putfield 303, 3) := by decide +kernel
theorem dX11_findSeating_16 : decode cX11_findSeating 16 = .ok (.iconst 0, 1) := by decide +kernel
theorem dX11_findSeating_17 : decode cX11_findSeating 17 = .ok (.istore_n 2, 1) := by decide +kernel
theorem dX11_findSeating_18 : decode cX11_findSeating 18 = .ok (.iload_n 2, 1) := by decide +kernel
theorem dX11_findSeating_19 : decode cX11_findSeating 19 = .ok (.bipush 6, 2) := by decide +kernel
theorem dX11_findSeating_21 : decode cX11_findSeating 21 = .ok (.if_icmp .ge 16, 3) := by decide +kernel
theorem dX11_findSeating_24 : decode cX11_findSeating 24 = .ok (.aload_n 0, 1) := by decide +kernel
theorem dX11_findSeating_25 : decode cX11_findSeating 25 = .ok (.getfield 47, 3) := by decide +kernel
theorem dX11_findSeating_28 : decode cX11_findSeating 28 = .ok (.iload_n 2, 1) := by decide +kernel
theorem dX11_findSeating_29 : decode cX11_findSeating 29 = .ok (.iconst 0, 1) := by decide +kernel
theorem dX11_findSeating_30 : decode cX11_findSeating 30 = .ok (.iastore, 1) := by decide +kernel
theorem dX11_findSeating_31 : decode cX11_findSeating 31 = .ok (.iinc 2 1, 3) := by decide +kernel
theorem dX11_findSeating_34 : decode cX11_findSeating 34 = .ok (.goto (-16), 3) := by decide +kernel
theorem dX11_findSeating_37 : decode cX11_findSeating 37 = .ok (.iconst 1, 1) := by decide +kernel
theorem dX11_findSeating_38 : decode cX11_findSeating 38 = .ok (.istore_n 2, 1) := by decide +kernel
theorem dX11_findSeating_39 : decode cX11_findSeating 39 = .ok (.iload_n 2, 1) := by decide +kernel
theorem dX11_findSeating_40 : decode cX11_findSeating 40 = .ok (.ifCond .eq 108, 3) := by decide +kernel
theorem dX11_findSeating_43 : decode cX11_findSeating 43 = .ok (.aload_n 0, 1) := by decide +kernel
theorem dX11_findSeating_44 : decode cX11_findSeating 44 = .ok (.invokevirtual 306, 3) := by decide +kernel
theorem dX11_findSeating_47 : decode cX11_findSeating 47 = .ok (.ifCond .eq 93, 3) := by decide +kernel
theorem dX11_findSeating_50 : decode cX11_findSeating 50 = .ok (.aload_n 0, 1) := by decide +kernel
theorem dX11_findSeating_51 : decode cX11_findSeating 51 = .ok (.invokevirtual 294, 3) := by decide +kernel
theorem dX11_findSeating_54 : decode cX11_findSeating 54 = .ok (.invokestatic 309, 3) := by decide +kernel
theorem dX11_findSeating_57 : decode cX11_findSeating 57 = .ok (.istore_n 3, 1) := by decide +kernel
theorem dX11_findSeating_58 : decode cX11_findSeating 58 = .ok (.aload_n 0, 1) := by decide +kernel
theorem dX11_findSeating_59 : decode cX11_findSeating 59 = .ok (.getfield 300, 3) := by decide +kernel
theorem dX11_findSeating_62 : decode cX11_findSeating 62 = .ok (.bipush (-4), 2) := by decide +kernel
theorem dX11_findSeating_64 : decode cX11_findSeating 64 = .ok (.if_icmp .eq 11, 3) := by decide +kernel
theorem dX11_findSeating_67 : decode cX11_findSeating 67 = .ok (.iload_n 3, 1) := by decide +kernel
theorem dX11_findSeating_68 : decode cX11_findSeating 68 = .ok (.aload_n 0, 1) := by decide +kernel
theorem dX11_findSeating_69 : decode cX11_findSeating 69 = .ok (.getfield 300, 3) := by decide +kernel
theorem dX11_findSeating_72 : decode cX11_findSeating 72 = .ok (.if_icmp .ge 43, 3) := by decide +kernel
theorem dX11_findSeating_75 : decode cX11_findSeating 75 = .ok (.aload_n 0, 1) := by decide +kernel
theorem dX11_findSeating_76 : decode cX11_findSeating 76 = .ok (.iload_n 3, 1) := by decide +kernel
theorem dX11_findSeating_77 : decode cX11_findSeating 77 = .ok (.putfield 300, 3) := by decide +kernel
theorem dX11_findSeating_80 : decode cX11_findSeating 80 = .ok (.aload_n 0, 1) := by decide +kernel
theorem dX11_findSeating_81 : decode cX11_findSeating 81 = .ok (.iconst 0, 1) := by decide +kernel
theorem dX11_findSeating_82 : decode cX11_findSeating 82 = .ok (.putfield 303, 3) := by decide +kernel
theorem dX11_findSeating_85 : decode cX11_findSeating 85 = .ok (.iconst 0, 1) := by decide +kernel
theorem dX11_findSeating_86 : decode cX11_findSeating 86 = .ok (.istore 4, 2) := by decide +kernel
theorem dX11_findSeating_88 : decode cX11_findSeating 88 = .ok (.iload 4, 2) := by decide +kernel
theorem dX11_findSeating_90 : decode cX11_findSeating 90 = .ok (.bipush 6, 2) := by decide +kernel
theorem dX11_findSeating_92 : decode cX11_findSeating 92 = .ok (.if_icmp .ge 23, 3) := by decide +kernel
theorem dX11_findSeating_95 : decode cX11_findSeating 95 = .ok (.aload_n 0, 1) := by decide +kernel
theorem dX11_findSeating_96 : decode cX11_findSeating 96 = .ok (.getfield 50, 3) := by decide +kernel
theorem dX11_findSeating_99 : decode cX11_findSeating 99 = .ok (.iload 4, 2) := by decide +kernel
theorem dX11_findSeating_101 : decode cX11_findSeating 101 = .ok (.aload_n 0, 1) := by decide +kernel
theorem dX11_findSeating_102 : decode cX11_findSeating 102 = .ok (.getfield 47, 3) := by decide +kernel
theorem dX11_findSeating_105 : decode cX11_findSeating 105 = .ok (.iload 4, 2) := by decide +kernel
theorem dX11_findSeating_107 : decode cX11_findSeating 107 = .ok (.iaload, 1) := by decide +kernel
theorem dX11_findSeating_108 : decode cX11_findSeating 108 = .ok (.iastore, 1) := by decide +kernel
theorem dX11_findSeating_109 : decode cX11_findSeating 109 = .ok (.iinc 4 1, 3) := by decide +kernel
theorem dX11_findSeating_112 : decode cX11_findSeating 112 = .ok (.goto (-24), 3) := by decide +kernel
theorem dX11_findSeating_115 : decode cX11_findSeating 115 = .ok (.aload_n 0, 1) := by decide +kernel
theorem dX11_findSeating_116 : decode cX11_findSeating 116 = .ok (.dup, 1) := by decide +kernel
theorem dX11_findSeating_117 : decode cX11_findSeating 117 = .ok (.getfield 303, 3) := by decide +kernel
theorem dX11_findSeating_120 : decode cX11_findSeating 120 = .ok (.iload_n 3, 1) := by decide +kernel
theorem dX11_findSeating_121 : decode cX11_findSeating 121 = .ok (.aload_n 0, 1) := by decide +kernel
theorem dX11_findSeating_122 : decode cX11_findSeating 122 = .ok (.getfield 300, 3) := by decide +kernel
theorem dX11_findSeating_125 : decode cX11_findSeating 125 = .ok (.if_icmp .ne 7, 3) := by decide +kernel
theorem dX11_findSeating_128 : decode cX11_findSeating 128 = .ok (.iconst 1, 1) := by decide +kernel
theorem dX11_findSeating_129 : decode cX11_findSeating 129 = .ok (.goto 4, 3) := by decide +kernel
theorem dX11_findSeating_132 : decode cX11_findSeating 132 = .ok (.iconst 0, 1) := by decide +kernel
theorem dX11_findSeating_133 : decode cX11_findSeating 133 = .ok (.invokestatic 195, 3) := by decide +kernel
theorem dX11_findSeating_136 : decode cX11_findSeating 136 = .ok (.iadd, 1) := by decide +kernel
theorem dX11_findSeating_137 : decode cX11_findSeating 137 = .ok (.putfield 303, 3) := by decide +kernel
theorem dX11_findSeating_140 : decode cX11_findSeating 140 = .ok (.aload_n 0, 1) := by decide +kernel
theorem dX11_findSeating_141 : decode cX11_findSeating 141 = .ok (.invokevirtual 312, 3) := by decide +kernel
theorem dX11_findSeating_144 : decode cX11_findSeating 144 = .ok (.istore_n 2, 1) := by decide +kernel
theorem dX11_findSeating_145 : decode cX11_findSeating 145 = .ok (.goto (-106), 3) := by decide +kernel
theorem dX11_findSeating_148 : decode cX11_findSeating 148 = .ok (.return_, 1) := by decide +kernel
theorem dX11_seating_0 : decode cX11_seating 0 = .ok (.iload_n 1, 1) := by decide +kernel
theorem dX11_seating_1 : decode cX11_seating 1 = .ok (.invokestatic 231, 3) := by decide +kernel
theorem dX11_seating_4 : decode cX11_seating 4 = .ok (.ifCond .eq 24, 3) := by decide +kernel
theorem dX11_seating_7 : decode cX11_seating 7 = .ok (.iload_n 2, 1) := by decide +kernel
theorem dX11_seating_8 : decode cX11_seating 8 = .ok (.i2l, 1) := by decide +kernel
theorem dX11_seating_9 : decode cX11_seating 9 = .ok (.lconst 0, 1) := by decide +kernel
theorem dX11_seating_10 : decode cX11_seating 10 = .ok (.lconst 1, 1) := by decide +kernel
theorem dX11_seating_11 : decode cX11_seating 11 = .ok (.invokestatic 120, 3) := by decide +kernel
theorem dX11_seating_14 : decode cX11_seating 14 = .ok (.ifCond .ne 16, 3) := by decide +kernel
theorem dX11_seating_17 : decode cX11_seating 17 = .ok (.aload_n 0, 1) := by decide +kernel
theorem dX11_seating_18 : decode cX11_seating 18 = .ok (.iload_n 2, 1) := by decide +kernel
theorem dX11_seating_19 : decode cX11_seating 19 = .ok (.bipush 10, 2) := by decide +kernel
theorem dX11_seating_21 : decode cX11_seating 21 = .ok (.isub, 1) := by decide +kernel
theorem dX11_seating_22 : decode cX11_seating 22 = .ok (.invokevirtual 248, 3) := by decide +kernel
theorem dX11_seating_25 : decode cX11_seating 25 = .ok (.ifCond .ne 5, 3) := by decide +kernel
theorem dX11_seating_28 : decode cX11_seating 28 = .ok (.iconst (-1), 1) := by decide +kernel
theorem dX11_seating_29 : decode cX11_seating 29 = .ok (.ireturn, 1) := by decide +kernel
theorem dX11_seating_30 : decode cX11_seating 30 = .ok (.aload_n 0, 1) := by decide +kernel
theorem dX11_seating_31 : decode cX11_seating 31 = .ok (.iload_n 1, 1) := by decide +kernel
theorem dX11_seating_32 : decode cX11_seating 32 = .ok (.invokevirtual 315, 3) := by decide +kernel
theorem dX11_seating_35 : decode cX11_seating 35 = .ok (.iload_n 2, 1) := by decide +kernel
theorem dX11_seating_36 : decode cX11_seating 36 = .ok (.ifCond .ne 10, 3) := by decide +kernel
theorem dX11_seating_39 : decode cX11_seating 39 = .ok (.aload_n 0, 1) := by decide +kernel
theorem dX11_seating_40 : decode cX11_seating 40 = .ok (.getfield 300, 3) := by decide +kernel
theorem dX11_seating_43 : decode cX11_seating 43 = .ok (.goto 24, 3) := by decide +kernel
theorem dX11_seating_46 : decode cX11_seating 46 = .ok (.iload_n 2, 1) := by decide +kernel
theorem dX11_seating_47 : decode cX11_seating 47 = .ok (.iconst 1, 1) := by decide +kernel
theorem dX11_seating_48 : decode cX11_seating 48 = .ok (.if_icmp .ne 10, 3) := by decide +kernel
theorem dX11_seating_51 : decode cX11_seating 51 = .ok (.aload_n 0, 1) := by decide +kernel
theorem dX11_seating_52 : decode cX11_seating 52 = .ok (.getfield 303, 3) := by decide +kernel
theorem dX11_seating_55 : decode cX11_seating 55 = .ok (.goto 12, 3) := by decide +kernel
theorem dX11_seating_58 : decode cX11_seating 58 = .ok (.aload_n 0, 1) := by decide +kernel
theorem dX11_seating_59 : decode cX11_seating 59 = .ok (.getfield 50, 3) := by decide +kernel
theorem dX11_seating_62 : decode cX11_seating 62 = .ok (.iload_n 2, 1) := by decide +kernel
theorem dX11_seating_63 : decode cX11_seating 63 = .ok (.bipush 10, 2) := by decide +kernel
theorem dX11_seating_65 : decode cX11_seating 65 = .ok (.isub, 1) := by decide +kernel
theorem dX11_seating_66 : decode cX11_seating 66 = .ok (.iaload, 1) := by decide +kernel
theorem dX11_seating_67 : decode cX11_seating 67 = .ok (.ireturn, 1) := by decide +kernel
theorem dX11_hasBench_0 : decode cX11_hasBench 0 = .ok (.iconst 0, 1) := by decide +kernel
theorem dX11_hasBench_1 : decode cX11_hasBench 1 = .ok (.istore_n 3, 1) := by decide +kernel
theorem dX11_hasBench_2 : decode cX11_hasBench 2 = .ok (.iconst 0, 1) := by decide +kernel
theorem dX11_hasBench_3 : decode cX11_hasBench 3 = .ok (.istore 4, 2) := by decide +kernel
theorem dX11_hasBench_5 : decode cX11_hasBench 5 = .ok (.iload 4, 2) := by decide +kernel
theorem dX11_hasBench_7 : decode cX11_hasBench 7 = .ok (.aload_n 0, 1) := by decide +kernel
theorem dX11_hasBench_8 : decode cX11_hasBench 8 = .ok (.getfield 102, 3) := by decide +kernel
theorem dX11_hasBench_11 : decode cX11_hasBench 11 = .ok (.if_icmp .ge 30, 3) := by decide +kernel
theorem dX11_hasBench_14 : decode cX11_hasBench 14 = .ok (.iload_n 3, 1) := by decide +kernel
theorem dX11_hasBench_15 : decode cX11_hasBench 15 = .ok (.ifCond .ne 14, 3) := by decide +kernel
theorem dX11_hasBench_18 : decode cX11_hasBench 18 = .ok (.aload_n 0, 1) := by decide +kernel
theorem dX11_hasBench_19 : decode cX11_hasBench 19 = .ok (.iload 4, 2) := by decide +kernel
theorem dX11_hasBench_21 : decode cX11_hasBench 21 = .ok (.iload_n 2, 1) := by decide +kernel
theorem dX11_hasBench_22 : decode cX11_hasBench 22 = .ok (.invokevirtual 234, 3) := by decide +kernel
theorem dX11_hasBench_25 : decode cX11_hasBench 25 = .ok (.iload_n 1, 1) := by decide +kernel
theorem dX11_hasBench_26 : decode cX11_hasBench 26 = .ok (.if_icmp .ne 7, 3) := by decide +kernel
theorem dX11_hasBench_29 : decode cX11_hasBench 29 = .ok (.iconst 1, 1) := by decide +kernel
theorem dX11_hasBench_30 : decode cX11_hasBench 30 = .ok (.goto 4, 3) := by decide +kernel
theorem dX11_hasBench_33 : decode cX11_hasBench 33 = .ok (.iconst 0, 1) := by decide +kernel
theorem dX11_hasBench_34 : decode cX11_hasBench 34 = .ok (.istore_n 3, 1) := by decide +kernel
theorem dX11_hasBench_35 : decode cX11_hasBench 35 = .ok (.iinc 4 1, 3) := by decide +kernel
theorem dX11_hasBench_38 : decode cX11_hasBench 38 = .ok (.goto (-33), 3) := by decide +kernel
theorem dX11_hasBench_41 : decode cX11_hasBench 41 = .ok (.iload_n 3, 1) := by decide +kernel
theorem dX11_hasBench_42 : decode cX11_hasBench 42 = .ok (.ireturn, 1) := by decide +kernel
theorem dX11_findBetter_0 : decode cX11_findBetter 0 = .ok (.aload_n 0, 1) := by decide +kernel
theorem dX11_findBetter_1 : decode cX11_findBetter 1 = .ok (.aload_n 0, 1) := by decide +kernel
theorem dX11_findBetter_2 : decode cX11_findBetter 2 = .ok (.iload_n 1, 1) := by decide +kernel
theorem dX11_findBetter_3 : decode cX11_findBetter 3 = .ok (.invokevirtual 297, 3) := by decide +kernel
theorem dX11_findBetter_6 : decode cX11_findBetter 6 = .ok (.invokestatic 309, 3) := by decide +kernel
theorem dX11_findBetter_9 : decode cX11_findBetter 9 = .ok (.putfield 318, 3) := by decide +kernel
theorem dX11_findBetter_12 : decode cX11_findBetter 12 = .ok (.aload_n 0, 1) := by decide +kernel
theorem dX11_findBetter_13 : decode cX11_findBetter 13 = .ok (.bipush (-4), 2) := by decide +kernel
theorem dX11_findBetter_15 : decode cX11_findBetter 15 = .ok (.putfield 321, 3) := by decide +kernel
theorem dX11_findBetter_18 : decode cX11_findBetter 18 = .ok (.iconst 0, 1) := by decide +kernel
theorem dX11_findBetter_19 : decode cX11_findBetter 19 = .ok (.istore_n 3, 1) := by decide +kernel
theorem dX11_findBetter_20 : decode cX11_findBetter 20 = .ok (.iload_n 3, 1) := by decide +kernel
theorem dX11_findBetter_21 : decode cX11_findBetter 21 = .ok (.bipush 81, 2) := by decide +kernel
theorem dX11_findBetter_23 : decode cX11_findBetter 23 = .ok (.if_icmp .ge 135, 3) := by decide +kernel
theorem dX11_findBetter_26 : decode cX11_findBetter 26 = .ok (.aload_n 0, 1) := by decide +kernel
theorem dX11_findBetter_27 : decode cX11_findBetter 27 = .ok (.iload_n 3, 1) := by decide +kernel
theorem dX11_findBetter_28 : decode cX11_findBetter 28 = .ok (.invokevirtual 219, 3) := by decide +kernel
theorem dX11_findBetter_31 : decode cX11_findBetter 31 = .ok (.ifCond .eq 121, 3) := by decide +kernel
theorem dX11_findBetter_34 : decode cX11_findBetter 34 = .ok (.iload_n 2, 1) := by decide +kernel
theorem dX11_findBetter_35 : decode cX11_findBetter 35 = .ok (.ifCond .eq 24, 3) := by decide +kernel
theorem dX11_findBetter_38 : decode cX11_findBetter 38 = .ok (.aload_n 0, 1) := by decide +kernel
theorem dX11_findBetter_39 : decode cX11_findBetter 39 = .ok (.getfield 7, 3) := by decide +kernel
theorem dX11_findBetter_42 : decode cX11_findBetter 42 = .ok (.iload_n 3, 1) := by decide +kernel
theorem dX11_findBetter_43 : decode cX11_findBetter 43 = .ok (.iaload, 1) := by decide +kernel
theorem dX11_findBetter_44 : decode cX11_findBetter 44 = .ok (.ifCond .ne 108, 3) := by decide +kernel
theorem dX11_findBetter_47 : decode cX11_findBetter 47 = .ok (.aload_n 0, 1) := by decide +kernel
theorem dX11_findBetter_48 : decode cX11_findBetter 48 = .ok (.iload_n 3, 1) := by decide +kernel
theorem dX11_findBetter_49 : decode cX11_findBetter 49 = .ok (.iload_n 1, 1) := by decide +kernel
theorem dX11_findBetter_50 : decode cX11_findBetter 50 = .ok (.invokevirtual 324, 3) := by decide +kernel
theorem dX11_findBetter_53 : decode cX11_findBetter 53 = .ok (.ifCond .ne 99, 3) := by decide +kernel
theorem dX11_findBetter_56 : decode cX11_findBetter 56 = .ok (.goto 12, 3) := by decide +kernel
theorem dX11_findBetter_59 : decode cX11_findBetter 59 = .ok (.aload_n 0, 1) := by decide +kernel
theorem dX11_findBetter_60 : decode cX11_findBetter 60 = .ok (.getfield 7, 3) := by decide +kernel
theorem dX11_findBetter_63 : decode cX11_findBetter 63 = .ok (.iload_n 3, 1) := by decide +kernel
theorem dX11_findBetter_64 : decode cX11_findBetter 64 = .ok (.iaload, 1) := by decide +kernel
theorem dX11_findBetter_65 : decode cX11_findBetter 65 = .ok (.ifCond .le 87, 3) := by decide +kernel
theorem dX11_findBetter_68 : decode cX11_findBetter 68 = .ok (.aload_n 0, 1) := by decide +kernel
theorem dX11_findBetter_69 : decode cX11_findBetter 69 = .ok (.getfield 7, 3) := by decide +kernel
theorem dX11_findBetter_72 : decode cX11_findBetter 72 = .ok (.iload_n 3, 1) := by decide +kernel
theorem dX11_findBetter_73 : decode cX11_findBetter 73 = .ok (.iaload, 1) := by decide +kernel
theorem dX11_findBetter_74 : decode cX11_findBetter 74 = .ok (.istore 4, 2) := by decide +kernel
theorem dX11_findBetter_76 : decode cX11_findBetter 76 = .ok (.aload_n 0, 1) := by decide +kernel
theorem dX11_findBetter_77 : decode cX11_findBetter 77 = .ok (.getfield 7, 3) := by decide +kernel
theorem dX11_findBetter_80 : decode cX11_findBetter 80 = .ok (.iload_n 3, 1) := by decide +kernel
theorem dX11_findBetter_81 : decode cX11_findBetter 81 = .ok (.iload_n 2, 1) := by decide +kernel
theorem dX11_findBetter_82 : decode cX11_findBetter 82 = .ok (.ifCond .eq 7, 3) := by decide +kernel
theorem dX11_findBetter_85 : decode cX11_findBetter 85 = .ok (.iconst 2, 1) := by decide +kernel
theorem dX11_findBetter_86 : decode cX11_findBetter 86 = .ok (.goto 4, 3) := by decide +kernel
theorem dX11_findBetter_89 : decode cX11_findBetter 89 = .ok (.iconst 0, 1) := by decide +kernel
theorem dX11_findBetter_90 : decode cX11_findBetter 90 = .ok (.iastore, 1) := by decide +kernel
theorem dX11_findBetter_91 : decode cX11_findBetter 91 = .ok (.aload_n 0, 1) := by decide +kernel
theorem dX11_findBetter_92 : decode cX11_findBetter 92 = .ok (.iload_n 1, 1) := by decide +kernel
theorem dX11_findBetter_93 : decode cX11_findBetter 93 = .ok (.invokevirtual 297, 3) := by decide +kernel
theorem dX11_findBetter_96 : decode cX11_findBetter 96 = .ok (.invokestatic 309, 3) := by decide +kernel
theorem dX11_findBetter_99 : decode cX11_findBetter 99 = .ok (.istore 5, 2) := by decide +kernel
theorem dX11_findBetter_101 : decode cX11_findBetter 101 = .ok (.aload_n 0, 1) := by decide +kernel
theorem dX11_findBetter_102 : decode cX11_findBetter 102 = .ok (.getfield 7, 3) := by decide +kernel
theorem dX11_findBetter_105 : decode cX11_findBetter 105 = .ok (.iload_n 3, 1) := by decide +kernel
theorem dX11_findBetter_106 : decode cX11_findBetter 106 = .ok (.iload 4, 2) := by decide +kernel
theorem dX11_findBetter_108 : decode cX11_findBetter 108 = .ok (.iastore, 1) := by decide +kernel
theorem dX11_findBetter_109 : decode cX11_findBetter 109 = .ok (.aload_n 0, 1) := by decide +kernel
theorem dX11_findBetter_110 : decode cX11_findBetter 110 = .ok (.iload 5, 2) := by decide +kernel
theorem dX11_findBetter_112 : decode cX11_findBetter 112 = .ok (.aload_n 0, 1) := by decide +kernel
theorem dX11_findBetter_113 : decode cX11_findBetter 113 = .ok (.getfield 318, 3) := by decide +kernel
theorem dX11_findBetter_116 : decode cX11_findBetter 116 = .ok (.if_icmp .ge 7, 3) := by decide +kernel
theorem dX11_findBetter_119 : decode cX11_findBetter 119 = .ok (.iload_n 3, 1) := by decide +kernel
theorem dX11_findBetter_120 : decode cX11_findBetter 120 = .ok (.goto 7, 3) := by decide +kernel
theorem dX11_findBetter_123 : decode cX11_findBetter 123 = .ok (.aload_n 0, 1) := by decide +kernel
theorem dX11_findBetter_124 : decode cX11_findBetter 124 = .ok (.getfield 321, 3) := by decide +kernel
theorem dX11_findBetter_127 : decode cX11_findBetter 127 = .ok (.putfield 321, 3) := by decide +kernel
theorem dX11_findBetter_130 : decode cX11_findBetter 130 = .ok (.aload_n 0, 1) := by decide +kernel
theorem dX11_findBetter_131 : decode cX11_findBetter 131 = .ok (.iload 5, 2) := by decide +kernel
theorem dX11_findBetter_133 : decode cX11_findBetter 133 = .ok (.aload_n 0, 1) := by decide +kernel
theorem dX11_findBetter_134 : decode cX11_findBetter 134 = .ok (.getfield 318, 3) := by decide +kernel
theorem dX11_findBetter_137 : decode cX11_findBetter 137 = .ok (.if_icmp .ge 8, 3) := by decide +kernel
theorem dX11_findBetter_140 : decode cX11_findBetter 140 = .ok (.iload 5, 2) := by decide +kernel
theorem dX11_findBetter_142 : decode cX11_findBetter 142 = .ok (.goto 7, 3) := by decide +kernel
theorem dX11_findBetter_145 : decode cX11_findBetter 145 = .ok (.aload_n 0, 1) := by decide +kernel
theorem dX11_findBetter_146 : decode cX11_findBetter 146 = .ok (.getfield 318, 3) := by decide +kernel
theorem dX11_findBetter_149 : decode cX11_findBetter 149 = .ok (.putfield 318, 3) := by decide +kernel
theorem dX11_findBetter_152 : decode cX11_findBetter 152 = .ok (.iinc 3 1, 3) := by decide +kernel
theorem dX11_findBetter_155 : decode cX11_findBetter 155 = .ok (.goto (-135), 3) := by decide +kernel
theorem dX11_findBetter_158 : decode cX11_findBetter 158 = .ok (.return_, 1) := by decide +kernel
theorem dX11_curtain_0 : decode cX11_curtain 0 = .ok (.iload_n 1, 1) := by decide +kernel
theorem dX11_curtain_1 : decode cX11_curtain 1 = .ok (.invokestatic 231, 3) := by decide +kernel
theorem dX11_curtain_4 : decode cX11_curtain 4 = .ok (.ifCond .eq 13, 3) := by decide +kernel
theorem dX11_curtain_7 : decode cX11_curtain 7 = .ok (.iload_n 2, 1) := by decide +kernel
theorem dX11_curtain_8 : decode cX11_curtain 8 = .ok (.i2l, 1) := by decide +kernel
theorem dX11_curtain_9 : decode cX11_curtain 9 = .ok (.lconst 0, 1) := by decide +kernel
theorem dX11_curtain_10 : decode cX11_curtain 10 = .ok (.lconst 1, 1) := by decide +kernel
theorem dX11_curtain_11 : decode cX11_curtain 11 = .ok (.invokestatic 120, 3) := by decide +kernel
theorem dX11_curtain_14 : decode cX11_curtain 14 = .ok (.ifCond .ne 5, 3) := by decide +kernel
theorem dX11_curtain_17 : decode cX11_curtain 17 = .ok (.iconst (-1), 1) := by decide +kernel
theorem dX11_curtain_18 : decode cX11_curtain 18 = .ok (.ireturn, 1) := by decide +kernel
theorem dX11_curtain_19 : decode cX11_curtain 19 = .ok (.aload_n 0, 1) := by decide +kernel
theorem dX11_curtain_20 : decode cX11_curtain 20 = .ok (.iload_n 1, 1) := by decide +kernel
theorem dX11_curtain_21 : decode cX11_curtain 21 = .ok (.iconst 1, 1) := by decide +kernel
theorem dX11_curtain_22 : decode cX11_curtain 22 = .ok (.invokevirtual 328, 3) := by decide +kernel
theorem dX11_curtain_25 : decode cX11_curtain 25 = .ok (.aload_n 0, 1) := by decide +kernel
theorem dX11_curtain_26 : decode cX11_curtain 26 = .ok (.getfield 321, 3) := by decide +kernel
theorem dX11_curtain_29 : decode cX11_curtain 29 = .ok (.bipush (-4), 2) := by decide +kernel
theorem dX11_curtain_31 : decode cX11_curtain 31 = .ok (.if_icmp .ne 8, 3) := by decide +kernel
theorem dX11_curtain_34 : decode cX11_curtain 34 = .ok (.bipush (-4), 2) := by decide +kernel
theorem dX11_curtain_36 : decode cX11_curtain 36 = .ok (.goto 18, 3) := by decide +kernel
theorem dX11_curtain_39 : decode cX11_curtain 39 = .ok (.iload_n 2, 1) := by decide +kernel
theorem dX11_curtain_40 : decode cX11_curtain 40 = .ok (.ifCond .ne 10, 3) := by decide +kernel
theorem dX11_curtain_43 : decode cX11_curtain 43 = .ok (.aload_n 0, 1) := by decide +kernel
theorem dX11_curtain_44 : decode cX11_curtain 44 = .ok (.getfield 321, 3) := by decide +kernel
theorem dX11_curtain_47 : decode cX11_curtain 47 = .ok (.goto 7, 3) := by decide +kernel
theorem dX11_curtain_50 : decode cX11_curtain 50 = .ok (.aload_n 0, 1) := by decide +kernel
theorem dX11_curtain_51 : decode cX11_curtain 51 = .ok (.getfield 318, 3) := by decide +kernel
theorem dX11_curtain_54 : decode cX11_curtain 54 = .ok (.ireturn, 1) := by decide +kernel
theorem dX11_clear_0 : decode cX11_clear 0 = .ok (.iload_n 1, 1) := by decide +kernel
theorem dX11_clear_1 : decode cX11_clear 1 = .ok (.invokestatic 231, 3) := by decide +kernel
theorem dX11_clear_4 : decode cX11_clear 4 = .ok (.ifCond .eq 13, 3) := by decide +kernel
theorem dX11_clear_7 : decode cX11_clear 7 = .ok (.iload_n 2, 1) := by decide +kernel
theorem dX11_clear_8 : decode cX11_clear 8 = .ok (.i2l, 1) := by decide +kernel
theorem dX11_clear_9 : decode cX11_clear 9 = .ok (.lconst 0, 1) := by decide +kernel
theorem dX11_clear_10 : decode cX11_clear 10 = .ok (.lconst 1, 1) := by decide +kernel
theorem dX11_clear_11 : decode cX11_clear 11 = .ok (.invokestatic 120, 3) := by decide +kernel
theorem dX11_clear_14 : decode cX11_clear 14 = .ok (.ifCond .ne 5, 3) := by decide +kernel
theorem dX11_clear_17 : decode cX11_clear 17 = .ok (.iconst (-1), 1) := by decide +kernel
theorem dX11_clear_18 : decode cX11_clear 18 = .ok (.ireturn, 1) := by decide +kernel
theorem dX11_clear_19 : decode cX11_clear 19 = .ok (.aload_n 0, 1) := by decide +kernel
theorem dX11_clear_20 : decode cX11_clear 20 = .ok (.iload_n 1, 1) := by decide +kernel
theorem dX11_clear_21 : decode cX11_clear 21 = .ok (.iconst 0, 1) := by decide +kernel
theorem dX11_clear_22 : decode cX11_clear 22 = .ok (.invokevirtual 328, 3) := by decide +kernel
theorem dX11_clear_25 : decode cX11_clear 25 = .ok (.aload_n 0, 1) := by decide +kernel
theorem dX11_clear_26 : decode cX11_clear 26 = .ok (.getfield 321, 3) := by decide +kernel
theorem dX11_clear_29 : decode cX11_clear 29 = .ok (.bipush (-4), 2) := by decide +kernel
theorem dX11_clear_31 : decode cX11_clear 31 = .ok (.if_icmp .ne 8, 3) := by decide +kernel
theorem dX11_clear_34 : decode cX11_clear 34 = .ok (.bipush (-4), 2) := by decide +kernel
theorem dX11_clear_36 : decode cX11_clear 36 = .ok (.goto 18, 3) := by decide +kernel
theorem dX11_clear_39 : decode cX11_clear 39 = .ok (.iload_n 2, 1) := by decide +kernel
theorem dX11_clear_40 : decode cX11_clear 40 = .ok (.ifCond .ne 10, 3) := by decide +kernel
theorem dX11_clear_43 : decode cX11_clear 43 = .ok (.aload_n 0, 1) := by decide +kernel
theorem dX11_clear_44 : decode cX11_clear 44 = .ok (.getfield 321, 3) := by decide +kernel
theorem dX11_clear_47 : decode cX11_clear 47 = .ok (.goto 7, 3) := by decide +kernel
theorem dX11_clear_50 : decode cX11_clear 50 = .ok (.aload_n 0, 1) := by decide +kernel
theorem dX11_clear_51 : decode cX11_clear 51 = .ok (.getfield 318, 3) := by decide +kernel
theorem dX11_clear_54 : decode cX11_clear 54 = .ok (.ireturn, 1) := by decide +kernel
theorem dX11_hours_0 : decode cX11_hours 0 = .ok (.iconst 0, 1) := by decide +kernel
theorem dX11_hours_1 : decode cX11_hours 1 = .ok (.istore_n 1, 1) := by decide +kernel
theorem dX11_hours_2 : decode cX11_hours 2 = .ok (.iconst 0, 1) := by decide +kernel
theorem dX11_hours_3 : decode cX11_hours 3 = .ok (.istore_n 2, 1) := by decide +kernel
theorem dX11_hours_4 : decode cX11_hours 4 = .ok (.iload_n 2, 1) := by decide +kernel
theorem dX11_hours_5 : decode cX11_hours 5 = .ok (.bipush 12, 2) := by decide +kernel
theorem dX11_hours_7 : decode cX11_hours 7 = .ok (.if_icmp .ge 30, 3) := by decide +kernel
theorem dX11_hours_10 : decode cX11_hours 10 = .ok (.iload_n 1, 1) := by decide +kernel
theorem dX11_hours_11 : decode cX11_hours 11 = .ok (.aload_n 0, 1) := by decide +kernel
theorem dX11_hours_12 : decode cX11_hours 12 = .ok (.iload_n 2, 1) := by decide +kernel
theorem dX11_hours_13 : decode cX11_hours 13 = .ok (.invokevirtual 297, 3) := by decide +kernel
theorem dX11_hours_16 : decode cX11_hours 16 = .ok (.ifCond .ne 7, 3) := by decide +kernel
theorem dX11_hours_19 : decode cX11_hours 19 = .ok (.iconst 1, 1) := by decide +kernel
theorem dX11_hours_20 : decode cX11_hours 20 = .ok (.goto 4, 3) := by decide +kernel
theorem dX11_hours_23 : decode cX11_hours 23 = .ok (.iconst 0, 1) := by decide +kernel
theorem dX11_hours_24 : decode cX11_hours 24 = .ok (.invokestatic 195, 3) := by decide +kernel
theorem dX11_hours_27 : decode cX11_hours 27 = .ok (.iload_n 2, 1) := by decide +kernel
theorem dX11_hours_28 : decode cX11_hours 28 = .ok (.ishl, 1) := by decide +kernel
theorem dX11_hours_29 : decode cX11_hours 29 = .ok (.ior, 1) := by decide +kernel
theorem dX11_hours_30 : decode cX11_hours 30 = .ok (.istore_n 1, 1) := by decide +kernel
theorem dX11_hours_31 : decode cX11_hours 31 = .ok (.iinc 2 1, 3) := by decide +kernel
theorem dX11_hours_34 : decode cX11_hours 34 = .ok (.goto (-30), 3) := by decide +kernel
theorem dX11_hours_37 : decode cX11_hours 37 = .ok (.iload_n 1, 1) := by decide +kernel
theorem dX11_hours_38 : decode cX11_hours 38 = .ok (.ireturn, 1) := by decide +kernel
theorem dX11_days_0 : decode cX11_days 0 = .ok (.iload_n 1, 1) := by decide +kernel
theorem dX11_days_1 : decode cX11_days 1 = .ok (.invokestatic 231, 3) := by decide +kernel
theorem dX11_days_4 : decode cX11_days 4 = .ok (.ifCond .eq 27, 3) := by decide +kernel
theorem dX11_days_7 : decode cX11_days 7 = .ok (.iload_n 2, 1) := by decide +kernel
theorem dX11_days_8 : decode cX11_days 8 = .ok (.i2l, 1) := by decide +kernel
theorem dX11_days_9 : decode cX11_days 9 = .ok (.lconst 0, 1) := by decide +kernel
theorem dX11_days_10 : decode cX11_days 10 = .ok (.ldc2_w 246, 3) := by decide +kernel
theorem dX11_days_13 : decode cX11_days 13 = .ok (.invokestatic 120, 3) := by decide +kernel
theorem dX11_days_16 : decode cX11_days 16 = .ok (.ifCond .eq 15, 3) := by decide +kernel
theorem dX11_days_19 : decode cX11_days 19 = .ok (.iload_n 3, 1) := by decide +kernel
theorem dX11_days_20 : decode cX11_days 20 = .ok (.i2l, 1) := by decide +kernel
theorem dX11_days_21 : decode cX11_days 21 = .ok (.lconst 0, 1) := by decide +kernel
theorem dX11_days_22 : decode cX11_days 22 = .ok (.ldc2_w 226, 3) := by decide +kernel
theorem dX11_days_25 : decode cX11_days 25 = .ok (.invokestatic 120, 3) := by decide +kernel
theorem dX11_days_28 : decode cX11_days 28 = .ok (.ifCond .ne 5, 3) := by decide +kernel
theorem dX11_days_31 : decode cX11_days 31 = .ok (.iconst (-1), 1) := by decide +kernel
theorem dX11_days_32 : decode cX11_days 32 = .ok (.ireturn, 1) := by decide +kernel
theorem dX11_days_33 : decode cX11_days 33 = .ok (.aload_n 0, 1) := by decide +kernel
theorem dX11_days_34 : decode cX11_days 34 = .ok (.getfield 7, 3) := by decide +kernel
theorem dX11_days_37 : decode cX11_days 37 = .ok (.bipush 81, 2) := by decide +kernel
theorem dX11_days_39 : decode cX11_days 39 = .ok (.iaload, 1) := by decide +kernel
theorem dX11_days_40 : decode cX11_days 40 = .ok (.istore 4, 2) := by decide +kernel
theorem dX11_days_42 : decode cX11_days 42 = .ok (.iconst 0, 1) := by decide +kernel
theorem dX11_days_43 : decode cX11_days 43 = .ok (.istore 5, 2) := by decide +kernel
theorem dX11_days_45 : decode cX11_days 45 = .ok (.iconst 0, 1) := by decide +kernel
theorem dX11_days_46 : decode cX11_days 46 = .ok (.istore 6, 2) := by decide +kernel
theorem dX11_days_48 : decode cX11_days 48 = .ok (.iconst 0, 1) := by decide +kernel
theorem dX11_days_49 : decode cX11_days 49 = .ok (.istore 7, 2) := by decide +kernel
theorem dX11_days_51 : decode cX11_days 51 = .ok (.iconst 0, 1) := by decide +kernel
theorem dX11_days_52 : decode cX11_days 52 = .ok (.istore 8, 2) := by decide +kernel
theorem dX11_days_54 : decode cX11_days 54 = .ok (.iload 8, 2) := by decide +kernel
theorem dX11_days_56 : decode cX11_days 56 = .ok (.aload_n 0, 1) := by decide +kernel
theorem dX11_days_57 : decode cX11_days 57 = .ok (.getfield 102, 3) := by decide +kernel
theorem dX11_days_60 : decode cX11_days 60 = .ok (.if_icmp .ge 82, 3) := by decide +kernel
theorem dX11_days_63 : decode cX11_days 63 = .ok (.aload_n 0, 1) := by decide +kernel
theorem dX11_days_64 : decode cX11_days 64 = .ok (.iload 8, 2) := by decide +kernel
theorem dX11_days_66 : decode cX11_days 66 = .ok (.iload_n 1, 1) := by decide +kernel
theorem dX11_days_67 : decode cX11_days 67 = .ok (.invokevirtual 285, 3) := by decide +kernel
theorem dX11_days_70 : decode cX11_days 70 = .ok (.istore 9, 2) := by decide +kernel
theorem dX11_days_72 : decode cX11_days 72 = .ok (.aload_n 0, 1) := by decide +kernel
theorem dX11_days_73 : decode cX11_days 73 = .ok (.getfield 7, 3) := by decide +kernel
theorem dX11_days_76 : decode cX11_days 76 = .ok (.bipush 81, 2) := by decide +kernel
theorem dX11_days_78 : decode cX11_days 78 = .ok (.iload_n 2, 1) := by decide +kernel
theorem dX11_days_79 : decode cX11_days 79 = .ok (.iastore, 1) := by decide +kernel
theorem dX11_days_80 : decode cX11_days 80 = .ok (.aload_n 0, 1) := by decide +kernel
theorem dX11_days_81 : decode cX11_days 81 = .ok (.iload 8, 2) := by decide +kernel
theorem dX11_days_83 : decode cX11_days 83 = .ok (.iload_n 1, 1) := by decide +kernel
theorem dX11_days_84 : decode cX11_days 84 = .ok (.invokevirtual 285, 3) := by decide +kernel
theorem dX11_days_87 : decode cX11_days 87 = .ok (.istore 10, 2) := by decide +kernel
theorem dX11_days_89 : decode cX11_days 89 = .ok (.aload_n 0, 1) := by decide +kernel
theorem dX11_days_90 : decode cX11_days 90 = .ok (.getfield 7, 3) := by decide +kernel
theorem dX11_days_93 : decode cX11_days 93 = .ok (.bipush 81, 2) := by decide +kernel
theorem dX11_days_95 : decode cX11_days 95 = .ok (.iload 4, 2) := by decide +kernel
theorem dX11_days_97 : decode cX11_days 97 = .ok (.iastore, 1) := by decide +kernel
theorem dX11_days_98 : decode cX11_days 98 = .ok (.iload 5, 2) := by decide +kernel
theorem dX11_days_100 : decode cX11_days 100 = .ok (.iload 9, 2) := by decide +kernel
theorem dX11_days_102 : decode cX11_days 102 = .ok (.invokestatic 309, 3) := by decide +kernel
theorem dX11_days_105 : decode cX11_days 105 = .ok (.iadd, 1) := by decide +kernel
theorem dX11_days_106 : decode cX11_days 106 = .ok (.istore 5, 2) := by decide +kernel
theorem dX11_days_108 : decode cX11_days 108 = .ok (.iload 6, 2) := by decide +kernel
theorem dX11_days_110 : decode cX11_days 110 = .ok (.iload 9, 2) := by decide +kernel
theorem dX11_days_112 : decode cX11_days 112 = .ok (.iload 10, 2) := by decide +kernel
theorem dX11_days_114 : decode cX11_days 114 = .ok (.iand, 1) := by decide +kernel
theorem dX11_days_115 : decode cX11_days 115 = .ok (.invokestatic 309, 3) := by decide +kernel
theorem dX11_days_118 : decode cX11_days 118 = .ok (.iadd, 1) := by decide +kernel
theorem dX11_days_119 : decode cX11_days 119 = .ok (.istore 6, 2) := by decide +kernel
theorem dX11_days_121 : decode cX11_days 121 = .ok (.iload 7, 2) := by decide +kernel
theorem dX11_days_123 : decode cX11_days 123 = .ok (.iload 10, 2) := by decide +kernel
theorem dX11_days_125 : decode cX11_days 125 = .ok (.iload 9, 2) := by decide +kernel
theorem dX11_days_127 : decode cX11_days 127 = .ok (.iconst (-1), 1) := by decide +kernel
theorem dX11_days_128 : decode cX11_days 128 = .ok (.ixor, 1) := by decide +kernel
theorem dX11_days_129 : decode cX11_days 129 = .ok (.iand, 1) := by decide +kernel
theorem dX11_days_130 : decode cX11_days 130 = .ok (.invokestatic 309, 3) := by decide +kernel
theorem dX11_days_133 : decode cX11_days 133 = .ok (.iadd, 1) := by decide +kernel
theorem dX11_days_134 : decode cX11_days 134 = .ok (.istore 7, 2) := by decide +kernel
theorem dX11_days_136 : decode cX11_days 136 = .ok (.iinc 8 1, 3) := by decide +kernel
theorem dX11_days_139 : decode cX11_days 139 = .ok (.goto (-85), 3) := by decide +kernel
theorem dX11_days_142 : decode cX11_days 142 = .ok (.iload_n 3, 1) := by decide +kernel
theorem dX11_days_143 : decode cX11_days 143 = .ok (.ifCond .ne 8, 3) := by decide +kernel
theorem dX11_days_146 : decode cX11_days 146 = .ok (.iload 5, 2) := by decide +kernel
theorem dX11_days_148 : decode cX11_days 148 = .ok (.goto 15, 3) := by decide +kernel
theorem dX11_days_151 : decode cX11_days 151 = .ok (.iload_n 3, 1) := by decide +kernel
theorem dX11_days_152 : decode cX11_days 152 = .ok (.iconst 1, 1) := by decide +kernel
theorem dX11_days_153 : decode cX11_days 153 = .ok (.if_icmp .ne 8, 3) := by decide +kernel
theorem dX11_days_156 : decode cX11_days 156 = .ok (.iload 6, 2) := by decide +kernel
theorem dX11_days_158 : decode cX11_days 158 = .ok (.goto 5, 3) := by decide +kernel
theorem dX11_days_161 : decode cX11_days 161 = .ok (.iload 7, 2) := by decide +kernel
theorem dX11_days_163 : decode cX11_days 163 = .ok (.ireturn, 1) := by decide +kernel
theorem dX11_best_0 : decode cX11_best 0 = .ok (.iload_n 1, 1) := by decide +kernel
theorem dX11_best_1 : decode cX11_best 1 = .ok (.invokestatic 231, 3) := by decide +kernel
theorem dX11_best_4 : decode cX11_best 4 = .ok (.ifCond .eq 13, 3) := by decide +kernel
theorem dX11_best_7 : decode cX11_best 7 = .ok (.iload_n 2, 1) := by decide +kernel
theorem dX11_best_8 : decode cX11_best 8 = .ok (.i2l, 1) := by decide +kernel
theorem dX11_best_9 : decode cX11_best 9 = .ok (.lconst 0, 1) := by decide +kernel
theorem dX11_best_10 : decode cX11_best 10 = .ok (.lconst 1, 1) := by decide +kernel
theorem dX11_best_11 : decode cX11_best 11 = .ok (.invokestatic 120, 3) := by decide +kernel
theorem dX11_best_14 : decode cX11_best 14 = .ok (.ifCond .ne 5, 3) := by decide +kernel
theorem dX11_best_17 : decode cX11_best 17 = .ok (.iconst (-1), 1) := by decide +kernel
theorem dX11_best_18 : decode cX11_best 18 = .ok (.ireturn, 1) := by decide +kernel
theorem dX11_best_19 : decode cX11_best 19 = .ok (.aload_n 0, 1) := by decide +kernel
theorem dX11_best_20 : decode cX11_best 20 = .ok (.getfield 7, 3) := by decide +kernel
theorem dX11_best_23 : decode cX11_best 23 = .ok (.bipush 81, 2) := by decide +kernel
theorem dX11_best_25 : decode cX11_best 25 = .ok (.iaload, 1) := by decide +kernel
theorem dX11_best_26 : decode cX11_best 26 = .ok (.istore_n 3, 1) := by decide +kernel
theorem dX11_best_27 : decode cX11_best 27 = .ok (.bipush (-4), 2) := by decide +kernel
theorem dX11_best_29 : decode cX11_best 29 = .ok (.istore 4, 2) := by decide +kernel
theorem dX11_best_31 : decode cX11_best 31 = .ok (.iconst 0, 1) := by decide +kernel
theorem dX11_best_32 : decode cX11_best 32 = .ok (.istore 5, 2) := by decide +kernel
theorem dX11_best_34 : decode cX11_best 34 = .ok (.iconst 0, 1) := by decide +kernel
theorem dX11_best_35 : decode cX11_best 35 = .ok (.istore 6, 2) := by decide +kernel
theorem dX11_best_37 : decode cX11_best 37 = .ok (.iload 6, 2) := by decide +kernel
theorem dX11_best_39 : decode cX11_best 39 = .ok (.bipush 10, 2) := by decide +kernel
theorem dX11_best_41 : decode cX11_best 41 = .ok (.if_icmp .ge 77, 3) := by decide +kernel
theorem dX11_best_44 : decode cX11_best 44 = .ok (.aload_n 0, 1) := by decide +kernel
theorem dX11_best_45 : decode cX11_best 45 = .ok (.getfield 7, 3) := by decide +kernel
theorem dX11_best_48 : decode cX11_best 48 = .ok (.bipush 81, 2) := by decide +kernel
theorem dX11_best_50 : decode cX11_best 50 = .ok (.iload 6, 2) := by decide +kernel
theorem dX11_best_52 : decode cX11_best 52 = .ok (.iastore, 1) := by decide +kernel
theorem dX11_best_53 : decode cX11_best 53 = .ok (.aload_n 0, 1) := by decide +kernel
theorem dX11_best_54 : decode cX11_best 54 = .ok (.iload_n 1, 1) := by decide +kernel
theorem dX11_best_55 : decode cX11_best 55 = .ok (.invokevirtual 297, 3) := by decide +kernel
theorem dX11_best_58 : decode cX11_best 58 = .ok (.invokestatic 309, 3) := by decide +kernel
theorem dX11_best_61 : decode cX11_best 61 = .ok (.istore 7, 2) := by decide +kernel
theorem dX11_best_63 : decode cX11_best 63 = .ok (.iload 4, 2) := by decide +kernel
theorem dX11_best_65 : decode cX11_best 65 = .ok (.bipush (-4), 2) := by decide +kernel
theorem dX11_best_67 : decode cX11_best 67 = .ok (.if_icmp .eq 10, 3) := by decide +kernel
theorem dX11_best_70 : decode cX11_best 70 = .ok (.iload 7, 2) := by decide +kernel
theorem dX11_best_72 : decode cX11_best 72 = .ok (.iload 5, 2) := by decide +kernel
theorem dX11_best_74 : decode cX11_best 74 = .ok (.if_icmp .ge 7, 3) := by decide +kernel
theorem dX11_best_77 : decode cX11_best 77 = .ok (.iconst 1, 1) := by decide +kernel
theorem dX11_best_78 : decode cX11_best 78 = .ok (.goto 4, 3) := by decide +kernel
theorem dX11_best_81 : decode cX11_best 81 = .ok (.iconst 0, 1) := by decide +kernel
theorem dX11_best_82 : decode cX11_best 82 = .ok (.istore 8, 2) := by decide +kernel
theorem dX11_best_84 : decode cX11_best 84 = .ok (.iload 8, 2) := by decide +kernel
theorem dX11_best_86 : decode cX11_best 86 = .ok (.ifCond .eq 8, 3) := by decide +kernel
theorem dX11_best_89 : decode cX11_best 89 = .ok (.iload 6, 2) := by decide +kernel
theorem dX11_best_91 : decode cX11_best 91 = .ok (.goto 5, 3) := by decide +kernel
theorem dX11_best_94 : decode cX11_best 94 = .ok (.iload 4, 2) := by decide +kernel
theorem dX11_best_96 : decode cX11_best 96 = .ok (.istore 4, 2) := by decide +kernel
theorem dX11_best_98 : decode cX11_best 98 = .ok (.iload 8, 2) := by decide +kernel
theorem dX11_best_100 : decode cX11_best 100 = .ok (.ifCond .eq 8, 3) := by decide +kernel
theorem dX11_best_103 : decode cX11_best 103 = .ok (.iload 7, 2) := by decide +kernel
theorem dX11_best_105 : decode cX11_best 105 = .ok (.goto 5, 3) := by decide +kernel
theorem dX11_best_108 : decode cX11_best 108 = .ok (.iload 5, 2) := by decide +kernel
theorem dX11_best_110 : decode cX11_best 110 = .ok (.istore 5, 2) := by decide +kernel
theorem dX11_best_112 : decode cX11_best 112 = .ok (.iinc 6 1, 3) := by decide +kernel
theorem dX11_best_115 : decode cX11_best 115 = .ok (.goto (-78), 3) := by decide +kernel
theorem dX11_best_118 : decode cX11_best 118 = .ok (.aload_n 0, 1) := by decide +kernel
theorem dX11_best_119 : decode cX11_best 119 = .ok (.getfield 7, 3) := by decide +kernel
theorem dX11_best_122 : decode cX11_best 122 = .ok (.bipush 81, 2) := by decide +kernel
theorem dX11_best_124 : decode cX11_best 124 = .ok (.iload_n 3, 1) := by decide +kernel
theorem dX11_best_125 : decode cX11_best 125 = .ok (.iastore, 1) := by decide +kernel
theorem dX11_best_126 : decode cX11_best 126 = .ok (.iload_n 2, 1) := by decide +kernel
theorem dX11_best_127 : decode cX11_best 127 = .ok (.ifCond .ne 8, 3) := by decide +kernel
theorem dX11_best_130 : decode cX11_best 130 = .ok (.iload 4, 2) := by decide +kernel
theorem dX11_best_132 : decode cX11_best 132 = .ok (.goto 5, 3) := by decide +kernel
theorem dX11_best_135 : decode cX11_best 135 = .ok (.iload 5, 2) := by decide +kernel
theorem dX11_best_137 : decode cX11_best 137 = .ok (.ireturn, 1) := by decide +kernel
theorem dX11_sayOf_0 : decode cX11_sayOf 0 = .ok (.aload_n 0, 1) := by decide +kernel
theorem dX11_sayOf_1 : decode cX11_sayOf 1 = .ok (.getfield 7, 3) := by decide +kernel
theorem dX11_sayOf_4 : decode cX11_sayOf 4 = .ok (.bipush 89, 2) := by decide +kernel
theorem dX11_sayOf_6 : decode cX11_sayOf 6 = .ok (.iconst 3, 1) := by decide +kernel
theorem dX11_sayOf_7 : decode cX11_sayOf 7 = .ok (.iload_n 1, 1) := by decide +kernel
theorem dX11_sayOf_8 : decode cX11_sayOf 8 = .ok (.imul, 1) := by decide +kernel
theorem dX11_sayOf_9 : decode cX11_sayOf 9 = .ok (.iadd, 1) := by decide +kernel
theorem dX11_sayOf_10 : decode cX11_sayOf 10 = .ok (.iload_n 2, 1) := by decide +kernel
theorem dX11_sayOf_11 : decode cX11_sayOf 11 = .ok (.iadd, 1) := by decide +kernel
theorem dX11_sayOf_12 : decode cX11_sayOf 12 = .ok (.iaload, 1) := by decide +kernel
theorem dX11_sayOf_13 : decode cX11_sayOf 13 = .ok (.ireturn, 1) := by decide +kernel
theorem dX11_isSaid_0 : decode cX11_isSaid 0 = .ok (.aload_n 0, 1) := by decide +kernel
theorem dX11_isSaid_1 : decode cX11_isSaid 1 = .ok (.getfield 53, 3) := by decide +kernel
theorem dX11_isSaid_4 : decode cX11_isSaid 4 = .ok (.aload_n 0, 1) := by decide +kernel
theorem dX11_isSaid_5 : decode cX11_isSaid 5 = .ok (.iload_n 1, 1) := by decide +kernel
theorem dX11_isSaid_6 : decode cX11_isSaid 6 = .ok (.iconst 2, 1) := by decide +kernel
theorem dX11_isSaid_7 : decode cX11_isSaid 7 = .ok (.invokevirtual 332, 3) := by decide +kernel
theorem dX11_isSaid_10 : decode cX11_isSaid 10 = .ok (.iaload, 1) := by decide +kernel
theorem dX11_isSaid_11 : decode cX11_isSaid 11 = .ok (.istore_n 2, 1) := by decide +kernel
theorem dX11_isSaid_12 : decode cX11_isSaid 12 = .ok (.iload_n 2, 1) := by decide +kernel
theorem dX11_isSaid_13 : decode cX11_isSaid 13 = .ok (.ifCond .eq 17, 3) := by decide +kernel
theorem dX11_isSaid_16 : decode cX11_isSaid 16 = .ok (.iload_n 2, 1) := by decide +kernel
theorem dX11_isSaid_17 : decode cX11_isSaid 17 = .ok (.aload_n 0, 1) := by decide +kernel
theorem dX11_isSaid_18 : decode cX11_isSaid 18 = .ok (.iload_n 1, 1) := by decide +kernel
theorem dX11_isSaid_19 : decode cX11_isSaid 19 = .ok (.iconst 1, 1) := by decide +kernel
theorem dX11_isSaid_20 : decode cX11_isSaid 20 = .ok (.invokevirtual 332, 3) := by decide +kernel
theorem dX11_isSaid_23 : decode cX11_isSaid 23 = .ok (.ishr, 1) := by decide +kernel
theorem dX11_isSaid_24 : decode cX11_isSaid 24 = .ok (.iconst 1, 1) := by decide +kernel
theorem dX11_isSaid_25 : decode cX11_isSaid 25 = .ok (.iand, 1) := by decide +kernel
theorem dX11_isSaid_26 : decode cX11_isSaid 26 = .ok (.iconst 1, 1) := by decide +kernel
theorem dX11_isSaid_27 : decode cX11_isSaid 27 = .ok (.if_icmp .ne 7, 3) := by decide +kernel
theorem dX11_isSaid_30 : decode cX11_isSaid 30 = .ok (.iconst 1, 1) := by decide +kernel
theorem dX11_isSaid_31 : decode cX11_isSaid 31 = .ok (.goto 4, 3) := by decide +kernel
theorem dX11_isSaid_34 : decode cX11_isSaid 34 = .ok (.iconst 0, 1) := by decide +kernel
theorem dX11_isSaid_35 : decode cX11_isSaid 35 = .ok (.ireturn, 1) := by decide +kernel
theorem dX11_says_0 : decode cX11_says 0 = .ok (.aload_n 0, 1) := by decide +kernel
theorem dX11_says_1 : decode cX11_says 1 = .ok (.iload_n 1, 1) := by decide +kernel
theorem dX11_says_2 : decode cX11_says 2 = .ok (.iconst 1, 1) := by decide +kernel
theorem dX11_says_3 : decode cX11_says 3 = .ok (.invokevirtual 332, 3) := by decide +kernel
theorem dX11_says_6 : decode cX11_says 6 = .ok (.istore_n 2, 1) := by decide +kernel
theorem dX11_says_7 : decode cX11_says 7 = .ok (.aload_n 0, 1) := by decide +kernel
theorem dX11_says_8 : decode cX11_says 8 = .ok (.aload_n 0, 1) := by decide +kernel
theorem dX11_says_9 : decode cX11_says 9 = .ok (.getfield 7, 3) := by decide +kernel
theorem dX11_says_12 : decode cX11_says 12 = .ok (.bipush 82, 2) := by decide +kernel
theorem dX11_says_14 : decode cX11_says 14 = .ok (.iload_n 2, 1) := by decide +kernel
theorem dX11_says_15 : decode cX11_says 15 = .ok (.iadd, 1) := by decide +kernel
theorem dX11_says_16 : decode cX11_says 16 = .ok (.iaload, 1) := by decide +kernel
theorem dX11_says_17 : decode cX11_says 17 = .ok (.aload_n 0, 1) := by decide +kernel
theorem dX11_says_18 : decode cX11_says 18 = .ok (.iload_n 1, 1) := by decide +kernel
theorem dX11_says_19 : decode cX11_says 19 = .ok (.iconst 0, 1) := by decide +kernel
theorem dX11_says_20 : decode cX11_says 20 = .ok (.invokevirtual 332, 3) := by decide +kernel
theorem dX11_says_23 : decode cX11_says 23 = .ok (.invokevirtual 285, 3) := by decide +kernel
theorem dX11_says_26 : decode cX11_says 26 = .ok (.istore_n 3, 1) := by decide +kernel
theorem dX11_says_27 : decode cX11_says 27 = .ok (.iconst 1, 1) := by decide +kernel
theorem dX11_says_28 : decode cX11_says 28 = .ok (.iload_n 2, 1) := by decide +kernel
theorem dX11_says_29 : decode cX11_says 29 = .ok (.ishl, 1) := by decide +kernel
theorem dX11_says_30 : decode cX11_says 30 = .ok (.istore 4, 2) := by decide +kernel
theorem dX11_says_32 : decode cX11_says 32 = .ok (.iconst 0, 1) := by decide +kernel
theorem dX11_says_33 : decode cX11_says 33 = .ok (.istore 5, 2) := by decide +kernel
theorem dX11_says_35 : decode cX11_says 35 = .ok (.iload 5, 2) := by decide +kernel
theorem dX11_says_37 : decode cX11_says 37 = .ok (.aload_n 0, 1) := by decide +kernel
theorem dX11_says_38 : decode cX11_says 38 = .ok (.getfield 109, 3) := by decide +kernel
theorem dX11_says_41 : decode cX11_says 41 = .ok (.if_icmp .ge 31, 3) := by decide +kernel
theorem dX11_says_44 : decode cX11_says 44 = .ok (.iload 4, 2) := by decide +kernel
theorem dX11_says_46 : decode cX11_says 46 = .ok (.iload_n 3, 1) := by decide +kernel
theorem dX11_says_47 : decode cX11_says 47 = .ok (.aload_n 0, 1) := by decide +kernel
theorem dX11_says_48 : decode cX11_says 48 = .ok (.getfield 7, 3) := by decide +kernel
theorem dX11_says_51 : decode cX11_says 51 = .ok (.bipush 82, 2) := by decide +kernel
theorem dX11_says_53 : decode cX11_says 53 = .ok (.iload 5, 2) := by decide +kernel
theorem dX11_says_55 : decode cX11_says 55 = .ok (.iadd, 1) := by decide +kernel
theorem dX11_says_56 : decode cX11_says 56 = .ok (.iaload, 1) := by decide +kernel
theorem dX11_says_57 : decode cX11_says 57 = .ok (.ishr, 1) := by decide +kernel
theorem dX11_says_58 : decode cX11_says 58 = .ok (.iconst 1, 1) := by decide +kernel
theorem dX11_says_59 : decode cX11_says 59 = .ok (.iand, 1) := by decide +kernel
theorem dX11_says_60 : decode cX11_says 60 = .ok (.iload 5, 2) := by decide +kernel
theorem dX11_says_62 : decode cX11_says 62 = .ok (.ishl, 1) := by decide +kernel
theorem dX11_says_63 : decode cX11_says 63 = .ok (.ior, 1) := by decide +kernel
theorem dX11_says_64 : decode cX11_says 64 = .ok (.istore 4, 2) := by decide +kernel
theorem dX11_says_66 : decode cX11_says 66 = .ok (.iinc 5 1, 3) := by decide +kernel
theorem dX11_says_69 : decode cX11_says 69 = .ok (.goto (-34), 3) := by decide +kernel
theorem dX11_says_72 : decode cX11_says 72 = .ok (.aload_n 0, 1) := by decide +kernel
theorem dX11_says_73 : decode cX11_says 73 = .ok (.getfield 53, 3) := by decide +kernel
theorem dX11_says_76 : decode cX11_says 76 = .ok (.aload_n 0, 1) := by decide +kernel
theorem dX11_says_77 : decode cX11_says 77 = .ok (.iload_n 1, 1) := by decide +kernel
theorem dX11_says_78 : decode cX11_says 78 = .ok (.iconst 2, 1) := by decide +kernel
theorem dX11_says_79 : decode cX11_says 79 = .ok (.invokevirtual 332, 3) := by decide +kernel
theorem dX11_says_82 : decode cX11_says 82 = .ok (.dup2, 1) := by decide +kernel
theorem dX11_says_83 : decode cX11_says 83 = .ok (.iaload, 1) := by decide +kernel
theorem dX11_says_84 : decode cX11_says 84 = .ok (.iload 4, 2) := by decide +kernel
theorem dX11_says_86 : decode cX11_says 86 = .ok (.ior, 1) := by decide +kernel
theorem dX11_says_87 : decode cX11_says 87 = .ok (.iastore, 1) := by decide +kernel
theorem dX11_says_88 : decode cX11_says 88 = .ok (.return_, 1) := by decide +kernel
theorem dX11_nobodyKnows_0 : decode cX11_nobodyKnows 0 = .ok (.iconst 0, 1) := by decide +kernel
theorem dX11_nobodyKnows_1 : decode cX11_nobodyKnows 1 = .ok (.istore_n 1, 1) := by decide +kernel
theorem dX11_nobodyKnows_2 : decode cX11_nobodyKnows 2 = .ok (.iload_n 1, 1) := by decide +kernel
theorem dX11_nobodyKnows_3 : decode cX11_nobodyKnows 3 = .ok (.bipush 8, 2) := by decide +kernel
theorem dX11_nobodyKnows_5 : decode cX11_nobodyKnows 5 = .ok (.if_icmp .ge 16, 3) := by decide +kernel
theorem dX11_nobodyKnows_8 : decode cX11_nobodyKnows 8 = .ok (.aload_n 0, 1) := by decide +kernel
theorem dX11_nobodyKnows_9 : decode cX11_nobodyKnows 9 = .ok (.getfield 53, 3) := by decide +kernel
theorem dX11_nobodyKnows_12 : decode cX11_nobodyKnows 12 = .ok (.iload_n 1, 1) := by decide +kernel
theorem dX11_nobodyKnows_13 : decode cX11_nobodyKnows 13 = .ok (.iconst 0, 1) := by decide +kernel
theorem dX11_nobodyKnows_14 : decode cX11_nobodyKnows 14 = .ok (.iastore, 1) := by decide +kernel
theorem dX11_nobodyKnows_15 : decode cX11_nobodyKnows 15 = .ok (.iinc 1 1, 3) := by decide +kernel
theorem dX11_nobodyKnows_18 : decode cX11_nobodyKnows 18 = .ok (.goto (-16), 3) := by decide +kernel
theorem dX11_nobodyKnows_21 : decode cX11_nobodyKnows 21 = .ok (.return_, 1) := by decide +kernel
theorem dX11_whispers_0 : decode cX11_whispers 0 = .ok (.aload_n 0, 1) := by decide +kernel
theorem dX11_whispers_1 : decode cX11_whispers 1 = .ok (.invokevirtual 335, 3) := by decide +kernel
theorem dX11_whispers_4 : decode cX11_whispers 4 = .ok (.iconst 0, 1) := by decide +kernel
theorem dX11_whispers_5 : decode cX11_whispers 5 = .ok (.istore_n 3, 1) := by decide +kernel
theorem dX11_whispers_6 : decode cX11_whispers 6 = .ok (.iconst 0, 1) := by decide +kernel
theorem dX11_whispers_7 : decode cX11_whispers 7 = .ok (.istore 4, 2) := by decide +kernel
theorem dX11_whispers_9 : decode cX11_whispers 9 = .ok (.iload 4, 2) := by decide +kernel
theorem dX11_whispers_11 : decode cX11_whispers 11 = .ok (.iload_n 1, 1) := by decide +kernel
theorem dX11_whispers_12 : decode cX11_whispers 12 = .ok (.if_icmp .ge 33, 3) := by decide +kernel
theorem dX11_whispers_15 : decode cX11_whispers 15 = .ok (.iload 4, 2) := by decide +kernel
theorem dX11_whispers_17 : decode cX11_whispers 17 = .ok (.iload_n 2, 1) := by decide +kernel
theorem dX11_whispers_18 : decode cX11_whispers 18 = .ok (.if_icmp .eq 21, 3) := by decide +kernel
theorem dX11_whispers_21 : decode cX11_whispers 21 = .ok (.aload_n 0, 1) := by decide +kernel
theorem dX11_whispers_22 : decode cX11_whispers 22 = .ok (.iload 4, 2) := by decide +kernel
theorem dX11_whispers_24 : decode cX11_whispers 24 = .ok (.invokevirtual 338, 3) := by decide +kernel
theorem dX11_whispers_27 : decode cX11_whispers 27 = .ok (.ifCond .eq 12, 3) := by decide +kernel
theorem dX11_whispers_30 : decode cX11_whispers 30 = .ok (.aload_n 0, 1) := by decide +kernel
theorem dX11_whispers_31 : decode cX11_whispers 31 = .ok (.iload 4, 2) := by decide +kernel
theorem dX11_whispers_33 : decode cX11_whispers 33 = .ok (.invokevirtual 341, 3) := by decide +kernel
theorem dX11_whispers_36 : decode cX11_whispers 36 = .ok (.iinc 3 1, 3) := by decide +kernel
theorem dX11_whispers_39 : decode cX11_whispers 39 = .ok (.iinc 4 1, 3) := by decide +kernel
theorem dX11_whispers_42 : decode cX11_whispers 42 = .ok (.goto (-33), 3) := by decide +kernel
theorem dX11_whispers_45 : decode cX11_whispers 45 = .ok (.iload_n 3, 1) := by decide +kernel
theorem dX11_whispers_46 : decode cX11_whispers 46 = .ok (.ireturn, 1) := by decide +kernel
theorem dX11_lastHour_0 : decode cX11_lastHour 0 = .ok (.aload_n 0, 1) := by decide +kernel
theorem dX11_lastHour_1 : decode cX11_lastHour 1 = .ok (.getfield 7, 3) := by decide +kernel
theorem dX11_lastHour_4 : decode cX11_lastHour 4 = .ok (.bipush 88, 2) := by decide +kernel
theorem dX11_lastHour_6 : decode cX11_lastHour 6 = .ok (.iaload, 1) := by decide +kernel
theorem dX11_lastHour_7 : decode cX11_lastHour 7 = .ok (.ifCond .ne 7, 3) := by decide +kernel
theorem dX11_lastHour_10 : decode cX11_lastHour 10 = .ok (.iconst 0, 1) := by decide +kernel
theorem dX11_lastHour_11 : decode cX11_lastHour 11 = .ok (.goto 17, 3) := by decide +kernel
theorem dX11_lastHour_14 : decode cX11_lastHour 14 = .ok (.aload_n 0, 1) := by decide +kernel
theorem dX11_lastHour_15 : decode cX11_lastHour 15 = .ok (.aload_n 0, 1) := by decide +kernel
theorem dX11_lastHour_16 : decode cX11_lastHour 16 = .ok (.getfield 7, 3) := by decide +kernel
theorem dX11_lastHour_19 : decode cX11_lastHour 19 = .ok (.bipush 88, 2) := by decide +kernel
theorem dX11_lastHour_21 : decode cX11_lastHour 21 = .ok (.iaload, 1) := by decide +kernel
theorem dX11_lastHour_22 : decode cX11_lastHour 22 = .ok (.iconst 1, 1) := by decide +kernel
theorem dX11_lastHour_23 : decode cX11_lastHour 23 = .ok (.isub, 1) := by decide +kernel
theorem dX11_lastHour_24 : decode cX11_lastHour 24 = .ok (.iconst 0, 1) := by decide +kernel
theorem dX11_lastHour_25 : decode cX11_lastHour 25 = .ok (.invokevirtual 332, 3) := by decide +kernel
theorem dX11_lastHour_28 : decode cX11_lastHour 28 = .ok (.ireturn, 1) := by decide +kernel
theorem dX11_isSecret_0 : decode cX11_isSecret 0 = .ok (.iload_n 0, 1) := by decide +kernel
theorem dX11_isSecret_1 : decode cX11_isSecret 1 = .ok (.i2l, 1) := by decide +kernel
theorem dX11_isSecret_2 : decode cX11_isSecret 2 = .ok (.lconst 0, 1) := by decide +kernel
theorem dX11_isSecret_3 : decode cX11_isSecret 3 = .ok (.ldc2_w 255, 3) := by decide +kernel
theorem dX11_isSecret_6 : decode cX11_isSecret 6 = .ok (.invokestatic 120, 3) := by decide +kernel
theorem dX11_isSecret_9 : decode cX11_isSecret 9 = .ok (.ireturn, 1) := by decide +kernel
theorem dX11_say_0 : decode cX11_say 0 = .ok (.iload_n 1, 1) := by decide +kernel
theorem dX11_say_1 : decode cX11_say 1 = .ok (.i2l, 1) := by decide +kernel
theorem dX11_say_2 : decode cX11_say 2 = .ok (.aload_n 0, 1) := by decide +kernel
theorem dX11_say_3 : decode cX11_say 3 = .ok (.invokevirtual 344, 3) := by decide +kernel
theorem dX11_say_6 : decode cX11_say 6 = .ok (.i2l, 1) := by decide +kernel
theorem dX11_say_7 : decode cX11_say 7 = .ok (.ldc2_w 217, 3) := by decide +kernel
theorem dX11_say_10 : decode cX11_say 10 = .ok (.invokestatic 120, 3) := by decide +kernel
theorem dX11_say_13 : decode cX11_say 13 = .ok (.ifCond .eq 18, 3) := by decide +kernel
theorem dX11_say_16 : decode cX11_say 16 = .ok (.aload_n 0, 1) := by decide +kernel
theorem dX11_say_17 : decode cX11_say 17 = .ok (.iload_n 2, 1) := by decide +kernel
theorem dX11_say_18 : decode cX11_say 18 = .ok (.invokevirtual 248, 3) := by decide +kernel
theorem dX11_say_21 : decode cX11_say 21 = .ok (.ifCond .eq 10, 3) := by decide +kernel
theorem dX11_say_24 : decode cX11_say 24 = .ok (.iload_n 3, 1) := by decide +kernel
theorem dX11_say_25 : decode cX11_say 25 = .ok (.invokestatic 347, 3) := by decide +kernel
theorem dX11_say_28 : decode cX11_say 28 = .ok (.ifCond .ne 5, 3) := by decide +kernel
theorem dX11_say_31 : decode cX11_say 31 = .ok (.iconst (-1), 1) := by decide +kernel
theorem dX11_say_32 : decode cX11_say 32 = .ok (.ireturn, 1) := by decide +kernel
theorem dX11_say_33 : decode cX11_say 33 = .ok (.aload_n 0, 1) := by decide +kernel
theorem dX11_say_34 : decode cX11_say 34 = .ok (.getfield 7, 3) := by decide +kernel
theorem dX11_say_37 : decode cX11_say 37 = .ok (.bipush 88, 2) := by decide +kernel
theorem dX11_say_39 : decode cX11_say 39 = .ok (.iaload, 1) := by decide +kernel
theorem dX11_say_40 : decode cX11_say 40 = .ok (.bipush 12, 2) := by decide +kernel
theorem dX11_say_42 : decode cX11_say 42 = .ok (.if_icmp .ne 6, 3) := by decide +kernel
theorem dX11_say_45 : decode cX11_say 45 = .ok (.bipush (-3), 2) := by decide +kernel
theorem dX11_say_47 : decode cX11_say 47 = .ok (.ireturn, 1) := by decide +kernel
theorem dX11_say_48 : decode cX11_say 48 = .ok (.bipush 89, 2) := by decide +kernel
theorem dX11_say_50 : decode cX11_say 50 = .ok (.iconst 3, 1) := by decide +kernel
theorem dX11_say_51 : decode cX11_say 51 = .ok (.aload_n 0, 1) := by decide +kernel
theorem dX11_say_52 : decode cX11_say 52 = .ok (.getfield 7, 3) := by decide +kernel
theorem dX11_say_55 : decode cX11_say 55 = .ok (.bipush 88, 2) := by decide +kernel
theorem dX11_say_57 : decode cX11_say 57 = .ok (.iaload, 1) := by decide +kernel
theorem dX11_say_58 : decode cX11_say 58 = .ok (.imul, 1) := by decide +kernel
theorem dX11_say_59 : decode cX11_say 59 = .ok (.iadd, 1) := by decide +kernel
theorem dX11_say_60 : decode cX11_say 60 = .ok (.istore 4, 2) := by decide +kernel
theorem dX11_say_62 : decode cX11_say 62 = .ok (.aload_n 0, 1) := by decide +kernel
theorem dX11_say_63 : decode cX11_say 63 = .ok (.getfield 7, 3) := by decide +kernel
theorem dX11_say_66 : decode cX11_say 66 = .ok (.iload 4, 2) := by decide +kernel
theorem dX11_say_68 : decode cX11_say 68 = .ok (.iload_n 1, 1) := by decide +kernel
theorem dX11_say_69 : decode cX11_say 69 = .ok (.iastore, 1) := by decide +kernel
theorem dX11_say_70 : decode cX11_say 70 = .ok (.aload_n 0, 1) := by decide +kernel
theorem dX11_say_71 : decode cX11_say 71 = .ok (.getfield 7, 3) := by decide +kernel
theorem dX11_say_74 : decode cX11_say 74 = .ok (.iload 4, 2) := by decide +kernel
theorem dX11_say_76 : decode cX11_say 76 = .ok (.iconst 1, 1) := by decide +kernel
theorem dX11_say_77 : decode cX11_say 77 = .ok (.iadd, 1) := by decide +kernel
theorem dX11_say_78 : decode cX11_say 78 = .ok (.iload_n 2, 1) := by decide +kernel
theorem dX11_say_79 : decode cX11_say 79 = .ok (.iastore, 1) := by decide +kernel
theorem dX11_say_80 : decode cX11_say 80 = .ok (.aload_n 0, 1) := by decide +kernel
theorem dX11_say_81 : decode cX11_say 81 = .ok (.getfield 7, 3) := by decide +kernel
theorem dX11_say_84 : decode cX11_say 84 = .ok (.iload 4, 2) := by decide +kernel
theorem dX11_say_86 : decode cX11_say 86 = .ok (.iconst 2, 1) := by decide +kernel
theorem dX11_say_87 : decode cX11_say 87 = .ok (.iadd, 1) := by decide +kernel
theorem dX11_say_88 : decode cX11_say 88 = .ok (.iload_n 3, 1) := by decide +kernel
theorem dX11_say_89 : decode cX11_say 89 = .ok (.iastore, 1) := by decide +kernel
theorem dX11_say_90 : decode cX11_say 90 = .ok (.aload_n 0, 1) := by decide +kernel
theorem dX11_say_91 : decode cX11_say 91 = .ok (.getfield 7, 3) := by decide +kernel
theorem dX11_say_94 : decode cX11_say 94 = .ok (.bipush 88, 2) := by decide +kernel
theorem dX11_say_96 : decode cX11_say 96 = .ok (.dup2, 1) := by decide +kernel
theorem dX11_say_97 : decode cX11_say 97 = .ok (.iaload, 1) := by decide +kernel
theorem dX11_say_98 : decode cX11_say 98 = .ok (.iconst 1, 1) := by decide +kernel
theorem dX11_say_99 : decode cX11_say 99 = .ok (.iadd, 1) := by decide +kernel
theorem dX11_say_100 : decode cX11_say 100 = .ok (.iastore, 1) := by decide +kernel
theorem dX11_say_101 : decode cX11_say 101 = .ok (.aload_n 0, 1) := by decide +kernel
theorem dX11_say_102 : decode cX11_say 102 = .ok (.getfield 7, 3) := by decide +kernel
theorem dX11_say_105 : decode cX11_say 105 = .ok (.bipush 88, 2) := by decide +kernel
theorem dX11_say_107 : decode cX11_say 107 = .ok (.iaload, 1) := by decide +kernel
theorem dX11_say_108 : decode cX11_say 108 = .ok (.ireturn, 1) := by decide +kernel
theorem dX11_unsay_0 : decode cX11_unsay 0 = .ok (.iload_n 1, 1) := by decide +kernel
theorem dX11_unsay_1 : decode cX11_unsay 1 = .ok (.i2l, 1) := by decide +kernel
theorem dX11_unsay_2 : decode cX11_unsay 2 = .ok (.lconst 0, 1) := by decide +kernel
theorem dX11_unsay_3 : decode cX11_unsay 3 = .ok (.aload_n 0, 1) := by decide +kernel
theorem dX11_unsay_4 : decode cX11_unsay 4 = .ok (.getfield 7, 3) := by decide +kernel
theorem dX11_unsay_7 : decode cX11_unsay 7 = .ok (.bipush 88, 2) := by decide +kernel
theorem dX11_unsay_9 : decode cX11_unsay 9 = .ok (.iaload, 1) := by decide +kernel
theorem dX11_unsay_10 : decode cX11_unsay 10 = .ok (.i2l, 1) := by decide +kernel
theorem dX11_unsay_11 : decode cX11_unsay 11 = .ok (.invokestatic 120, 3) := by decide +kernel
theorem dX11_unsay_14 : decode cX11_unsay 14 = .ok (.ifCond .ne 5, 3) := by decide +kernel
theorem dX11_unsay_17 : decode cX11_unsay 17 = .ok (.iconst (-1), 1) := by decide +kernel
theorem dX11_unsay_18 : decode cX11_unsay 18 = .ok (.ireturn, 1) := by decide +kernel
theorem dX11_unsay_19 : decode cX11_unsay 19 = .ok (.aload_n 0, 1) := by decide +kernel
theorem dX11_unsay_20 : decode cX11_unsay 20 = .ok (.getfield 7, 3) := by decide +kernel
theorem dX11_unsay_23 : decode cX11_unsay 23 = .ok (.bipush 88, 2) := by decide +kernel
theorem dX11_unsay_25 : decode cX11_unsay 25 = .ok (.iaload, 1) := by decide +kernel
theorem dX11_unsay_26 : decode cX11_unsay 26 = .ok (.istore_n 2, 1) := by decide +kernel
theorem dX11_unsay_27 : decode cX11_unsay 27 = .ok (.aload_n 0, 1) := by decide +kernel
theorem dX11_unsay_28 : decode cX11_unsay 28 = .ok (.getfield 7, 3) := by decide +kernel
theorem dX11_unsay_31 : decode cX11_unsay 31 = .ok (.bipush 88, 2) := by decide +kernel
theorem dX11_unsay_33 : decode cX11_unsay 33 = .ok (.iload_n 1, 1) := by decide +kernel
theorem dX11_unsay_34 : decode cX11_unsay 34 = .ok (.iastore, 1) := by decide +kernel
theorem dX11_unsay_35 : decode cX11_unsay 35 = .ok (.iload_n 2, 1) := by decide +kernel
theorem dX11_unsay_36 : decode cX11_unsay 36 = .ok (.ireturn, 1) := by decide +kernel
theorem dX11_isSay_0 : decode cX11_isSay 0 = .ok (.iload_n 1, 1) := by decide +kernel
theorem dX11_isSay_1 : decode cX11_isSay 1 = .ok (.i2l, 1) := by decide +kernel
theorem dX11_isSay_2 : decode cX11_isSay 2 = .ok (.lconst 0, 1) := by decide +kernel
theorem dX11_isSay_3 : decode cX11_isSay 3 = .ok (.aload_n 0, 1) := by decide +kernel
theorem dX11_isSay_4 : decode cX11_isSay 4 = .ok (.getfield 7, 3) := by decide +kernel
theorem dX11_isSay_7 : decode cX11_isSay 7 = .ok (.bipush 88, 2) := by decide +kernel
theorem dX11_isSay_9 : decode cX11_isSay 9 = .ok (.iaload, 1) := by decide +kernel
theorem dX11_isSay_10 : decode cX11_isSay 10 = .ok (.iconst 1, 1) := by decide +kernel
theorem dX11_isSay_11 : decode cX11_isSay 11 = .ok (.isub, 1) := by decide +kernel
theorem dX11_isSay_12 : decode cX11_isSay 12 = .ok (.i2l, 1) := by decide +kernel
theorem dX11_isSay_13 : decode cX11_isSay 13 = .ok (.invokestatic 120, 3) := by decide +kernel
theorem dX11_isSay_16 : decode cX11_isSay 16 = .ok (.ireturn, 1) := by decide +kernel
theorem dX11_said_0 : decode cX11_said 0 = .ok (.aload_n 0, 1) := by decide +kernel
theorem dX11_said_1 : decode cX11_said 1 = .ok (.iload_n 1, 1) := by decide +kernel
theorem dX11_said_2 : decode cX11_said 2 = .ok (.invokevirtual 350, 3) := by decide +kernel
theorem dX11_said_5 : decode cX11_said 5 = .ok (.ifCond .eq 15, 3) := by decide +kernel
theorem dX11_said_8 : decode cX11_said 8 = .ok (.iload_n 2, 1) := by decide +kernel
theorem dX11_said_9 : decode cX11_said 9 = .ok (.i2l, 1) := by decide +kernel
theorem dX11_said_10 : decode cX11_said 10 = .ok (.lconst 0, 1) := by decide +kernel
theorem dX11_said_11 : decode cX11_said 11 = .ok (.ldc2_w 251, 3) := by decide +kernel
theorem dX11_said_14 : decode cX11_said 14 = .ok (.invokestatic 120, 3) := by decide +kernel
theorem dX11_said_17 : decode cX11_said 17 = .ok (.ifCond .ne 5, 3) := by decide +kernel
theorem dX11_said_20 : decode cX11_said 20 = .ok (.iconst (-1), 1) := by decide +kernel
theorem dX11_said_21 : decode cX11_said 21 = .ok (.ireturn, 1) := by decide +kernel
theorem dX11_said_22 : decode cX11_said 22 = .ok (.iload_n 2, 1) := by decide +kernel
theorem dX11_said_23 : decode cX11_said 23 = .ok (.iconst 3, 1) := by decide +kernel
theorem dX11_said_24 : decode cX11_said 24 = .ok (.if_icmp .ge 10, 3) := by decide +kernel
theorem dX11_said_27 : decode cX11_said 27 = .ok (.aload_n 0, 1) := by decide +kernel
theorem dX11_said_28 : decode cX11_said 28 = .ok (.iload_n 1, 1) := by decide +kernel
theorem dX11_said_29 : decode cX11_said 29 = .ok (.iload_n 2, 1) := by decide +kernel
theorem dX11_said_30 : decode cX11_said 30 = .ok (.invokevirtual 332, 3) := by decide +kernel
theorem dX11_said_33 : decode cX11_said 33 = .ok (.ireturn, 1) := by decide +kernel
theorem dX11_said_34 : decode cX11_said 34 = .ok (.aload_n 0, 1) := by decide +kernel
theorem dX11_said_35 : decode cX11_said 35 = .ok (.iload_n 1, 1) := by decide +kernel
theorem dX11_said_36 : decode cX11_said 36 = .ok (.bipush (-4), 2) := by decide +kernel
theorem dX11_said_38 : decode cX11_said 38 = .ok (.invokevirtual 353, 3) := by decide +kernel
theorem dX11_said_41 : decode cX11_said 41 = .ok (.pop, 1) := by decide +kernel
theorem dX11_said_42 : decode cX11_said 42 = .ok (.aload_n 0, 1) := by decide +kernel
theorem dX11_said_43 : decode cX11_said 43 = .ok (.iload_n 1, 1) := by decide +kernel
theorem dX11_said_44 : decode cX11_said 44 = .ok (.invokevirtual 338, 3) := by decide +kernel
theorem dX11_said_47 : decode cX11_said 47 = .ok (.invokestatic 195, 3) := by decide +kernel
theorem dX11_said_50 : decode cX11_said 50 = .ok (.ireturn, 1) := by decide +kernel
theorem dX11_knows_0 : decode cX11_knows 0 = .ok (.aload_n 0, 1) := by decide +kernel
theorem dX11_knows_1 : decode cX11_knows 1 = .ok (.iload_n 1, 1) := by decide +kernel
theorem dX11_knows_2 : decode cX11_knows 2 = .ok (.invokevirtual 248, 3) := by decide +kernel
theorem dX11_knows_5 : decode cX11_knows 5 = .ok (.ifCond .eq 20, 3) := by decide +kernel
theorem dX11_knows_8 : decode cX11_knows 8 = .ok (.iload_n 2, 1) := by decide +kernel
theorem dX11_knows_9 : decode cX11_knows 9 = .ok (.i2l, 1) := by decide +kernel
theorem dX11_knows_10 : decode cX11_knows 10 = .ok (.lconst 0, 1) := by decide +kernel
theorem dX11_knows_11 : decode cX11_knows 11 = .ok (.aload_n 0, 1) := by decide +kernel
theorem dX11_knows_12 : decode cX11_knows 12 = .ok (.getfield 7, 3) := by decide +kernel
theorem dX11_knows_15 : decode cX11_knows 15 = .ok (.bipush 88, 2) := by decide +kernel
theorem dX11_knows_17 : decode cX11_knows 17 = .ok (.iaload, 1) := by decide +kernel
theorem dX11_knows_18 : decode cX11_knows 18 = .ok (.i2l, 1) := by decide +kernel
theorem dX11_knows_19 : decode cX11_knows 19 = .ok (.invokestatic 120, 3) := by decide +kernel
theorem dX11_knows_22 : decode cX11_knows 22 = .ok (.ifCond .ne 5, 3) := by decide +kernel
theorem dX11_knows_25 : decode cX11_knows 25 = .ok (.iconst (-1), 1) := by decide +kernel
theorem dX11_knows_26 : decode cX11_knows 26 = .ok (.ireturn, 1) := by decide +kernel
theorem dX11_knows_27 : decode cX11_knows 27 = .ok (.aload_n 0, 1) := by decide +kernel
theorem dX11_knows_28 : decode cX11_knows 28 = .ok (.iload_n 2, 1) := by decide +kernel
theorem dX11_knows_29 : decode cX11_knows 29 = .ok (.bipush (-4), 2) := by decide +kernel
theorem dX11_knows_31 : decode cX11_knows 31 = .ok (.invokevirtual 353, 3) := by decide +kernel
theorem dX11_knows_34 : decode cX11_knows 34 = .ok (.pop, 1) := by decide +kernel
theorem dX11_knows_35 : decode cX11_knows 35 = .ok (.iconst 0, 1) := by decide +kernel
theorem dX11_knows_36 : decode cX11_knows 36 = .ok (.istore_n 3, 1) := by decide +kernel
theorem dX11_knows_37 : decode cX11_knows 37 = .ok (.iconst 0, 1) := by decide +kernel
theorem dX11_knows_38 : decode cX11_knows 38 = .ok (.istore 4, 2) := by decide +kernel
theorem dX11_knows_40 : decode cX11_knows 40 = .ok (.iload 4, 2) := by decide +kernel
theorem dX11_knows_42 : decode cX11_knows 42 = .ok (.bipush 8, 2) := by decide +kernel
theorem dX11_knows_44 : decode cX11_knows 44 = .ok (.if_icmp .ge 26, 3) := by decide +kernel
theorem dX11_knows_47 : decode cX11_knows 47 = .ok (.iload_n 3, 1) := by decide +kernel
theorem dX11_knows_48 : decode cX11_knows 48 = .ok (.aload_n 0, 1) := by decide +kernel
theorem dX11_knows_49 : decode cX11_knows 49 = .ok (.getfield 53, 3) := by decide +kernel
theorem dX11_knows_52 : decode cX11_knows 52 = .ok (.iload 4, 2) := by decide +kernel
theorem dX11_knows_54 : decode cX11_knows 54 = .ok (.iaload, 1) := by decide +kernel
theorem dX11_knows_55 : decode cX11_knows 55 = .ok (.iload_n 1, 1) := by decide +kernel
theorem dX11_knows_56 : decode cX11_knows 56 = .ok (.ishr, 1) := by decide +kernel
theorem dX11_knows_57 : decode cX11_knows 57 = .ok (.iconst 1, 1) := by decide +kernel
theorem dX11_knows_58 : decode cX11_knows 58 = .ok (.iand, 1) := by decide +kernel
theorem dX11_knows_59 : decode cX11_knows 59 = .ok (.iload 4, 2) := by decide +kernel
theorem dX11_knows_61 : decode cX11_knows 61 = .ok (.ishl, 1) := by decide +kernel
theorem dX11_knows_62 : decode cX11_knows 62 = .ok (.ior, 1) := by decide +kernel
theorem dX11_knows_63 : decode cX11_knows 63 = .ok (.istore_n 3, 1) := by decide +kernel
theorem dX11_knows_64 : decode cX11_knows 64 = .ok (.iinc 4 1, 3) := by decide +kernel
theorem dX11_knows_67 : decode cX11_knows 67 = .ok (.goto (-27), 3) := by decide +kernel
theorem dX11_knows_70 : decode cX11_knows 70 = .ok (.iload_n 3, 1) := by decide +kernel
theorem dX11_knows_71 : decode cX11_knows 71 = .ok (.ireturn, 1) := by decide +kernel
theorem dX11_since_0 : decode cX11_since 0 = .ok (.aload_n 0, 1) := by decide +kernel
theorem dX11_since_1 : decode cX11_since 1 = .ok (.iload_n 1, 1) := by decide +kernel
theorem dX11_since_2 : decode cX11_since 2 = .ok (.invokevirtual 248, 3) := by decide +kernel
theorem dX11_since_5 : decode cX11_since 5 = .ok (.ifCond .eq 10, 3) := by decide +kernel
theorem dX11_since_8 : decode cX11_since 8 = .ok (.iload_n 2, 1) := by decide +kernel
theorem dX11_since_9 : decode cX11_since 9 = .ok (.invokestatic 347, 3) := by decide +kernel
theorem dX11_since_12 : decode cX11_since 12 = .ok (.ifCond .ne 5, 3) := by decide +kernel
theorem dX11_since_15 : decode cX11_since 15 = .ok (.iconst (-1), 1) := by decide +kernel
theorem dX11_since_16 : decode cX11_since 16 = .ok (.ireturn, 1) := by decide +kernel
theorem dX11_since_17 : decode cX11_since 17 = .ok (.iconst 0, 1) := by decide +kernel
theorem dX11_since_18 : decode cX11_since 18 = .ok (.istore_n 3, 1) := by decide +kernel
theorem dX11_since_19 : decode cX11_since 19 = .ok (.iload_n 3, 1) := by decide +kernel
theorem dX11_since_20 : decode cX11_since 20 = .ok (.aload_n 0, 1) := by decide +kernel
theorem dX11_since_21 : decode cX11_since 21 = .ok (.getfield 7, 3) := by decide +kernel
theorem dX11_since_24 : decode cX11_since 24 = .ok (.bipush 88, 2) := by decide +kernel
theorem dX11_since_26 : decode cX11_since 26 = .ok (.iaload, 1) := by decide +kernel
theorem dX11_since_27 : decode cX11_since 27 = .ok (.if_icmp .ge 35, 3) := by decide +kernel
theorem dX11_since_30 : decode cX11_since 30 = .ok (.aload_n 0, 1) := by decide +kernel
theorem dX11_since_31 : decode cX11_since 31 = .ok (.iload_n 3, 1) := by decide +kernel
theorem dX11_since_32 : decode cX11_since 32 = .ok (.iconst 1, 1) := by decide +kernel
theorem dX11_since_33 : decode cX11_since 33 = .ok (.iadd, 1) := by decide +kernel
theorem dX11_since_34 : decode cX11_since 34 = .ok (.bipush (-4), 2) := by decide +kernel
theorem dX11_since_36 : decode cX11_since 36 = .ok (.invokevirtual 353, 3) := by decide +kernel
theorem dX11_since_39 : decode cX11_since 39 = .ok (.pop, 1) := by decide +kernel
theorem dX11_since_40 : decode cX11_since 40 = .ok (.aload_n 0, 1) := by decide +kernel
theorem dX11_since_41 : decode cX11_since 41 = .ok (.getfield 53, 3) := by decide +kernel
theorem dX11_since_44 : decode cX11_since 44 = .ok (.iload_n 2, 1) := by decide +kernel
theorem dX11_since_45 : decode cX11_since 45 = .ok (.iaload, 1) := by decide +kernel
theorem dX11_since_46 : decode cX11_since 46 = .ok (.iload_n 1, 1) := by decide +kernel
theorem dX11_since_47 : decode cX11_since 47 = .ok (.ishr, 1) := by decide +kernel
theorem dX11_since_48 : decode cX11_since 48 = .ok (.iconst 1, 1) := by decide +kernel
theorem dX11_since_49 : decode cX11_since 49 = .ok (.iand, 1) := by decide +kernel
theorem dX11_since_50 : decode cX11_since 50 = .ok (.iconst 1, 1) := by decide +kernel
theorem dX11_since_51 : decode cX11_since 51 = .ok (.if_icmp .ne 5, 3) := by decide +kernel
theorem dX11_since_54 : decode cX11_since 54 = .ok (.iload_n 3, 1) := by decide +kernel
theorem dX11_since_55 : decode cX11_since 55 = .ok (.ireturn, 1) := by decide +kernel
theorem dX11_since_56 : decode cX11_since 56 = .ok (.iinc 3 1, 3) := by decide +kernel
theorem dX11_since_59 : decode cX11_since 59 = .ok (.goto (-40), 3) := by decide +kernel
theorem dX11_since_62 : decode cX11_since 62 = .ok (.bipush (-4), 2) := by decide +kernel
theorem dX11_since_64 : decode cX11_since 64 = .ok (.ireturn, 1) := by decide +kernel
theorem dX11_leak_0 : decode cX11_leak 0 = .ok (.iload_n 1, 1) := by decide +kernel
theorem dX11_leak_1 : decode cX11_leak 1 = .ok (.invokestatic 347, 3) := by decide +kernel
theorem dX11_leak_4 : decode cX11_leak 4 = .ok (.ifCond .eq 33, 3) := by decide +kernel
theorem dX11_leak_7 : decode cX11_leak 7 = .ok (.iload_n 2, 1) := by decide +kernel
theorem dX11_leak_8 : decode cX11_leak 8 = .ok (.i2l, 1) := by decide +kernel
theorem dX11_leak_9 : decode cX11_leak 9 = .ok (.lconst 0, 1) := by decide +kernel
theorem dX11_leak_10 : decode cX11_leak 10 = .ok (.iconst 1, 1) := by decide +kernel
theorem dX11_leak_11 : decode cX11_leak 11 = .ok (.aload_n 0, 1) := by decide +kernel
theorem dX11_leak_12 : decode cX11_leak 12 = .ok (.getfield 109, 3) := by decide +kernel
theorem dX11_leak_15 : decode cX11_leak 15 = .ok (.ishl, 1) := by decide +kernel
theorem dX11_leak_16 : decode cX11_leak 16 = .ok (.iconst 1, 1) := by decide +kernel
theorem dX11_leak_17 : decode cX11_leak 17 = .ok (.isub, 1) := by decide +kernel
theorem dX11_leak_18 : decode cX11_leak 18 = .ok (.i2l, 1) := by decide +kernel
theorem dX11_leak_19 : decode cX11_leak 19 = .ok (.invokestatic 120, 3) := by decide +kernel
theorem dX11_leak_22 : decode cX11_leak 22 = .ok (.ifCond .eq 15, 3) := by decide +kernel
theorem dX11_leak_25 : decode cX11_leak 25 = .ok (.iload_n 3, 1) := by decide +kernel
theorem dX11_leak_26 : decode cX11_leak 26 = .ok (.i2l, 1) := by decide +kernel
theorem dX11_leak_27 : decode cX11_leak 27 = .ok (.lconst 0, 1) := by decide +kernel
theorem dX11_leak_28 : decode cX11_leak 28 = .ok (.ldc2_w 226, 3) := by decide +kernel
theorem dX11_leak_31 : decode cX11_leak 31 = .ok (.invokestatic 120, 3) := by decide +kernel
theorem dX11_leak_34 : decode cX11_leak 34 = .ok (.ifCond .ne 5, 3) := by decide +kernel
theorem dX11_leak_37 : decode cX11_leak 37 = .ok (.iconst (-1), 1) := by decide +kernel
theorem dX11_leak_38 : decode cX11_leak 38 = .ok (.ireturn, 1) := by decide +kernel
theorem dX11_leak_39 : decode cX11_leak 39 = .ok (.iconst 0, 1) := by decide +kernel
theorem dX11_leak_40 : decode cX11_leak 40 = .ok (.istore 4, 2) := by decide +kernel
theorem dX11_leak_42 : decode cX11_leak 42 = .ok (.iload 4, 2) := by decide +kernel
theorem dX11_leak_44 : decode cX11_leak 44 = .ok (.aload_n 0, 1) := by decide +kernel
theorem dX11_leak_45 : decode cX11_leak 45 = .ok (.getfield 7, 3) := by decide +kernel
theorem dX11_leak_48 : decode cX11_leak 48 = .ok (.bipush 88, 2) := by decide +kernel
theorem dX11_leak_50 : decode cX11_leak 50 = .ok (.iaload, 1) := by decide +kernel
theorem dX11_leak_51 : decode cX11_leak 51 = .ok (.if_icmp .ge 64, 3) := by decide +kernel
theorem dX11_leak_54 : decode cX11_leak 54 = .ok (.aload_n 0, 1) := by decide +kernel
theorem dX11_leak_55 : decode cX11_leak 55 = .ok (.iload 4, 2) := by decide +kernel
theorem dX11_leak_57 : decode cX11_leak 57 = .ok (.iconst 1, 1) := by decide +kernel
theorem dX11_leak_58 : decode cX11_leak 58 = .ok (.iadd, 1) := by decide +kernel
theorem dX11_leak_59 : decode cX11_leak 59 = .ok (.bipush (-4), 2) := by decide +kernel
theorem dX11_leak_61 : decode cX11_leak 61 = .ok (.invokevirtual 353, 3) := by decide +kernel
theorem dX11_leak_64 : decode cX11_leak 64 = .ok (.pop, 1) := by decide +kernel
theorem dX11_leak_65 : decode cX11_leak 65 = .ok (.aload_n 0, 1) := by decide +kernel
theorem dX11_leak_66 : decode cX11_leak 66 = .ok (.getfield 53, 3) := by decide +kernel
theorem dX11_leak_69 : decode cX11_leak 69 = .ok (.iload_n 1, 1) := by decide +kernel
theorem dX11_leak_70 : decode cX11_leak 70 = .ok (.iaload, 1) := by decide +kernel
theorem dX11_leak_71 : decode cX11_leak 71 = .ok (.iload_n 2, 1) := by decide +kernel
theorem dX11_leak_72 : decode cX11_leak 72 = .ok (.iconst (-1), 1) := by decide +kernel
theorem dX11_leak_73 : decode cX11_leak 73 = .ok (.ixor, 1) := by decide +kernel
theorem dX11_leak_74 : decode cX11_leak 74 = .ok (.iand, 1) := by decide +kernel
theorem dX11_leak_75 : decode cX11_leak 75 = .ok (.istore 5, 2) := by decide +kernel
theorem dX11_leak_77 : decode cX11_leak 77 = .ok (.iload 5, 2) := by decide +kernel
theorem dX11_leak_79 : decode cX11_leak 79 = .ok (.ifCond .eq 30, 3) := by decide +kernel
theorem dX11_leak_82 : decode cX11_leak 82 = .ok (.iload_n 3, 1) := by decide +kernel
theorem dX11_leak_83 : decode cX11_leak 83 = .ok (.ifCond .ne 8, 3) := by decide +kernel
theorem dX11_leak_86 : decode cX11_leak 86 = .ok (.iload 4, 2) := by decide +kernel
theorem dX11_leak_88 : decode cX11_leak 88 = .ok (.goto 20, 3) := by decide +kernel
theorem dX11_leak_91 : decode cX11_leak 91 = .ok (.iload_n 3, 1) := by decide +kernel
theorem dX11_leak_92 : decode cX11_leak 92 = .ok (.iconst 1, 1) := by decide +kernel
theorem dX11_leak_93 : decode cX11_leak 93 = .ok (.if_icmp .ne 13, 3) := by decide +kernel
theorem dX11_leak_96 : decode cX11_leak 96 = .ok (.aload_n 0, 1) := by decide +kernel
theorem dX11_leak_97 : decode cX11_leak 97 = .ok (.iload 4, 2) := by decide +kernel
theorem dX11_leak_99 : decode cX11_leak 99 = .ok (.iconst 1, 1) := by decide +kernel
theorem dX11_leak_100 : decode cX11_leak 100 = .ok (.invokevirtual 332, 3) := by decide +kernel
theorem dX11_leak_103 : decode cX11_leak 103 = .ok (.goto 5, 3) := by decide +kernel
theorem dX11_leak_106 : decode cX11_leak 106 = .ok (.iload 5, 2) := by decide +kernel
theorem dX11_leak_108 : decode cX11_leak 108 = .ok (.ireturn, 1) := by decide +kernel
theorem dX11_leak_109 : decode cX11_leak 109 = .ok (.iinc 4 1, 3) := by decide +kernel
theorem dX11_leak_112 : decode cX11_leak 112 = .ok (.goto (-70), 3) := by decide +kernel
theorem dX11_leak_115 : decode cX11_leak 115 = .ok (.bipush (-4), 2) := by decide +kernel
theorem dX11_leak_117 : decode cX11_leak 117 = .ok (.ireturn, 1) := by decide +kernel
theorem dX11_without_0 : decode cX11_without 0 = .ok (.aload_n 0, 1) := by decide +kernel
theorem dX11_without_1 : decode cX11_without 1 = .ok (.iload_n 1, 1) := by decide +kernel
theorem dX11_without_2 : decode cX11_without 2 = .ok (.invokevirtual 350, 3) := by decide +kernel
theorem dX11_without_5 : decode cX11_without 5 = .ok (.ifCond .ne 5, 3) := by decide +kernel
theorem dX11_without_8 : decode cX11_without 8 = .ok (.iconst (-1), 1) := by decide +kernel
theorem dX11_without_9 : decode cX11_without 9 = .ok (.ireturn, 1) := by decide +kernel
theorem dX11_without_10 : decode cX11_without 10 = .ok (.aload_n 0, 1) := by decide +kernel
theorem dX11_without_11 : decode cX11_without 11 = .ok (.iload_n 1, 1) := by decide +kernel
theorem dX11_without_12 : decode cX11_without 12 = .ok (.iconst 2, 1) := by decide +kernel
theorem dX11_without_13 : decode cX11_without 13 = .ok (.invokevirtual 332, 3) := by decide +kernel
theorem dX11_without_16 : decode cX11_without 16 = .ok (.istore_n 2, 1) := by decide +kernel
theorem dX11_without_17 : decode cX11_without 17 = .ok (.aload_n 0, 1) := by decide +kernel
theorem dX11_without_18 : decode cX11_without 18 = .ok (.aload_n 0, 1) := by decide +kernel
theorem dX11_without_19 : decode cX11_without 19 = .ok (.getfield 7, 3) := by decide +kernel
theorem dX11_without_22 : decode cX11_without 22 = .ok (.bipush 88, 2) := by decide +kernel
theorem dX11_without_24 : decode cX11_without 24 = .ok (.iaload, 1) := by decide +kernel
theorem dX11_without_25 : decode cX11_without 25 = .ok (.bipush (-4), 2) := by decide +kernel
theorem dX11_without_27 : decode cX11_without 27 = .ok (.invokevirtual 353, 3) := by decide +kernel
theorem dX11_without_30 : decode cX11_without 30 = .ok (.pop, 1) := by decide +kernel
theorem dX11_without_31 : decode cX11_without 31 = .ok (.aload_n 0, 1) := by decide +kernel
theorem dX11_without_32 : decode cX11_without 32 = .ok (.getfield 53, 3) := by decide +kernel
theorem dX11_without_35 : decode cX11_without 35 = .ok (.iload_n 2, 1) := by decide +kernel
theorem dX11_without_36 : decode cX11_without 36 = .ok (.iaload, 1) := by decide +kernel
theorem dX11_without_37 : decode cX11_without 37 = .ok (.invokestatic 309, 3) := by decide +kernel
theorem dX11_without_40 : decode cX11_without 40 = .ok (.istore_n 3, 1) := by decide +kernel
theorem dX11_without_41 : decode cX11_without 41 = .ok (.aload_n 0, 1) := by decide +kernel
theorem dX11_without_42 : decode cX11_without 42 = .ok (.aload_n 0, 1) := by decide +kernel
theorem dX11_without_43 : decode cX11_without 43 = .ok (.getfield 7, 3) := by decide +kernel
theorem dX11_without_46 : decode cX11_without 46 = .ok (.bipush 88, 2) := by decide +kernel
theorem dX11_without_48 : decode cX11_without 48 = .ok (.iaload, 1) := by decide +kernel
theorem dX11_without_49 : decode cX11_without 49 = .ok (.iload_n 1, 1) := by decide +kernel
theorem dX11_without_50 : decode cX11_without 50 = .ok (.invokevirtual 353, 3) := by decide +kernel
theorem dX11_without_53 : decode cX11_without 53 = .ok (.pop, 1) := by decide +kernel
theorem dX11_without_54 : decode cX11_without 54 = .ok (.iload_n 3, 1) := by decide +kernel
theorem dX11_without_55 : decode cX11_without 55 = .ok (.aload_n 0, 1) := by decide +kernel
theorem dX11_without_56 : decode cX11_without 56 = .ok (.getfield 53, 3) := by decide +kernel
theorem dX11_without_59 : decode cX11_without 59 = .ok (.iload_n 2, 1) := by decide +kernel
theorem dX11_without_60 : decode cX11_without 60 = .ok (.iaload, 1) := by decide +kernel
theorem dX11_without_61 : decode cX11_without 61 = .ok (.invokestatic 309, 3) := by decide +kernel
theorem dX11_without_64 : decode cX11_without 64 = .ok (.isub, 1) := by decide +kernel
theorem dX11_without_65 : decode cX11_without 65 = .ok (.istore 4, 2) := by decide +kernel
theorem dX11_without_67 : decode cX11_without 67 = .ok (.iload 4, 2) := by decide +kernel
theorem dX11_without_69 : decode cX11_without 69 = .ok (.ifCond .ge 11, 3) := by decide +kernel
theorem dX11_without_72 : decode cX11_without 72 = .ok (.iload 4, 2) := by decide +kernel
theorem dX11_without_74 : decode cX11_without 74 = .ok (.bipush 100, 2) := by decide +kernel
theorem dX11_without_76 : decode cX11_without 76 = .ok (.isub, 1) := by decide +kernel
theorem dX11_without_77 : decode cX11_without 77 = .ok (.goto 5, 3) := by decide +kernel
theorem dX11_without_80 : decode cX11_without 80 = .ok (.iload 4, 2) := by decide +kernel
theorem dX11_without_82 : decode cX11_without 82 = .ok (.ireturn, 1) := by decide +kernel
theorem dX11_murmur_0 : decode cX11_murmur 0 = .ok (.iload_n 2, 1) := by decide +kernel
theorem dX11_murmur_1 : decode cX11_murmur 1 = .ok (.i2l, 1) := by decide +kernel
theorem dX11_murmur_2 : decode cX11_murmur 2 = .ok (.lconst 1, 1) := by decide +kernel
theorem dX11_murmur_3 : decode cX11_murmur 3 = .ok (.ldc2_w 356, 3) := by decide +kernel
theorem dX11_murmur_6 : decode cX11_murmur 6 = .ok (.invokestatic 120, 3) := by decide +kernel
theorem dX11_murmur_9 : decode cX11_murmur 9 = .ok (.ifCond .eq 10, 3) := by decide +kernel
theorem dX11_murmur_12 : decode cX11_murmur 12 = .ok (.iload_n 3, 1) := by decide +kernel
theorem dX11_murmur_13 : decode cX11_murmur 13 = .ok (.invokestatic 231, 3) := by decide +kernel
theorem dX11_murmur_16 : decode cX11_murmur 16 = .ok (.ifCond .ne 5, 3) := by decide +kernel
theorem dX11_murmur_19 : decode cX11_murmur 19 = .ok (.iconst (-1), 1) := by decide +kernel
theorem dX11_murmur_20 : decode cX11_murmur 20 = .ok (.ireturn, 1) := by decide +kernel
theorem dX11_murmur_21 : decode cX11_murmur 21 = .ok (.aload_n 0, 1) := by decide +kernel
theorem dX11_murmur_22 : decode cX11_murmur 22 = .ok (.getfield 109, 3) := by decide +kernel
theorem dX11_murmur_25 : decode cX11_murmur 25 = .ok (.ifCond .ne 6, 3) := by decide +kernel
theorem dX11_murmur_28 : decode cX11_murmur 28 = .ok (.bipush (-2), 2) := by decide +kernel
theorem dX11_murmur_30 : decode cX11_murmur 30 = .ok (.ireturn, 1) := by decide +kernel
theorem dX11_murmur_31 : decode cX11_murmur 31 = .ok (.iload_n 1, 1) := by decide +kernel
theorem dX11_murmur_32 : decode cX11_murmur 32 = .ok (.istore 4, 2) := by decide +kernel
theorem dX11_murmur_34 : decode cX11_murmur 34 = .ok (.iconst 0, 1) := by decide +kernel
theorem dX11_murmur_35 : decode cX11_murmur 35 = .ok (.istore 5, 2) := by decide +kernel
theorem dX11_murmur_37 : decode cX11_murmur 37 = .ok (.iload 5, 2) := by decide +kernel
theorem dX11_murmur_39 : decode cX11_murmur 39 = .ok (.iload_n 2, 1) := by decide +kernel
theorem dX11_murmur_40 : decode cX11_murmur 40 = .ok (.if_icmp .ge 94, 3) := by decide +kernel
theorem dX11_murmur_43 : decode cX11_murmur 43 = .ok (.bipush 89, 2) := by decide +kernel
theorem dX11_murmur_45 : decode cX11_murmur 45 = .ok (.iconst 3, 1) := by decide +kernel
theorem dX11_murmur_46 : decode cX11_murmur 46 = .ok (.iload 5, 2) := by decide +kernel
theorem dX11_murmur_48 : decode cX11_murmur 48 = .ok (.imul, 1) := by decide +kernel
theorem dX11_murmur_49 : decode cX11_murmur 49 = .ok (.iadd, 1) := by decide +kernel
theorem dX11_murmur_50 : decode cX11_murmur 50 = .ok (.istore 6, 2) := by decide +kernel
theorem dX11_murmur_52 : decode cX11_murmur 52 = .ok (.aload_n 0, 1) := by decide +kernel
theorem dX11_murmur_53 : decode cX11_murmur 53 = .ok (.getfield 7, 3) := by decide +kernel
theorem dX11_murmur_56 : decode cX11_murmur 56 = .ok (.iload 6, 2) := by decide +kernel
theorem dX11_murmur_58 : decode cX11_murmur 58 = .ok (.iload_n 3, 1) := by decide +kernel
theorem dX11_murmur_59 : decode cX11_murmur 59 = .ok (.iastore, 1) := by decide +kernel
theorem dX11_murmur_60 : decode cX11_murmur 60 = .ok (.iload 4, 2) := by decide +kernel
theorem dX11_murmur_62 : decode cX11_murmur 62 = .ok (.ldc_w 358, 3) := by decide +kernel
theorem dX11_murmur_65 : decode cX11_murmur 65 = .ok (.imul, 1) := by decide +kernel
theorem dX11_murmur_66 : decode cX11_murmur 66 = .ok (.sipush 12345, 3) := by decide +kernel
theorem dX11_murmur_69 : decode cX11_murmur 69 = .ok (.iadd, 1) := by decide +kernel
theorem dX11_murmur_70 : decode cX11_murmur 70 = .ok (.istore 4, 2) := by decide +kernel
theorem dX11_murmur_72 : decode cX11_murmur 72 = .ok (.aload_n 0, 1) := by decide +kernel
theorem dX11_murmur_73 : decode cX11_murmur 73 = .ok (.getfield 7, 3) := by decide +kernel
theorem dX11_murmur_76 : decode cX11_murmur 76 = .ok (.iload 6, 2) := by decide +kernel
theorem dX11_murmur_78 : decode cX11_murmur 78 = .ok (.iconst 1, 1) := by decide +kernel
theorem dX11_murmur_79 : decode cX11_murmur 79 = .ok (.iadd, 1) := by decide +kernel
theorem dX11_murmur_80 : decode cX11_murmur 80 = .ok (.iload 4, 2) := by decide +kernel
theorem dX11_murmur_82 : decode cX11_murmur 82 = .ok (.bipush 16, 2) := by decide +kernel
theorem dX11_murmur_84 : decode cX11_murmur 84 = .ok (.ishr, 1) := by decide +kernel
theorem dX11_murmur_85 : decode cX11_murmur 85 = .ok (.sipush 32767, 3) := by decide +kernel
theorem dX11_murmur_88 : decode cX11_murmur 88 = .ok (.iand, 1) := by decide +kernel
theorem dX11_murmur_89 : decode cX11_murmur 89 = .ok (.aload_n 0, 1) := by decide +kernel
theorem dX11_murmur_90 : decode cX11_murmur 90 = .ok (.getfield 109, 3) := by decide +kernel
theorem dX11_murmur_93 : decode cX11_murmur 93 = .ok (.irem, 1) := by decide +kernel
theorem dX11_murmur_94 : decode cX11_murmur 94 = .ok (.iastore, 1) := by decide +kernel
theorem dX11_murmur_95 : decode cX11_murmur 95 = .ok (.iload 4, 2) := by decide +kernel
theorem dX11_murmur_97 : decode cX11_murmur 97 = .ok (.ldc_w 358, 3) := by decide +kernel
theorem dX11_murmur_100 : decode cX11_murmur 100 = .ok (.imul, 1) := by decide +kernel
theorem dX11_murmur_101 : decode cX11_murmur 101 = .ok (.sipush 12345, 3) := by decide +kernel
theorem dX11_murmur_104 : decode cX11_murmur 104 = .ok (.iadd, 1) := by decide +kernel
theorem dX11_murmur_105 : decode cX11_murmur 105 = .ok (.istore 4, 2) := by decide +kernel
theorem dX11_murmur_107 : decode cX11_murmur 107 = .ok (.aload_n 0, 1) := by decide +kernel
theorem dX11_murmur_108 : decode cX11_murmur 108 = .ok (.getfield 7, 3) := by decide +kernel
theorem dX11_murmur_111 : decode cX11_murmur 111 = .ok (.iload 6, 2) := by decide +kernel
theorem dX11_murmur_113 : decode cX11_murmur 113 = .ok (.iconst 2, 1) := by decide +kernel
theorem dX11_murmur_114 : decode cX11_murmur 114 = .ok (.iadd, 1) := by decide +kernel
theorem dX11_murmur_115 : decode cX11_murmur 115 = .ok (.iload 4, 2) := by decide +kernel
theorem dX11_murmur_117 : decode cX11_murmur 117 = .ok (.bipush 16, 2) := by decide +kernel
theorem dX11_murmur_119 : decode cX11_murmur 119 = .ok (.ishr, 1) := by decide +kernel
theorem dX11_murmur_120 : decode cX11_murmur 120 = .ok (.sipush 32767, 3) := by decide +kernel
theorem dX11_murmur_123 : decode cX11_murmur 123 = .ok (.iand, 1) := by decide +kernel
theorem dX11_murmur_124 : decode cX11_murmur 124 = .ok (.bipush 8, 2) := by decide +kernel
theorem dX11_murmur_126 : decode cX11_murmur 126 = .ok (.irem, 1) := by decide +kernel
theorem dX11_murmur_127 : decode cX11_murmur 127 = .ok (.iastore, 1) := by decide +kernel
theorem dX11_murmur_128 : decode cX11_murmur 128 = .ok (.iinc 5 1, 3) := by decide +kernel
theorem dX11_murmur_131 : decode cX11_murmur 131 = .ok (.goto (-94), 3) := by decide +kernel
theorem dX11_murmur_134 : decode cX11_murmur 134 = .ok (.aload_n 0, 1) := by decide +kernel
theorem dX11_murmur_135 : decode cX11_murmur 135 = .ok (.getfield 7, 3) := by decide +kernel
theorem dX11_murmur_138 : decode cX11_murmur 138 = .ok (.bipush 88, 2) := by decide +kernel
theorem dX11_murmur_140 : decode cX11_murmur 140 = .ok (.iload_n 2, 1) := by decide +kernel
theorem dX11_murmur_141 : decode cX11_murmur 141 = .ok (.iastore, 1) := by decide +kernel
theorem dX11_murmur_142 : decode cX11_murmur 142 = .ok (.aload_n 0, 1) := by decide +kernel
theorem dX11_murmur_143 : decode cX11_murmur 143 = .ok (.iload_n 2, 1) := by decide +kernel
theorem dX11_murmur_144 : decode cX11_murmur 144 = .ok (.bipush (-4), 2) := by decide +kernel
theorem dX11_murmur_146 : decode cX11_murmur 146 = .ok (.invokevirtual 353, 3) := by decide +kernel
theorem dX11_murmur_149 : decode cX11_murmur 149 = .ok (.ireturn, 1) := by decide +kernel
theorem dX11_areBenches_0 : decode cX11_areBenches 0 = .ok (.iload_n 1, 1) := by decide +kernel
theorem dX11_areBenches_1 : decode cX11_areBenches 1 = .ok (.i2l, 1) := by decide +kernel
theorem dX11_areBenches_2 : decode cX11_areBenches 2 = .ok (.lconst 0, 1) := by decide +kernel
theorem dX11_areBenches_3 : decode cX11_areBenches 3 = .ok (.iconst 1, 1) := by decide +kernel
theorem dX11_areBenches_4 : decode cX11_areBenches 4 = .ok (.aload_n 0, 1) := by decide +kernel
theorem dX11_areBenches_5 : decode cX11_areBenches 5 = .ok (.getfield 102, 3) := by decide +kernel
theorem dX11_areBenches_8 : decode cX11_areBenches 8 = .ok (.ishl, 1) := by decide +kernel
theorem dX11_areBenches_9 : decode cX11_areBenches 9 = .ok (.iconst 1, 1) := by decide +kernel
theorem dX11_areBenches_10 : decode cX11_areBenches 10 = .ok (.isub, 1) := by decide +kernel
theorem dX11_areBenches_11 : decode cX11_areBenches 11 = .ok (.i2l, 1) := by decide +kernel
theorem dX11_areBenches_12 : decode cX11_areBenches 12 = .ok (.invokestatic 120, 3) := by decide +kernel
theorem dX11_areBenches_15 : decode cX11_areBenches 15 = .ok (.ireturn, 1) := by decide +kernel
theorem dX11_from_0 : decode cX11_from 0 = .ok (.aload_n 0, 1) := by decide +kernel
theorem dX11_from_1 : decode cX11_from 1 = .ok (.iload_n 1, 1) := by decide +kernel
theorem dX11_from_2 : decode cX11_from 2 = .ok (.invokevirtual 359, 3) := by decide +kernel
theorem dX11_from_5 : decode cX11_from 5 = .ok (.ifCond .eq 10, 3) := by decide +kernel
theorem dX11_from_8 : decode cX11_from 8 = .ok (.iload_n 2, 1) := by decide +kernel
theorem dX11_from_9 : decode cX11_from 9 = .ok (.invokestatic 231, 3) := by decide +kernel
theorem dX11_from_12 : decode cX11_from 12 = .ok (.ifCond .ne 5, 3) := by decide +kernel
theorem dX11_from_15 : decode cX11_from 15 = .ok (.iconst (-1), 1) := by decide +kernel
theorem dX11_from_16 : decode cX11_from 16 = .ok (.ireturn, 1) := by decide +kernel
theorem dX11_from_17 : decode cX11_from 17 = .ok (.iconst 0, 1) := by decide +kernel
theorem dX11_from_18 : decode cX11_from 18 = .ok (.istore_n 3, 1) := by decide +kernel
theorem dX11_from_19 : decode cX11_from 19 = .ok (.iconst 0, 1) := by decide +kernel
theorem dX11_from_20 : decode cX11_from 20 = .ok (.istore 4, 2) := by decide +kernel
theorem dX11_from_22 : decode cX11_from 22 = .ok (.iload 4, 2) := by decide +kernel
theorem dX11_from_24 : decode cX11_from 24 = .ok (.aload_n 0, 1) := by decide +kernel
theorem dX11_from_25 : decode cX11_from 25 = .ok (.getfield 102, 3) := by decide +kernel
theorem dX11_from_28 : decode cX11_from 28 = .ok (.if_icmp .ge 34, 3) := by decide +kernel
theorem dX11_from_31 : decode cX11_from 31 = .ok (.iload_n 3, 1) := by decide +kernel
theorem dX11_from_32 : decode cX11_from 32 = .ok (.aload_n 0, 1) := by decide +kernel
theorem dX11_from_33 : decode cX11_from 33 = .ok (.iload 4, 2) := by decide +kernel
theorem dX11_from_35 : decode cX11_from 35 = .ok (.iload_n 2, 1) := by decide +kernel
theorem dX11_from_36 : decode cX11_from 36 = .ok (.invokevirtual 285, 3) := by decide +kernel
theorem dX11_from_39 : decode cX11_from 39 = .ok (.iload_n 1, 1) := by decide +kernel
theorem dX11_from_40 : decode cX11_from 40 = .ok (.if_icmp .ne 7, 3) := by decide +kernel
theorem dX11_from_43 : decode cX11_from 43 = .ok (.iconst 1, 1) := by decide +kernel
theorem dX11_from_44 : decode cX11_from 44 = .ok (.goto 4, 3) := by decide +kernel
theorem dX11_from_47 : decode cX11_from 47 = .ok (.iconst 0, 1) := by decide +kernel
theorem dX11_from_48 : decode cX11_from 48 = .ok (.invokestatic 195, 3) := by decide +kernel
theorem dX11_from_51 : decode cX11_from 51 = .ok (.iload 4, 2) := by decide +kernel
theorem dX11_from_53 : decode cX11_from 53 = .ok (.ishl, 1) := by decide +kernel
theorem dX11_from_54 : decode cX11_from 54 = .ok (.ior, 1) := by decide +kernel
theorem dX11_from_55 : decode cX11_from 55 = .ok (.istore_n 3, 1) := by decide +kernel
theorem dX11_from_56 : decode cX11_from 56 = .ok (.iinc 4 1, 3) := by decide +kernel
theorem dX11_from_59 : decode cX11_from 59 = .ok (.goto (-37), 3) := by decide +kernel
theorem dX11_from_62 : decode cX11_from 62 = .ok (.iload_n 3, 1) := by decide +kernel
theorem dX11_from_63 : decode cX11_from 63 = .ok (.ireturn, 1) := by decide +kernel
theorem dX11_where_0 : decode cX11_where 0 = .ok (.aload_n 0, 1) := by decide +kernel
theorem dX11_where_1 : decode cX11_where 1 = .ok (.iload_n 1, 1) := by decide +kernel
theorem dX11_where_2 : decode cX11_where 2 = .ok (.invokevirtual 359, 3) := by decide +kernel
theorem dX11_where_5 : decode cX11_where 5 = .ok (.ifCond .eq 26, 3) := by decide +kernel
theorem dX11_where_8 : decode cX11_where 8 = .ok (.iload_n 1, 1) := by decide +kernel
theorem dX11_where_9 : decode cX11_where 9 = .ok (.ifCond .eq 22, 3) := by decide +kernel
theorem dX11_where_12 : decode cX11_where 12 = .ok (.iload_n 2, 1) := by decide +kernel
theorem dX11_where_13 : decode cX11_where 13 = .ok (.invokestatic 231, 3) := by decide +kernel
theorem dX11_where_16 : decode cX11_where 16 = .ok (.ifCond .eq 15, 3) := by decide +kernel
theorem dX11_where_19 : decode cX11_where 19 = .ok (.iload_n 3, 1) := by decide +kernel
theorem dX11_where_20 : decode cX11_where 20 = .ok (.i2l, 1) := by decide +kernel
theorem dX11_where_21 : decode cX11_where 21 = .ok (.lconst 0, 1) := by decide +kernel
theorem dX11_where_22 : decode cX11_where 22 = .ok (.ldc2_w 226, 3) := by decide +kernel
theorem dX11_where_25 : decode cX11_where 25 = .ok (.invokestatic 120, 3) := by decide +kernel
theorem dX11_where_28 : decode cX11_where 28 = .ok (.ifCond .ne 5, 3) := by decide +kernel
theorem dX11_where_31 : decode cX11_where 31 = .ok (.iconst (-1), 1) := by decide +kernel
theorem dX11_where_32 : decode cX11_where 32 = .ok (.ireturn, 1) := by decide +kernel
theorem dX11_where_33 : decode cX11_where 33 = .ok (.iconst 0, 1) := by decide +kernel
theorem dX11_where_34 : decode cX11_where 34 = .ok (.istore 4, 2) := by decide +kernel
theorem dX11_where_36 : decode cX11_where 36 = .ok (.bipush (-4), 2) := by decide +kernel
theorem dX11_where_38 : decode cX11_where 38 = .ok (.istore 5, 2) := by decide +kernel
theorem dX11_where_40 : decode cX11_where 40 = .ok (.bipush (-4), 2) := by decide +kernel
theorem dX11_where_42 : decode cX11_where 42 = .ok (.istore 6, 2) := by decide +kernel
theorem dX11_where_44 : decode cX11_where 44 = .ok (.bipush 80, 2) := by decide +kernel
theorem dX11_where_46 : decode cX11_where 46 = .ok (.istore 7, 2) := by decide +kernel
theorem dX11_where_48 : decode cX11_where 48 = .ok (.iload 7, 2) := by decide +kernel
theorem dX11_where_50 : decode cX11_where 50 = .ok (.ifCond .lt 128, 3) := by decide +kernel
theorem dX11_where_53 : decode cX11_where 53 = .ok (.bipush (-4), 2) := by decide +kernel
theorem dX11_where_55 : decode cX11_where 55 = .ok (.istore 8, 2) := by decide +kernel
theorem dX11_where_57 : decode cX11_where 57 = .ok (.bipush 7, 2) := by decide +kernel
theorem dX11_where_59 : decode cX11_where 59 = .ok (.istore 9, 2) := by decide +kernel
theorem dX11_where_61 : decode cX11_where 61 = .ok (.iload 9, 2) := by decide +kernel
theorem dX11_where_63 : decode cX11_where 63 = .ok (.ifCond .lt 57, 3) := by decide +kernel
theorem dX11_where_66 : decode cX11_where 66 = .ok (.aload_n 0, 1) := by decide +kernel
theorem dX11_where_67 : decode cX11_where 67 = .ok (.iload 7, 2) := by decide +kernel
theorem dX11_where_69 : decode cX11_where 69 = .ok (.invokevirtual 219, 3) := by decide +kernel
theorem dX11_where_72 : decode cX11_where 72 = .ok (.ifCond .eq 48, 3) := by decide +kernel
theorem dX11_where_75 : decode cX11_where 75 = .ok (.aload_n 0, 1) := by decide +kernel
theorem dX11_where_76 : decode cX11_where 76 = .ok (.getfield 7, 3) := by decide +kernel
theorem dX11_where_79 : decode cX11_where 79 = .ok (.iload 7, 2) := by decide +kernel
theorem dX11_where_81 : decode cX11_where 81 = .ok (.iaload, 1) := by decide +kernel
theorem dX11_where_82 : decode cX11_where 82 = .ok (.ifCond .ne 38, 3) := by decide +kernel
theorem dX11_where_85 : decode cX11_where 85 = .ok (.aload_n 0, 1) := by decide +kernel
theorem dX11_where_86 : decode cX11_where 86 = .ok (.iload 7, 2) := by decide +kernel
theorem dX11_where_88 : decode cX11_where 88 = .ok (.iload 9, 2) := by decide +kernel
theorem dX11_where_90 : decode cX11_where 90 = .ok (.iconst 0, 1) := by decide +kernel
theorem dX11_where_91 : decode cX11_where 91 = .ok (.invokevirtual 266, 3) := by decide +kernel
theorem dX11_where_94 : decode cX11_where 94 = .ok (.aload_n 0, 1) := by decide +kernel
theorem dX11_where_95 : decode cX11_where 95 = .ok (.iload_n 2, 1) := by decide +kernel
theorem dX11_where_96 : decode cX11_where 96 = .ok (.bipush (-4), 2) := by decide +kernel
theorem dX11_where_98 : decode cX11_where 98 = .ok (.invokevirtual 282, 3) := by decide +kernel
theorem dX11_where_101 : decode cX11_where 101 = .ok (.iload_n 1, 1) := by decide +kernel
theorem dX11_where_102 : decode cX11_where 102 = .ok (.if_icmp .ne 8, 3) := by decide +kernel
theorem dX11_where_105 : decode cX11_where 105 = .ok (.iload 9, 2) := by decide +kernel
theorem dX11_where_107 : decode cX11_where 107 = .ok (.goto 5, 3) := by decide +kernel
theorem dX11_where_110 : decode cX11_where 110 = .ok (.iload 8, 2) := by decide +kernel
theorem dX11_where_112 : decode cX11_where 112 = .ok (.istore 8, 2) := by decide +kernel
theorem dX11_where_114 : decode cX11_where 114 = .ok (.iinc 9 (-1), 3) := by decide +kernel
theorem dX11_where_117 : decode cX11_where 117 = .ok (.goto (-56), 3) := by decide +kernel
theorem dX11_where_120 : decode cX11_where 120 = .ok (.iload 4, 2) := by decide +kernel
theorem dX11_where_122 : decode cX11_where 122 = .ok (.iload 8, 2) := by decide +kernel
theorem dX11_where_124 : decode cX11_where 124 = .ok (.bipush (-4), 2) := by decide +kernel
theorem dX11_where_126 : decode cX11_where 126 = .ok (.if_icmp .eq 7, 3) := by decide +kernel
theorem dX11_where_129 : decode cX11_where 129 = .ok (.iconst 1, 1) := by decide +kernel
theorem dX11_where_130 : decode cX11_where 130 = .ok (.goto 4, 3) := by decide +kernel
theorem dX11_where_133 : decode cX11_where 133 = .ok (.iconst 0, 1) := by decide +kernel
theorem dX11_where_134 : decode cX11_where 134 = .ok (.invokestatic 195, 3) := by decide +kernel
theorem dX11_where_137 : decode cX11_where 137 = .ok (.iadd, 1) := by decide +kernel
theorem dX11_where_138 : decode cX11_where 138 = .ok (.istore 4, 2) := by decide +kernel
theorem dX11_where_140 : decode cX11_where 140 = .ok (.iload 8, 2) := by decide +kernel
theorem dX11_where_142 : decode cX11_where 142 = .ok (.bipush (-4), 2) := by decide +kernel
theorem dX11_where_144 : decode cX11_where 144 = .ok (.if_icmp .eq 8, 3) := by decide +kernel
theorem dX11_where_147 : decode cX11_where 147 = .ok (.iload 7, 2) := by decide +kernel
theorem dX11_where_149 : decode cX11_where 149 = .ok (.goto 5, 3) := by decide +kernel
theorem dX11_where_152 : decode cX11_where 152 = .ok (.iload 5, 2) := by decide +kernel
theorem dX11_where_154 : decode cX11_where 154 = .ok (.istore 5, 2) := by decide +kernel
theorem dX11_where_156 : decode cX11_where 156 = .ok (.iload 8, 2) := by decide +kernel
theorem dX11_where_158 : decode cX11_where 158 = .ok (.bipush (-4), 2) := by decide +kernel
theorem dX11_where_160 : decode cX11_where 160 = .ok (.if_icmp .eq 8, 3) := by decide +kernel
theorem dX11_where_163 : decode cX11_where 163 = .ok (.iload 8, 2) := by decide +kernel
theorem dX11_where_165 : decode cX11_where 165 = .ok (.goto 5, 3) := by decide +kernel
theorem dX11_where_168 : decode cX11_where 168 = .ok (.iload 6, 2) := by decide +kernel
theorem dX11_where_170 : decode cX11_where 170 = .ok (.istore 6, 2) := by decide +kernel
theorem dX11_where_172 : decode cX11_where 172 = .ok (.iinc 7 (-1), 3) := by decide +kernel
theorem dX11_where_175 : decode cX11_where 175 = .ok (.goto (-127), 3) := by decide +kernel
theorem dX11_where_178 : decode cX11_where 178 = .ok (.iload_n 3, 1) := by decide +kernel
theorem dX11_where_179 : decode cX11_where 179 = .ok (.ifCond .ne 8, 3) := by decide +kernel
theorem dX11_where_182 : decode cX11_where 182 = .ok (.iload 4, 2) := by decide +kernel
theorem dX11_where_184 : decode cX11_where 184 = .ok (.goto 15, 3) := by decide +kernel
theorem dX11_where_187 : decode cX11_where 187 = .ok (.iload_n 3, 1) := by decide +kernel
theorem dX11_where_188 : decode cX11_where 188 = .ok (.iconst 1, 1) := by decide +kernel
theorem dX11_where_189 : decode cX11_where 189 = .ok (.if_icmp .ne 8, 3) := by decide +kernel
theorem dX11_where_192 : decode cX11_where 192 = .ok (.iload 5, 2) := by decide +kernel
theorem dX11_where_194 : decode cX11_where 194 = .ok (.goto 5, 3) := by decide +kernel
theorem dX11_where_197 : decode cX11_where 197 = .ok (.iload 6, 2) := by decide +kernel
theorem dX11_where_199 : decode cX11_where 199 = .ok (.ireturn, 1) := by decide +kernel
theorem dX11_copies_0 : decode cX11_copies 0 = .ok (.iconst 0, 1) := by decide +kernel
theorem dX11_copies_1 : decode cX11_copies 1 = .ok (.istore_n 3, 1) := by decide +kernel
theorem dX11_copies_2 : decode cX11_copies 2 = .ok (.iload_n 3, 1) := by decide +kernel
theorem dX11_copies_3 : decode cX11_copies 3 = .ok (.bipush 125, 2) := by decide +kernel
theorem dX11_copies_5 : decode cX11_copies 5 = .ok (.if_icmp .ge 25, 3) := by decide +kernel
theorem dX11_copies_8 : decode cX11_copies 8 = .ok (.aload_n 0, 1) := by decide +kernel
theorem dX11_copies_9 : decode cX11_copies 9 = .ok (.getfield 7, 3) := by decide +kernel
theorem dX11_copies_12 : decode cX11_copies 12 = .ok (.iload_n 1, 1) := by decide +kernel
theorem dX11_copies_13 : decode cX11_copies 13 = .ok (.iload_n 3, 1) := by decide +kernel
theorem dX11_copies_14 : decode cX11_copies 14 = .ok (.iadd, 1) := by decide +kernel
theorem dX11_copies_15 : decode cX11_copies 15 = .ok (.aload_n 0, 1) := by decide +kernel
theorem dX11_copies_16 : decode cX11_copies 16 = .ok (.getfield 7, 3) := by decide +kernel
theorem dX11_copies_19 : decode cX11_copies 19 = .ok (.iload_n 2, 1) := by decide +kernel
theorem dX11_copies_20 : decode cX11_copies 20 = .ok (.iload_n 3, 1) := by decide +kernel
theorem dX11_copies_21 : decode cX11_copies 21 = .ok (.iadd, 1) := by decide +kernel
theorem dX11_copies_22 : decode cX11_copies 22 = .ok (.iaload, 1) := by decide +kernel
theorem dX11_copies_23 : decode cX11_copies 23 = .ok (.iastore, 1) := by decide +kernel
theorem dX11_copies_24 : decode cX11_copies 24 = .ok (.iinc 3 1, 3) := by decide +kernel
theorem dX11_copies_27 : decode cX11_copies 27 = .ok (.goto (-25), 3) := by decide +kernel
theorem dX11_copies_30 : decode cX11_copies 30 = .ok (.return_, 1) := by decide +kernel
theorem dX11_keep_0 : decode cX11_keep 0 = .ok (.iload_n 1, 1) := by decide +kernel
theorem dX11_keep_1 : decode cX11_keep 1 = .ok (.i2l, 1) := by decide +kernel
theorem dX11_keep_2 : decode cX11_keep 2 = .ok (.lconst 0, 1) := by decide +kernel
theorem dX11_keep_3 : decode cX11_keep 3 = .ok (.lconst 1, 1) := by decide +kernel
theorem dX11_keep_4 : decode cX11_keep 4 = .ok (.invokestatic 120, 3) := by decide +kernel
theorem dX11_keep_7 : decode cX11_keep 7 = .ok (.ifCond .ne 5, 3) := by decide +kernel
theorem dX11_keep_10 : decode cX11_keep 10 = .ok (.iconst (-1), 1) := by decide +kernel
theorem dX11_keep_11 : decode cX11_keep 11 = .ok (.ireturn, 1) := by decide +kernel
theorem dX11_keep_12 : decode cX11_keep 12 = .ok (.aload_n 0, 1) := by decide +kernel
theorem dX11_keep_13 : decode cX11_keep 13 = .ok (.getfield 13, 3) := by decide +kernel
theorem dX11_keep_16 : decode cX11_keep 16 = .ok (.iload_n 1, 1) := by decide +kernel
theorem dX11_keep_17 : decode cX11_keep 17 = .ok (.baload, 1) := by decide +kernel
theorem dX11_keep_18 : decode cX11_keep 18 = .ok (.invokestatic 195, 3) := by decide +kernel
theorem dX11_keep_21 : decode cX11_keep 21 = .ok (.istore_n 2, 1) := by decide +kernel
theorem dX11_keep_22 : decode cX11_keep 22 = .ok (.aload_n 0, 1) := by decide +kernel
theorem dX11_keep_23 : decode cX11_keep 23 = .ok (.getfield 13, 3) := by decide +kernel
theorem dX11_keep_26 : decode cX11_keep 26 = .ok (.iload_n 1, 1) := by decide +kernel
theorem dX11_keep_27 : decode cX11_keep 27 = .ok (.iconst 1, 1) := by decide +kernel
theorem dX11_keep_28 : decode cX11_keep 28 = .ok (.bastore, 1) := by decide +kernel
theorem dX11_keep_29 : decode cX11_keep 29 = .ok (.aload_n 0, 1) := by decide +kernel
theorem dX11_keep_30 : decode cX11_keep 30 = .ok (.bipush 125, 2) := by decide +kernel
theorem dX11_keep_32 : decode cX11_keep 32 = .ok (.iload_n 1, 1) := by decide +kernel
theorem dX11_keep_33 : decode cX11_keep 33 = .ok (.iconst 1, 1) := by decide +kernel
theorem dX11_keep_34 : decode cX11_keep 34 = .ok (.iadd, 1) := by decide +kernel
theorem dX11_keep_35 : decode cX11_keep 35 = .ok (.imul, 1) := by decide +kernel
theorem dX11_keep_36 : decode cX11_keep 36 = .ok (.iconst 0, 1) := by decide +kernel
theorem dX11_keep_37 : decode cX11_keep 37 = .ok (.invokevirtual 362, 3) := by decide +kernel
theorem dX11_keep_40 : decode cX11_keep 40 = .ok (.iload_n 2, 1) := by decide +kernel
theorem dX11_keep_41 : decode cX11_keep 41 = .ok (.ireturn, 1) := by decide +kernel
theorem dX11_back_0 : decode cX11_back 0 = .ok (.iload_n 1, 1) := by decide +kernel
theorem dX11_back_1 : decode cX11_back 1 = .ok (.i2l, 1) := by decide +kernel
theorem dX11_back_2 : decode cX11_back 2 = .ok (.lconst 0, 1) := by decide +kernel
theorem dX11_back_3 : decode cX11_back 3 = .ok (.lconst 1, 1) := by decide +kernel
theorem dX11_back_4 : decode cX11_back 4 = .ok (.invokestatic 120, 3) := by decide +kernel
theorem dX11_back_7 : decode cX11_back 7 = .ok (.ifCond .ne 5, 3) := by decide +kernel
theorem dX11_back_10 : decode cX11_back 10 = .ok (.iconst (-1), 1) := by decide +kernel
theorem dX11_back_11 : decode cX11_back 11 = .ok (.ireturn, 1) := by decide +kernel
theorem dX11_back_12 : decode cX11_back 12 = .ok (.aload_n 0, 1) := by decide +kernel
theorem dX11_back_13 : decode cX11_back 13 = .ok (.getfield 13, 3) := by decide +kernel
theorem dX11_back_16 : decode cX11_back 16 = .ok (.iload_n 1, 1) := by decide +kernel
theorem dX11_back_17 : decode cX11_back 17 = .ok (.baload, 1) := by decide +kernel
theorem dX11_back_18 : decode cX11_back 18 = .ok (.ifCond .ne 6, 3) := by decide +kernel
theorem dX11_back_21 : decode cX11_back 21 = .ok (.bipush (-2), 2) := by decide +kernel
theorem dX11_back_23 : decode cX11_back 23 = .ok (.ireturn, 1) := by decide +kernel
theorem dX11_back_24 : decode cX11_back 24 = .ok (.aload_n 0, 1) := by decide +kernel
theorem dX11_back_25 : decode cX11_back 25 = .ok (.iconst 0, 1) := by decide +kernel
theorem dX11_back_26 : decode cX11_back 26 = .ok (.bipush 125, 2) := by decide +kernel
theorem dX11_back_28 : decode cX11_back 28 = .ok (.iload_n 1, 1) := by decide +kernel
theorem dX11_back_29 : decode cX11_back 29 = .ok (.iconst 1, 1) := by decide +kernel
theorem dX11_back_30 : decode cX11_back 30 = .ok (.iadd, 1) := by decide +kernel
theorem dX11_back_31 : decode cX11_back 31 = .ok (.imul, 1) := by decide +kernel
theorem dX11_back_32 : decode cX11_back 32 = .ok (.invokevirtual 362, 3) := by decide +kernel
theorem dX11_back_35 : decode cX11_back 35 = .ok (.aload_n 0, 1) := by decide +kernel
theorem dX11_back_36 : decode cX11_back 36 = .ok (.getfield 7, 3) := by decide +kernel
theorem dX11_back_39 : decode cX11_back 39 = .ok (.bipush 88, 2) := by decide +kernel
theorem dX11_back_41 : decode cX11_back 41 = .ok (.iaload, 1) := by decide +kernel
theorem dX11_back_42 : decode cX11_back 42 = .ok (.ireturn, 1) := by decide +kernel
theorem dX11_isSheet_0 : decode cX11_isSheet 0 = .ok (.iload_n 0, 1) := by decide +kernel
theorem dX11_isSheet_1 : decode cX11_isSheet 1 = .ok (.i2l, 1) := by decide +kernel
theorem dX11_isSheet_2 : decode cX11_isSheet 2 = .ok (.lconst 0, 1) := by decide +kernel
theorem dX11_isSheet_3 : decode cX11_isSheet 3 = .ok (.ldc2_w 251, 3) := by decide +kernel
theorem dX11_isSheet_6 : decode cX11_isSheet 6 = .ok (.invokestatic 120, 3) := by decide +kernel
theorem dX11_isSheet_9 : decode cX11_isSheet 9 = .ok (.ifCond .eq 19, 3) := by decide +kernel
theorem dX11_isSheet_12 : decode cX11_isSheet 12 = .ok (.iload_n 1, 1) := by decide +kernel
theorem dX11_isSheet_13 : decode cX11_isSheet 13 = .ok (.i2l, 1) := by decide +kernel
theorem dX11_isSheet_14 : decode cX11_isSheet 14 = .ok (.lconst 0, 1) := by decide +kernel
theorem dX11_isSheet_15 : decode cX11_isSheet 15 = .ok (.ldc2_w 226, 3) := by decide +kernel
theorem dX11_isSheet_18 : decode cX11_isSheet 18 = .ok (.invokestatic 120, 3) := by decide +kernel
theorem dX11_isSheet_21 : decode cX11_isSheet 21 = .ok (.ifCond .eq 7, 3) := by decide +kernel
theorem dX11_isSheet_24 : decode cX11_isSheet 24 = .ok (.iconst 1, 1) := by decide +kernel
theorem dX11_isSheet_25 : decode cX11_isSheet 25 = .ok (.goto 4, 3) := by decide +kernel
theorem dX11_isSheet_28 : decode cX11_isSheet 28 = .ok (.iconst 0, 1) := by decide +kernel
theorem dX11_isSheet_29 : decode cX11_isSheet 29 = .ok (.ireturn, 1) := by decide +kernel
theorem dX11_sheet_0 : decode cX11_sheet 0 = .ok (.iload_n 1, 1) := by decide +kernel
theorem dX11_sheet_1 : decode cX11_sheet 1 = .ok (.iload_n 2, 1) := by decide +kernel
theorem dX11_sheet_2 : decode cX11_sheet 2 = .ok (.invokestatic 365, 3) := by decide +kernel
theorem dX11_sheet_5 : decode cX11_sheet 5 = .ok (.ifCond .eq 9, 3) := by decide +kernel
theorem dX11_sheet_8 : decode cX11_sheet 8 = .ok (.iload_n 3, 1) := by decide +kernel
theorem dX11_sheet_9 : decode cX11_sheet 9 = .ok (.bipush 40, 2) := by decide +kernel
theorem dX11_sheet_11 : decode cX11_sheet 11 = .ok (.if_icmp .le 5, 3) := by decide +kernel
theorem dX11_sheet_14 : decode cX11_sheet 14 = .ok (.iconst (-1), 1) := by decide +kernel
theorem dX11_sheet_15 : decode cX11_sheet 15 = .ok (.ireturn, 1) := by decide +kernel
theorem dX11_sheet_16 : decode cX11_sheet 16 = .ok (.iload_n 3, 1) := by decide +kernel
theorem dX11_sheet_17 : decode cX11_sheet 17 = .ok (.ifCond .ge 6, 3) := by decide +kernel
theorem dX11_sheet_20 : decode cX11_sheet 20 = .ok (.bipush (-14), 2) := by decide +kernel
theorem dX11_sheet_22 : decode cX11_sheet 22 = .ok (.ireturn, 1) := by decide +kernel
theorem dX11_sheet_23 : decode cX11_sheet 23 = .ok (.aload_n 0, 1) := by decide +kernel
theorem dX11_sheet_24 : decode cX11_sheet 24 = .ok (.getfield 56, 3) := by decide +kernel
theorem dX11_sheet_27 : decode cX11_sheet 27 = .ok (.iload_n 1, 1) := by decide +kernel
theorem dX11_sheet_28 : decode cX11_sheet 28 = .ok (.iload_n 2, 1) := by decide +kernel
theorem dX11_sheet_29 : decode cX11_sheet 29 = .ok (.iastore, 1) := by decide +kernel
theorem dX11_sheet_30 : decode cX11_sheet 30 = .ok (.aload_n 0, 1) := by decide +kernel
theorem dX11_sheet_31 : decode cX11_sheet 31 = .ok (.getfield 59, 3) := by decide +kernel
theorem dX11_sheet_34 : decode cX11_sheet 34 = .ok (.iload_n 1, 1) := by decide +kernel
theorem dX11_sheet_35 : decode cX11_sheet 35 = .ok (.iload_n 3, 1) := by decide +kernel
theorem dX11_sheet_36 : decode cX11_sheet 36 = .ok (.iastore, 1) := by decide +kernel
theorem dX11_sheet_37 : decode cX11_sheet 37 = .ok (.iconst 0, 1) := by decide +kernel
theorem dX11_sheet_38 : decode cX11_sheet 38 = .ok (.istore 4, 2) := by decide +kernel
theorem dX11_sheet_40 : decode cX11_sheet 40 = .ok (.iload 4, 2) := by decide +kernel
theorem dX11_sheet_42 : decode cX11_sheet 42 = .ok (.bipush 40, 2) := by decide +kernel
theorem dX11_sheet_44 : decode cX11_sheet 44 = .ok (.if_icmp .ge 22, 3) := by decide +kernel
theorem dX11_sheet_47 : decode cX11_sheet 47 = .ok (.aload_n 0, 1) := by decide +kernel
theorem dX11_sheet_48 : decode cX11_sheet 48 = .ok (.getfield 62, 3) := by decide +kernel
theorem dX11_sheet_51 : decode cX11_sheet 51 = .ok (.bipush 40, 2) := by decide +kernel
theorem dX11_sheet_53 : decode cX11_sheet 53 = .ok (.iload_n 1, 1) := by decide +kernel
theorem dX11_sheet_54 : decode cX11_sheet 54 = .ok (.imul, 1) := by decide +kernel
theorem dX11_sheet_55 : decode cX11_sheet 55 = .ok (.iload 4, 2) := by decide +kernel
theorem dX11_sheet_57 : decode cX11_sheet 57 = .ok (.iadd, 1) := by decide +kernel
theorem dX11_sheet_58 : decode cX11_sheet 58 = .ok (.iconst 0, 1) := by decide +kernel
theorem dX11_sheet_59 : decode cX11_sheet 59 = .ok (.iastore, 1) := by decide +kernel
theorem dX11_sheet_60 : decode cX11_sheet 60 = .ok (.iinc 4 1, 3) := by decide +kernel
theorem dX11_sheet_63 : decode cX11_sheet 63 = .ok (.goto (-23), 3) := by decide +kernel
theorem dX11_sheet_66 : decode cX11_sheet 66 = .ok (.iconst 1, 1) := by decide +kernel
theorem dX11_sheet_67 : decode cX11_sheet 67 = .ok (.ireturn, 1) := by decide +kernel
theorem dX11_lay_0 : decode cX11_lay 0 = .ok (.iload_n 1, 1) := by decide +kernel
theorem dX11_lay_1 : decode cX11_lay 1 = .ok (.iconst 0, 1) := by decide +kernel
theorem dX11_lay_2 : decode cX11_lay 2 = .ok (.invokestatic 365, 3) := by decide +kernel
theorem dX11_lay_5 : decode cX11_lay 5 = .ok (.ifCond .ne 5, 3) := by decide +kernel
theorem dX11_lay_8 : decode cX11_lay 8 = .ok (.iconst (-1), 1) := by decide +kernel
theorem dX11_lay_9 : decode cX11_lay 9 = .ok (.ireturn, 1) := by decide +kernel
theorem dX11_lay_10 : decode cX11_lay 10 = .ok (.aload_n 0, 1) := by decide +kernel
theorem dX11_lay_11 : decode cX11_lay 11 = .ok (.getfield 56, 3) := by decide +kernel
theorem dX11_lay_14 : decode cX11_lay 14 = .ok (.iload_n 1, 1) := by decide +kernel
theorem dX11_lay_15 : decode cX11_lay 15 = .ok (.iaload, 1) := by decide +kernel
theorem dX11_lay_16 : decode cX11_lay 16 = .ok (.bipush (-4), 2) := by decide +kernel
theorem dX11_lay_18 : decode cX11_lay 18 = .ok (.if_icmp .ne 6, 3) := by decide +kernel
theorem dX11_lay_21 : decode cX11_lay 21 = .ok (.bipush (-11), 2) := by decide +kernel
theorem dX11_lay_23 : decode cX11_lay 23 = .ok (.ireturn, 1) := by decide +kernel
theorem dX11_lay_24 : decode cX11_lay 24 = .ok (.iload_n 2, 1) := by decide +kernel
theorem dX11_lay_25 : decode cX11_lay 25 = .ok (.i2l, 1) := by decide +kernel
theorem dX11_lay_26 : decode cX11_lay 26 = .ok (.lconst 0, 1) := by decide +kernel
theorem dX11_lay_27 : decode cX11_lay 27 = .ok (.aload_n 0, 1) := by decide +kernel
theorem dX11_lay_28 : decode cX11_lay 28 = .ok (.getfield 59, 3) := by decide +kernel
theorem dX11_lay_31 : decode cX11_lay 31 = .ok (.iload_n 1, 1) := by decide +kernel
theorem dX11_lay_32 : decode cX11_lay 32 = .ok (.iaload, 1) := by decide +kernel
theorem dX11_lay_33 : decode cX11_lay 33 = .ok (.iconst 1, 1) := by decide +kernel
theorem dX11_lay_34 : decode cX11_lay 34 = .ok (.isub, 1) := by decide +kernel
theorem dX11_lay_35 : decode cX11_lay 35 = .ok (.i2l, 1) := by decide +kernel
theorem dX11_lay_36 : decode cX11_lay 36 = .ok (.invokestatic 120, 3) := by decide +kernel
theorem dX11_lay_39 : decode cX11_lay 39 = .ok (.ifCond .ne 6, 3) := by decide +kernel
theorem dX11_lay_42 : decode cX11_lay 42 = .ok (.bipush (-12), 2) := by decide +kernel
theorem dX11_lay_44 : decode cX11_lay 44 = .ok (.ireturn, 1) := by decide +kernel
theorem dX11_lay_45 : decode cX11_lay 45 = .ok (.aload_n 0, 1) := by decide +kernel
theorem dX11_lay_46 : decode cX11_lay 46 = .ok (.getfield 62, 3) := by decide +kernel
theorem dX11_lay_49 : decode cX11_lay 49 = .ok (.bipush 40, 2) := by decide +kernel
theorem dX11_lay_51 : decode cX11_lay 51 = .ok (.iload_n 1, 1) := by decide +kernel
theorem dX11_lay_52 : decode cX11_lay 52 = .ok (.imul, 1) := by decide +kernel
theorem dX11_lay_53 : decode cX11_lay 53 = .ok (.iload_n 2, 1) := by decide +kernel
theorem dX11_lay_54 : decode cX11_lay 54 = .ok (.iadd, 1) := by decide +kernel
theorem dX11_lay_55 : decode cX11_lay 55 = .ok (.aload_n 0, 1) := by decide +kernel
theorem dX11_lay_56 : decode cX11_lay 56 = .ok (.getfield 56, 3) := by decide +kernel
theorem dX11_lay_59 : decode cX11_lay 59 = .ok (.iload_n 1, 1) := by decide +kernel
theorem dX11_lay_60 : decode cX11_lay 60 = .ok (.iaload, 1) := by decide +kernel
theorem dX11_lay_61 : decode cX11_lay 61 = .ok (.ifCond .ne 8, 3) := by decide +kernel
theorem dX11_lay_64 : decode cX11_lay 64 = .ok (.iload_n 3, 1) := by decide +kernel
theorem dX11_lay_65 : decode cX11_lay 65 = .ok (.i2b, 1) := by decide +kernel
theorem dX11_lay_66 : decode cX11_lay 66 = .ok (.goto 19, 3) := by decide +kernel
theorem dX11_lay_69 : decode cX11_lay 69 = .ok (.aload_n 0, 1) := by decide +kernel
theorem dX11_lay_70 : decode cX11_lay 70 = .ok (.getfield 56, 3) := by decide +kernel
theorem dX11_lay_73 : decode cX11_lay 73 = .ok (.iload_n 1, 1) := by decide +kernel
theorem dX11_lay_74 : decode cX11_lay 74 = .ok (.iaload, 1) := by decide +kernel
theorem dX11_lay_75 : decode cX11_lay 75 = .ok (.iconst 1, 1) := by decide +kernel
theorem dX11_lay_76 : decode cX11_lay 76 = .ok (.if_icmp .ne 8, 3) := by decide +kernel
theorem dX11_lay_79 : decode cX11_lay 79 = .ok (.iload_n 3, 1) := by decide +kernel
theorem dX11_lay_80 : decode cX11_lay 80 = .ok (.i2s, 1) := by decide +kernel
theorem dX11_lay_81 : decode cX11_lay 81 = .ok (.goto 4, 3) := by decide +kernel
theorem dX11_lay_84 : decode cX11_lay 84 = .ok (.iload_n 3, 1) := by decide +kernel
theorem dX11_lay_85 : decode cX11_lay 85 = .ok (.iastore, 1) := by decide +kernel
theorem dX11_lay_86 : decode cX11_lay 86 = .ok (.iconst 1, 1) := by decide +kernel
theorem dX11_lay_87 : decode cX11_lay 87 = .ok (.ireturn, 1) := by decide +kernel
theorem dX11_read_0 : decode cX11_read 0 = .ok (.iload_n 1, 1) := by decide +kernel
theorem dX11_read_1 : decode cX11_read 1 = .ok (.iload_n 2, 1) := by decide +kernel
theorem dX11_read_2 : decode cX11_read 2 = .ok (.invokestatic 365, 3) := by decide +kernel
theorem dX11_read_5 : decode cX11_read 5 = .ok (.ifCond .eq 16, 3) := by decide +kernel
theorem dX11_read_8 : decode cX11_read 8 = .ok (.iload 4, 2) := by decide +kernel
theorem dX11_read_10 : decode cX11_read 10 = .ok (.i2l, 1) := by decide +kernel
theorem dX11_read_11 : decode cX11_read 11 = .ok (.lconst 0, 1) := by decide +kernel
theorem dX11_read_12 : decode cX11_read 12 = .ok (.ldc2_w 356, 3) := by decide +kernel
theorem dX11_read_15 : decode cX11_read 15 = .ok (.invokestatic 120, 3) := by decide +kernel
theorem dX11_read_18 : decode cX11_read 18 = .ok (.ifCond .ne 5, 3) := by decide +kernel
theorem dX11_read_21 : decode cX11_read 21 = .ok (.iconst (-1), 1) := by decide +kernel
theorem dX11_read_22 : decode cX11_read 22 = .ok (.ireturn, 1) := by decide +kernel
theorem dX11_read_23 : decode cX11_read 23 = .ok (.aload_n 0, 1) := by decide +kernel
theorem dX11_read_24 : decode cX11_read 24 = .ok (.getfield 7, 3) := by decide +kernel
theorem dX11_read_27 : decode cX11_read 27 = .ok (.bipush 88, 2) := by decide +kernel
theorem dX11_read_29 : decode cX11_read 29 = .ok (.iaload, 1) := by decide +kernel
theorem dX11_read_30 : decode cX11_read 30 = .ok (.istore 5, 2) := by decide +kernel
theorem dX11_read_32 : decode cX11_read 32 = .ok (.iconst 0, 1) := by decide +kernel
theorem dX11_read_33 : decode cX11_read 33 = .ok (.istore 6, 2) := by decide +kernel
theorem dX11_read_35 : decode cX11_read 35 = .ok (.iconst 0, 1) := by decide +kernel
theorem dX11_read_36 : decode cX11_read 36 = .ok (.istore 7, 2) := by decide +kernel
theorem dX11_read_38 : decode cX11_read 38 = .ok (.iconst 0, 1) := by decide +kernel
theorem dX11_read_39 : decode cX11_read 39 = .ok (.istore 8, 2) := by decide +kernel
theorem dX11_read_41 : decode cX11_read 41 = .ok (.iload 8, 2) := by decide +kernel
theorem dX11_read_43 : decode cX11_read 43 = .ok (.iload 4, 2) := by decide +kernel
theorem dX11_read_45 : decode cX11_read 45 = .ok (.if_icmp .ge 172, 3) := by decide +kernel
theorem dX11_read_48 : decode cX11_read 48 = .ok (.iload 6, 2) := by decide +kernel
theorem dX11_read_50 : decode cX11_read 50 = .ok (.ifCond .ne 167, 3) := by decide +kernel
theorem dX11_read_53 : decode cX11_read 53 = .ok (.iconst 0, 1) := by decide +kernel
theorem dX11_read_54 : decode cX11_read 54 = .ok (.istore 9, 2) := by decide +kernel
theorem dX11_read_56 : decode cX11_read 56 = .ok (.iload 9, 2) := by decide +kernel
theorem dX11_read_58 : decode cX11_read 58 = .ok (.iconst 3, 1) := by decide +kernel
theorem dX11_read_59 : decode cX11_read 59 = .ok (.if_icmp .ge 84, 3) := by decide +kernel
theorem dX11_read_62 : decode cX11_read 62 = .ok (.iload 6, 2) := by decide +kernel
theorem dX11_read_64 : decode cX11_read 64 = .ok (.ifCond .ne 79, 3) := by decide +kernel
theorem dX11_read_67 : decode cX11_read 67 = .ok (.iload_n 3, 1) := by decide +kernel
theorem dX11_read_68 : decode cX11_read 68 = .ok (.i2l, 1) := by decide +kernel
theorem dX11_read_69 : decode cX11_read 69 = .ok (.iconst 3, 1) := by decide +kernel
theorem dX11_read_70 : decode cX11_read 70 = .ok (.iload 8, 2) := by decide +kernel
theorem dX11_read_72 : decode cX11_read 72 = .ok (.imul, 1) := by decide +kernel
theorem dX11_read_73 : decode cX11_read 73 = .ok (.i2l, 1) := by decide +kernel
theorem dX11_read_74 : decode cX11_read 74 = .ok (.ladd, 1) := by decide +kernel
theorem dX11_read_75 : decode cX11_read 75 = .ok (.iload 9, 2) := by decide +kernel
theorem dX11_read_77 : decode cX11_read 77 = .ok (.i2l, 1) := by decide +kernel
theorem dX11_read_78 : decode cX11_read 78 = .ok (.ladd, 1) := by decide +kernel
theorem dX11_read_79 : decode cX11_read 79 = .ok (.lstore 10, 2) := by decide +kernel
theorem dX11_read_81 : decode cX11_read 81 = .ok (.aload_n 0, 1) := by decide +kernel
theorem dX11_read_82 : decode cX11_read 82 = .ok (.getfield 56, 3) := by decide +kernel
theorem dX11_read_85 : decode cX11_read 85 = .ok (.iload_n 1, 1) := by decide +kernel
theorem dX11_read_86 : decode cX11_read 86 = .ok (.iaload, 1) := by decide +kernel
theorem dX11_read_87 : decode cX11_read 87 = .ok (.bipush (-4), 2) := by decide +kernel
theorem dX11_read_89 : decode cX11_read 89 = .ok (.if_icmp .ne 7, 3) := by decide +kernel
theorem dX11_read_92 : decode cX11_read 92 = .ok (.iconst 1, 1) := by decide +kernel
theorem dX11_read_93 : decode cX11_read 93 = .ok (.goto 42, 3) := by decide +kernel
theorem dX11_read_96 : decode cX11_read 96 = .ok (.aload_n 0, 1) := by decide +kernel
theorem dX11_read_97 : decode cX11_read 97 = .ok (.getfield 56, 3) := by decide +kernel
theorem dX11_read_100 : decode cX11_read 100 = .ok (.iload_n 1, 1) := by decide +kernel
theorem dX11_read_101 : decode cX11_read 101 = .ok (.iaload, 1) := by decide +kernel
theorem dX11_read_102 : decode cX11_read 102 = .ok (.iload_n 2, 1) := by decide +kernel
theorem dX11_read_103 : decode cX11_read 103 = .ok (.if_icmp .eq 7, 3) := by decide +kernel
theorem dX11_read_106 : decode cX11_read 106 = .ok (.iconst 3, 1) := by decide +kernel
theorem dX11_read_107 : decode cX11_read 107 = .ok (.goto 28, 3) := by decide +kernel
theorem dX11_read_110 : decode cX11_read 110 = .ok (.lload 10, 2) := by decide +kernel
theorem dX11_read_112 : decode cX11_read 112 = .ok (.lconst 0, 1) := by decide +kernel
theorem dX11_read_113 : decode cX11_read 113 = .ok (.lcmp, 1) := by decide +kernel
theorem dX11_read_114 : decode cX11_read 114 = .ok (.ifCond .lt 16, 3) := by decide +kernel
theorem dX11_read_117 : decode cX11_read 117 = .ok (.lload 10, 2) := by decide +kernel
theorem dX11_read_119 : decode cX11_read 119 = .ok (.aload_n 0, 1) := by decide +kernel
theorem dX11_read_120 : decode cX11_read 120 = .ok (.getfield 59, 3) := by decide +kernel
theorem dX11_read_123 : decode cX11_read 123 = .ok (.iload_n 1, 1) := by decide +kernel
theorem dX11_read_124 : decode cX11_read 124 = .ok (.iaload, 1) := by decide +kernel
theorem dX11_read_125 : decode cX11_read 125 = .ok (.i2l, 1) := by decide +kernel
theorem dX11_read_126 : decode cX11_read 126 = .ok (.lcmp, 1) := by decide +kernel
theorem dX11_read_127 : decode cX11_read 127 = .ok (.ifCond .lt 7, 3) := by decide +kernel
theorem dX11_read_130 : decode cX11_read 130 = .ok (.iconst 2, 1) := by decide +kernel
theorem dX11_read_131 : decode cX11_read 131 = .ok (.goto 4, 3) := by decide +kernel
theorem dX11_read_134 : decode cX11_read 134 = .ok (.iconst 0, 1) := by decide +kernel
theorem dX11_read_135 : decode cX11_read 135 = .ok (.istore 6, 2) := by decide +kernel
theorem dX11_read_137 : decode cX11_read 137 = .ok (.iinc 9 1, 3) := by decide +kernel
theorem dX11_read_140 : decode cX11_read 140 = .ok (.goto (-84), 3) := by decide +kernel
theorem dX11_read_143 : decode cX11_read 143 = .ok (.iload 6, 2) := by decide +kernel
theorem dX11_read_145 : decode cX11_read 145 = .ok (.ifCond .ne 66, 3) := by decide +kernel
theorem dX11_read_148 : decode cX11_read 148 = .ok (.bipush 40, 2) := by decide +kernel
theorem dX11_read_150 : decode cX11_read 150 = .ok (.iload_n 1, 1) := by decide +kernel
theorem dX11_read_151 : decode cX11_read 151 = .ok (.imul, 1) := by decide +kernel
theorem dX11_read_152 : decode cX11_read 152 = .ok (.iload_n 3, 1) := by decide +kernel
theorem dX11_read_153 : decode cX11_read 153 = .ok (.iadd, 1) := by decide +kernel
theorem dX11_read_154 : decode cX11_read 154 = .ok (.iconst 3, 1) := by decide +kernel
theorem dX11_read_155 : decode cX11_read 155 = .ok (.iload 8, 2) := by decide +kernel
theorem dX11_read_157 : decode cX11_read 157 = .ok (.imul, 1) := by decide +kernel
theorem dX11_read_158 : decode cX11_read 158 = .ok (.iadd, 1) := by decide +kernel
theorem dX11_read_159 : decode cX11_read 159 = .ok (.istore 9, 2) := by decide +kernel
theorem dX11_read_161 : decode cX11_read 161 = .ok (.aload_n 0, 1) := by decide +kernel
theorem dX11_read_162 : decode cX11_read 162 = .ok (.aload_n 0, 1) := by decide +kernel
theorem dX11_read_163 : decode cX11_read 163 = .ok (.getfield 62, 3) := by decide +kernel
theorem dX11_read_166 : decode cX11_read 166 = .ok (.iload 9, 2) := by decide +kernel
theorem dX11_read_168 : decode cX11_read 168 = .ok (.iaload, 1) := by decide +kernel
theorem dX11_read_169 : decode cX11_read 169 = .ok (.aload_n 0, 1) := by decide +kernel
theorem dX11_read_170 : decode cX11_read 170 = .ok (.getfield 62, 3) := by decide +kernel
theorem dX11_read_173 : decode cX11_read 173 = .ok (.iload 9, 2) := by decide +kernel
theorem dX11_read_175 : decode cX11_read 175 = .ok (.iconst 1, 1) := by decide +kernel
theorem dX11_read_176 : decode cX11_read 176 = .ok (.iadd, 1) := by decide +kernel
theorem dX11_read_177 : decode cX11_read 177 = .ok (.iaload, 1) := by decide +kernel
theorem dX11_read_178 : decode cX11_read 178 = .ok (.aload_n 0, 1) := by decide +kernel
theorem dX11_read_179 : decode cX11_read 179 = .ok (.getfield 62, 3) := by decide +kernel
theorem dX11_read_182 : decode cX11_read 182 = .ok (.iload 9, 2) := by decide +kernel
theorem dX11_read_184 : decode cX11_read 184 = .ok (.iconst 2, 1) := by decide +kernel
theorem dX11_read_185 : decode cX11_read 185 = .ok (.iadd, 1) := by decide +kernel
theorem dX11_read_186 : decode cX11_read 186 = .ok (.iaload, 1) := by decide +kernel
theorem dX11_read_187 : decode cX11_read 187 = .ok (.invokevirtual 368, 3) := by decide +kernel
theorem dX11_read_190 : decode cX11_read 190 = .ok (.ifCond .ge 18, 3) := by decide +kernel
theorem dX11_read_193 : decode cX11_read 193 = .ok (.aload_n 0, 1) := by decide +kernel
theorem dX11_read_194 : decode cX11_read 194 = .ok (.getfield 7, 3) := by decide +kernel
theorem dX11_read_197 : decode cX11_read 197 = .ok (.bipush 88, 2) := by decide +kernel
theorem dX11_read_199 : decode cX11_read 199 = .ok (.iload 5, 2) := by decide +kernel
theorem dX11_read_201 : decode cX11_read 201 = .ok (.iastore, 1) := by decide +kernel
theorem dX11_read_202 : decode cX11_read 202 = .ok (.bipush (-20), 2) := by decide +kernel
theorem dX11_read_204 : decode cX11_read 204 = .ok (.iload 8, 2) := by decide +kernel
theorem dX11_read_206 : decode cX11_read 206 = .ok (.isub, 1) := by decide +kernel
theorem dX11_read_207 : decode cX11_read 207 = .ok (.ireturn, 1) := by decide +kernel
theorem dX11_read_208 : decode cX11_read 208 = .ok (.iinc 7 1, 3) := by decide +kernel
theorem dX11_read_211 : decode cX11_read 211 = .ok (.iinc 8 1, 3) := by decide +kernel
theorem dX11_read_214 : decode cX11_read 214 = .ok (.goto (-173), 3) := by decide +kernel
theorem dX11_read_217 : decode cX11_read 217 = .ok (.aload_n 0, 1) := by decide +kernel
theorem dX11_read_218 : decode cX11_read 218 = .ok (.iload 6, 2) := by decide +kernel
theorem dX11_read_220 : decode cX11_read 220 = .ok (.putfield 372, 3) := by decide +kernel
theorem dX11_read_223 : decode cX11_read 223 = .ok (.iload 7, 2) := by decide +kernel
theorem dX11_read_225 : decode cX11_read 225 = .ok (.ireturn, 1) := by decide +kernel
theorem dX11_torn_0 : decode cX11_torn 0 = .ok (.aload_n 0, 1) := by decide +kernel
theorem dX11_torn_1 : decode cX11_torn 1 = .ok (.getfield 372, 3) := by decide +kernel
theorem dX11_torn_4 : decode cX11_torn 4 = .ok (.ireturn, 1) := by decide +kernel
theorem dX11_count_0 : decode cX11_count 0 = .ok (.iconst 0, 1) := by decide +kernel
theorem dX11_count_1 : decode cX11_count 1 = .ok (.istore_n 2, 1) := by decide +kernel
theorem dX11_count_2 : decode cX11_count 2 = .ok (.iconst 0, 1) := by decide +kernel
theorem dX11_count_3 : decode cX11_count 3 = .ok (.istore_n 3, 1) := by decide +kernel
theorem dX11_count_4 : decode cX11_count 4 = .ok (.iload_n 3, 1) := by decide +kernel
theorem dX11_count_5 : decode cX11_count 5 = .ok (.bipush 81, 2) := by decide +kernel
theorem dX11_count_7 : decode cX11_count 7 = .ok (.if_icmp .ge 29, 3) := by decide +kernel
theorem dX11_count_10 : decode cX11_count 10 = .ok (.iload_n 2, 1) := by decide +kernel
theorem dX11_count_11 : decode cX11_count 11 = .ok (.aload_n 0, 1) := by decide +kernel
theorem dX11_count_12 : decode cX11_count 12 = .ok (.getfield 7, 3) := by decide +kernel
theorem dX11_count_15 : decode cX11_count 15 = .ok (.iload_n 3, 1) := by decide +kernel
theorem dX11_count_16 : decode cX11_count 16 = .ok (.iaload, 1) := by decide +kernel
theorem dX11_count_17 : decode cX11_count 17 = .ok (.ifCond .le 7, 3) := by decide +kernel
theorem dX11_count_20 : decode cX11_count 20 = .ok (.iconst 1, 1) := by decide +kernel
theorem dX11_count_21 : decode cX11_count 21 = .ok (.goto 4, 3) := by decide +kernel
theorem dX11_count_24 : decode cX11_count 24 = .ok (.iconst 0, 1) := by decide +kernel
theorem dX11_count_25 : decode cX11_count 25 = .ok (.invokestatic 195, 3) := by decide +kernel
theorem dX11_count_28 : decode cX11_count 28 = .ok (.iadd, 1) := by decide +kernel
theorem dX11_count_29 : decode cX11_count 29 = .ok (.istore_n 2, 1) := by decide +kernel
theorem dX11_count_30 : decode cX11_count 30 = .ok (.iinc 3 1, 3) := by decide +kernel
theorem dX11_count_33 : decode cX11_count 33 = .ok (.goto (-29), 3) := by decide +kernel
theorem dX11_count_36 : decode cX11_count 36 = .ok (.iload_n 1, 1) := by decide +kernel
theorem dX11_count_37 : decode cX11_count 37 = .ok (.tableswitch 120 0 7 #[47, 52, 57, 59, 64, 72, 92, 97], 47) := by decide +kernel
theorem dX11_count_84 : decode cX11_count 84 = .ok (.aload_n 0, 1) := by decide +kernel
theorem dX11_count_85 : decode cX11_count 85 = .ok (.getfield 102, 3) := by decide +kernel
theorem dX11_count_88 : decode cX11_count 88 = .ok (.ireturn, 1) := by decide +kernel
theorem dX11_count_89 : decode cX11_count 89 = .ok (.aload_n 0, 1) := by decide +kernel
theorem dX11_count_90 : decode cX11_count 90 = .ok (.getfield 109, 3) := by decide +kernel
theorem dX11_count_93 : decode cX11_count 93 = .ok (.ireturn, 1) := by decide +kernel
theorem dX11_count_94 : decode cX11_count 94 = .ok (.iload_n 2, 1) := by decide +kernel
theorem dX11_count_95 : decode cX11_count 95 = .ok (.ireturn, 1) := by decide +kernel
theorem dX11_count_96 : decode cX11_count 96 = .ok (.aload_n 0, 1) := by decide +kernel
theorem dX11_count_97 : decode cX11_count 97 = .ok (.getfield 112, 3) := by decide +kernel
theorem dX11_count_100 : decode cX11_count 100 = .ok (.ireturn, 1) := by decide +kernel
theorem dX11_count_101 : decode cX11_count 101 = .ok (.aload_n 0, 1) := by decide +kernel
theorem dX11_count_102 : decode cX11_count 102 = .ok (.getfield 7, 3) := by decide +kernel
theorem dX11_count_105 : decode cX11_count 105 = .ok (.bipush 88, 2) := by decide +kernel
theorem dX11_count_107 : decode cX11_count 107 = .ok (.iaload, 1) := by decide +kernel
theorem dX11_count_108 : decode cX11_count 108 = .ok (.ireturn, 1) := by decide +kernel
theorem dX11_count_109 : decode cX11_count 109 = .ok (.aload_n 0, 1) := by decide +kernel
theorem dX11_count_110 : decode cX11_count 110 = .ok (.getfield 13, 3) := by decide +kernel
theorem dX11_count_113 : decode cX11_count 113 = .ok (.iconst 0, 1) := by decide +kernel
theorem dX11_count_114 : decode cX11_count 114 = .ok (.baload, 1) := by decide +kernel
theorem dX11_count_115 : decode cX11_count 115 = .ok (.invokestatic 195, 3) := by decide +kernel
theorem dX11_count_118 : decode cX11_count 118 = .ok (.aload_n 0, 1) := by decide +kernel
theorem dX11_count_119 : decode cX11_count 119 = .ok (.getfield 13, 3) := by decide +kernel
theorem dX11_count_122 : decode cX11_count 122 = .ok (.iconst 1, 1) := by decide +kernel
theorem dX11_count_123 : decode cX11_count 123 = .ok (.baload, 1) := by decide +kernel
theorem dX11_count_124 : decode cX11_count 124 = .ok (.invokestatic 195, 3) := by decide +kernel
theorem dX11_count_127 : decode cX11_count 127 = .ok (.iadd, 1) := by decide +kernel
theorem dX11_count_128 : decode cX11_count 128 = .ok (.ireturn, 1) := by decide +kernel
theorem dX11_count_129 : decode cX11_count 129 = .ok (.aload_n 0, 1) := by decide +kernel
theorem dX11_count_130 : decode cX11_count 130 = .ok (.getfield 115, 3) := by decide +kernel
theorem dX11_count_133 : decode cX11_count 133 = .ok (.ireturn, 1) := by decide +kernel
theorem dX11_count_134 : decode cX11_count 134 = .ok (.aload_n 0, 1) := by decide +kernel
theorem dX11_count_135 : decode cX11_count 135 = .ok (.getfield 56, 3) := by decide +kernel
theorem dX11_count_138 : decode cX11_count 138 = .ok (.iconst 0, 1) := by decide +kernel
theorem dX11_count_139 : decode cX11_count 139 = .ok (.iaload, 1) := by decide +kernel
theorem dX11_count_140 : decode cX11_count 140 = .ok (.bipush (-4), 2) := by decide +kernel
theorem dX11_count_142 : decode cX11_count 142 = .ok (.if_icmp .ne 8, 3) := by decide +kernel
theorem dX11_count_145 : decode cX11_count 145 = .ok (.bipush (-4), 2) := by decide +kernel
theorem dX11_count_147 : decode cX11_count 147 = .ok (.goto 9, 3) := by decide +kernel
theorem dX11_count_150 : decode cX11_count 150 = .ok (.aload_n 0, 1) := by decide +kernel
theorem dX11_count_151 : decode cX11_count 151 = .ok (.getfield 59, 3) := by decide +kernel
theorem dX11_count_154 : decode cX11_count 154 = .ok (.iconst 0, 1) := by decide +kernel
theorem dX11_count_155 : decode cX11_count 155 = .ok (.iaload, 1) := by decide +kernel
theorem dX11_count_156 : decode cX11_count 156 = .ok (.ireturn, 1) := by decide +kernel
theorem dX11_count_157 : decode cX11_count 157 = .ok (.iconst (-1), 1) := by decide +kernel
theorem dX11_count_158 : decode cX11_count 158 = .ok (.ireturn, 1) := by decide +kernel
theorem dJ6_bitCount_0f7a4_0 : decode cJ6_bitCount_0f7a4 0 = .ok (.iload_n 0, 1) := by decide +kernel
theorem dJ6_bitCount_0f7a4_1 : decode cJ6_bitCount_0f7a4 1 = .ok (.iload_n 0, 1) := by decide +kernel
theorem dJ6_bitCount_0f7a4_2 : decode cJ6_bitCount_0f7a4 2 = .ok (.iconst 1, 1) := by decide +kernel
theorem dJ6_bitCount_0f7a4_3 : decode cJ6_bitCount_0f7a4 3 = .ok (.iushr, 1) := by decide +kernel
theorem dJ6_bitCount_0f7a4_4 : decode cJ6_bitCount_0f7a4 4 = .ok (.ldc_w 265, 3) := by decide +kernel
theorem dJ6_bitCount_0f7a4_7 : decode cJ6_bitCount_0f7a4 7 = .ok (.iand, 1) := by decide +kernel
theorem dJ6_bitCount_0f7a4_8 : decode cJ6_bitCount_0f7a4 8 = .ok (.isub, 1) := by decide +kernel
theorem dJ6_bitCount_0f7a4_9 : decode cJ6_bitCount_0f7a4 9 = .ok (.istore_n 0, 1) := by decide +kernel
theorem dJ6_bitCount_0f7a4_10 : decode cJ6_bitCount_0f7a4 10 = .ok (.iload_n 0, 1) := by decide +kernel
theorem dJ6_bitCount_0f7a4_11 : decode cJ6_bitCount_0f7a4 11 = .ok (.ldc_w 266, 3) := by decide +kernel
theorem dJ6_bitCount_0f7a4_14 : decode cJ6_bitCount_0f7a4 14 = .ok (.iand, 1) := by decide +kernel
theorem dJ6_bitCount_0f7a4_15 : decode cJ6_bitCount_0f7a4 15 = .ok (.iload_n 0, 1) := by decide +kernel
theorem dJ6_bitCount_0f7a4_16 : decode cJ6_bitCount_0f7a4 16 = .ok (.iconst 2, 1) := by decide +kernel
theorem dJ6_bitCount_0f7a4_17 : decode cJ6_bitCount_0f7a4 17 = .ok (.iushr, 1) := by decide +kernel
theorem dJ6_bitCount_0f7a4_18 : decode cJ6_bitCount_0f7a4 18 = .ok (.ldc_w 266, 3) := by decide +kernel
theorem dJ6_bitCount_0f7a4_21 : decode cJ6_bitCount_0f7a4 21 = .ok (.iand, 1) := by decide +kernel
theorem dJ6_bitCount_0f7a4_22 : decode cJ6_bitCount_0f7a4 22 = .ok (.iadd, 1) := by decide +kernel
theorem dJ6_bitCount_0f7a4_23 : decode cJ6_bitCount_0f7a4 23 = .ok (.istore_n 0, 1) := by decide +kernel
theorem dJ6_bitCount_0f7a4_24 : decode cJ6_bitCount_0f7a4 24 = .ok (.iload_n 0, 1) := by decide +kernel
theorem dJ6_bitCount_0f7a4_25 : decode cJ6_bitCount_0f7a4 25 = .ok (.iload_n 0, 1) := by decide +kernel
theorem dJ6_bitCount_0f7a4_26 : decode cJ6_bitCount_0f7a4 26 = .ok (.iconst 4, 1) := by decide +kernel
theorem dJ6_bitCount_0f7a4_27 : decode cJ6_bitCount_0f7a4 27 = .ok (.iushr, 1) := by decide +kernel
theorem dJ6_bitCount_0f7a4_28 : decode cJ6_bitCount_0f7a4 28 = .ok (.iadd, 1) := by decide +kernel
theorem dJ6_bitCount_0f7a4_29 : decode cJ6_bitCount_0f7a4 29 = .ok (.ldc_w 267, 3) := by decide +kernel
theorem dJ6_bitCount_0f7a4_32 : decode cJ6_bitCount_0f7a4 32 = .ok (.iand, 1) := by decide +kernel
theorem dJ6_bitCount_0f7a4_33 : decode cJ6_bitCount_0f7a4 33 = .ok (.istore_n 0, 1) := by decide +kernel
theorem dJ6_bitCount_0f7a4_34 : decode cJ6_bitCount_0f7a4 34 = .ok (.iload_n 0, 1) := by decide +kernel
theorem dJ6_bitCount_0f7a4_35 : decode cJ6_bitCount_0f7a4 35 = .ok (.iload_n 0, 1) := by decide +kernel
theorem dJ6_bitCount_0f7a4_36 : decode cJ6_bitCount_0f7a4 36 = .ok (.bipush 8, 2) := by decide +kernel
theorem dJ6_bitCount_0f7a4_38 : decode cJ6_bitCount_0f7a4 38 = .ok (.iushr, 1) := by decide +kernel
theorem dJ6_bitCount_0f7a4_39 : decode cJ6_bitCount_0f7a4 39 = .ok (.iadd, 1) := by decide +kernel
theorem dJ6_bitCount_0f7a4_40 : decode cJ6_bitCount_0f7a4 40 = .ok (.istore_n 0, 1) := by decide +kernel
theorem dJ6_bitCount_0f7a4_41 : decode cJ6_bitCount_0f7a4 41 = .ok (.iload_n 0, 1) := by decide +kernel
theorem dJ6_bitCount_0f7a4_42 : decode cJ6_bitCount_0f7a4 42 = .ok (.iload_n 0, 1) := by decide +kernel
theorem dJ6_bitCount_0f7a4_43 : decode cJ6_bitCount_0f7a4 43 = .ok (.bipush 16, 2) := by decide +kernel
theorem dJ6_bitCount_0f7a4_45 : decode cJ6_bitCount_0f7a4 45 = .ok (.iushr, 1) := by decide +kernel
theorem dJ6_bitCount_0f7a4_46 : decode cJ6_bitCount_0f7a4 46 = .ok (.iadd, 1) := by decide +kernel
theorem dJ6_bitCount_0f7a4_47 : decode cJ6_bitCount_0f7a4 47 = .ok (.istore_n 0, 1) := by decide +kernel
theorem dJ6_bitCount_0f7a4_48 : decode cJ6_bitCount_0f7a4 48 = .ok (.iload_n 0, 1) := by decide +kernel
theorem dJ6_bitCount_0f7a4_49 : decode cJ6_bitCount_0f7a4 49 = .ok (.bipush 63, 2) := by decide +kernel
theorem dJ6_bitCount_0f7a4_51 : decode cJ6_bitCount_0f7a4 51 = .ok (.iand, 1) := by decide +kernel
theorem dJ6_bitCount_0f7a4_52 : decode cJ6_bitCount_0f7a4 52 = .ok (.ireturn, 1) := by decide +kernel
theorem dJ9_max_7cf53_0 : decode cJ9_max_7cf53 0 = .ok (.iload_n 0, 1) := by decide +kernel
theorem dJ9_max_7cf53_1 : decode cJ9_max_7cf53 1 = .ok (.iload_n 1, 1) := by decide +kernel
theorem dJ9_max_7cf53_2 : decode cJ9_max_7cf53 2 = .ok (.if_icmp .lt 7, 3) := by decide +kernel
theorem dJ9_max_7cf53_5 : decode cJ9_max_7cf53 5 = .ok (.iload_n 0, 1) := by decide +kernel
theorem dJ9_max_7cf53_6 : decode cJ9_max_7cf53 6 = .ok (.goto 4, 3) := by decide +kernel
theorem dJ9_max_7cf53_9 : decode cJ9_max_7cf53 9 = .ok (.iload_n 1, 1) := by decide +kernel
theorem dJ9_max_7cf53_10 : decode cJ9_max_7cf53 10 = .ok (.ireturn, 1) := by decide +kernel
theorem dJ9_min_7cf53_0 : decode cJ9_min_7cf53 0 = .ok (.iload_n 0, 1) := by decide +kernel
theorem dJ9_min_7cf53_1 : decode cJ9_min_7cf53 1 = .ok (.iload_n 1, 1) := by decide +kernel
theorem dJ9_min_7cf53_2 : decode cJ9_min_7cf53 2 = .ok (.if_icmp .gt 7, 3) := by decide +kernel
theorem dJ9_min_7cf53_5 : decode cJ9_min_7cf53 5 = .ok (.iload_n 0, 1) := by decide +kernel
theorem dJ9_min_7cf53_6 : decode cJ9_min_7cf53 6 = .ok (.goto 4, 3) := by decide +kernel
theorem dJ9_min_7cf53_9 : decode cJ9_min_7cf53 9 = .ok (.iload_n 1, 1) := by decide +kernel
theorem dJ9_min_7cf53_10 : decode cJ9_min_7cf53 10 = .ok (.ireturn, 1) := by decide +kernel
theorem dJ0_length_8abf5_0 : decode cJ0_length_8abf5 0 = .ok (.aload_n 0, 1) := by decide +kernel
theorem dJ0_length_8abf5_1 : decode cJ0_length_8abf5 1 = .ok (.getfield 9, 3) := by decide +kernel
theorem dJ0_length_8abf5_4 : decode cJ0_length_8abf5 4 = .ok (.arraylength, 1) := by decide +kernel
theorem dJ0_length_8abf5_5 : decode cJ0_length_8abf5 5 = .ok (.aload_n 0, 1) := by decide +kernel
theorem dJ0_length_8abf5_6 : decode cJ0_length_8abf5 6 = .ok (.invokevirtual 335, 3) := by decide +kernel
theorem dJ0_length_8abf5_9 : decode cJ0_length_8abf5 9 = .ok (.ishr, 1) := by decide +kernel
theorem dJ0_length_8abf5_10 : decode cJ0_length_8abf5 10 = .ok (.ireturn, 1) := by decide +kernel
theorem dJ0_charAt_5068e_0 : decode cJ0_charAt_5068e 0 = .ok (.aload_n 0, 1) := by decide +kernel
theorem dJ0_charAt_5068e_1 : decode cJ0_charAt_5068e 1 = .ok (.invokevirtual 492, 3) := by decide +kernel
theorem dJ0_charAt_5068e_4 : decode cJ0_charAt_5068e 4 = .ok (.ifCond .eq 12, 3) := by decide +kernel
theorem dJ0_charAt_5068e_7 : decode cJ0_charAt_5068e 7 = .ok (.aload_n 0, 1) := by decide +kernel
theorem dJ0_charAt_5068e_8 : decode cJ0_charAt_5068e 8 = .ok (.getfield 9, 3) := by decide +kernel
theorem dJ0_charAt_5068e_11 : decode cJ0_charAt_5068e 11 = .ok (.iload_n 1, 1) := by decide +kernel
theorem dJ0_charAt_5068e_12 : decode cJ0_charAt_5068e 12 = .ok (.invokestatic 495, 3) := by decide +kernel
theorem dJ0_charAt_5068e_15 : decode cJ0_charAt_5068e 15 = .ok (.ireturn, 1) := by decide +kernel
theorem dJ0_charAt_5068e_16 : decode cJ0_charAt_5068e 16 = .ok (.aload_n 0, 1) := by decide +kernel
theorem dJ0_charAt_5068e_17 : decode cJ0_charAt_5068e 17 = .ok (.getfield 9, 3) := by decide +kernel
theorem dJ0_charAt_5068e_20 : decode cJ0_charAt_5068e 20 = .ok (.iload_n 1, 1) := by decide +kernel
theorem dJ0_charAt_5068e_21 : decode cJ0_charAt_5068e 21 = .ok (.invokestatic 498, 3) := by decide +kernel
theorem dJ0_charAt_5068e_24 : decode cJ0_charAt_5068e 24 = .ok (.ireturn, 1) := by decide +kernel
theorem dJ0_coder_7d493_0 : decode cJ0_coder_7d493 0 = .ok (.getstatic 38, 3) := by decide +kernel
theorem dJ0_coder_7d493_3 : decode cJ0_coder_7d493 3 = .ok (.ifCond .eq 10, 3) := by decide +kernel
theorem dJ0_coder_7d493_6 : decode cJ0_coder_7d493 6 = .ok (.aload_n 0, 1) := by decide +kernel
theorem dJ0_coder_7d493_7 : decode cJ0_coder_7d493 7 = .ok (.getfield 15, 3) := by decide +kernel
theorem dJ0_coder_7d493_10 : decode cJ0_coder_7d493 10 = .ok (.goto 4, 3) := by decide +kernel
theorem dJ0_coder_7d493_13 : decode cJ0_coder_7d493 13 = .ok (.iconst 1, 1) := by decide +kernel
theorem dJ0_coder_7d493_14 : decode cJ0_coder_7d493 14 = .ok (.ireturn, 1) := by decide +kernel
theorem dJ0_isLatin1_aae02_0 : decode cJ0_isLatin1_aae02 0 = .ok (.getstatic 38, 3) := by decide +kernel
theorem dJ0_isLatin1_aae02_3 : decode cJ0_isLatin1_aae02 3 = .ok (.ifCond .eq 14, 3) := by decide +kernel
theorem dJ0_isLatin1_aae02_6 : decode cJ0_isLatin1_aae02 6 = .ok (.aload_n 0, 1) := by decide +kernel
theorem dJ0_isLatin1_aae02_7 : decode cJ0_isLatin1_aae02 7 = .ok (.getfield 15, 3) := by decide +kernel
theorem dJ0_isLatin1_aae02_10 : decode cJ0_isLatin1_aae02 10 = .ok (.ifCond .ne 7, 3) := by decide +kernel
theorem dJ0_isLatin1_aae02_13 : decode cJ0_isLatin1_aae02 13 = .ok (.iconst 1, 1) := by decide +kernel
theorem dJ0_isLatin1_aae02_14 : decode cJ0_isLatin1_aae02 14 = .ok (.goto 4, 3) := by decide +kernel
theorem dJ0_isLatin1_aae02_17 : decode cJ0_isLatin1_aae02 17 = .ok (.iconst 0, 1) := by decide +kernel
theorem dJ0_isLatin1_aae02_18 : decode cJ0_isLatin1_aae02 18 = .ok (.ireturn, 1) := by decide +kernel
theorem dJ0_checkIndex_df160_0 : decode cJ0_checkIndex_df160 0 = .ok (.iload_n 0, 1) := by decide +kernel
theorem dJ0_checkIndex_df160_1 : decode cJ0_checkIndex_df160 1 = .ok (.iload_n 1, 1) := by decide +kernel
theorem dJ0_checkIndex_df160_2 : decode cJ0_checkIndex_df160 2 = .ok (.getstatic 1053, 3) := by decide +kernel
theorem dJ0_checkIndex_df160_5 : decode cJ0_checkIndex_df160 5 = .ok (.invokestatic 1059, 3) := by decide +kernel
theorem dJ0_checkIndex_df160_8 : decode cJ0_checkIndex_df160 8 = .ok (.pop, 1) := by decide +kernel
theorem dJ0_checkIndex_df160_9 : decode cJ0_checkIndex_df160 9 = .ok (.return_, 1) := by decide +kernel
theorem dJ1_charAt_3b067_0 : decode cJ1_charAt_3b067 0 = .ok (.iload_n 1, 1) := by decide +kernel
theorem dJ1_charAt_3b067_1 : decode cJ1_charAt_3b067 1 = .ok (.aload_n 0, 1) := by decide +kernel
theorem dJ1_charAt_3b067_2 : decode cJ1_charAt_3b067 2 = .ok (.arraylength, 1) := by decide +kernel
theorem dJ1_charAt_3b067_3 : decode cJ1_charAt_3b067 3 = .ok (.invokestatic 9, 3) := by decide +kernel
theorem dJ1_charAt_3b067_6 : decode cJ1_charAt_3b067 6 = .ok (.aload_n 0, 1) := by decide +kernel
theorem dJ1_charAt_3b067_7 : decode cJ1_charAt_3b067 7 = .ok (.iload_n 1, 1) := by decide +kernel
theorem dJ1_charAt_3b067_8 : decode cJ1_charAt_3b067 8 = .ok (.baload, 1) := by decide +kernel
theorem dJ1_charAt_3b067_9 : decode cJ1_charAt_3b067 9 = .ok (.sipush 255, 3) := by decide +kernel
theorem dJ1_charAt_3b067_12 : decode cJ1_charAt_3b067 12 = .ok (.iand, 1) := by decide +kernel
theorem dJ1_charAt_3b067_13 : decode cJ1_charAt_3b067 13 = .ok (.i2c, 1) := by decide +kernel
theorem dJ1_charAt_3b067_14 : decode cJ1_charAt_3b067 14 = .ok (.ireturn, 1) := by decide +kernel
theorem dJ2_getChar_3b067_0 : decode cJ2_getChar_3b067 0 = .ok (.getstatic 44, 3) := by decide +kernel
theorem dJ2_getChar_3b067_3 : decode cJ2_getChar_3b067 3 = .ok (.ifCond .ne 25, 3) := by decide +kernel
theorem dJ2_getChar_3b067_6 : decode cJ2_getChar_3b067 6 = .ok (.iload_n 1, 1) := by decide +kernel
theorem dJ2_getChar_3b067_7 : decode cJ2_getChar_3b067 7 = .ok (.ifCond .lt 11, 3) := by decide +kernel
theorem dJ2_getChar_3b067_10 : decode cJ2_getChar_3b067 10 = .ok (.iload_n 1, 1) := by decide +kernel
theorem dJ2_getChar_3b067_11 : decode cJ2_getChar_3b067 11 = .ok (.aload_n 0, 1) := by decide +kernel
theorem dJ2_getChar_3b067_12 : decode cJ2_getChar_3b067 12 = .ok (.invokestatic 48, 3) := by decide +kernel
theorem dJ2_getChar_3b067_15 : decode cJ2_getChar_3b067 15 = .ok (.if_icmp .lt 13, 3) := by decide +kernel
theorem dJ2_getChar_3b067_18 : decode cJ2_getChar_3b067 18 = .ok (.new 52, 3) := by decide +kernel
theorem dJ2_getChar_3b067_21 : decode cJ2_getChar_3b067 21 = .ok (.dup, 1) := by decide +kernel
theorem dJ2_getChar_3b067_22 : decode cJ2_getChar_3b067 22 = .ok (.ldc 54, 2) := by decide +kernel
theorem dJ2_getChar_3b067_24 : decode cJ2_getChar_3b067 24 = .ok (.invokespecial 56, 3) := by decide +kernel
theorem dJ2_getChar_3b067_27 : decode cJ2_getChar_3b067 27 = .ok (.athrow, 1) := by decide +kernel
theorem dJ2_getChar_3b067_28 : decode cJ2_getChar_3b067 28 = .ok (.iload_n 1, 1) := by decide +kernel
theorem dJ2_getChar_3b067_29 : decode cJ2_getChar_3b067 29 = .ok (.iconst 1, 1) := by decide +kernel
theorem dJ2_getChar_3b067_30 : decode cJ2_getChar_3b067 30 = .ok (.ishl, 1) := by decide +kernel
theorem dJ2_getChar_3b067_31 : decode cJ2_getChar_3b067 31 = .ok (.istore_n 1, 1) := by decide +kernel
theorem dJ2_getChar_3b067_32 : decode cJ2_getChar_3b067 32 = .ok (.aload_n 0, 1) := by decide +kernel
theorem dJ2_getChar_3b067_33 : decode cJ2_getChar_3b067 33 = .ok (.iload_n 1, 1) := by decide +kernel
theorem dJ2_getChar_3b067_34 : decode cJ2_getChar_3b067 34 = .ok (.iinc 1 1, 3) := by decide +kernel
theorem dJ2_getChar_3b067_37 : decode cJ2_getChar_3b067 37 = .ok (.baload, 1) := by decide +kernel
theorem dJ2_getChar_3b067_38 : decode cJ2_getChar_3b067 38 = .ok (.sipush 255, 3) := by decide +kernel
theorem dJ2_getChar_3b067_41 : decode cJ2_getChar_3b067 41 = .ok (.iand, 1) := by decide +kernel
theorem dJ2_getChar_3b067_42 : decode cJ2_getChar_3b067 42 = .ok (.getstatic 59, 3) := by decide +kernel
theorem dJ2_getChar_3b067_45 : decode cJ2_getChar_3b067 45 = .ok (.ishl, 1) := by decide +kernel
theorem dJ2_getChar_3b067_46 : decode cJ2_getChar_3b067 46 = .ok (.aload_n 0, 1) := by decide +kernel
theorem dJ2_getChar_3b067_47 : decode cJ2_getChar_3b067 47 = .ok (.iload_n 1, 1) := by decide +kernel
theorem dJ2_getChar_3b067_48 : decode cJ2_getChar_3b067 48 = .ok (.baload, 1) := by decide +kernel
theorem dJ2_getChar_3b067_49 : decode cJ2_getChar_3b067 49 = .ok (.sipush 255, 3) := by decide +kernel
theorem dJ2_getChar_3b067_52 : decode cJ2_getChar_3b067 52 = .ok (.iand, 1) := by decide +kernel
theorem dJ2_getChar_3b067_53 : decode cJ2_getChar_3b067 53 = .ok (.getstatic 63, 3) := by decide +kernel
theorem dJ2_getChar_3b067_56 : decode cJ2_getChar_3b067 56 = .ok (.ishl, 1) := by decide +kernel
theorem dJ2_getChar_3b067_57 : decode cJ2_getChar_3b067 57 = .ok (.ior, 1) := by decide +kernel
theorem dJ2_getChar_3b067_58 : decode cJ2_getChar_3b067 58 = .ok (.i2c, 1) := by decide +kernel
theorem dJ2_getChar_3b067_59 : decode cJ2_getChar_3b067 59 = .ok (.ireturn, 1) := by decide +kernel
theorem dJ2_length_9d52b_0 : decode cJ2_length_9d52b 0 = .ok (.aload_n 0, 1) := by decide +kernel
theorem dJ2_length_9d52b_1 : decode cJ2_length_9d52b 1 = .ok (.arraylength, 1) := by decide +kernel
theorem dJ2_length_9d52b_2 : decode cJ2_length_9d52b 2 = .ok (.iconst 1, 1) := by decide +kernel
theorem dJ2_length_9d52b_3 : decode cJ2_length_9d52b 3 = .ok (.ishr, 1) := by decide +kernel
theorem dJ2_length_9d52b_4 : decode cJ2_length_9d52b 4 = .ok (.ireturn, 1) := by decide +kernel
theorem dJ2_charAt_3b067_0 : decode cJ2_charAt_3b067 0 = .ok (.iload_n 1, 1) := by decide +kernel
theorem dJ2_charAt_3b067_1 : decode cJ2_charAt_3b067 1 = .ok (.aload_n 0, 1) := by decide +kernel
theorem dJ2_charAt_3b067_2 : decode cJ2_charAt_3b067 2 = .ok (.invokestatic 67, 3) := by decide +kernel
theorem dJ2_charAt_3b067_5 : decode cJ2_charAt_3b067 5 = .ok (.aload_n 0, 1) := by decide +kernel
theorem dJ2_charAt_3b067_6 : decode cJ2_charAt_3b067 6 = .ok (.iload_n 1, 1) := by decide +kernel
theorem dJ2_charAt_3b067_7 : decode cJ2_charAt_3b067 7 = .ok (.invokestatic 71, 3) := by decide +kernel
theorem dJ2_charAt_3b067_10 : decode cJ2_charAt_3b067 10 = .ok (.ireturn, 1) := by decide +kernel
theorem dJ2_checkIndex_2214a_0 : decode cJ2_checkIndex_2214a 0 = .ok (.iload_n 0, 1) := by decide +kernel
theorem dJ2_checkIndex_2214a_1 : decode cJ2_checkIndex_2214a 1 = .ok (.aload_n 1, 1) := by decide +kernel
theorem dJ2_checkIndex_2214a_2 : decode cJ2_checkIndex_2214a 2 = .ok (.invokestatic 48, 3) := by decide +kernel
theorem dJ2_checkIndex_2214a_5 : decode cJ2_checkIndex_2214a 5 = .ok (.invokestatic 414, 3) := by decide +kernel
theorem dJ2_checkIndex_2214a_8 : decode cJ2_checkIndex_2214a 8 = .ok (.return_, 1) := by decide +kernel
theorem dJ7_fill_53178_0 : decode cJ7_fill_53178 0 = .ok (.iconst 0, 1) := by decide +kernel
theorem dJ7_fill_53178_1 : decode cJ7_fill_53178 1 = .ok (.istore_n 2, 1) := by decide +kernel
theorem dJ7_fill_53178_2 : decode cJ7_fill_53178 2 = .ok (.aload_n 0, 1) := by decide +kernel
theorem dJ7_fill_53178_3 : decode cJ7_fill_53178 3 = .ok (.arraylength, 1) := by decide +kernel
theorem dJ7_fill_53178_4 : decode cJ7_fill_53178 4 = .ok (.istore_n 3, 1) := by decide +kernel
theorem dJ7_fill_53178_5 : decode cJ7_fill_53178 5 = .ok (.iload_n 2, 1) := by decide +kernel
theorem dJ7_fill_53178_6 : decode cJ7_fill_53178 6 = .ok (.iload_n 3, 1) := by decide +kernel
theorem dJ7_fill_53178_7 : decode cJ7_fill_53178 7 = .ok (.if_icmp .ge 13, 3) := by decide +kernel
theorem dJ7_fill_53178_10 : decode cJ7_fill_53178 10 = .ok (.aload_n 0, 1) := by decide +kernel
theorem dJ7_fill_53178_11 : decode cJ7_fill_53178 11 = .ok (.iload_n 2, 1) := by decide +kernel
theorem dJ7_fill_53178_12 : decode cJ7_fill_53178 12 = .ok (.iload_n 1, 1) := by decide +kernel
theorem dJ7_fill_53178_13 : decode cJ7_fill_53178 13 = .ok (.iastore, 1) := by decide +kernel
theorem dJ7_fill_53178_14 : decode cJ7_fill_53178 14 = .ok (.iinc 2 1, 3) := by decide +kernel
theorem dJ7_fill_53178_17 : decode cJ7_fill_53178 17 = .ok (.goto (-12), 3) := by decide +kernel
theorem dJ7_fill_53178_20 : decode cJ7_fill_53178 20 = .ok (.return_, 1) := by decide +kernel
theorem dJ3_checkIndex_8e157_0 : decode cJ3_checkIndex_8e157 0 = .ok (.iload_n 0, 1) := by decide +kernel
theorem dJ3_checkIndex_8e157_1 : decode cJ3_checkIndex_8e157 1 = .ok (.ifCond .lt 8, 3) := by decide +kernel
theorem dJ3_checkIndex_8e157_4 : decode cJ3_checkIndex_8e157 4 = .ok (.iload_n 0, 1) := by decide +kernel
theorem dJ3_checkIndex_8e157_5 : decode cJ3_checkIndex_8e157 5 = .ok (.iload_n 1, 1) := by decide +kernel
theorem dJ3_checkIndex_8e157_6 : decode cJ3_checkIndex_8e157 6 = .ok (.if_icmp .lt 10, 3) := by decide +kernel
theorem dJ3_checkIndex_8e157_9 : decode cJ3_checkIndex_8e157 9 = .ok (.aload_n 2, 1) := by decide +kernel
theorem dJ3_checkIndex_8e157_10 : decode cJ3_checkIndex_8e157 10 = .ok (.iload_n 0, 1) := by decide +kernel
theorem dJ3_checkIndex_8e157_11 : decode cJ3_checkIndex_8e157 11 = .ok (.iload_n 1, 1) := by decide +kernel
theorem dJ3_checkIndex_8e157_12 : decode cJ3_checkIndex_8e157 12 = .ok (.invokestatic 95, 3) := by decide +kernel
theorem dJ3_checkIndex_8e157_15 : decode cJ3_checkIndex_8e157 15 = .ok (.athrow, 1) := by decide +kernel
theorem dJ3_checkIndex_8e157_16 : decode cJ3_checkIndex_8e157 16 = .ok (.iload_n 0, 1) := by decide +kernel
theorem dJ3_checkIndex_8e157_17 : decode cJ3_checkIndex_8e157 17 = .ok (.ireturn, 1) := by decide +kernel
theorem dL_law_0 : decode cL_law 0 = .ok (.new 7, 3) := by decide +kernel
theorem dL_law_3 : decode cL_law 3 = .ok (.dup, 1) := by decide +kernel
theorem dL_law_4 : decode cL_law 4 = .ok (.invokespecial 9, 3) := by decide +kernel
theorem dL_law_7 : decode cL_law 7 = .ok (.astore_n 1, 1) := by decide +kernel
theorem dL_law_8 : decode cL_law 8 = .ok (.new 10, 3) := by decide +kernel
theorem dL_law_11 : decode cL_law 11 = .ok (.dup, 1) := by decide +kernel
theorem dL_law_12 : decode cL_law 12 = .ok (.invokespecial 12, 3) := by decide +kernel
theorem dL_law_15 : decode cL_law 15 = .ok (.astore_n 2, 1) := by decide +kernel
theorem dL_law_16 : decode cL_law 16 = .ok (.iconst 0, 1) := by decide +kernel
theorem dL_law_17 : decode cL_law 17 = .ok (.istore_n 3, 1) := by decide +kernel
theorem dL_law_18 : decode cL_law 18 = .ok (.iload_n 3, 1) := by decide +kernel
theorem dL_law_19 : decode cL_law 19 = .ok (.aload_n 0, 1) := by decide +kernel
theorem dL_law_20 : decode cL_law 20 = .ok (.arraylength, 1) := by decide +kernel
theorem dL_law_21 : decode cL_law 21 = .ok (.iconst 5, 1) := by decide +kernel
theorem dL_law_22 : decode cL_law 22 = .ok (.isub, 1) := by decide +kernel
theorem dL_law_23 : decode cL_law 23 = .ok (.if_icmp .gt 1528, 3) := by decide +kernel
theorem dL_law_26 : decode cL_law 26 = .ok (.aload_n 0, 1) := by decide +kernel
theorem dL_law_27 : decode cL_law 27 = .ok (.iload_n 3, 1) := by decide +kernel
theorem dL_law_28 : decode cL_law 28 = .ok (.iaload, 1) := by decide +kernel
theorem dL_law_29 : decode cL_law 29 = .ok (.bipush 63, 2) := by decide +kernel
theorem dL_law_31 : decode cL_law 31 = .ok (.iand, 1) := by decide +kernel
theorem dL_law_32 : decode cL_law 32 = .ok (.tableswitch 1513 0 40 #[180, 233, 256, 269, 282, 305, 328, 371, 404, 437, 460, 493, 536, 569, 622, 655, 688, 731, 754, 787, 820, 853, 866, 909, 942, 985, 1008, 1041, 1074, 1107, 1150, 1173, 1216, 1249, 1292, 1315, 1338, 1381, 1424, 1477, 1490], 180) := by decide +kernel
theorem dL_law_212 : decode cL_law 212 = .ok (.aload_n 1, 1) := by decide +kernel
theorem dL_law_213 : decode cL_law 213 = .ok (.aload_n 0, 1) := by decide +kernel
theorem dL_law_214 : decode cL_law 214 = .ok (.iload_n 3, 1) := by decide +kernel
theorem dL_law_215 : decode cL_law 215 = .ok (.iconst 1, 1) := by decide +kernel
theorem dL_law_216 : decode cL_law 216 = .ok (.iadd, 1) := by decide +kernel
theorem dL_law_217 : decode cL_law 217 = .ok (.iaload, 1) := by decide +kernel
theorem dL_law_218 : decode cL_law 218 = .ok (.i2l, 1) := by decide +kernel
theorem dL_law_219 : decode cL_law 219 = .ok (.bipush 32, 2) := by decide +kernel
theorem dL_law_221 : decode cL_law 221 = .ok (.lshl, 1) := by decide +kernel
theorem dL_law_222 : decode cL_law 222 = .ok (.aload_n 0, 1) := by decide +kernel
theorem dL_law_223 : decode cL_law 223 = .ok (.iload_n 3, 1) := by decide +kernel
theorem dL_law_224 : decode cL_law 224 = .ok (.iconst 2, 1) := by decide +kernel
theorem dL_law_225 : decode cL_law 225 = .ok (.iadd, 1) := by decide +kernel
theorem dL_law_226 : decode cL_law 226 = .ok (.iaload, 1) := by decide +kernel
theorem dL_law_227 : decode cL_law 227 = .ok (.i2l, 1) := by decide +kernel
theorem dL_law_228 : decode cL_law 228 = .ok (.ldc2_w 13, 3) := by decide +kernel
theorem dL_law_231 : decode cL_law 231 = .ok (.land, 1) := by decide +kernel
theorem dL_law_232 : decode cL_law 232 = .ok (.lor, 1) := by decide +kernel
theorem dL_law_233 : decode cL_law 233 = .ok (.invokevirtual 15, 3) := by decide +kernel
theorem dL_law_236 : decode cL_law 236 = .ok (.aload_n 2, 1) := by decide +kernel
theorem dL_law_237 : decode cL_law 237 = .ok (.aload_n 0, 1) := by decide +kernel
theorem dL_law_238 : decode cL_law 238 = .ok (.iload_n 3, 1) := by decide +kernel
theorem dL_law_239 : decode cL_law 239 = .ok (.iconst 1, 1) := by decide +kernel
theorem dL_law_240 : decode cL_law 240 = .ok (.iadd, 1) := by decide +kernel
theorem dL_law_241 : decode cL_law 241 = .ok (.iaload, 1) := by decide +kernel
theorem dL_law_242 : decode cL_law 242 = .ok (.i2l, 1) := by decide +kernel
theorem dL_law_243 : decode cL_law 243 = .ok (.bipush 32, 2) := by decide +kernel
theorem dL_law_245 : decode cL_law 245 = .ok (.lshl, 1) := by decide +kernel
theorem dL_law_246 : decode cL_law 246 = .ok (.aload_n 0, 1) := by decide +kernel
theorem dL_law_247 : decode cL_law 247 = .ok (.iload_n 3, 1) := by decide +kernel
theorem dL_law_248 : decode cL_law 248 = .ok (.iconst 2, 1) := by decide +kernel
theorem dL_law_249 : decode cL_law 249 = .ok (.iadd, 1) := by decide +kernel
theorem dL_law_250 : decode cL_law 250 = .ok (.iaload, 1) := by decide +kernel
theorem dL_law_251 : decode cL_law 251 = .ok (.i2l, 1) := by decide +kernel
theorem dL_law_252 : decode cL_law 252 = .ok (.ldc2_w 13, 3) := by decide +kernel
theorem dL_law_255 : decode cL_law 255 = .ok (.land, 1) := by decide +kernel
theorem dL_law_256 : decode cL_law 256 = .ok (.lor, 1) := by decide +kernel
theorem dL_law_257 : decode cL_law 257 = .ok (.invokevirtual 19, 3) := by decide +kernel
theorem dL_law_260 : decode cL_law 260 = .ok (.if_icmp .eq 1285, 3) := by decide +kernel
theorem dL_law_263 : decode cL_law 263 = .ok (.iconst 0, 1) := by decide +kernel
theorem dL_law_264 : decode cL_law 264 = .ok (.ireturn, 1) := by decide +kernel
theorem dL_law_265 : decode cL_law 265 = .ok (.aload_n 1, 1) := by decide +kernel
theorem dL_law_266 : decode cL_law 266 = .ok (.aload_n 0, 1) := by decide +kernel
theorem dL_law_267 : decode cL_law 267 = .ok (.iload_n 3, 1) := by decide +kernel
theorem dL_law_268 : decode cL_law 268 = .ok (.iconst 1, 1) := by decide +kernel
theorem dL_law_269 : decode cL_law 269 = .ok (.iadd, 1) := by decide +kernel
theorem dL_law_270 : decode cL_law 270 = .ok (.iaload, 1) := by decide +kernel
theorem dL_law_271 : decode cL_law 271 = .ok (.invokevirtual 20, 3) := by decide +kernel
theorem dL_law_274 : decode cL_law 274 = .ok (.aload_n 2, 1) := by decide +kernel
theorem dL_law_275 : decode cL_law 275 = .ok (.aload_n 0, 1) := by decide +kernel
theorem dL_law_276 : decode cL_law 276 = .ok (.iload_n 3, 1) := by decide +kernel
theorem dL_law_277 : decode cL_law 277 = .ok (.iconst 1, 1) := by decide +kernel
theorem dL_law_278 : decode cL_law 278 = .ok (.iadd, 1) := by decide +kernel
theorem dL_law_279 : decode cL_law 279 = .ok (.iaload, 1) := by decide +kernel
theorem dL_law_280 : decode cL_law 280 = .ok (.invokevirtual 24, 3) := by decide +kernel
theorem dL_law_283 : decode cL_law 283 = .ok (.if_icmp .eq 1262, 3) := by decide +kernel
theorem dL_law_286 : decode cL_law 286 = .ok (.iconst 0, 1) := by decide +kernel
theorem dL_law_287 : decode cL_law 287 = .ok (.ireturn, 1) := by decide +kernel
theorem dL_law_288 : decode cL_law 288 = .ok (.aload_n 1, 1) := by decide +kernel
theorem dL_law_289 : decode cL_law 289 = .ok (.invokevirtual 25, 3) := by decide +kernel
theorem dL_law_292 : decode cL_law 292 = .ok (.aload_n 2, 1) := by decide +kernel
theorem dL_law_293 : decode cL_law 293 = .ok (.invokevirtual 29, 3) := by decide +kernel
theorem dL_law_296 : decode cL_law 296 = .ok (.if_icmp .eq 1249, 3) := by decide +kernel
theorem dL_law_299 : decode cL_law 299 = .ok (.iconst 0, 1) := by decide +kernel
theorem dL_law_300 : decode cL_law 300 = .ok (.ireturn, 1) := by decide +kernel
theorem dL_law_301 : decode cL_law 301 = .ok (.aload_n 1, 1) := by decide +kernel
theorem dL_law_302 : decode cL_law 302 = .ok (.invokevirtual 30, 3) := by decide +kernel
theorem dL_law_305 : decode cL_law 305 = .ok (.aload_n 2, 1) := by decide +kernel
theorem dL_law_306 : decode cL_law 306 = .ok (.invokevirtual 33, 3) := by decide +kernel
theorem dL_law_309 : decode cL_law 309 = .ok (.if_icmp .eq 1236, 3) := by decide +kernel
theorem dL_law_312 : decode cL_law 312 = .ok (.iconst 0, 1) := by decide +kernel
theorem dL_law_313 : decode cL_law 313 = .ok (.ireturn, 1) := by decide +kernel
theorem dL_law_314 : decode cL_law 314 = .ok (.aload_n 1, 1) := by decide +kernel
theorem dL_law_315 : decode cL_law 315 = .ok (.aload_n 0, 1) := by decide +kernel
theorem dL_law_316 : decode cL_law 316 = .ok (.iload_n 3, 1) := by decide +kernel
theorem dL_law_317 : decode cL_law 317 = .ok (.iconst 1, 1) := by decide +kernel
theorem dL_law_318 : decode cL_law 318 = .ok (.iadd, 1) := by decide +kernel
theorem dL_law_319 : decode cL_law 319 = .ok (.iaload, 1) := by decide +kernel
theorem dL_law_320 : decode cL_law 320 = .ok (.invokevirtual 34, 3) := by decide +kernel
theorem dL_law_323 : decode cL_law 323 = .ok (.aload_n 2, 1) := by decide +kernel
theorem dL_law_324 : decode cL_law 324 = .ok (.aload_n 0, 1) := by decide +kernel
theorem dL_law_325 : decode cL_law 325 = .ok (.iload_n 3, 1) := by decide +kernel
theorem dL_law_326 : decode cL_law 326 = .ok (.iconst 1, 1) := by decide +kernel
theorem dL_law_327 : decode cL_law 327 = .ok (.iadd, 1) := by decide +kernel
theorem dL_law_328 : decode cL_law 328 = .ok (.iaload, 1) := by decide +kernel
theorem dL_law_329 : decode cL_law 329 = .ok (.invokevirtual 37, 3) := by decide +kernel
theorem dL_law_332 : decode cL_law 332 = .ok (.if_icmp .eq 1213, 3) := by decide +kernel
theorem dL_law_335 : decode cL_law 335 = .ok (.iconst 0, 1) := by decide +kernel
theorem dL_law_336 : decode cL_law 336 = .ok (.ireturn, 1) := by decide +kernel
theorem dL_law_337 : decode cL_law 337 = .ok (.aload_n 1, 1) := by decide +kernel
theorem dL_law_338 : decode cL_law 338 = .ok (.aload_n 0, 1) := by decide +kernel
theorem dL_law_339 : decode cL_law 339 = .ok (.iload_n 3, 1) := by decide +kernel
theorem dL_law_340 : decode cL_law 340 = .ok (.iconst 1, 1) := by decide +kernel
theorem dL_law_341 : decode cL_law 341 = .ok (.iadd, 1) := by decide +kernel
theorem dL_law_342 : decode cL_law 342 = .ok (.iaload, 1) := by decide +kernel
theorem dL_law_343 : decode cL_law 343 = .ok (.invokevirtual 38, 3) := by decide +kernel
theorem dL_law_346 : decode cL_law 346 = .ok (.aload_n 2, 1) := by decide +kernel
theorem dL_law_347 : decode cL_law 347 = .ok (.aload_n 0, 1) := by decide +kernel
theorem dL_law_348 : decode cL_law 348 = .ok (.iload_n 3, 1) := by decide +kernel
theorem dL_law_349 : decode cL_law 349 = .ok (.iconst 1, 1) := by decide +kernel
theorem dL_law_350 : decode cL_law 350 = .ok (.iadd, 1) := by decide +kernel
theorem dL_law_351 : decode cL_law 351 = .ok (.iaload, 1) := by decide +kernel
theorem dL_law_352 : decode cL_law 352 = .ok (.invokevirtual 41, 3) := by decide +kernel
theorem dL_law_355 : decode cL_law 355 = .ok (.if_icmp .eq 1190, 3) := by decide +kernel
theorem dL_law_358 : decode cL_law 358 = .ok (.iconst 0, 1) := by decide +kernel
theorem dL_law_359 : decode cL_law 359 = .ok (.ireturn, 1) := by decide +kernel
theorem dL_law_360 : decode cL_law 360 = .ok (.aload_n 1, 1) := by decide +kernel
theorem dL_law_361 : decode cL_law 361 = .ok (.aload_n 0, 1) := by decide +kernel
theorem dL_law_362 : decode cL_law 362 = .ok (.iload_n 3, 1) := by decide +kernel
theorem dL_law_363 : decode cL_law 363 = .ok (.iconst 1, 1) := by decide +kernel
theorem dL_law_364 : decode cL_law 364 = .ok (.iadd, 1) := by decide +kernel
theorem dL_law_365 : decode cL_law 365 = .ok (.iaload, 1) := by decide +kernel
theorem dL_law_366 : decode cL_law 366 = .ok (.aload_n 0, 1) := by decide +kernel
theorem dL_law_367 : decode cL_law 367 = .ok (.iload_n 3, 1) := by decide +kernel
theorem dL_law_368 : decode cL_law 368 = .ok (.iconst 2, 1) := by decide +kernel
theorem dL_law_369 : decode cL_law 369 = .ok (.iadd, 1) := by decide +kernel
theorem dL_law_370 : decode cL_law 370 = .ok (.iaload, 1) := by decide +kernel
theorem dL_law_371 : decode cL_law 371 = .ok (.aload_n 0, 1) := by decide +kernel
theorem dL_law_372 : decode cL_law 372 = .ok (.iload_n 3, 1) := by decide +kernel
theorem dL_law_373 : decode cL_law 373 = .ok (.iconst 3, 1) := by decide +kernel
theorem dL_law_374 : decode cL_law 374 = .ok (.iadd, 1) := by decide +kernel
theorem dL_law_375 : decode cL_law 375 = .ok (.iaload, 1) := by decide +kernel
theorem dL_law_376 : decode cL_law 376 = .ok (.invokevirtual 42, 3) := by decide +kernel
theorem dL_law_379 : decode cL_law 379 = .ok (.aload_n 2, 1) := by decide +kernel
theorem dL_law_380 : decode cL_law 380 = .ok (.aload_n 0, 1) := by decide +kernel
theorem dL_law_381 : decode cL_law 381 = .ok (.iload_n 3, 1) := by decide +kernel
theorem dL_law_382 : decode cL_law 382 = .ok (.iconst 1, 1) := by decide +kernel
theorem dL_law_383 : decode cL_law 383 = .ok (.iadd, 1) := by decide +kernel
theorem dL_law_384 : decode cL_law 384 = .ok (.iaload, 1) := by decide +kernel
theorem dL_law_385 : decode cL_law 385 = .ok (.aload_n 0, 1) := by decide +kernel
theorem dL_law_386 : decode cL_law 386 = .ok (.iload_n 3, 1) := by decide +kernel
theorem dL_law_387 : decode cL_law 387 = .ok (.iconst 2, 1) := by decide +kernel
theorem dL_law_388 : decode cL_law 388 = .ok (.iadd, 1) := by decide +kernel
theorem dL_law_389 : decode cL_law 389 = .ok (.iaload, 1) := by decide +kernel
theorem dL_law_390 : decode cL_law 390 = .ok (.aload_n 0, 1) := by decide +kernel
theorem dL_law_391 : decode cL_law 391 = .ok (.iload_n 3, 1) := by decide +kernel
theorem dL_law_392 : decode cL_law 392 = .ok (.iconst 3, 1) := by decide +kernel
theorem dL_law_393 : decode cL_law 393 = .ok (.iadd, 1) := by decide +kernel
theorem dL_law_394 : decode cL_law 394 = .ok (.iaload, 1) := by decide +kernel
theorem dL_law_395 : decode cL_law 395 = .ok (.invokevirtual 46, 3) := by decide +kernel
theorem dL_law_398 : decode cL_law 398 = .ok (.if_icmp .eq 1147, 3) := by decide +kernel
theorem dL_law_401 : decode cL_law 401 = .ok (.iconst 0, 1) := by decide +kernel
theorem dL_law_402 : decode cL_law 402 = .ok (.ireturn, 1) := by decide +kernel
theorem dL_law_403 : decode cL_law 403 = .ok (.aload_n 1, 1) := by decide +kernel
theorem dL_law_404 : decode cL_law 404 = .ok (.aload_n 0, 1) := by decide +kernel
theorem dL_law_405 : decode cL_law 405 = .ok (.iload_n 3, 1) := by decide +kernel
theorem dL_law_406 : decode cL_law 406 = .ok (.iconst 1, 1) := by decide +kernel
theorem dL_law_407 : decode cL_law 407 = .ok (.iadd, 1) := by decide +kernel
theorem dL_law_408 : decode cL_law 408 = .ok (.iaload, 1) := by decide +kernel
theorem dL_law_409 : decode cL_law 409 = .ok (.aload_n 0, 1) := by decide +kernel
theorem dL_law_410 : decode cL_law 410 = .ok (.iload_n 3, 1) := by decide +kernel
theorem dL_law_411 : decode cL_law 411 = .ok (.iconst 2, 1) := by decide +kernel
theorem dL_law_412 : decode cL_law 412 = .ok (.iadd, 1) := by decide +kernel
theorem dL_law_413 : decode cL_law 413 = .ok (.iaload, 1) := by decide +kernel
theorem dL_law_414 : decode cL_law 414 = .ok (.invokevirtual 47, 3) := by decide +kernel
theorem dL_law_417 : decode cL_law 417 = .ok (.aload_n 2, 1) := by decide +kernel
theorem dL_law_418 : decode cL_law 418 = .ok (.aload_n 0, 1) := by decide +kernel
theorem dL_law_419 : decode cL_law 419 = .ok (.iload_n 3, 1) := by decide +kernel
theorem dL_law_420 : decode cL_law 420 = .ok (.iconst 1, 1) := by decide +kernel
theorem dL_law_421 : decode cL_law 421 = .ok (.iadd, 1) := by decide +kernel
theorem dL_law_422 : decode cL_law 422 = .ok (.iaload, 1) := by decide +kernel
theorem dL_law_423 : decode cL_law 423 = .ok (.aload_n 0, 1) := by decide +kernel
theorem dL_law_424 : decode cL_law 424 = .ok (.iload_n 3, 1) := by decide +kernel
theorem dL_law_425 : decode cL_law 425 = .ok (.iconst 2, 1) := by decide +kernel
theorem dL_law_426 : decode cL_law 426 = .ok (.iadd, 1) := by decide +kernel
theorem dL_law_427 : decode cL_law 427 = .ok (.iaload, 1) := by decide +kernel
theorem dL_law_428 : decode cL_law 428 = .ok (.invokevirtual 51, 3) := by decide +kernel
theorem dL_law_431 : decode cL_law 431 = .ok (.if_icmp .eq 1114, 3) := by decide +kernel
theorem dL_law_434 : decode cL_law 434 = .ok (.iconst 0, 1) := by decide +kernel
theorem dL_law_435 : decode cL_law 435 = .ok (.ireturn, 1) := by decide +kernel
theorem dL_law_436 : decode cL_law 436 = .ok (.aload_n 1, 1) := by decide +kernel
theorem dL_law_437 : decode cL_law 437 = .ok (.aload_n 0, 1) := by decide +kernel
theorem dL_law_438 : decode cL_law 438 = .ok (.iload_n 3, 1) := by decide +kernel
theorem dL_law_439 : decode cL_law 439 = .ok (.iconst 1, 1) := by decide +kernel
theorem dL_law_440 : decode cL_law 440 = .ok (.iadd, 1) := by decide +kernel
theorem dL_law_441 : decode cL_law 441 = .ok (.iaload, 1) := by decide +kernel
theorem dL_law_442 : decode cL_law 442 = .ok (.aload_n 0, 1) := by decide +kernel
theorem dL_law_443 : decode cL_law 443 = .ok (.iload_n 3, 1) := by decide +kernel
theorem dL_law_444 : decode cL_law 444 = .ok (.iconst 2, 1) := by decide +kernel
theorem dL_law_445 : decode cL_law 445 = .ok (.iadd, 1) := by decide +kernel
theorem dL_law_446 : decode cL_law 446 = .ok (.iaload, 1) := by decide +kernel
theorem dL_law_447 : decode cL_law 447 = .ok (.invokevirtual 52, 3) := by decide +kernel
theorem dL_law_450 : decode cL_law 450 = .ok (.aload_n 2, 1) := by decide +kernel
theorem dL_law_451 : decode cL_law 451 = .ok (.aload_n 0, 1) := by decide +kernel
theorem dL_law_452 : decode cL_law 452 = .ok (.iload_n 3, 1) := by decide +kernel
theorem dL_law_453 : decode cL_law 453 = .ok (.iconst 1, 1) := by decide +kernel
theorem dL_law_454 : decode cL_law 454 = .ok (.iadd, 1) := by decide +kernel
theorem dL_law_455 : decode cL_law 455 = .ok (.iaload, 1) := by decide +kernel
theorem dL_law_456 : decode cL_law 456 = .ok (.aload_n 0, 1) := by decide +kernel
theorem dL_law_457 : decode cL_law 457 = .ok (.iload_n 3, 1) := by decide +kernel
theorem dL_law_458 : decode cL_law 458 = .ok (.iconst 2, 1) := by decide +kernel
theorem dL_law_459 : decode cL_law 459 = .ok (.iadd, 1) := by decide +kernel
theorem dL_law_460 : decode cL_law 460 = .ok (.iaload, 1) := by decide +kernel
theorem dL_law_461 : decode cL_law 461 = .ok (.invokevirtual 55, 3) := by decide +kernel
theorem dL_law_464 : decode cL_law 464 = .ok (.if_icmp .eq 1081, 3) := by decide +kernel
theorem dL_law_467 : decode cL_law 467 = .ok (.iconst 0, 1) := by decide +kernel
theorem dL_law_468 : decode cL_law 468 = .ok (.ireturn, 1) := by decide +kernel
theorem dL_law_469 : decode cL_law 469 = .ok (.aload_n 1, 1) := by decide +kernel
theorem dL_law_470 : decode cL_law 470 = .ok (.aload_n 0, 1) := by decide +kernel
theorem dL_law_471 : decode cL_law 471 = .ok (.iload_n 3, 1) := by decide +kernel
theorem dL_law_472 : decode cL_law 472 = .ok (.iconst 1, 1) := by decide +kernel
theorem dL_law_473 : decode cL_law 473 = .ok (.iadd, 1) := by decide +kernel
theorem dL_law_474 : decode cL_law 474 = .ok (.iaload, 1) := by decide +kernel
theorem dL_law_475 : decode cL_law 475 = .ok (.invokevirtual 56, 3) := by decide +kernel
theorem dL_law_478 : decode cL_law 478 = .ok (.aload_n 2, 1) := by decide +kernel
theorem dL_law_479 : decode cL_law 479 = .ok (.aload_n 0, 1) := by decide +kernel
theorem dL_law_480 : decode cL_law 480 = .ok (.iload_n 3, 1) := by decide +kernel
theorem dL_law_481 : decode cL_law 481 = .ok (.iconst 1, 1) := by decide +kernel
theorem dL_law_482 : decode cL_law 482 = .ok (.iadd, 1) := by decide +kernel
theorem dL_law_483 : decode cL_law 483 = .ok (.iaload, 1) := by decide +kernel
theorem dL_law_484 : decode cL_law 484 = .ok (.invokevirtual 59, 3) := by decide +kernel
theorem dL_law_487 : decode cL_law 487 = .ok (.if_icmp .eq 1058, 3) := by decide +kernel
theorem dL_law_490 : decode cL_law 490 = .ok (.iconst 0, 1) := by decide +kernel
theorem dL_law_491 : decode cL_law 491 = .ok (.ireturn, 1) := by decide +kernel
theorem dL_law_492 : decode cL_law 492 = .ok (.aload_n 1, 1) := by decide +kernel
theorem dL_law_493 : decode cL_law 493 = .ok (.aload_n 0, 1) := by decide +kernel
theorem dL_law_494 : decode cL_law 494 = .ok (.iload_n 3, 1) := by decide +kernel
theorem dL_law_495 : decode cL_law 495 = .ok (.iconst 1, 1) := by decide +kernel
theorem dL_law_496 : decode cL_law 496 = .ok (.iadd, 1) := by decide +kernel
theorem dL_law_497 : decode cL_law 497 = .ok (.iaload, 1) := by decide +kernel
theorem dL_law_498 : decode cL_law 498 = .ok (.aload_n 0, 1) := by decide +kernel
theorem dL_law_499 : decode cL_law 499 = .ok (.iload_n 3, 1) := by decide +kernel
theorem dL_law_500 : decode cL_law 500 = .ok (.iconst 2, 1) := by decide +kernel
theorem dL_law_501 : decode cL_law 501 = .ok (.iadd, 1) := by decide +kernel
theorem dL_law_502 : decode cL_law 502 = .ok (.iaload, 1) := by decide +kernel
theorem dL_law_503 : decode cL_law 503 = .ok (.invokevirtual 60, 3) := by decide +kernel
theorem dL_law_506 : decode cL_law 506 = .ok (.aload_n 2, 1) := by decide +kernel
theorem dL_law_507 : decode cL_law 507 = .ok (.aload_n 0, 1) := by decide +kernel
theorem dL_law_508 : decode cL_law 508 = .ok (.iload_n 3, 1) := by decide +kernel
theorem dL_law_509 : decode cL_law 509 = .ok (.iconst 1, 1) := by decide +kernel
theorem dL_law_510 : decode cL_law 510 = .ok (.iadd, 1) := by decide +kernel
theorem dL_law_511 : decode cL_law 511 = .ok (.iaload, 1) := by decide +kernel
theorem dL_law_512 : decode cL_law 512 = .ok (.aload_n 0, 1) := by decide +kernel
theorem dL_law_513 : decode cL_law 513 = .ok (.iload_n 3, 1) := by decide +kernel
theorem dL_law_514 : decode cL_law 514 = .ok (.iconst 2, 1) := by decide +kernel
theorem dL_law_515 : decode cL_law 515 = .ok (.iadd, 1) := by decide +kernel
theorem dL_law_516 : decode cL_law 516 = .ok (.iaload, 1) := by decide +kernel
theorem dL_law_517 : decode cL_law 517 = .ok (.invokevirtual 63, 3) := by decide +kernel
theorem dL_law_520 : decode cL_law 520 = .ok (.if_icmp .eq 1025, 3) := by decide +kernel
theorem dL_law_523 : decode cL_law 523 = .ok (.iconst 0, 1) := by decide +kernel
theorem dL_law_524 : decode cL_law 524 = .ok (.ireturn, 1) := by decide +kernel
theorem dL_law_525 : decode cL_law 525 = .ok (.aload_n 1, 1) := by decide +kernel
theorem dL_law_526 : decode cL_law 526 = .ok (.aload_n 0, 1) := by decide +kernel
theorem dL_law_527 : decode cL_law 527 = .ok (.iload_n 3, 1) := by decide +kernel
theorem dL_law_528 : decode cL_law 528 = .ok (.iconst 1, 1) := by decide +kernel
theorem dL_law_529 : decode cL_law 529 = .ok (.iadd, 1) := by decide +kernel
theorem dL_law_530 : decode cL_law 530 = .ok (.iaload, 1) := by decide +kernel
theorem dL_law_531 : decode cL_law 531 = .ok (.aload_n 0, 1) := by decide +kernel
theorem dL_law_532 : decode cL_law 532 = .ok (.iload_n 3, 1) := by decide +kernel
theorem dL_law_533 : decode cL_law 533 = .ok (.iconst 2, 1) := by decide +kernel
theorem dL_law_534 : decode cL_law 534 = .ok (.iadd, 1) := by decide +kernel
theorem dL_law_535 : decode cL_law 535 = .ok (.iaload, 1) := by decide +kernel
theorem dL_law_536 : decode cL_law 536 = .ok (.aload_n 0, 1) := by decide +kernel
theorem dL_law_537 : decode cL_law 537 = .ok (.iload_n 3, 1) := by decide +kernel
theorem dL_law_538 : decode cL_law 538 = .ok (.iconst 3, 1) := by decide +kernel
theorem dL_law_539 : decode cL_law 539 = .ok (.iadd, 1) := by decide +kernel
theorem dL_law_540 : decode cL_law 540 = .ok (.iaload, 1) := by decide +kernel
theorem dL_law_541 : decode cL_law 541 = .ok (.invokevirtual 64, 3) := by decide +kernel
theorem dL_law_544 : decode cL_law 544 = .ok (.aload_n 2, 1) := by decide +kernel
theorem dL_law_545 : decode cL_law 545 = .ok (.aload_n 0, 1) := by decide +kernel
theorem dL_law_546 : decode cL_law 546 = .ok (.iload_n 3, 1) := by decide +kernel
theorem dL_law_547 : decode cL_law 547 = .ok (.iconst 1, 1) := by decide +kernel
theorem dL_law_548 : decode cL_law 548 = .ok (.iadd, 1) := by decide +kernel
theorem dL_law_549 : decode cL_law 549 = .ok (.iaload, 1) := by decide +kernel
theorem dL_law_550 : decode cL_law 550 = .ok (.aload_n 0, 1) := by decide +kernel
theorem dL_law_551 : decode cL_law 551 = .ok (.iload_n 3, 1) := by decide +kernel
theorem dL_law_552 : decode cL_law 552 = .ok (.iconst 2, 1) := by decide +kernel
theorem dL_law_553 : decode cL_law 553 = .ok (.iadd, 1) := by decide +kernel
theorem dL_law_554 : decode cL_law 554 = .ok (.iaload, 1) := by decide +kernel
theorem dL_law_555 : decode cL_law 555 = .ok (.aload_n 0, 1) := by decide +kernel
theorem dL_law_556 : decode cL_law 556 = .ok (.iload_n 3, 1) := by decide +kernel
theorem dL_law_557 : decode cL_law 557 = .ok (.iconst 3, 1) := by decide +kernel
theorem dL_law_558 : decode cL_law 558 = .ok (.iadd, 1) := by decide +kernel
theorem dL_law_559 : decode cL_law 559 = .ok (.iaload, 1) := by decide +kernel
theorem dL_law_560 : decode cL_law 560 = .ok (.invokevirtual 67, 3) := by decide +kernel
theorem dL_law_563 : decode cL_law 563 = .ok (.if_icmp .eq 982, 3) := by decide +kernel
theorem dL_law_566 : decode cL_law 566 = .ok (.iconst 0, 1) := by decide +kernel
theorem dL_law_567 : decode cL_law 567 = .ok (.ireturn, 1) := by decide +kernel
theorem dL_law_568 : decode cL_law 568 = .ok (.aload_n 1, 1) := by decide +kernel
theorem dL_law_569 : decode cL_law 569 = .ok (.aload_n 0, 1) := by decide +kernel
theorem dL_law_570 : decode cL_law 570 = .ok (.iload_n 3, 1) := by decide +kernel
theorem dL_law_571 : decode cL_law 571 = .ok (.iconst 1, 1) := by decide +kernel
theorem dL_law_572 : decode cL_law 572 = .ok (.iadd, 1) := by decide +kernel
theorem dL_law_573 : decode cL_law 573 = .ok (.iaload, 1) := by decide +kernel
theorem dL_law_574 : decode cL_law 574 = .ok (.aload_n 0, 1) := by decide +kernel
theorem dL_law_575 : decode cL_law 575 = .ok (.iload_n 3, 1) := by decide +kernel
theorem dL_law_576 : decode cL_law 576 = .ok (.iconst 2, 1) := by decide +kernel
theorem dL_law_577 : decode cL_law 577 = .ok (.iadd, 1) := by decide +kernel
theorem dL_law_578 : decode cL_law 578 = .ok (.iaload, 1) := by decide +kernel
theorem dL_law_579 : decode cL_law 579 = .ok (.invokevirtual 68, 3) := by decide +kernel
theorem dL_law_582 : decode cL_law 582 = .ok (.aload_n 2, 1) := by decide +kernel
theorem dL_law_583 : decode cL_law 583 = .ok (.aload_n 0, 1) := by decide +kernel
theorem dL_law_584 : decode cL_law 584 = .ok (.iload_n 3, 1) := by decide +kernel
theorem dL_law_585 : decode cL_law 585 = .ok (.iconst 1, 1) := by decide +kernel
theorem dL_law_586 : decode cL_law 586 = .ok (.iadd, 1) := by decide +kernel
theorem dL_law_587 : decode cL_law 587 = .ok (.iaload, 1) := by decide +kernel
theorem dL_law_588 : decode cL_law 588 = .ok (.aload_n 0, 1) := by decide +kernel
theorem dL_law_589 : decode cL_law 589 = .ok (.iload_n 3, 1) := by decide +kernel
theorem dL_law_590 : decode cL_law 590 = .ok (.iconst 2, 1) := by decide +kernel
theorem dL_law_591 : decode cL_law 591 = .ok (.iadd, 1) := by decide +kernel
theorem dL_law_592 : decode cL_law 592 = .ok (.iaload, 1) := by decide +kernel
theorem dL_law_593 : decode cL_law 593 = .ok (.invokevirtual 71, 3) := by decide +kernel
theorem dL_law_596 : decode cL_law 596 = .ok (.if_icmp .eq 949, 3) := by decide +kernel
theorem dL_law_599 : decode cL_law 599 = .ok (.iconst 0, 1) := by decide +kernel
theorem dL_law_600 : decode cL_law 600 = .ok (.ireturn, 1) := by decide +kernel
theorem dL_law_601 : decode cL_law 601 = .ok (.aload_n 1, 1) := by decide +kernel
theorem dL_law_602 : decode cL_law 602 = .ok (.aload_n 0, 1) := by decide +kernel
theorem dL_law_603 : decode cL_law 603 = .ok (.iload_n 3, 1) := by decide +kernel
theorem dL_law_604 : decode cL_law 604 = .ok (.iconst 1, 1) := by decide +kernel
theorem dL_law_605 : decode cL_law 605 = .ok (.iadd, 1) := by decide +kernel
theorem dL_law_606 : decode cL_law 606 = .ok (.iaload, 1) := by decide +kernel
theorem dL_law_607 : decode cL_law 607 = .ok (.aload_n 0, 1) := by decide +kernel
theorem dL_law_608 : decode cL_law 608 = .ok (.iload_n 3, 1) := by decide +kernel
theorem dL_law_609 : decode cL_law 609 = .ok (.iconst 2, 1) := by decide +kernel
theorem dL_law_610 : decode cL_law 610 = .ok (.iadd, 1) := by decide +kernel
theorem dL_law_611 : decode cL_law 611 = .ok (.iaload, 1) := by decide +kernel
theorem dL_law_612 : decode cL_law 612 = .ok (.aload_n 0, 1) := by decide +kernel
theorem dL_law_613 : decode cL_law 613 = .ok (.iload_n 3, 1) := by decide +kernel
theorem dL_law_614 : decode cL_law 614 = .ok (.iconst 3, 1) := by decide +kernel
theorem dL_law_615 : decode cL_law 615 = .ok (.iadd, 1) := by decide +kernel
theorem dL_law_616 : decode cL_law 616 = .ok (.iaload, 1) := by decide +kernel
theorem dL_law_617 : decode cL_law 617 = .ok (.aload_n 0, 1) := by decide +kernel
theorem dL_law_618 : decode cL_law 618 = .ok (.iload_n 3, 1) := by decide +kernel
theorem dL_law_619 : decode cL_law 619 = .ok (.iconst 4, 1) := by decide +kernel
theorem dL_law_620 : decode cL_law 620 = .ok (.iadd, 1) := by decide +kernel
theorem dL_law_621 : decode cL_law 621 = .ok (.iaload, 1) := by decide +kernel
theorem dL_law_622 : decode cL_law 622 = .ok (.invokevirtual 72, 3) := by decide +kernel
theorem dL_law_625 : decode cL_law 625 = .ok (.aload_n 2, 1) := by decide +kernel
theorem dL_law_626 : decode cL_law 626 = .ok (.aload_n 0, 1) := by decide +kernel
theorem dL_law_627 : decode cL_law 627 = .ok (.iload_n 3, 1) := by decide +kernel
theorem dL_law_628 : decode cL_law 628 = .ok (.iconst 1, 1) := by decide +kernel
theorem dL_law_629 : decode cL_law 629 = .ok (.iadd, 1) := by decide +kernel
theorem dL_law_630 : decode cL_law 630 = .ok (.iaload, 1) := by decide +kernel
theorem dL_law_631 : decode cL_law 631 = .ok (.aload_n 0, 1) := by decide +kernel
theorem dL_law_632 : decode cL_law 632 = .ok (.iload_n 3, 1) := by decide +kernel
theorem dL_law_633 : decode cL_law 633 = .ok (.iconst 2, 1) := by decide +kernel
theorem dL_law_634 : decode cL_law 634 = .ok (.iadd, 1) := by decide +kernel
theorem dL_law_635 : decode cL_law 635 = .ok (.iaload, 1) := by decide +kernel
theorem dL_law_636 : decode cL_law 636 = .ok (.aload_n 0, 1) := by decide +kernel
theorem dL_law_637 : decode cL_law 637 = .ok (.iload_n 3, 1) := by decide +kernel
theorem dL_law_638 : decode cL_law 638 = .ok (.iconst 3, 1) := by decide +kernel
theorem dL_law_639 : decode cL_law 639 = .ok (.iadd, 1) := by decide +kernel
theorem dL_law_640 : decode cL_law 640 = .ok (.iaload, 1) := by decide +kernel
theorem dL_law_641 : decode cL_law 641 = .ok (.aload_n 0, 1) := by decide +kernel
theorem dL_law_642 : decode cL_law 642 = .ok (.iload_n 3, 1) := by decide +kernel
theorem dL_law_643 : decode cL_law 643 = .ok (.iconst 4, 1) := by decide +kernel
theorem dL_law_644 : decode cL_law 644 = .ok (.iadd, 1) := by decide +kernel
theorem dL_law_645 : decode cL_law 645 = .ok (.iaload, 1) := by decide +kernel
theorem dL_law_646 : decode cL_law 646 = .ok (.invokevirtual 76, 3) := by decide +kernel
theorem dL_law_649 : decode cL_law 649 = .ok (.if_icmp .eq 896, 3) := by decide +kernel
theorem dL_law_652 : decode cL_law 652 = .ok (.iconst 0, 1) := by decide +kernel
theorem dL_law_653 : decode cL_law 653 = .ok (.ireturn, 1) := by decide +kernel
theorem dL_law_654 : decode cL_law 654 = .ok (.aload_n 1, 1) := by decide +kernel
theorem dL_law_655 : decode cL_law 655 = .ok (.aload_n 0, 1) := by decide +kernel
theorem dL_law_656 : decode cL_law 656 = .ok (.iload_n 3, 1) := by decide +kernel
theorem dL_law_657 : decode cL_law 657 = .ok (.iconst 1, 1) := by decide +kernel
theorem dL_law_658 : decode cL_law 658 = .ok (.iadd, 1) := by decide +kernel
theorem dL_law_659 : decode cL_law 659 = .ok (.iaload, 1) := by decide +kernel
theorem dL_law_660 : decode cL_law 660 = .ok (.aload_n 0, 1) := by decide +kernel
theorem dL_law_661 : decode cL_law 661 = .ok (.iload_n 3, 1) := by decide +kernel
theorem dL_law_662 : decode cL_law 662 = .ok (.iconst 2, 1) := by decide +kernel
theorem dL_law_663 : decode cL_law 663 = .ok (.iadd, 1) := by decide +kernel
theorem dL_law_664 : decode cL_law 664 = .ok (.iaload, 1) := by decide +kernel
theorem dL_law_665 : decode cL_law 665 = .ok (.invokevirtual 77, 3) := by decide +kernel
theorem dL_law_668 : decode cL_law 668 = .ok (.aload_n 2, 1) := by decide +kernel
theorem dL_law_669 : decode cL_law 669 = .ok (.aload_n 0, 1) := by decide +kernel
theorem dL_law_670 : decode cL_law 670 = .ok (.iload_n 3, 1) := by decide +kernel
theorem dL_law_671 : decode cL_law 671 = .ok (.iconst 1, 1) := by decide +kernel
theorem dL_law_672 : decode cL_law 672 = .ok (.iadd, 1) := by decide +kernel
theorem dL_law_673 : decode cL_law 673 = .ok (.iaload, 1) := by decide +kernel
theorem dL_law_674 : decode cL_law 674 = .ok (.aload_n 0, 1) := by decide +kernel
theorem dL_law_675 : decode cL_law 675 = .ok (.iload_n 3, 1) := by decide +kernel
theorem dL_law_676 : decode cL_law 676 = .ok (.iconst 2, 1) := by decide +kernel
theorem dL_law_677 : decode cL_law 677 = .ok (.iadd, 1) := by decide +kernel
theorem dL_law_678 : decode cL_law 678 = .ok (.iaload, 1) := by decide +kernel
theorem dL_law_679 : decode cL_law 679 = .ok (.invokevirtual 80, 3) := by decide +kernel
theorem dL_law_682 : decode cL_law 682 = .ok (.if_icmp .eq 863, 3) := by decide +kernel
theorem dL_law_685 : decode cL_law 685 = .ok (.iconst 0, 1) := by decide +kernel
theorem dL_law_686 : decode cL_law 686 = .ok (.ireturn, 1) := by decide +kernel
theorem dL_law_687 : decode cL_law 687 = .ok (.aload_n 1, 1) := by decide +kernel
theorem dL_law_688 : decode cL_law 688 = .ok (.aload_n 0, 1) := by decide +kernel
theorem dL_law_689 : decode cL_law 689 = .ok (.iload_n 3, 1) := by decide +kernel
theorem dL_law_690 : decode cL_law 690 = .ok (.iconst 1, 1) := by decide +kernel
theorem dL_law_691 : decode cL_law 691 = .ok (.iadd, 1) := by decide +kernel
theorem dL_law_692 : decode cL_law 692 = .ok (.iaload, 1) := by decide +kernel
theorem dL_law_693 : decode cL_law 693 = .ok (.aload_n 0, 1) := by decide +kernel
theorem dL_law_694 : decode cL_law 694 = .ok (.iload_n 3, 1) := by decide +kernel
theorem dL_law_695 : decode cL_law 695 = .ok (.iconst 2, 1) := by decide +kernel
theorem dL_law_696 : decode cL_law 696 = .ok (.iadd, 1) := by decide +kernel
theorem dL_law_697 : decode cL_law 697 = .ok (.iaload, 1) := by decide +kernel
theorem dL_law_698 : decode cL_law 698 = .ok (.invokevirtual 81, 3) := by decide +kernel
theorem dL_law_701 : decode cL_law 701 = .ok (.aload_n 2, 1) := by decide +kernel
theorem dL_law_702 : decode cL_law 702 = .ok (.aload_n 0, 1) := by decide +kernel
theorem dL_law_703 : decode cL_law 703 = .ok (.iload_n 3, 1) := by decide +kernel
theorem dL_law_704 : decode cL_law 704 = .ok (.iconst 1, 1) := by decide +kernel
theorem dL_law_705 : decode cL_law 705 = .ok (.iadd, 1) := by decide +kernel
theorem dL_law_706 : decode cL_law 706 = .ok (.iaload, 1) := by decide +kernel
theorem dL_law_707 : decode cL_law 707 = .ok (.aload_n 0, 1) := by decide +kernel
theorem dL_law_708 : decode cL_law 708 = .ok (.iload_n 3, 1) := by decide +kernel
theorem dL_law_709 : decode cL_law 709 = .ok (.iconst 2, 1) := by decide +kernel
theorem dL_law_710 : decode cL_law 710 = .ok (.iadd, 1) := by decide +kernel
theorem dL_law_711 : decode cL_law 711 = .ok (.iaload, 1) := by decide +kernel
theorem dL_law_712 : decode cL_law 712 = .ok (.invokevirtual 84, 3) := by decide +kernel
theorem dL_law_715 : decode cL_law 715 = .ok (.if_icmp .eq 830, 3) := by decide +kernel
theorem dL_law_718 : decode cL_law 718 = .ok (.iconst 0, 1) := by decide +kernel
theorem dL_law_719 : decode cL_law 719 = .ok (.ireturn, 1) := by decide +kernel
theorem dL_law_720 : decode cL_law 720 = .ok (.aload_n 1, 1) := by decide +kernel
theorem dL_law_721 : decode cL_law 721 = .ok (.aload_n 0, 1) := by decide +kernel
theorem dL_law_722 : decode cL_law 722 = .ok (.iload_n 3, 1) := by decide +kernel
theorem dL_law_723 : decode cL_law 723 = .ok (.iconst 1, 1) := by decide +kernel
theorem dL_law_724 : decode cL_law 724 = .ok (.iadd, 1) := by decide +kernel
theorem dL_law_725 : decode cL_law 725 = .ok (.iaload, 1) := by decide +kernel
theorem dL_law_726 : decode cL_law 726 = .ok (.aload_n 0, 1) := by decide +kernel
theorem dL_law_727 : decode cL_law 727 = .ok (.iload_n 3, 1) := by decide +kernel
theorem dL_law_728 : decode cL_law 728 = .ok (.iconst 2, 1) := by decide +kernel
theorem dL_law_729 : decode cL_law 729 = .ok (.iadd, 1) := by decide +kernel
theorem dL_law_730 : decode cL_law 730 = .ok (.iaload, 1) := by decide +kernel
theorem dL_law_731 : decode cL_law 731 = .ok (.aload_n 0, 1) := by decide +kernel
theorem dL_law_732 : decode cL_law 732 = .ok (.iload_n 3, 1) := by decide +kernel
theorem dL_law_733 : decode cL_law 733 = .ok (.iconst 3, 1) := by decide +kernel
theorem dL_law_734 : decode cL_law 734 = .ok (.iadd, 1) := by decide +kernel
theorem dL_law_735 : decode cL_law 735 = .ok (.iaload, 1) := by decide +kernel
theorem dL_law_736 : decode cL_law 736 = .ok (.invokevirtual 85, 3) := by decide +kernel
theorem dL_law_739 : decode cL_law 739 = .ok (.aload_n 2, 1) := by decide +kernel
theorem dL_law_740 : decode cL_law 740 = .ok (.aload_n 0, 1) := by decide +kernel
theorem dL_law_741 : decode cL_law 741 = .ok (.iload_n 3, 1) := by decide +kernel
theorem dL_law_742 : decode cL_law 742 = .ok (.iconst 1, 1) := by decide +kernel
theorem dL_law_743 : decode cL_law 743 = .ok (.iadd, 1) := by decide +kernel
theorem dL_law_744 : decode cL_law 744 = .ok (.iaload, 1) := by decide +kernel
theorem dL_law_745 : decode cL_law 745 = .ok (.aload_n 0, 1) := by decide +kernel
theorem dL_law_746 : decode cL_law 746 = .ok (.iload_n 3, 1) := by decide +kernel
theorem dL_law_747 : decode cL_law 747 = .ok (.iconst 2, 1) := by decide +kernel
theorem dL_law_748 : decode cL_law 748 = .ok (.iadd, 1) := by decide +kernel
theorem dL_law_749 : decode cL_law 749 = .ok (.iaload, 1) := by decide +kernel
theorem dL_law_750 : decode cL_law 750 = .ok (.aload_n 0, 1) := by decide +kernel
theorem dL_law_751 : decode cL_law 751 = .ok (.iload_n 3, 1) := by decide +kernel
theorem dL_law_752 : decode cL_law 752 = .ok (.iconst 3, 1) := by decide +kernel
theorem dL_law_753 : decode cL_law 753 = .ok (.iadd, 1) := by decide +kernel
theorem dL_law_754 : decode cL_law 754 = .ok (.iaload, 1) := by decide +kernel
theorem dL_law_755 : decode cL_law 755 = .ok (.invokevirtual 88, 3) := by decide +kernel
theorem dL_law_758 : decode cL_law 758 = .ok (.if_icmp .eq 787, 3) := by decide +kernel
theorem dL_law_761 : decode cL_law 761 = .ok (.iconst 0, 1) := by decide +kernel
theorem dL_law_762 : decode cL_law 762 = .ok (.ireturn, 1) := by decide +kernel
theorem dL_law_763 : decode cL_law 763 = .ok (.aload_n 1, 1) := by decide +kernel
theorem dL_law_764 : decode cL_law 764 = .ok (.aload_n 0, 1) := by decide +kernel
theorem dL_law_765 : decode cL_law 765 = .ok (.iload_n 3, 1) := by decide +kernel
theorem dL_law_766 : decode cL_law 766 = .ok (.iconst 1, 1) := by decide +kernel
theorem dL_law_767 : decode cL_law 767 = .ok (.iadd, 1) := by decide +kernel
theorem dL_law_768 : decode cL_law 768 = .ok (.iaload, 1) := by decide +kernel
theorem dL_law_769 : decode cL_law 769 = .ok (.invokevirtual 89, 3) := by decide +kernel
theorem dL_law_772 : decode cL_law 772 = .ok (.aload_n 2, 1) := by decide +kernel
theorem dL_law_773 : decode cL_law 773 = .ok (.aload_n 0, 1) := by decide +kernel
theorem dL_law_774 : decode cL_law 774 = .ok (.iload_n 3, 1) := by decide +kernel
theorem dL_law_775 : decode cL_law 775 = .ok (.iconst 1, 1) := by decide +kernel
theorem dL_law_776 : decode cL_law 776 = .ok (.iadd, 1) := by decide +kernel
theorem dL_law_777 : decode cL_law 777 = .ok (.iaload, 1) := by decide +kernel
theorem dL_law_778 : decode cL_law 778 = .ok (.invokevirtual 92, 3) := by decide +kernel
theorem dL_law_781 : decode cL_law 781 = .ok (.if_icmp .eq 764, 3) := by decide +kernel
theorem dL_law_784 : decode cL_law 784 = .ok (.iconst 0, 1) := by decide +kernel
theorem dL_law_785 : decode cL_law 785 = .ok (.ireturn, 1) := by decide +kernel
theorem dL_law_786 : decode cL_law 786 = .ok (.aload_n 1, 1) := by decide +kernel
theorem dL_law_787 : decode cL_law 787 = .ok (.aload_n 0, 1) := by decide +kernel
theorem dL_law_788 : decode cL_law 788 = .ok (.iload_n 3, 1) := by decide +kernel
theorem dL_law_789 : decode cL_law 789 = .ok (.iconst 1, 1) := by decide +kernel
theorem dL_law_790 : decode cL_law 790 = .ok (.iadd, 1) := by decide +kernel
theorem dL_law_791 : decode cL_law 791 = .ok (.iaload, 1) := by decide +kernel
theorem dL_law_792 : decode cL_law 792 = .ok (.aload_n 0, 1) := by decide +kernel
theorem dL_law_793 : decode cL_law 793 = .ok (.iload_n 3, 1) := by decide +kernel
theorem dL_law_794 : decode cL_law 794 = .ok (.iconst 2, 1) := by decide +kernel
theorem dL_law_795 : decode cL_law 795 = .ok (.iadd, 1) := by decide +kernel
theorem dL_law_796 : decode cL_law 796 = .ok (.iaload, 1) := by decide +kernel
theorem dL_law_797 : decode cL_law 797 = .ok (.invokevirtual 93, 3) := by decide +kernel
theorem dL_law_800 : decode cL_law 800 = .ok (.aload_n 2, 1) := by decide +kernel
theorem dL_law_801 : decode cL_law 801 = .ok (.aload_n 0, 1) := by decide +kernel
theorem dL_law_802 : decode cL_law 802 = .ok (.iload_n 3, 1) := by decide +kernel
theorem dL_law_803 : decode cL_law 803 = .ok (.iconst 1, 1) := by decide +kernel
theorem dL_law_804 : decode cL_law 804 = .ok (.iadd, 1) := by decide +kernel
theorem dL_law_805 : decode cL_law 805 = .ok (.iaload, 1) := by decide +kernel
theorem dL_law_806 : decode cL_law 806 = .ok (.aload_n 0, 1) := by decide +kernel
theorem dL_law_807 : decode cL_law 807 = .ok (.iload_n 3, 1) := by decide +kernel
theorem dL_law_808 : decode cL_law 808 = .ok (.iconst 2, 1) := by decide +kernel
theorem dL_law_809 : decode cL_law 809 = .ok (.iadd, 1) := by decide +kernel
theorem dL_law_810 : decode cL_law 810 = .ok (.iaload, 1) := by decide +kernel
theorem dL_law_811 : decode cL_law 811 = .ok (.invokevirtual 96, 3) := by decide +kernel
theorem dL_law_814 : decode cL_law 814 = .ok (.if_icmp .eq 731, 3) := by decide +kernel
theorem dL_law_817 : decode cL_law 817 = .ok (.iconst 0, 1) := by decide +kernel
theorem dL_law_818 : decode cL_law 818 = .ok (.ireturn, 1) := by decide +kernel
theorem dL_law_819 : decode cL_law 819 = .ok (.aload_n 1, 1) := by decide +kernel
theorem dL_law_820 : decode cL_law 820 = .ok (.aload_n 0, 1) := by decide +kernel
theorem dL_law_821 : decode cL_law 821 = .ok (.iload_n 3, 1) := by decide +kernel
theorem dL_law_822 : decode cL_law 822 = .ok (.iconst 1, 1) := by decide +kernel
theorem dL_law_823 : decode cL_law 823 = .ok (.iadd, 1) := by decide +kernel
theorem dL_law_824 : decode cL_law 824 = .ok (.iaload, 1) := by decide +kernel
theorem dL_law_825 : decode cL_law 825 = .ok (.aload_n 0, 1) := by decide +kernel
theorem dL_law_826 : decode cL_law 826 = .ok (.iload_n 3, 1) := by decide +kernel
theorem dL_law_827 : decode cL_law 827 = .ok (.iconst 2, 1) := by decide +kernel
theorem dL_law_828 : decode cL_law 828 = .ok (.iadd, 1) := by decide +kernel
theorem dL_law_829 : decode cL_law 829 = .ok (.iaload, 1) := by decide +kernel
theorem dL_law_830 : decode cL_law 830 = .ok (.invokevirtual 97, 3) := by decide +kernel
theorem dL_law_833 : decode cL_law 833 = .ok (.aload_n 2, 1) := by decide +kernel
theorem dL_law_834 : decode cL_law 834 = .ok (.aload_n 0, 1) := by decide +kernel
theorem dL_law_835 : decode cL_law 835 = .ok (.iload_n 3, 1) := by decide +kernel
theorem dL_law_836 : decode cL_law 836 = .ok (.iconst 1, 1) := by decide +kernel
theorem dL_law_837 : decode cL_law 837 = .ok (.iadd, 1) := by decide +kernel
theorem dL_law_838 : decode cL_law 838 = .ok (.iaload, 1) := by decide +kernel
theorem dL_law_839 : decode cL_law 839 = .ok (.aload_n 0, 1) := by decide +kernel
theorem dL_law_840 : decode cL_law 840 = .ok (.iload_n 3, 1) := by decide +kernel
theorem dL_law_841 : decode cL_law 841 = .ok (.iconst 2, 1) := by decide +kernel
theorem dL_law_842 : decode cL_law 842 = .ok (.iadd, 1) := by decide +kernel
theorem dL_law_843 : decode cL_law 843 = .ok (.iaload, 1) := by decide +kernel
theorem dL_law_844 : decode cL_law 844 = .ok (.invokevirtual 100, 3) := by decide +kernel
theorem dL_law_847 : decode cL_law 847 = .ok (.if_icmp .eq 698, 3) := by decide +kernel
theorem dL_law_850 : decode cL_law 850 = .ok (.iconst 0, 1) := by decide +kernel
theorem dL_law_851 : decode cL_law 851 = .ok (.ireturn, 1) := by decide +kernel
theorem dL_law_852 : decode cL_law 852 = .ok (.aload_n 1, 1) := by decide +kernel
theorem dL_law_853 : decode cL_law 853 = .ok (.aload_n 0, 1) := by decide +kernel
theorem dL_law_854 : decode cL_law 854 = .ok (.iload_n 3, 1) := by decide +kernel
theorem dL_law_855 : decode cL_law 855 = .ok (.iconst 1, 1) := by decide +kernel
theorem dL_law_856 : decode cL_law 856 = .ok (.iadd, 1) := by decide +kernel
theorem dL_law_857 : decode cL_law 857 = .ok (.iaload, 1) := by decide +kernel
theorem dL_law_858 : decode cL_law 858 = .ok (.aload_n 0, 1) := by decide +kernel
theorem dL_law_859 : decode cL_law 859 = .ok (.iload_n 3, 1) := by decide +kernel
theorem dL_law_860 : decode cL_law 860 = .ok (.iconst 2, 1) := by decide +kernel
theorem dL_law_861 : decode cL_law 861 = .ok (.iadd, 1) := by decide +kernel
theorem dL_law_862 : decode cL_law 862 = .ok (.iaload, 1) := by decide +kernel
theorem dL_law_863 : decode cL_law 863 = .ok (.invokevirtual 101, 3) := by decide +kernel
theorem dL_law_866 : decode cL_law 866 = .ok (.aload_n 2, 1) := by decide +kernel
theorem dL_law_867 : decode cL_law 867 = .ok (.aload_n 0, 1) := by decide +kernel
theorem dL_law_868 : decode cL_law 868 = .ok (.iload_n 3, 1) := by decide +kernel
theorem dL_law_869 : decode cL_law 869 = .ok (.iconst 1, 1) := by decide +kernel
theorem dL_law_870 : decode cL_law 870 = .ok (.iadd, 1) := by decide +kernel
theorem dL_law_871 : decode cL_law 871 = .ok (.iaload, 1) := by decide +kernel
theorem dL_law_872 : decode cL_law 872 = .ok (.aload_n 0, 1) := by decide +kernel
theorem dL_law_873 : decode cL_law 873 = .ok (.iload_n 3, 1) := by decide +kernel
theorem dL_law_874 : decode cL_law 874 = .ok (.iconst 2, 1) := by decide +kernel
theorem dL_law_875 : decode cL_law 875 = .ok (.iadd, 1) := by decide +kernel
theorem dL_law_876 : decode cL_law 876 = .ok (.iaload, 1) := by decide +kernel
theorem dL_law_877 : decode cL_law 877 = .ok (.invokevirtual 104, 3) := by decide +kernel
theorem dL_law_880 : decode cL_law 880 = .ok (.if_icmp .eq 665, 3) := by decide +kernel
theorem dL_law_883 : decode cL_law 883 = .ok (.iconst 0, 1) := by decide +kernel
theorem dL_law_884 : decode cL_law 884 = .ok (.ireturn, 1) := by decide +kernel
theorem dL_law_885 : decode cL_law 885 = .ok (.aload_n 1, 1) := by decide +kernel
theorem dL_law_886 : decode cL_law 886 = .ok (.invokevirtual 105, 3) := by decide +kernel
theorem dL_law_889 : decode cL_law 889 = .ok (.aload_n 2, 1) := by decide +kernel
theorem dL_law_890 : decode cL_law 890 = .ok (.invokevirtual 108, 3) := by decide +kernel
theorem dL_law_893 : decode cL_law 893 = .ok (.if_icmp .eq 652, 3) := by decide +kernel
theorem dL_law_896 : decode cL_law 896 = .ok (.iconst 0, 1) := by decide +kernel
theorem dL_law_897 : decode cL_law 897 = .ok (.ireturn, 1) := by decide +kernel
theorem dL_law_898 : decode cL_law 898 = .ok (.aload_n 1, 1) := by decide +kernel
theorem dL_law_899 : decode cL_law 899 = .ok (.aload_n 0, 1) := by decide +kernel
theorem dL_law_900 : decode cL_law 900 = .ok (.iload_n 3, 1) := by decide +kernel
theorem dL_law_901 : decode cL_law 901 = .ok (.iconst 1, 1) := by decide +kernel
theorem dL_law_902 : decode cL_law 902 = .ok (.iadd, 1) := by decide +kernel
theorem dL_law_903 : decode cL_law 903 = .ok (.iaload, 1) := by decide +kernel
theorem dL_law_904 : decode cL_law 904 = .ok (.aload_n 0, 1) := by decide +kernel
theorem dL_law_905 : decode cL_law 905 = .ok (.iload_n 3, 1) := by decide +kernel
theorem dL_law_906 : decode cL_law 906 = .ok (.iconst 2, 1) := by decide +kernel
theorem dL_law_907 : decode cL_law 907 = .ok (.iadd, 1) := by decide +kernel
theorem dL_law_908 : decode cL_law 908 = .ok (.iaload, 1) := by decide +kernel
theorem dL_law_909 : decode cL_law 909 = .ok (.aload_n 0, 1) := by decide +kernel
theorem dL_law_910 : decode cL_law 910 = .ok (.iload_n 3, 1) := by decide +kernel
theorem dL_law_911 : decode cL_law 911 = .ok (.iconst 3, 1) := by decide +kernel
theorem dL_law_912 : decode cL_law 912 = .ok (.iadd, 1) := by decide +kernel
theorem dL_law_913 : decode cL_law 913 = .ok (.iaload, 1) := by decide +kernel
theorem dL_law_914 : decode cL_law 914 = .ok (.invokevirtual 109, 3) := by decide +kernel
theorem dL_law_917 : decode cL_law 917 = .ok (.aload_n 2, 1) := by decide +kernel
theorem dL_law_918 : decode cL_law 918 = .ok (.aload_n 0, 1) := by decide +kernel
theorem dL_law_919 : decode cL_law 919 = .ok (.iload_n 3, 1) := by decide +kernel
theorem dL_law_920 : decode cL_law 920 = .ok (.iconst 1, 1) := by decide +kernel
theorem dL_law_921 : decode cL_law 921 = .ok (.iadd, 1) := by decide +kernel
theorem dL_law_922 : decode cL_law 922 = .ok (.iaload, 1) := by decide +kernel
theorem dL_law_923 : decode cL_law 923 = .ok (.aload_n 0, 1) := by decide +kernel
theorem dL_law_924 : decode cL_law 924 = .ok (.iload_n 3, 1) := by decide +kernel
theorem dL_law_925 : decode cL_law 925 = .ok (.iconst 2, 1) := by decide +kernel
theorem dL_law_926 : decode cL_law 926 = .ok (.iadd, 1) := by decide +kernel
theorem dL_law_927 : decode cL_law 927 = .ok (.iaload, 1) := by decide +kernel
theorem dL_law_928 : decode cL_law 928 = .ok (.aload_n 0, 1) := by decide +kernel
theorem dL_law_929 : decode cL_law 929 = .ok (.iload_n 3, 1) := by decide +kernel
theorem dL_law_930 : decode cL_law 930 = .ok (.iconst 3, 1) := by decide +kernel
theorem dL_law_931 : decode cL_law 931 = .ok (.iadd, 1) := by decide +kernel
theorem dL_law_932 : decode cL_law 932 = .ok (.iaload, 1) := by decide +kernel
theorem dL_law_933 : decode cL_law 933 = .ok (.invokevirtual 112, 3) := by decide +kernel
theorem dL_law_936 : decode cL_law 936 = .ok (.if_icmp .eq 609, 3) := by decide +kernel
theorem dL_law_939 : decode cL_law 939 = .ok (.iconst 0, 1) := by decide +kernel
theorem dL_law_940 : decode cL_law 940 = .ok (.ireturn, 1) := by decide +kernel
theorem dL_law_941 : decode cL_law 941 = .ok (.aload_n 1, 1) := by decide +kernel
theorem dL_law_942 : decode cL_law 942 = .ok (.aload_n 0, 1) := by decide +kernel
theorem dL_law_943 : decode cL_law 943 = .ok (.iload_n 3, 1) := by decide +kernel
theorem dL_law_944 : decode cL_law 944 = .ok (.iconst 1, 1) := by decide +kernel
theorem dL_law_945 : decode cL_law 945 = .ok (.iadd, 1) := by decide +kernel
theorem dL_law_946 : decode cL_law 946 = .ok (.iaload, 1) := by decide +kernel
theorem dL_law_947 : decode cL_law 947 = .ok (.aload_n 0, 1) := by decide +kernel
theorem dL_law_948 : decode cL_law 948 = .ok (.iload_n 3, 1) := by decide +kernel
theorem dL_law_949 : decode cL_law 949 = .ok (.iconst 2, 1) := by decide +kernel
theorem dL_law_950 : decode cL_law 950 = .ok (.iadd, 1) := by decide +kernel
theorem dL_law_951 : decode cL_law 951 = .ok (.iaload, 1) := by decide +kernel
theorem dL_law_952 : decode cL_law 952 = .ok (.invokevirtual 113, 3) := by decide +kernel
theorem dL_law_955 : decode cL_law 955 = .ok (.aload_n 2, 1) := by decide +kernel
theorem dL_law_956 : decode cL_law 956 = .ok (.aload_n 0, 1) := by decide +kernel
theorem dL_law_957 : decode cL_law 957 = .ok (.iload_n 3, 1) := by decide +kernel
theorem dL_law_958 : decode cL_law 958 = .ok (.iconst 1, 1) := by decide +kernel
theorem dL_law_959 : decode cL_law 959 = .ok (.iadd, 1) := by decide +kernel
theorem dL_law_960 : decode cL_law 960 = .ok (.iaload, 1) := by decide +kernel
theorem dL_law_961 : decode cL_law 961 = .ok (.aload_n 0, 1) := by decide +kernel
theorem dL_law_962 : decode cL_law 962 = .ok (.iload_n 3, 1) := by decide +kernel
theorem dL_law_963 : decode cL_law 963 = .ok (.iconst 2, 1) := by decide +kernel
theorem dL_law_964 : decode cL_law 964 = .ok (.iadd, 1) := by decide +kernel
theorem dL_law_965 : decode cL_law 965 = .ok (.iaload, 1) := by decide +kernel
theorem dL_law_966 : decode cL_law 966 = .ok (.invokevirtual 116, 3) := by decide +kernel
theorem dL_law_969 : decode cL_law 969 = .ok (.if_icmp .eq 576, 3) := by decide +kernel
theorem dL_law_972 : decode cL_law 972 = .ok (.iconst 0, 1) := by decide +kernel
theorem dL_law_973 : decode cL_law 973 = .ok (.ireturn, 1) := by decide +kernel
theorem dL_law_974 : decode cL_law 974 = .ok (.aload_n 1, 1) := by decide +kernel
theorem dL_law_975 : decode cL_law 975 = .ok (.aload_n 0, 1) := by decide +kernel
theorem dL_law_976 : decode cL_law 976 = .ok (.iload_n 3, 1) := by decide +kernel
theorem dL_law_977 : decode cL_law 977 = .ok (.iconst 1, 1) := by decide +kernel
theorem dL_law_978 : decode cL_law 978 = .ok (.iadd, 1) := by decide +kernel
theorem dL_law_979 : decode cL_law 979 = .ok (.iaload, 1) := by decide +kernel
theorem dL_law_980 : decode cL_law 980 = .ok (.aload_n 0, 1) := by decide +kernel
theorem dL_law_981 : decode cL_law 981 = .ok (.iload_n 3, 1) := by decide +kernel
theorem dL_law_982 : decode cL_law 982 = .ok (.iconst 2, 1) := by decide +kernel
theorem dL_law_983 : decode cL_law 983 = .ok (.iadd, 1) := by decide +kernel
theorem dL_law_984 : decode cL_law 984 = .ok (.iaload, 1) := by decide +kernel
theorem dL_law_985 : decode cL_law 985 = .ok (.aload_n 0, 1) := by decide +kernel
theorem dL_law_986 : decode cL_law 986 = .ok (.iload_n 3, 1) := by decide +kernel
theorem dL_law_987 : decode cL_law 987 = .ok (.iconst 3, 1) := by decide +kernel
theorem dL_law_988 : decode cL_law 988 = .ok (.iadd, 1) := by decide +kernel
theorem dL_law_989 : decode cL_law 989 = .ok (.iaload, 1) := by decide +kernel
theorem dL_law_990 : decode cL_law 990 = .ok (.invokevirtual 117, 3) := by decide +kernel
theorem dL_law_993 : decode cL_law 993 = .ok (.aload_n 2, 1) := by decide +kernel
theorem dL_law_994 : decode cL_law 994 = .ok (.aload_n 0, 1) := by decide +kernel
theorem dL_law_995 : decode cL_law 995 = .ok (.iload_n 3, 1) := by decide +kernel
theorem dL_law_996 : decode cL_law 996 = .ok (.iconst 1, 1) := by decide +kernel
theorem dL_law_997 : decode cL_law 997 = .ok (.iadd, 1) := by decide +kernel
theorem dL_law_998 : decode cL_law 998 = .ok (.iaload, 1) := by decide +kernel
theorem dL_law_999 : decode cL_law 999 = .ok (.aload_n 0, 1) := by decide +kernel
theorem dL_law_1000 : decode cL_law 1000 = .ok (.iload_n 3, 1) := by decide +kernel
theorem dL_law_1001 : decode cL_law 1001 = .ok (.iconst 2, 1) := by decide +kernel
theorem dL_law_1002 : decode cL_law 1002 = .ok (.iadd, 1) := by decide +kernel
theorem dL_law_1003 : decode cL_law 1003 = .ok (.iaload, 1) := by decide +kernel
theorem dL_law_1004 : decode cL_law 1004 = .ok (.aload_n 0, 1) := by decide +kernel
theorem dL_law_1005 : decode cL_law 1005 = .ok (.iload_n 3, 1) := by decide +kernel
theorem dL_law_1006 : decode cL_law 1006 = .ok (.iconst 3, 1) := by decide +kernel
theorem dL_law_1007 : decode cL_law 1007 = .ok (.iadd, 1) := by decide +kernel
theorem dL_law_1008 : decode cL_law 1008 = .ok (.iaload, 1) := by decide +kernel
theorem dL_law_1009 : decode cL_law 1009 = .ok (.invokevirtual 120, 3) := by decide +kernel
theorem dL_law_1012 : decode cL_law 1012 = .ok (.if_icmp .eq 533, 3) := by decide +kernel
theorem dL_law_1015 : decode cL_law 1015 = .ok (.iconst 0, 1) := by decide +kernel
theorem dL_law_1016 : decode cL_law 1016 = .ok (.ireturn, 1) := by decide +kernel
theorem dL_law_1017 : decode cL_law 1017 = .ok (.aload_n 1, 1) := by decide +kernel
theorem dL_law_1018 : decode cL_law 1018 = .ok (.aload_n 0, 1) := by decide +kernel
theorem dL_law_1019 : decode cL_law 1019 = .ok (.iload_n 3, 1) := by decide +kernel
theorem dL_law_1020 : decode cL_law 1020 = .ok (.iconst 1, 1) := by decide +kernel
theorem dL_law_1021 : decode cL_law 1021 = .ok (.iadd, 1) := by decide +kernel
theorem dL_law_1022 : decode cL_law 1022 = .ok (.iaload, 1) := by decide +kernel
theorem dL_law_1023 : decode cL_law 1023 = .ok (.invokevirtual 121, 3) := by decide +kernel
theorem dL_law_1026 : decode cL_law 1026 = .ok (.aload_n 2, 1) := by decide +kernel
theorem dL_law_1027 : decode cL_law 1027 = .ok (.aload_n 0, 1) := by decide +kernel
theorem dL_law_1028 : decode cL_law 1028 = .ok (.iload_n 3, 1) := by decide +kernel
theorem dL_law_1029 : decode cL_law 1029 = .ok (.iconst 1, 1) := by decide +kernel
theorem dL_law_1030 : decode cL_law 1030 = .ok (.iadd, 1) := by decide +kernel
theorem dL_law_1031 : decode cL_law 1031 = .ok (.iaload, 1) := by decide +kernel
theorem dL_law_1032 : decode cL_law 1032 = .ok (.invokevirtual 124, 3) := by decide +kernel
theorem dL_law_1035 : decode cL_law 1035 = .ok (.if_icmp .eq 510, 3) := by decide +kernel
theorem dL_law_1038 : decode cL_law 1038 = .ok (.iconst 0, 1) := by decide +kernel
theorem dL_law_1039 : decode cL_law 1039 = .ok (.ireturn, 1) := by decide +kernel
theorem dL_law_1040 : decode cL_law 1040 = .ok (.aload_n 1, 1) := by decide +kernel
theorem dL_law_1041 : decode cL_law 1041 = .ok (.aload_n 0, 1) := by decide +kernel
theorem dL_law_1042 : decode cL_law 1042 = .ok (.iload_n 3, 1) := by decide +kernel
theorem dL_law_1043 : decode cL_law 1043 = .ok (.iconst 1, 1) := by decide +kernel
theorem dL_law_1044 : decode cL_law 1044 = .ok (.iadd, 1) := by decide +kernel
theorem dL_law_1045 : decode cL_law 1045 = .ok (.iaload, 1) := by decide +kernel
theorem dL_law_1046 : decode cL_law 1046 = .ok (.aload_n 0, 1) := by decide +kernel
theorem dL_law_1047 : decode cL_law 1047 = .ok (.iload_n 3, 1) := by decide +kernel
theorem dL_law_1048 : decode cL_law 1048 = .ok (.iconst 2, 1) := by decide +kernel
theorem dL_law_1049 : decode cL_law 1049 = .ok (.iadd, 1) := by decide +kernel
theorem dL_law_1050 : decode cL_law 1050 = .ok (.iaload, 1) := by decide +kernel
theorem dL_law_1051 : decode cL_law 1051 = .ok (.invokevirtual 125, 3) := by decide +kernel
theorem dL_law_1054 : decode cL_law 1054 = .ok (.aload_n 2, 1) := by decide +kernel
theorem dL_law_1055 : decode cL_law 1055 = .ok (.aload_n 0, 1) := by decide +kernel
theorem dL_law_1056 : decode cL_law 1056 = .ok (.iload_n 3, 1) := by decide +kernel
theorem dL_law_1057 : decode cL_law 1057 = .ok (.iconst 1, 1) := by decide +kernel
theorem dL_law_1058 : decode cL_law 1058 = .ok (.iadd, 1) := by decide +kernel
theorem dL_law_1059 : decode cL_law 1059 = .ok (.iaload, 1) := by decide +kernel
theorem dL_law_1060 : decode cL_law 1060 = .ok (.aload_n 0, 1) := by decide +kernel
theorem dL_law_1061 : decode cL_law 1061 = .ok (.iload_n 3, 1) := by decide +kernel
theorem dL_law_1062 : decode cL_law 1062 = .ok (.iconst 2, 1) := by decide +kernel
theorem dL_law_1063 : decode cL_law 1063 = .ok (.iadd, 1) := by decide +kernel
theorem dL_law_1064 : decode cL_law 1064 = .ok (.iaload, 1) := by decide +kernel
theorem dL_law_1065 : decode cL_law 1065 = .ok (.invokevirtual 128, 3) := by decide +kernel
theorem dL_law_1068 : decode cL_law 1068 = .ok (.if_icmp .eq 477, 3) := by decide +kernel
theorem dL_law_1071 : decode cL_law 1071 = .ok (.iconst 0, 1) := by decide +kernel
theorem dL_law_1072 : decode cL_law 1072 = .ok (.ireturn, 1) := by decide +kernel
theorem dL_law_1073 : decode cL_law 1073 = .ok (.aload_n 1, 1) := by decide +kernel
theorem dL_law_1074 : decode cL_law 1074 = .ok (.aload_n 0, 1) := by decide +kernel
theorem dL_law_1075 : decode cL_law 1075 = .ok (.iload_n 3, 1) := by decide +kernel
theorem dL_law_1076 : decode cL_law 1076 = .ok (.iconst 1, 1) := by decide +kernel
theorem dL_law_1077 : decode cL_law 1077 = .ok (.iadd, 1) := by decide +kernel
theorem dL_law_1078 : decode cL_law 1078 = .ok (.iaload, 1) := by decide +kernel
theorem dL_law_1079 : decode cL_law 1079 = .ok (.aload_n 0, 1) := by decide +kernel
theorem dL_law_1080 : decode cL_law 1080 = .ok (.iload_n 3, 1) := by decide +kernel
theorem dL_law_1081 : decode cL_law 1081 = .ok (.iconst 2, 1) := by decide +kernel
theorem dL_law_1082 : decode cL_law 1082 = .ok (.iadd, 1) := by decide +kernel
theorem dL_law_1083 : decode cL_law 1083 = .ok (.iaload, 1) := by decide +kernel
theorem dL_law_1084 : decode cL_law 1084 = .ok (.invokevirtual 129, 3) := by decide +kernel
theorem dL_law_1087 : decode cL_law 1087 = .ok (.aload_n 2, 1) := by decide +kernel
theorem dL_law_1088 : decode cL_law 1088 = .ok (.aload_n 0, 1) := by decide +kernel
theorem dL_law_1089 : decode cL_law 1089 = .ok (.iload_n 3, 1) := by decide +kernel
theorem dL_law_1090 : decode cL_law 1090 = .ok (.iconst 1, 1) := by decide +kernel
theorem dL_law_1091 : decode cL_law 1091 = .ok (.iadd, 1) := by decide +kernel
theorem dL_law_1092 : decode cL_law 1092 = .ok (.iaload, 1) := by decide +kernel
theorem dL_law_1093 : decode cL_law 1093 = .ok (.aload_n 0, 1) := by decide +kernel
theorem dL_law_1094 : decode cL_law 1094 = .ok (.iload_n 3, 1) := by decide +kernel
theorem dL_law_1095 : decode cL_law 1095 = .ok (.iconst 2, 1) := by decide +kernel
theorem dL_law_1096 : decode cL_law 1096 = .ok (.iadd, 1) := by decide +kernel
theorem dL_law_1097 : decode cL_law 1097 = .ok (.iaload, 1) := by decide +kernel
theorem dL_law_1098 : decode cL_law 1098 = .ok (.invokevirtual 132, 3) := by decide +kernel
theorem dL_law_1101 : decode cL_law 1101 = .ok (.if_icmp .eq 444, 3) := by decide +kernel
theorem dL_law_1104 : decode cL_law 1104 = .ok (.iconst 0, 1) := by decide +kernel
theorem dL_law_1105 : decode cL_law 1105 = .ok (.ireturn, 1) := by decide +kernel
theorem dL_law_1106 : decode cL_law 1106 = .ok (.aload_n 1, 1) := by decide +kernel
theorem dL_law_1107 : decode cL_law 1107 = .ok (.aload_n 0, 1) := by decide +kernel
theorem dL_law_1108 : decode cL_law 1108 = .ok (.iload_n 3, 1) := by decide +kernel
theorem dL_law_1109 : decode cL_law 1109 = .ok (.iconst 1, 1) := by decide +kernel
theorem dL_law_1110 : decode cL_law 1110 = .ok (.iadd, 1) := by decide +kernel
theorem dL_law_1111 : decode cL_law 1111 = .ok (.iaload, 1) := by decide +kernel
theorem dL_law_1112 : decode cL_law 1112 = .ok (.aload_n 0, 1) := by decide +kernel
theorem dL_law_1113 : decode cL_law 1113 = .ok (.iload_n 3, 1) := by decide +kernel
theorem dL_law_1114 : decode cL_law 1114 = .ok (.iconst 2, 1) := by decide +kernel
theorem dL_law_1115 : decode cL_law 1115 = .ok (.iadd, 1) := by decide +kernel
theorem dL_law_1116 : decode cL_law 1116 = .ok (.iaload, 1) := by decide +kernel
theorem dL_law_1117 : decode cL_law 1117 = .ok (.invokevirtual 133, 3) := by decide +kernel
theorem dL_law_1120 : decode cL_law 1120 = .ok (.aload_n 2, 1) := by decide +kernel
theorem dL_law_1121 : decode cL_law 1121 = .ok (.aload_n 0, 1) := by decide +kernel
theorem dL_law_1122 : decode cL_law 1122 = .ok (.iload_n 3, 1) := by decide +kernel
theorem dL_law_1123 : decode cL_law 1123 = .ok (.iconst 1, 1) := by decide +kernel
theorem dL_law_1124 : decode cL_law 1124 = .ok (.iadd, 1) := by decide +kernel
theorem dL_law_1125 : decode cL_law 1125 = .ok (.iaload, 1) := by decide +kernel
theorem dL_law_1126 : decode cL_law 1126 = .ok (.aload_n 0, 1) := by decide +kernel
theorem dL_law_1127 : decode cL_law 1127 = .ok (.iload_n 3, 1) := by decide +kernel
theorem dL_law_1128 : decode cL_law 1128 = .ok (.iconst 2, 1) := by decide +kernel
theorem dL_law_1129 : decode cL_law 1129 = .ok (.iadd, 1) := by decide +kernel
theorem dL_law_1130 : decode cL_law 1130 = .ok (.iaload, 1) := by decide +kernel
theorem dL_law_1131 : decode cL_law 1131 = .ok (.invokevirtual 136, 3) := by decide +kernel
theorem dL_law_1134 : decode cL_law 1134 = .ok (.if_icmp .eq 411, 3) := by decide +kernel
theorem dL_law_1137 : decode cL_law 1137 = .ok (.iconst 0, 1) := by decide +kernel
theorem dL_law_1138 : decode cL_law 1138 = .ok (.ireturn, 1) := by decide +kernel
theorem dL_law_1139 : decode cL_law 1139 = .ok (.aload_n 1, 1) := by decide +kernel
theorem dL_law_1140 : decode cL_law 1140 = .ok (.aload_n 0, 1) := by decide +kernel
theorem dL_law_1141 : decode cL_law 1141 = .ok (.iload_n 3, 1) := by decide +kernel
theorem dL_law_1142 : decode cL_law 1142 = .ok (.iconst 1, 1) := by decide +kernel
theorem dL_law_1143 : decode cL_law 1143 = .ok (.iadd, 1) := by decide +kernel
theorem dL_law_1144 : decode cL_law 1144 = .ok (.iaload, 1) := by decide +kernel
theorem dL_law_1145 : decode cL_law 1145 = .ok (.aload_n 0, 1) := by decide +kernel
theorem dL_law_1146 : decode cL_law 1146 = .ok (.iload_n 3, 1) := by decide +kernel
theorem dL_law_1147 : decode cL_law 1147 = .ok (.iconst 2, 1) := by decide +kernel
theorem dL_law_1148 : decode cL_law 1148 = .ok (.iadd, 1) := by decide +kernel
theorem dL_law_1149 : decode cL_law 1149 = .ok (.iaload, 1) := by decide +kernel
theorem dL_law_1150 : decode cL_law 1150 = .ok (.aload_n 0, 1) := by decide +kernel
theorem dL_law_1151 : decode cL_law 1151 = .ok (.iload_n 3, 1) := by decide +kernel
theorem dL_law_1152 : decode cL_law 1152 = .ok (.iconst 3, 1) := by decide +kernel
theorem dL_law_1153 : decode cL_law 1153 = .ok (.iadd, 1) := by decide +kernel
theorem dL_law_1154 : decode cL_law 1154 = .ok (.iaload, 1) := by decide +kernel
theorem dL_law_1155 : decode cL_law 1155 = .ok (.invokevirtual 137, 3) := by decide +kernel
theorem dL_law_1158 : decode cL_law 1158 = .ok (.aload_n 2, 1) := by decide +kernel
theorem dL_law_1159 : decode cL_law 1159 = .ok (.aload_n 0, 1) := by decide +kernel
theorem dL_law_1160 : decode cL_law 1160 = .ok (.iload_n 3, 1) := by decide +kernel
theorem dL_law_1161 : decode cL_law 1161 = .ok (.iconst 1, 1) := by decide +kernel
theorem dL_law_1162 : decode cL_law 1162 = .ok (.iadd, 1) := by decide +kernel
theorem dL_law_1163 : decode cL_law 1163 = .ok (.iaload, 1) := by decide +kernel
theorem dL_law_1164 : decode cL_law 1164 = .ok (.aload_n 0, 1) := by decide +kernel
theorem dL_law_1165 : decode cL_law 1165 = .ok (.iload_n 3, 1) := by decide +kernel
theorem dL_law_1166 : decode cL_law 1166 = .ok (.iconst 2, 1) := by decide +kernel
theorem dL_law_1167 : decode cL_law 1167 = .ok (.iadd, 1) := by decide +kernel
theorem dL_law_1168 : decode cL_law 1168 = .ok (.iaload, 1) := by decide +kernel
theorem dL_law_1169 : decode cL_law 1169 = .ok (.aload_n 0, 1) := by decide +kernel
theorem dL_law_1170 : decode cL_law 1170 = .ok (.iload_n 3, 1) := by decide +kernel
theorem dL_law_1171 : decode cL_law 1171 = .ok (.iconst 3, 1) := by decide +kernel
theorem dL_law_1172 : decode cL_law 1172 = .ok (.iadd, 1) := by decide +kernel
theorem dL_law_1173 : decode cL_law 1173 = .ok (.iaload, 1) := by decide +kernel
theorem dL_law_1174 : decode cL_law 1174 = .ok (.invokevirtual 140, 3) := by decide +kernel
theorem dL_law_1177 : decode cL_law 1177 = .ok (.if_icmp .eq 368, 3) := by decide +kernel
theorem dL_law_1180 : decode cL_law 1180 = .ok (.iconst 0, 1) := by decide +kernel
theorem dL_law_1181 : decode cL_law 1181 = .ok (.ireturn, 1) := by decide +kernel
theorem dL_law_1182 : decode cL_law 1182 = .ok (.aload_n 1, 1) := by decide +kernel
theorem dL_law_1183 : decode cL_law 1183 = .ok (.aload_n 0, 1) := by decide +kernel
theorem dL_law_1184 : decode cL_law 1184 = .ok (.iload_n 3, 1) := by decide +kernel
theorem dL_law_1185 : decode cL_law 1185 = .ok (.iconst 1, 1) := by decide +kernel
theorem dL_law_1186 : decode cL_law 1186 = .ok (.iadd, 1) := by decide +kernel
theorem dL_law_1187 : decode cL_law 1187 = .ok (.iaload, 1) := by decide +kernel
theorem dL_law_1188 : decode cL_law 1188 = .ok (.invokevirtual 141, 3) := by decide +kernel
theorem dL_law_1191 : decode cL_law 1191 = .ok (.aload_n 2, 1) := by decide +kernel
theorem dL_law_1192 : decode cL_law 1192 = .ok (.aload_n 0, 1) := by decide +kernel
theorem dL_law_1193 : decode cL_law 1193 = .ok (.iload_n 3, 1) := by decide +kernel
theorem dL_law_1194 : decode cL_law 1194 = .ok (.iconst 1, 1) := by decide +kernel
theorem dL_law_1195 : decode cL_law 1195 = .ok (.iadd, 1) := by decide +kernel
theorem dL_law_1196 : decode cL_law 1196 = .ok (.iaload, 1) := by decide +kernel
theorem dL_law_1197 : decode cL_law 1197 = .ok (.invokevirtual 144, 3) := by decide +kernel
theorem dL_law_1200 : decode cL_law 1200 = .ok (.if_icmp .eq 345, 3) := by decide +kernel
theorem dL_law_1203 : decode cL_law 1203 = .ok (.iconst 0, 1) := by decide +kernel
theorem dL_law_1204 : decode cL_law 1204 = .ok (.ireturn, 1) := by decide +kernel
theorem dL_law_1205 : decode cL_law 1205 = .ok (.aload_n 1, 1) := by decide +kernel
theorem dL_law_1206 : decode cL_law 1206 = .ok (.aload_n 0, 1) := by decide +kernel
theorem dL_law_1207 : decode cL_law 1207 = .ok (.iload_n 3, 1) := by decide +kernel
theorem dL_law_1208 : decode cL_law 1208 = .ok (.iconst 1, 1) := by decide +kernel
theorem dL_law_1209 : decode cL_law 1209 = .ok (.iadd, 1) := by decide +kernel
theorem dL_law_1210 : decode cL_law 1210 = .ok (.iaload, 1) := by decide +kernel
theorem dL_law_1211 : decode cL_law 1211 = .ok (.aload_n 0, 1) := by decide +kernel
theorem dL_law_1212 : decode cL_law 1212 = .ok (.iload_n 3, 1) := by decide +kernel
theorem dL_law_1213 : decode cL_law 1213 = .ok (.iconst 2, 1) := by decide +kernel
theorem dL_law_1214 : decode cL_law 1214 = .ok (.iadd, 1) := by decide +kernel
theorem dL_law_1215 : decode cL_law 1215 = .ok (.iaload, 1) := by decide +kernel
theorem dL_law_1216 : decode cL_law 1216 = .ok (.aload_n 0, 1) := by decide +kernel
theorem dL_law_1217 : decode cL_law 1217 = .ok (.iload_n 3, 1) := by decide +kernel
theorem dL_law_1218 : decode cL_law 1218 = .ok (.iconst 3, 1) := by decide +kernel
theorem dL_law_1219 : decode cL_law 1219 = .ok (.iadd, 1) := by decide +kernel
theorem dL_law_1220 : decode cL_law 1220 = .ok (.iaload, 1) := by decide +kernel
theorem dL_law_1221 : decode cL_law 1221 = .ok (.invokevirtual 145, 3) := by decide +kernel
theorem dL_law_1224 : decode cL_law 1224 = .ok (.aload_n 2, 1) := by decide +kernel
theorem dL_law_1225 : decode cL_law 1225 = .ok (.aload_n 0, 1) := by decide +kernel
theorem dL_law_1226 : decode cL_law 1226 = .ok (.iload_n 3, 1) := by decide +kernel
theorem dL_law_1227 : decode cL_law 1227 = .ok (.iconst 1, 1) := by decide +kernel
theorem dL_law_1228 : decode cL_law 1228 = .ok (.iadd, 1) := by decide +kernel
theorem dL_law_1229 : decode cL_law 1229 = .ok (.iaload, 1) := by decide +kernel
theorem dL_law_1230 : decode cL_law 1230 = .ok (.aload_n 0, 1) := by decide +kernel
theorem dL_law_1231 : decode cL_law 1231 = .ok (.iload_n 3, 1) := by decide +kernel
theorem dL_law_1232 : decode cL_law 1232 = .ok (.iconst 2, 1) := by decide +kernel
theorem dL_law_1233 : decode cL_law 1233 = .ok (.iadd, 1) := by decide +kernel
theorem dL_law_1234 : decode cL_law 1234 = .ok (.iaload, 1) := by decide +kernel
theorem dL_law_1235 : decode cL_law 1235 = .ok (.aload_n 0, 1) := by decide +kernel
theorem dL_law_1236 : decode cL_law 1236 = .ok (.iload_n 3, 1) := by decide +kernel
theorem dL_law_1237 : decode cL_law 1237 = .ok (.iconst 3, 1) := by decide +kernel
theorem dL_law_1238 : decode cL_law 1238 = .ok (.iadd, 1) := by decide +kernel
theorem dL_law_1239 : decode cL_law 1239 = .ok (.iaload, 1) := by decide +kernel
theorem dL_law_1240 : decode cL_law 1240 = .ok (.invokevirtual 148, 3) := by decide +kernel
theorem dL_law_1243 : decode cL_law 1243 = .ok (.if_icmp .eq 302, 3) := by decide +kernel
theorem dL_law_1246 : decode cL_law 1246 = .ok (.iconst 0, 1) := by decide +kernel
theorem dL_law_1247 : decode cL_law 1247 = .ok (.ireturn, 1) := by decide +kernel
theorem dL_law_1248 : decode cL_law 1248 = .ok (.aload_n 1, 1) := by decide +kernel
theorem dL_law_1249 : decode cL_law 1249 = .ok (.aload_n 0, 1) := by decide +kernel
theorem dL_law_1250 : decode cL_law 1250 = .ok (.iload_n 3, 1) := by decide +kernel
theorem dL_law_1251 : decode cL_law 1251 = .ok (.iconst 1, 1) := by decide +kernel
theorem dL_law_1252 : decode cL_law 1252 = .ok (.iadd, 1) := by decide +kernel
theorem dL_law_1253 : decode cL_law 1253 = .ok (.iaload, 1) := by decide +kernel
theorem dL_law_1254 : decode cL_law 1254 = .ok (.aload_n 0, 1) := by decide +kernel
theorem dL_law_1255 : decode cL_law 1255 = .ok (.iload_n 3, 1) := by decide +kernel
theorem dL_law_1256 : decode cL_law 1256 = .ok (.iconst 2, 1) := by decide +kernel
theorem dL_law_1257 : decode cL_law 1257 = .ok (.iadd, 1) := by decide +kernel
theorem dL_law_1258 : decode cL_law 1258 = .ok (.iaload, 1) := by decide +kernel
theorem dL_law_1259 : decode cL_law 1259 = .ok (.invokevirtual 149, 3) := by decide +kernel
theorem dL_law_1262 : decode cL_law 1262 = .ok (.aload_n 2, 1) := by decide +kernel
theorem dL_law_1263 : decode cL_law 1263 = .ok (.aload_n 0, 1) := by decide +kernel
theorem dL_law_1264 : decode cL_law 1264 = .ok (.iload_n 3, 1) := by decide +kernel
theorem dL_law_1265 : decode cL_law 1265 = .ok (.iconst 1, 1) := by decide +kernel
theorem dL_law_1266 : decode cL_law 1266 = .ok (.iadd, 1) := by decide +kernel
theorem dL_law_1267 : decode cL_law 1267 = .ok (.iaload, 1) := by decide +kernel
theorem dL_law_1268 : decode cL_law 1268 = .ok (.aload_n 0, 1) := by decide +kernel
theorem dL_law_1269 : decode cL_law 1269 = .ok (.iload_n 3, 1) := by decide +kernel
theorem dL_law_1270 : decode cL_law 1270 = .ok (.iconst 2, 1) := by decide +kernel
theorem dL_law_1271 : decode cL_law 1271 = .ok (.iadd, 1) := by decide +kernel
theorem dL_law_1272 : decode cL_law 1272 = .ok (.iaload, 1) := by decide +kernel
theorem dL_law_1273 : decode cL_law 1273 = .ok (.invokevirtual 152, 3) := by decide +kernel
theorem dL_law_1276 : decode cL_law 1276 = .ok (.if_icmp .eq 269, 3) := by decide +kernel
theorem dL_law_1279 : decode cL_law 1279 = .ok (.iconst 0, 1) := by decide +kernel
theorem dL_law_1280 : decode cL_law 1280 = .ok (.ireturn, 1) := by decide +kernel
theorem dL_law_1281 : decode cL_law 1281 = .ok (.aload_n 1, 1) := by decide +kernel
theorem dL_law_1282 : decode cL_law 1282 = .ok (.aload_n 0, 1) := by decide +kernel
theorem dL_law_1283 : decode cL_law 1283 = .ok (.iload_n 3, 1) := by decide +kernel
theorem dL_law_1284 : decode cL_law 1284 = .ok (.iconst 1, 1) := by decide +kernel
theorem dL_law_1285 : decode cL_law 1285 = .ok (.iadd, 1) := by decide +kernel
theorem dL_law_1286 : decode cL_law 1286 = .ok (.iaload, 1) := by decide +kernel
theorem dL_law_1287 : decode cL_law 1287 = .ok (.aload_n 0, 1) := by decide +kernel
theorem dL_law_1288 : decode cL_law 1288 = .ok (.iload_n 3, 1) := by decide +kernel
theorem dL_law_1289 : decode cL_law 1289 = .ok (.iconst 2, 1) := by decide +kernel
theorem dL_law_1290 : decode cL_law 1290 = .ok (.iadd, 1) := by decide +kernel
theorem dL_law_1291 : decode cL_law 1291 = .ok (.iaload, 1) := by decide +kernel
theorem dL_law_1292 : decode cL_law 1292 = .ok (.aload_n 0, 1) := by decide +kernel
theorem dL_law_1293 : decode cL_law 1293 = .ok (.iload_n 3, 1) := by decide +kernel
theorem dL_law_1294 : decode cL_law 1294 = .ok (.iconst 3, 1) := by decide +kernel
theorem dL_law_1295 : decode cL_law 1295 = .ok (.iadd, 1) := by decide +kernel
theorem dL_law_1296 : decode cL_law 1296 = .ok (.iaload, 1) := by decide +kernel
theorem dL_law_1297 : decode cL_law 1297 = .ok (.invokevirtual 153, 3) := by decide +kernel
theorem dL_law_1300 : decode cL_law 1300 = .ok (.aload_n 2, 1) := by decide +kernel
theorem dL_law_1301 : decode cL_law 1301 = .ok (.aload_n 0, 1) := by decide +kernel
theorem dL_law_1302 : decode cL_law 1302 = .ok (.iload_n 3, 1) := by decide +kernel
theorem dL_law_1303 : decode cL_law 1303 = .ok (.iconst 1, 1) := by decide +kernel
theorem dL_law_1304 : decode cL_law 1304 = .ok (.iadd, 1) := by decide +kernel
theorem dL_law_1305 : decode cL_law 1305 = .ok (.iaload, 1) := by decide +kernel
theorem dL_law_1306 : decode cL_law 1306 = .ok (.aload_n 0, 1) := by decide +kernel
theorem dL_law_1307 : decode cL_law 1307 = .ok (.iload_n 3, 1) := by decide +kernel
theorem dL_law_1308 : decode cL_law 1308 = .ok (.iconst 2, 1) := by decide +kernel
theorem dL_law_1309 : decode cL_law 1309 = .ok (.iadd, 1) := by decide +kernel
theorem dL_law_1310 : decode cL_law 1310 = .ok (.iaload, 1) := by decide +kernel
theorem dL_law_1311 : decode cL_law 1311 = .ok (.aload_n 0, 1) := by decide +kernel
theorem dL_law_1312 : decode cL_law 1312 = .ok (.iload_n 3, 1) := by decide +kernel
theorem dL_law_1313 : decode cL_law 1313 = .ok (.iconst 3, 1) := by decide +kernel
theorem dL_law_1314 : decode cL_law 1314 = .ok (.iadd, 1) := by decide +kernel
theorem dL_law_1315 : decode cL_law 1315 = .ok (.iaload, 1) := by decide +kernel
theorem dL_law_1316 : decode cL_law 1316 = .ok (.invokevirtual 156, 3) := by decide +kernel
theorem dL_law_1319 : decode cL_law 1319 = .ok (.if_icmp .eq 226, 3) := by decide +kernel
theorem dL_law_1322 : decode cL_law 1322 = .ok (.iconst 0, 1) := by decide +kernel
theorem dL_law_1323 : decode cL_law 1323 = .ok (.ireturn, 1) := by decide +kernel
theorem dL_law_1324 : decode cL_law 1324 = .ok (.aload_n 1, 1) := by decide +kernel
theorem dL_law_1325 : decode cL_law 1325 = .ok (.aload_n 0, 1) := by decide +kernel
theorem dL_law_1326 : decode cL_law 1326 = .ok (.iload_n 3, 1) := by decide +kernel
theorem dL_law_1327 : decode cL_law 1327 = .ok (.iconst 1, 1) := by decide +kernel
theorem dL_law_1328 : decode cL_law 1328 = .ok (.iadd, 1) := by decide +kernel
theorem dL_law_1329 : decode cL_law 1329 = .ok (.iaload, 1) := by decide +kernel
theorem dL_law_1330 : decode cL_law 1330 = .ok (.invokevirtual 157, 3) := by decide +kernel
theorem dL_law_1333 : decode cL_law 1333 = .ok (.aload_n 2, 1) := by decide +kernel
theorem dL_law_1334 : decode cL_law 1334 = .ok (.aload_n 0, 1) := by decide +kernel
theorem dL_law_1335 : decode cL_law 1335 = .ok (.iload_n 3, 1) := by decide +kernel
theorem dL_law_1336 : decode cL_law 1336 = .ok (.iconst 1, 1) := by decide +kernel
theorem dL_law_1337 : decode cL_law 1337 = .ok (.iadd, 1) := by decide +kernel
theorem dL_law_1338 : decode cL_law 1338 = .ok (.iaload, 1) := by decide +kernel
theorem dL_law_1339 : decode cL_law 1339 = .ok (.invokevirtual 160, 3) := by decide +kernel
theorem dL_law_1342 : decode cL_law 1342 = .ok (.if_icmp .eq 203, 3) := by decide +kernel
theorem dL_law_1345 : decode cL_law 1345 = .ok (.iconst 0, 1) := by decide +kernel
theorem dL_law_1346 : decode cL_law 1346 = .ok (.ireturn, 1) := by decide +kernel
theorem dL_law_1347 : decode cL_law 1347 = .ok (.aload_n 1, 1) := by decide +kernel
theorem dL_law_1348 : decode cL_law 1348 = .ok (.aload_n 0, 1) := by decide +kernel
theorem dL_law_1349 : decode cL_law 1349 = .ok (.iload_n 3, 1) := by decide +kernel
theorem dL_law_1350 : decode cL_law 1350 = .ok (.iconst 1, 1) := by decide +kernel
theorem dL_law_1351 : decode cL_law 1351 = .ok (.iadd, 1) := by decide +kernel
theorem dL_law_1352 : decode cL_law 1352 = .ok (.iaload, 1) := by decide +kernel
theorem dL_law_1353 : decode cL_law 1353 = .ok (.invokevirtual 161, 3) := by decide +kernel
theorem dL_law_1356 : decode cL_law 1356 = .ok (.aload_n 2, 1) := by decide +kernel
theorem dL_law_1357 : decode cL_law 1357 = .ok (.aload_n 0, 1) := by decide +kernel
theorem dL_law_1358 : decode cL_law 1358 = .ok (.iload_n 3, 1) := by decide +kernel
theorem dL_law_1359 : decode cL_law 1359 = .ok (.iconst 1, 1) := by decide +kernel
theorem dL_law_1360 : decode cL_law 1360 = .ok (.iadd, 1) := by decide +kernel
theorem dL_law_1361 : decode cL_law 1361 = .ok (.iaload, 1) := by decide +kernel
theorem dL_law_1362 : decode cL_law 1362 = .ok (.invokevirtual 164, 3) := by decide +kernel
theorem dL_law_1365 : decode cL_law 1365 = .ok (.if_icmp .eq 180, 3) := by decide +kernel
theorem dL_law_1368 : decode cL_law 1368 = .ok (.iconst 0, 1) := by decide +kernel
theorem dL_law_1369 : decode cL_law 1369 = .ok (.ireturn, 1) := by decide +kernel
theorem dL_law_1370 : decode cL_law 1370 = .ok (.aload_n 1, 1) := by decide +kernel
theorem dL_law_1371 : decode cL_law 1371 = .ok (.aload_n 0, 1) := by decide +kernel
theorem dL_law_1372 : decode cL_law 1372 = .ok (.iload_n 3, 1) := by decide +kernel
theorem dL_law_1373 : decode cL_law 1373 = .ok (.iconst 1, 1) := by decide +kernel
theorem dL_law_1374 : decode cL_law 1374 = .ok (.iadd, 1) := by decide +kernel
theorem dL_law_1375 : decode cL_law 1375 = .ok (.iaload, 1) := by decide +kernel
theorem dL_law_1376 : decode cL_law 1376 = .ok (.aload_n 0, 1) := by decide +kernel
theorem dL_law_1377 : decode cL_law 1377 = .ok (.iload_n 3, 1) := by decide +kernel
theorem dL_law_1378 : decode cL_law 1378 = .ok (.iconst 2, 1) := by decide +kernel
theorem dL_law_1379 : decode cL_law 1379 = .ok (.iadd, 1) := by decide +kernel
theorem dL_law_1380 : decode cL_law 1380 = .ok (.iaload, 1) := by decide +kernel
theorem dL_law_1381 : decode cL_law 1381 = .ok (.aload_n 0, 1) := by decide +kernel
theorem dL_law_1382 : decode cL_law 1382 = .ok (.iload_n 3, 1) := by decide +kernel
theorem dL_law_1383 : decode cL_law 1383 = .ok (.iconst 3, 1) := by decide +kernel
theorem dL_law_1384 : decode cL_law 1384 = .ok (.iadd, 1) := by decide +kernel
theorem dL_law_1385 : decode cL_law 1385 = .ok (.iaload, 1) := by decide +kernel
theorem dL_law_1386 : decode cL_law 1386 = .ok (.invokevirtual 165, 3) := by decide +kernel
theorem dL_law_1389 : decode cL_law 1389 = .ok (.aload_n 2, 1) := by decide +kernel
theorem dL_law_1390 : decode cL_law 1390 = .ok (.aload_n 0, 1) := by decide +kernel
theorem dL_law_1391 : decode cL_law 1391 = .ok (.iload_n 3, 1) := by decide +kernel
theorem dL_law_1392 : decode cL_law 1392 = .ok (.iconst 1, 1) := by decide +kernel
theorem dL_law_1393 : decode cL_law 1393 = .ok (.iadd, 1) := by decide +kernel
theorem dL_law_1394 : decode cL_law 1394 = .ok (.iaload, 1) := by decide +kernel
theorem dL_law_1395 : decode cL_law 1395 = .ok (.aload_n 0, 1) := by decide +kernel
theorem dL_law_1396 : decode cL_law 1396 = .ok (.iload_n 3, 1) := by decide +kernel
theorem dL_law_1397 : decode cL_law 1397 = .ok (.iconst 2, 1) := by decide +kernel
theorem dL_law_1398 : decode cL_law 1398 = .ok (.iadd, 1) := by decide +kernel
theorem dL_law_1399 : decode cL_law 1399 = .ok (.iaload, 1) := by decide +kernel
theorem dL_law_1400 : decode cL_law 1400 = .ok (.aload_n 0, 1) := by decide +kernel
theorem dL_law_1401 : decode cL_law 1401 = .ok (.iload_n 3, 1) := by decide +kernel
theorem dL_law_1402 : decode cL_law 1402 = .ok (.iconst 3, 1) := by decide +kernel
theorem dL_law_1403 : decode cL_law 1403 = .ok (.iadd, 1) := by decide +kernel
theorem dL_law_1404 : decode cL_law 1404 = .ok (.iaload, 1) := by decide +kernel
theorem dL_law_1405 : decode cL_law 1405 = .ok (.invokevirtual 168, 3) := by decide +kernel
theorem dL_law_1408 : decode cL_law 1408 = .ok (.if_icmp .eq 137, 3) := by decide +kernel
theorem dL_law_1411 : decode cL_law 1411 = .ok (.iconst 0, 1) := by decide +kernel
theorem dL_law_1412 : decode cL_law 1412 = .ok (.ireturn, 1) := by decide +kernel
theorem dL_law_1413 : decode cL_law 1413 = .ok (.aload_n 1, 1) := by decide +kernel
theorem dL_law_1414 : decode cL_law 1414 = .ok (.aload_n 0, 1) := by decide +kernel
theorem dL_law_1415 : decode cL_law 1415 = .ok (.iload_n 3, 1) := by decide +kernel
theorem dL_law_1416 : decode cL_law 1416 = .ok (.iconst 1, 1) := by decide +kernel
theorem dL_law_1417 : decode cL_law 1417 = .ok (.iadd, 1) := by decide +kernel
theorem dL_law_1418 : decode cL_law 1418 = .ok (.iaload, 1) := by decide +kernel
theorem dL_law_1419 : decode cL_law 1419 = .ok (.aload_n 0, 1) := by decide +kernel
theorem dL_law_1420 : decode cL_law 1420 = .ok (.iload_n 3, 1) := by decide +kernel
theorem dL_law_1421 : decode cL_law 1421 = .ok (.iconst 2, 1) := by decide +kernel
theorem dL_law_1422 : decode cL_law 1422 = .ok (.iadd, 1) := by decide +kernel
theorem dL_law_1423 : decode cL_law 1423 = .ok (.iaload, 1) := by decide +kernel
theorem dL_law_1424 : decode cL_law 1424 = .ok (.aload_n 0, 1) := by decide +kernel
theorem dL_law_1425 : decode cL_law 1425 = .ok (.iload_n 3, 1) := by decide +kernel
theorem dL_law_1426 : decode cL_law 1426 = .ok (.iconst 3, 1) := by decide +kernel
theorem dL_law_1427 : decode cL_law 1427 = .ok (.iadd, 1) := by decide +kernel
theorem dL_law_1428 : decode cL_law 1428 = .ok (.iaload, 1) := by decide +kernel
theorem dL_law_1429 : decode cL_law 1429 = .ok (.invokevirtual 169, 3) := by decide +kernel
theorem dL_law_1432 : decode cL_law 1432 = .ok (.aload_n 2, 1) := by decide +kernel
theorem dL_law_1433 : decode cL_law 1433 = .ok (.aload_n 0, 1) := by decide +kernel
theorem dL_law_1434 : decode cL_law 1434 = .ok (.iload_n 3, 1) := by decide +kernel
theorem dL_law_1435 : decode cL_law 1435 = .ok (.iconst 1, 1) := by decide +kernel
theorem dL_law_1436 : decode cL_law 1436 = .ok (.iadd, 1) := by decide +kernel
theorem dL_law_1437 : decode cL_law 1437 = .ok (.iaload, 1) := by decide +kernel
theorem dL_law_1438 : decode cL_law 1438 = .ok (.aload_n 0, 1) := by decide +kernel
theorem dL_law_1439 : decode cL_law 1439 = .ok (.iload_n 3, 1) := by decide +kernel
theorem dL_law_1440 : decode cL_law 1440 = .ok (.iconst 2, 1) := by decide +kernel
theorem dL_law_1441 : decode cL_law 1441 = .ok (.iadd, 1) := by decide +kernel
theorem dL_law_1442 : decode cL_law 1442 = .ok (.iaload, 1) := by decide +kernel
theorem dL_law_1443 : decode cL_law 1443 = .ok (.aload_n 0, 1) := by decide +kernel
theorem dL_law_1444 : decode cL_law 1444 = .ok (.iload_n 3, 1) := by decide +kernel
theorem dL_law_1445 : decode cL_law 1445 = .ok (.iconst 3, 1) := by decide +kernel
theorem dL_law_1446 : decode cL_law 1446 = .ok (.iadd, 1) := by decide +kernel
theorem dL_law_1447 : decode cL_law 1447 = .ok (.iaload, 1) := by decide +kernel
theorem dL_law_1448 : decode cL_law 1448 = .ok (.invokevirtual 172, 3) := by decide +kernel
theorem dL_law_1451 : decode cL_law 1451 = .ok (.if_icmp .eq 94, 3) := by decide +kernel
theorem dL_law_1454 : decode cL_law 1454 = .ok (.iconst 0, 1) := by decide +kernel
theorem dL_law_1455 : decode cL_law 1455 = .ok (.ireturn, 1) := by decide +kernel
theorem dL_law_1456 : decode cL_law 1456 = .ok (.aload_n 1, 1) := by decide +kernel
theorem dL_law_1457 : decode cL_law 1457 = .ok (.aload_n 0, 1) := by decide +kernel
theorem dL_law_1458 : decode cL_law 1458 = .ok (.iload_n 3, 1) := by decide +kernel
theorem dL_law_1459 : decode cL_law 1459 = .ok (.iconst 1, 1) := by decide +kernel
theorem dL_law_1460 : decode cL_law 1460 = .ok (.iadd, 1) := by decide +kernel
theorem dL_law_1461 : decode cL_law 1461 = .ok (.iaload, 1) := by decide +kernel
theorem dL_law_1462 : decode cL_law 1462 = .ok (.aload_n 0, 1) := by decide +kernel
theorem dL_law_1463 : decode cL_law 1463 = .ok (.iload_n 3, 1) := by decide +kernel
theorem dL_law_1464 : decode cL_law 1464 = .ok (.iconst 2, 1) := by decide +kernel
theorem dL_law_1465 : decode cL_law 1465 = .ok (.iadd, 1) := by decide +kernel
theorem dL_law_1466 : decode cL_law 1466 = .ok (.iaload, 1) := by decide +kernel
theorem dL_law_1467 : decode cL_law 1467 = .ok (.aload_n 0, 1) := by decide +kernel
theorem dL_law_1468 : decode cL_law 1468 = .ok (.iload_n 3, 1) := by decide +kernel
theorem dL_law_1469 : decode cL_law 1469 = .ok (.iconst 3, 1) := by decide +kernel
theorem dL_law_1470 : decode cL_law 1470 = .ok (.iadd, 1) := by decide +kernel
theorem dL_law_1471 : decode cL_law 1471 = .ok (.iaload, 1) := by decide +kernel
theorem dL_law_1472 : decode cL_law 1472 = .ok (.aload_n 0, 1) := by decide +kernel
theorem dL_law_1473 : decode cL_law 1473 = .ok (.iload_n 3, 1) := by decide +kernel
theorem dL_law_1474 : decode cL_law 1474 = .ok (.iconst 4, 1) := by decide +kernel
theorem dL_law_1475 : decode cL_law 1475 = .ok (.iadd, 1) := by decide +kernel
theorem dL_law_1476 : decode cL_law 1476 = .ok (.iaload, 1) := by decide +kernel
theorem dL_law_1477 : decode cL_law 1477 = .ok (.invokevirtual 173, 3) := by decide +kernel
theorem dL_law_1480 : decode cL_law 1480 = .ok (.aload_n 2, 1) := by decide +kernel
theorem dL_law_1481 : decode cL_law 1481 = .ok (.aload_n 0, 1) := by decide +kernel
theorem dL_law_1482 : decode cL_law 1482 = .ok (.iload_n 3, 1) := by decide +kernel
theorem dL_law_1483 : decode cL_law 1483 = .ok (.iconst 1, 1) := by decide +kernel
theorem dL_law_1484 : decode cL_law 1484 = .ok (.iadd, 1) := by decide +kernel
theorem dL_law_1485 : decode cL_law 1485 = .ok (.iaload, 1) := by decide +kernel
theorem dL_law_1486 : decode cL_law 1486 = .ok (.aload_n 0, 1) := by decide +kernel
theorem dL_law_1487 : decode cL_law 1487 = .ok (.iload_n 3, 1) := by decide +kernel
theorem dL_law_1488 : decode cL_law 1488 = .ok (.iconst 2, 1) := by decide +kernel
theorem dL_law_1489 : decode cL_law 1489 = .ok (.iadd, 1) := by decide +kernel
theorem dL_law_1490 : decode cL_law 1490 = .ok (.iaload, 1) := by decide +kernel
theorem dL_law_1491 : decode cL_law 1491 = .ok (.aload_n 0, 1) := by decide +kernel
theorem dL_law_1492 : decode cL_law 1492 = .ok (.iload_n 3, 1) := by decide +kernel
theorem dL_law_1493 : decode cL_law 1493 = .ok (.iconst 3, 1) := by decide +kernel
theorem dL_law_1494 : decode cL_law 1494 = .ok (.iadd, 1) := by decide +kernel
theorem dL_law_1495 : decode cL_law 1495 = .ok (.iaload, 1) := by decide +kernel
theorem dL_law_1496 : decode cL_law 1496 = .ok (.aload_n 0, 1) := by decide +kernel
theorem dL_law_1497 : decode cL_law 1497 = .ok (.iload_n 3, 1) := by decide +kernel
theorem dL_law_1498 : decode cL_law 1498 = .ok (.iconst 4, 1) := by decide +kernel
theorem dL_law_1499 : decode cL_law 1499 = .ok (.iadd, 1) := by decide +kernel
theorem dL_law_1500 : decode cL_law 1500 = .ok (.iaload, 1) := by decide +kernel
theorem dL_law_1501 : decode cL_law 1501 = .ok (.invokevirtual 176, 3) := by decide +kernel
theorem dL_law_1504 : decode cL_law 1504 = .ok (.if_icmp .eq 41, 3) := by decide +kernel
theorem dL_law_1507 : decode cL_law 1507 = .ok (.iconst 0, 1) := by decide +kernel
theorem dL_law_1508 : decode cL_law 1508 = .ok (.ireturn, 1) := by decide +kernel
theorem dL_law_1509 : decode cL_law 1509 = .ok (.aload_n 1, 1) := by decide +kernel
theorem dL_law_1510 : decode cL_law 1510 = .ok (.invokevirtual 177, 3) := by decide +kernel
theorem dL_law_1513 : decode cL_law 1513 = .ok (.aload_n 2, 1) := by decide +kernel
theorem dL_law_1514 : decode cL_law 1514 = .ok (.invokevirtual 180, 3) := by decide +kernel
theorem dL_law_1517 : decode cL_law 1517 = .ok (.if_icmp .eq 28, 3) := by decide +kernel
theorem dL_law_1520 : decode cL_law 1520 = .ok (.iconst 0, 1) := by decide +kernel
theorem dL_law_1521 : decode cL_law 1521 = .ok (.ireturn, 1) := by decide +kernel
theorem dL_law_1522 : decode cL_law 1522 = .ok (.aload_n 1, 1) := by decide +kernel
theorem dL_law_1523 : decode cL_law 1523 = .ok (.aload_n 0, 1) := by decide +kernel
theorem dL_law_1524 : decode cL_law 1524 = .ok (.iload_n 3, 1) := by decide +kernel
theorem dL_law_1525 : decode cL_law 1525 = .ok (.iconst 1, 1) := by decide +kernel
theorem dL_law_1526 : decode cL_law 1526 = .ok (.iadd, 1) := by decide +kernel
theorem dL_law_1527 : decode cL_law 1527 = .ok (.iaload, 1) := by decide +kernel
theorem dL_law_1528 : decode cL_law 1528 = .ok (.invokevirtual 181, 3) := by decide +kernel
theorem dL_law_1531 : decode cL_law 1531 = .ok (.aload_n 2, 1) := by decide +kernel
theorem dL_law_1532 : decode cL_law 1532 = .ok (.aload_n 0, 1) := by decide +kernel
theorem dL_law_1533 : decode cL_law 1533 = .ok (.iload_n 3, 1) := by decide +kernel
theorem dL_law_1534 : decode cL_law 1534 = .ok (.iconst 1, 1) := by decide +kernel
theorem dL_law_1535 : decode cL_law 1535 = .ok (.iadd, 1) := by decide +kernel
theorem dL_law_1536 : decode cL_law 1536 = .ok (.iaload, 1) := by decide +kernel
theorem dL_law_1537 : decode cL_law 1537 = .ok (.invokevirtual 184, 3) := by decide +kernel
theorem dL_law_1540 : decode cL_law 1540 = .ok (.if_icmp .eq 5, 3) := by decide +kernel
theorem dL_law_1543 : decode cL_law 1543 = .ok (.iconst 0, 1) := by decide +kernel
theorem dL_law_1544 : decode cL_law 1544 = .ok (.ireturn, 1) := by decide +kernel
theorem dL_law_1545 : decode cL_law 1545 = .ok (.iinc 3 5, 3) := by decide +kernel
theorem dL_law_1548 : decode cL_law 1548 = .ok (.goto (-1530), 3) := by decide +kernel
theorem dL_law_1551 : decode cL_law 1551 = .ok (.iconst 1, 1) := by decide +kernel
theorem dL_law_1552 : decode cL_law 1552 = .ok (.ireturn, 1) := by decide +kernel
